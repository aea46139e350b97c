abbrev p_X8_reset (p : Nat) (a : Int) (b : Int) (M : Mem) : Prop := kdX p = 8 ∧ p = 0 ∧ (∃ σ, absX M σ)
abbrev c_X8_reset (p : Nat) (a : Int) (b : Int) (M : Mem) (x : Int) (M' : Mem) : Prop := ∀ σ, absX M σ → x = F_reset σ a b ∧ absX M' (G_reset σ a b)
def P_X8_reset (as : List AV) (M : Mem) : Prop := match as with
  | [.inr p, .inl a, .inl b] => p_X8_reset p a b M
  | _ => False
def C_X8_reset (as : List AV) (M : Mem) (x : Int) (M' : Mem) : Prop := match as with
  | [.inr p, .inl a, .inl b] => c_X8_reset p a b M x M'
  | _ => False
abbrev rm_X8_reset : Room := { frames := 6, cells := 0, slots := 0, locals := 135 }
abbrev OK_X8_reset (l : Launch) (D : va_G) (cy : Nat → ClassId) (ad : Nat → Nat) : Prop := MetA l D cy ad kdX lnX 46 yX8_reset cX8_reset 3 (some .int) rm_X8_reset 1 P_X8_reset C_X8_reset
theorem ca_X8_reset : CalV yX8_reset cX8_reset 3 (some .int) 2 := ⟨⟨wcX8_reset, wnX8, by decide +kernel, by decide +kernel, by decide +kernel⟩, wiX8_reset, wlX8_reset⟩
theorem rv_X8_reset : ∀ as M, P_X8_reset as M → ∃ a As q, as = .inr a :: As ∧ vwCl[kdX a]? = some q ∧ q.1 = yX8_reset.cls := by
  intro as M h
  unfold P_X8_reset at h
  split at h
  · exact ⟨_, _, (RX8, TX8, 8), rfl, by rw [h.1]; rfl, rfl⟩
  · exact h.elim
def ct_X8_reset : List (Nat × CS) := [(1, (1, 2, P_X8_isSize, C_X8_isSize)), (8, (1, 2, P_X8_isSize, C_X8_isSize)), (20, (3, 0, P_X8_beginAnew, C_X8_beginAnew)), (27, (1, 1, P_X3_tiles, C_X3_tiles))]
def J_X8_reset  (p : Nat) (a : Int) (b : Int) (M0 : Mem) : IT := fun pc ls st M μ => match pc, ls, st, M, μ with
  | _, _, _, _, _ => False
def JA_X8_reset  (as : List AV) (M0 : Mem) : IT := match as with
  | [.inr p, .inl a, .inl b] => J_X8_reset  p a b M0
  | _ => fun _ _ _ _ _ => False
theorem si_X8_reset_1 {l : Launch} {D : va_G} {cy : Nat → ClassId} {ad : Nat → Nat} (o : OK_X8_isSize l D cy ad) : Site l D cy ad kdX lnX 46 yX8_reset.cls tbX8_reset rm_X8_reset 1 (1, 2, P_X8_isSize, C_X8_isSize) := Or.inr (Or.inl ⟨66, 1, yX8_isSize, cX8_isSize, 1, (some .boolean), rm_X8_isSize, rfl, rfl, o, ca_X8_isSize, mkX8_66, rfl, ⟨rfl, rfl, by decide, by decide⟩⟩)
theorem si_X8_reset_8 {l : Launch} {D : va_G} {cy : Nat → ClassId} {ad : Nat → Nat} (o : OK_X8_isSize l D cy ad) : Site l D cy ad kdX lnX 46 yX8_reset.cls tbX8_reset rm_X8_reset 8 (1, 2, P_X8_isSize, C_X8_isSize) := Or.inr (Or.inl ⟨66, 1, yX8_isSize, cX8_isSize, 1, (some .boolean), rm_X8_isSize, rfl, rfl, o, ca_X8_isSize, mkX8_66, rfl, ⟨rfl, rfl, by decide, by decide⟩⟩)
theorem si_X8_reset_20 {l : Launch} {D : va_G} {cy : Nat → ClassId} {ad : Nat → Nat} (o : OK_X8_beginAnew l D cy ad) : Site l D cy ad kdX lnX 46 yX8_reset.cls tbX8_reset rm_X8_reset 20 (3, 0, P_X8_beginAnew, C_X8_beginAnew) := Or.inl ⟨62, 2, yX8_beginAnew, cX8_beginAnew, 4, none, rm_X8_beginAnew, rfl, rfl, o, ca_X8_beginAnew, mkX8_62, ⟨rfl, rfl, by decide, by decide⟩, rv_X8_beginAnew⟩
theorem si_X8_reset_27 {l : Launch} {D : va_G} {cy : Nat → ClassId} {ad : Nat → Nat} (o : OK_X3_tiles l D cy ad) : Site l D cy ad kdX lnX 46 yX8_reset.cls tbX8_reset rm_X8_reset 27 (1, 1, P_X3_tiles, C_X3_tiles) := Or.inl ⟨70, 0, yX3_tiles, cX3_tiles, 1, (some .int), rm_X3_tiles, rfl, rfl, o, ca_X3_tiles, mkX8_70, ⟨rfl, rfl, by decide, by decide⟩, rv_X3_tiles⟩
set_option maxRecDepth 100000 in
set_option maxHeartbeats 4000000 in
theorem met_X8_reset {l : Launch} {D : va_G} {cy : Nat → ClassId} {ad : Nat → Nat} (hA : jA ad 46) (o_X3_tiles : OK_X3_tiles l D cy ad) (o_X8_beginAnew : OK_X8_beginAnew l D cy ad) (o_X8_isSize : OK_X8_isSize l D cy ad) 
    (hent : ∀ (p : Nat) (a : Int) (b : Int) (M0 : Mem), p_X8_reset p a b M0 → okM M0 → inR a → inR b → p_X8_isSize a M0 ∧ ∀ (x2 : Int) (M1 : Mem), inR x2 → okM M1 → c_X8_isSize a M0 x2 M1 → ((x2 = (0 : Int) → ((True) ∧ c_X8_reset p a b M0 (-2) M1)) ∧ (¬ x2 = (0 : Int) → (p_X8_isSize b M1 ∧ ∀ (x4 : Int) (M3 : Mem), inR x4 → okM M3 → c_X8_isSize b M1 x4 M3 → ((¬ x4 = (0 : Int) → (p_X8_beginAnew p a b M3 ∧ ∀ (x6 : Int) (M5 : Mem), inR x6 → okM M5 → c_X8_beginAnew p a b M3 x6 M5 → (kdX p = 8 ∧ (p_X3_tiles 1 M5 ∧ ∀ (x8 : Int) (M7 : Mem), inR x8 → okM M7 → c_X3_tiles 1 M5 x8 M7 → ((True) ∧ c_X8_reset p a b M0 x8 M7))))) ∧ (¬ (¬ x4 = (0 : Int)) → ((True) ∧ c_X8_reset p a b M0 (-2) M3)))))))
    : OK_X8_reset l D cy ad := by
  refine met_of (tb := tbX8_reset) (ft := ftX8) (cst := cst0) (ct := ct_X8_reset) (cuts := []) 18 (JA_X8_reset ) hA jWX (by decide) tbX8_reset_ok (by decide) ftX8_ok cst0_ok (ldc_of (tb := tbX8_reset) (cst := cst0) (by decide)) rfl (List.forall_mem_cons.mpr ⟨si_X8_reset_1 o_X8_isSize, List.forall_mem_cons.mpr ⟨si_X8_reset_8 o_X8_isSize, List.forall_mem_cons.mpr ⟨si_X8_reset_20 o_X8_beginAnew, List.forall_mem_cons.mpr ⟨si_X8_reset_27 o_X3_tiles, fun q h => absurd h List.not_mem_nil⟩⟩⟩⟩) ?_ ?_ ?_
  · intro as M0 h
    unfold P_X8_reset at h
    split at h
    · exact Nat.le_of_ble_eq_true rfl
    · exact h.elim
  · intro as M0 h hM has
    unfold P_X8_reset at h
    split at h
    next p a b => exact hent p a b M0 h hM (has a (by simp)) (has b (by simp))
    · exact h.elim
  · intro as M0 h hM has pc ls st M n hI hM1
    unfold P_X8_reset at h
    split at h
    · exact hI.elim
    · exact h.elim
abbrev p_X8_setSeam (p : Nat) (e : Int) (k : Int) (s : Int) (M : Mem) : Prop := kdX p = 8 ∧ p = 0 ∧ (∃ σ, absX M σ)
abbrev c_X8_setSeam (p : Nat) (e : Int) (k : Int) (s : Int) (M : Mem) (x : Int) (M' : Mem) : Prop := ∀ σ, absX M σ → x = F_setSeam σ e k s ∧ absX M' (G_setSeam σ e k s)
def P_X8_setSeam (as : List AV) (M : Mem) : Prop := match as with
  | [.inr p, .inl e, .inl k, .inl s] => p_X8_setSeam p e k s M
  | _ => False
def C_X8_setSeam (as : List AV) (M : Mem) (x : Int) (M' : Mem) : Prop := match as with
  | [.inr p, .inl e, .inl k, .inl s] => c_X8_setSeam p e k s M x M'
  | _ => False
abbrev rm_X8_setSeam : Room := { frames := 6, cells := 0, slots := 0, locals := 133 }
abbrev OK_X8_setSeam (l : Launch) (D : va_G) (cy : Nat → ClassId) (ad : Nat → Nat) : Prop := MetA l D cy ad kdX lnX 46 yX8_setSeam cX8_setSeam 5 (some .int) rm_X8_setSeam 1 P_X8_setSeam C_X8_setSeam
theorem ca_X8_setSeam : CalV yX8_setSeam cX8_setSeam 5 (some .int) 3 := ⟨⟨wcX8_setSeam, wnX8, by decide +kernel, by decide +kernel, by decide +kernel⟩, wiX8_setSeam, wlX8_setSeam⟩
theorem rv_X8_setSeam : ∀ as M, P_X8_setSeam as M → ∃ a As q, as = .inr a :: As ∧ vwCl[kdX a]? = some q ∧ q.1 = yX8_setSeam.cls := by
  intro as M h
  unfold P_X8_setSeam at h
  split at h
  · exact ⟨_, _, (RX8, TX8, 8), rfl, by rw [h.1]; rfl, rfl⟩
  · exact h.elim
def ct_X8_setSeam : List (Nat × CS) := [(8, (1, 1, P_X3_columns, C_X3_columns)), (18, (1, 1, P_X3_rows, C_X3_rows)), (52, (4, 2, P_X3_changeSeam, C_X3_changeSeam)), (61, (1, 0, P_X8_repairParts, C_X8_repairParts))]
def J_X8_setSeam  (p : Nat) (e : Int) (k : Int) (s : Int) (M0 : Mem) : IT := fun pc ls st M μ => match pc, ls, st, M, μ with
  | _, _, _, _, _ => False
def JA_X8_setSeam  (as : List AV) (M0 : Mem) : IT := match as with
  | [.inr p, .inl e, .inl k, .inl s] => J_X8_setSeam  p e k s M0
  | _ => fun _ _ _ _ _ => False
theorem si_X8_setSeam_8 {l : Launch} {D : va_G} {cy : Nat → ClassId} {ad : Nat → Nat} (o : OK_X3_columns l D cy ad) : Site l D cy ad kdX lnX 46 yX8_setSeam.cls tbX8_setSeam rm_X8_setSeam 8 (1, 1, P_X3_columns, C_X3_columns) := Or.inl ⟨74, 0, yX3_columns, cX3_columns, 1, (some .int), rm_X3_columns, rfl, rfl, o, ca_X3_columns, mkX8_74, ⟨rfl, rfl, by decide, by decide⟩, rv_X3_columns⟩
theorem si_X8_setSeam_18 {l : Launch} {D : va_G} {cy : Nat → ClassId} {ad : Nat → Nat} (o : OK_X3_rows l D cy ad) : Site l D cy ad kdX lnX 46 yX8_setSeam.cls tbX8_setSeam rm_X8_setSeam 18 (1, 1, P_X3_rows, C_X3_rows) := Or.inl ⟨77, 0, yX3_rows, cX3_rows, 1, (some .int), rm_X3_rows, rfl, rfl, o, ca_X3_rows, mkX8_77, ⟨rfl, rfl, by decide, by decide⟩, rv_X3_rows⟩
theorem si_X8_setSeam_52 {l : Launch} {D : va_G} {cy : Nat → ClassId} {ad : Nat → Nat} (o : OK_X3_changeSeam l D cy ad) : Site l D cy ad kdX lnX 46 yX8_setSeam.cls tbX8_setSeam rm_X8_setSeam 52 (4, 2, P_X3_changeSeam, C_X3_changeSeam) := Or.inl ⟨80, 3, yX3_changeSeam, cX3_changeSeam, 5, (some .boolean), rm_X3_changeSeam, rfl, rfl, o, ca_X3_changeSeam, mkX8_80, ⟨rfl, rfl, by decide, by decide⟩, rv_X3_changeSeam⟩
theorem si_X8_setSeam_61 {l : Launch} {D : va_G} {cy : Nat → ClassId} {ad : Nat → Nat} (o : OK_X8_repairParts l D cy ad) : Site l D cy ad kdX lnX 46 yX8_setSeam.cls tbX8_setSeam rm_X8_setSeam 61 (1, 0, P_X8_repairParts, C_X8_repairParts) := Or.inl ⟨84, 0, yX8_repairParts, cX8_repairParts, 2, none, rm_X8_repairParts, rfl, rfl, o, ca_X8_repairParts, mkX8_84, ⟨rfl, rfl, by decide, by decide⟩, rv_X8_repairParts⟩
set_option maxRecDepth 100000 in
set_option maxHeartbeats 4000000 in
theorem met_X8_setSeam {l : Launch} {D : va_G} {cy : Nat → ClassId} {ad : Nat → Nat} (hA : jA ad 46) (o_X3_changeSeam : OK_X3_changeSeam l D cy ad) (o_X3_columns : OK_X3_columns l D cy ad) (o_X3_rows : OK_X3_rows l D cy ad) (o_X8_repairParts : OK_X8_repairParts l D cy ad) 
    (hent : ∀ (p : Nat) (e : Int) (k : Int) (s : Int) (M0 : Mem), p_X8_setSeam p e k s M0 → okM M0 → inR e → inR k → inR s → (e = (0 : Int) → (kdX p = 8 ∧ (p_X3_rows 1 M0 ∧ ∀ (x2 : Int) (M1 : Mem), inR x2 → okM M1 → c_X3_rows 1 M0 x2 M1 → ((k < (0 : Int) → ((True) ∧ c_X8_setSeam p e k s M0 (-2) M1)) ∧ (¬ k < (0 : Int) → (((2 : Int) < k → ((True) ∧ c_X8_setSeam p e k s M0 (-2) M1)) ∧ (¬ (2 : Int) < k → ((s < (0 : Int) → ((True) ∧ c_X8_setSeam p e k s M0 (-2) M1)) ∧ (¬ s < (0 : Int) → ((s < x2 → (kdX p = 8 ∧ (p_X3_changeSeam 1 e k s M1 ∧ ∀ (x4 : Int) (M3 : Mem), inR x4 → okM M3 → c_X3_changeSeam 1 e k s M1 x4 M3 → ((¬ x4 = (0 : Int) → (p_X8_repairParts p M3 ∧ ∀ (x6 : Int) (M5 : Mem), inR x6 → okM M5 → c_X8_repairParts p M3 x6 M5 → ((True) ∧ c_X8_setSeam p e k s M0 1 M5))) ∧ (¬ (¬ x4 = (0 : Int)) → ((True) ∧ c_X8_setSeam p e k s M0 0 M3)))))) ∧ (¬ s < x2 → ((True) ∧ c_X8_setSeam p e k s M0 (-2) M1)))))))))))) ∧ (¬ e = (0 : Int) → (kdX p = 8 ∧ (p_X3_columns 1 M0 ∧ ∀ (x8 : Int) (M7 : Mem), inR x8 → okM M7 → c_X3_columns 1 M0 x8 M7 → ((k < (0 : Int) → ((True) ∧ c_X8_setSeam p e k s M0 (-2) M7)) ∧ (¬ k < (0 : Int) → (((2 : Int) < k → ((True) ∧ c_X8_setSeam p e k s M0 (-2) M7)) ∧ (¬ (2 : Int) < k → ((s < (0 : Int) → ((True) ∧ c_X8_setSeam p e k s M0 (-2) M7)) ∧ (¬ s < (0 : Int) → ((s < x8 → (kdX p = 8 ∧ (p_X3_changeSeam 1 e k s M7 ∧ ∀ (x10 : Int) (M9 : Mem), inR x10 → okM M9 → c_X3_changeSeam 1 e k s M7 x10 M9 → ((¬ x10 = (0 : Int) → (p_X8_repairParts p M9 ∧ ∀ (x12 : Int) (M11 : Mem), inR x12 → okM M11 → c_X8_repairParts p M9 x12 M11 → ((True) ∧ c_X8_setSeam p e k s M0 1 M11))) ∧ (¬ (¬ x10 = (0 : Int)) → ((True) ∧ c_X8_setSeam p e k s M0 0 M9)))))) ∧ (¬ s < x8 → ((True) ∧ c_X8_setSeam p e k s M0 (-2) M7)))))))))))))
    : OK_X8_setSeam l D cy ad := by
  refine met_of (tb := tbX8_setSeam) (ft := ftX8) (cst := cst0) (ct := ct_X8_setSeam) (cuts := []) 37 (JA_X8_setSeam ) hA jWX (by decide) tbX8_setSeam_ok (by decide) ftX8_ok cst0_ok (ldc_of (tb := tbX8_setSeam) (cst := cst0) (by decide)) rfl (List.forall_mem_cons.mpr ⟨si_X8_setSeam_8 o_X3_columns, List.forall_mem_cons.mpr ⟨si_X8_setSeam_18 o_X3_rows, List.forall_mem_cons.mpr ⟨si_X8_setSeam_52 o_X3_changeSeam, List.forall_mem_cons.mpr ⟨si_X8_setSeam_61 o_X8_repairParts, fun q h => absurd h List.not_mem_nil⟩⟩⟩⟩) ?_ ?_ ?_
  · intro as M0 h
    unfold P_X8_setSeam at h
    split at h
    · exact Nat.le_of_ble_eq_true rfl
    · exact h.elim
  · intro as M0 h hM has
    unfold P_X8_setSeam at h
    split at h
    next p e k s => exact hent p e k s M0 h hM (has e (by simp)) (has k (by simp)) (has s (by simp))
    · exact h.elim
  · intro as M0 h hM has pc ls st M n hI hM1
    unfold P_X8_setSeam at h
    split at h
    · exact hI.elim
    · exact h.elim
abbrev p_X8_value (p : Nat) (w : Int) (M : Mem) : Prop := kdX p = 8 ∧ p = 0 ∧ (∃ σ, absX M σ)
abbrev c_X8_value (p : Nat) (w : Int) (M : Mem) (x : Int) (M' : Mem) : Prop := ∀ σ, absX M σ → x = F_value σ w ∧ absX M' σ
def P_X8_value (as : List AV) (M : Mem) : Prop := match as with
  | [.inr p, .inl w] => p_X8_value p w M
  | _ => False
def C_X8_value (as : List AV) (M : Mem) (x : Int) (M' : Mem) : Prop := match as with
  | [.inr p, .inl w] => c_X8_value p w M x M'
  | _ => False
abbrev rm_X8_value : Room := { frames := 2, cells := 0, slots := 0, locals := 42 }
abbrev OK_X8_value (l : Launch) (D : va_G) (cy : Nat → ClassId) (ad : Nat → Nat) : Prop := MetA l D cy ad kdX lnX 46 yX8_value cX8_value 2 (some .int) rm_X8_value 1 P_X8_value C_X8_value
theorem ca_X8_value : CalV yX8_value cX8_value 2 (some .int) 1 := ⟨⟨wcX8_value, wnX8, by decide +kernel, by decide +kernel, by decide +kernel⟩, wiX8_value, wlX8_value⟩
theorem rv_X8_value : ∀ as M, P_X8_value as M → ∃ a As q, as = .inr a :: As ∧ vwCl[kdX a]? = some q ∧ q.1 = yX8_value.cls := by
  intro as M h
  unfold P_X8_value at h
  split at h
  · exact ⟨_, _, (RX8, TX8, 8), rfl, by rw [h.1]; rfl, rfl⟩
  · exact h.elim
def ct_X8_value : List (Nat × CS) := [(56, (1, 1, P_X3_columns, C_X3_columns)), (64, (1, 1, P_X3_rows, C_X3_rows)), (72, (1, 4, P_X3_sideSeam, C_X3_sideSeam)), (75, (1, 1, P_X2_style, C_X2_style)), (83, (1, 4, P_X3_sideSeam, C_X3_sideSeam)), (86, (1, 1, P_X2_offset, C_X2_offset)), (94, (1, 4, P_X3_endSeam, C_X3_endSeam)), (97, (1, 1, P_X2_style, C_X2_style)), (105, (1, 4, P_X3_endSeam, C_X3_endSeam)), (108, (1, 1, P_X2_offset, C_X2_offset)), (116, (1, 1, P_X1_number, C_X1_number)), (124, (1, 1, P_X3_openBorders, C_X3_openBorders)), (132, (1, 1, P_X0_size, C_X0_size))]
def J_X8_value  (p : Nat) (w : Int) (M0 : Mem) : IT := fun pc ls st M μ => match pc, ls, st, M, μ with
  | _, _, _, _, _ => False
def JA_X8_value  (as : List AV) (M0 : Mem) : IT := match as with
  | [.inr p, .inl w] => J_X8_value  p w M0
  | _ => fun _ _ _ _ _ => False
theorem si_X8_value_56 {l : Launch} {D : va_G} {cy : Nat → ClassId} {ad : Nat → Nat} (o : OK_X3_columns l D cy ad) : Site l D cy ad kdX lnX 46 yX8_value.cls tbX8_value rm_X8_value 56 (1, 1, P_X3_columns, C_X3_columns) := Or.inl ⟨74, 0, yX3_columns, cX3_columns, 1, (some .int), rm_X3_columns, rfl, rfl, o, ca_X3_columns, mkX8_74, ⟨rfl, rfl, by decide, by decide⟩, rv_X3_columns⟩
theorem si_X8_value_64 {l : Launch} {D : va_G} {cy : Nat → ClassId} {ad : Nat → Nat} (o : OK_X3_rows l D cy ad) : Site l D cy ad kdX lnX 46 yX8_value.cls tbX8_value rm_X8_value 64 (1, 1, P_X3_rows, C_X3_rows) := Or.inl ⟨77, 0, yX3_rows, cX3_rows, 1, (some .int), rm_X3_rows, rfl, rfl, o, ca_X3_rows, mkX8_77, ⟨rfl, rfl, by decide, by decide⟩, rv_X3_rows⟩
theorem si_X8_value_72 {l : Launch} {D : va_G} {cy : Nat → ClassId} {ad : Nat → Nat} (o : OK_X3_sideSeam l D cy ad) : Site l D cy ad kdX lnX 46 yX8_value.cls tbX8_value rm_X8_value 72 (1, 4, P_X3_sideSeam, C_X3_sideSeam) := Or.inl ⟨87, 0, yX3_sideSeam, cX3_sideSeam, 1, (some (.object "SeamMap$Seam")), rm_X3_sideSeam, rfl, rfl, o, ca_X3_sideSeam, mkX8_87, ⟨rfl, rfl, by decide, by decide⟩, rv_X3_sideSeam⟩
theorem si_X8_value_75 {l : Launch} {D : va_G} {cy : Nat → ClassId} {ad : Nat → Nat} (o : OK_X2_style l D cy ad) : Site l D cy ad kdX lnX 46 yX8_value.cls tbX8_value rm_X8_value 75 (1, 1, P_X2_style, C_X2_style) := Or.inl ⟨91, 0, yX2_style, cX2_style, 1, (some .int), rm_X2_style, rfl, rfl, o, ca_X2_style, mkX8_91, ⟨rfl, rfl, by decide, by decide⟩, rv_X2_style⟩
theorem si_X8_value_83 {l : Launch} {D : va_G} {cy : Nat → ClassId} {ad : Nat → Nat} (o : OK_X3_sideSeam l D cy ad) : Site l D cy ad kdX lnX 46 yX8_value.cls tbX8_value rm_X8_value 83 (1, 4, P_X3_sideSeam, C_X3_sideSeam) := Or.inl ⟨87, 0, yX3_sideSeam, cX3_sideSeam, 1, (some (.object "SeamMap$Seam")), rm_X3_sideSeam, rfl, rfl, o, ca_X3_sideSeam, mkX8_87, ⟨rfl, rfl, by decide, by decide⟩, rv_X3_sideSeam⟩
theorem si_X8_value_86 {l : Launch} {D : va_G} {cy : Nat → ClassId} {ad : Nat → Nat} (o : OK_X2_offset l D cy ad) : Site l D cy ad kdX lnX 46 yX8_value.cls tbX8_value rm_X8_value 86 (1, 1, P_X2_offset, C_X2_offset) := Or.inl ⟨96, 0, yX2_offset, cX2_offset, 1, (some .int), rm_X2_offset, rfl, rfl, o, ca_X2_offset, mkX8_96, ⟨rfl, rfl, by decide, by decide⟩, rv_X2_offset⟩
theorem si_X8_value_94 {l : Launch} {D : va_G} {cy : Nat → ClassId} {ad : Nat → Nat} (o : OK_X3_endSeam l D cy ad) : Site l D cy ad kdX lnX 46 yX8_value.cls tbX8_value rm_X8_value 94 (1, 4, P_X3_endSeam, C_X3_endSeam) := Or.inl ⟨99, 0, yX3_endSeam, cX3_endSeam, 1, (some (.object "SeamMap$Seam")), rm_X3_endSeam, rfl, rfl, o, ca_X3_endSeam, mkX8_99, ⟨rfl, rfl, by decide, by decide⟩, rv_X3_endSeam⟩
theorem si_X8_value_97 {l : Launch} {D : va_G} {cy : Nat → ClassId} {ad : Nat → Nat} (o : OK_X2_style l D cy ad) : Site l D cy ad kdX lnX 46 yX8_value.cls tbX8_value rm_X8_value 97 (1, 1, P_X2_style, C_X2_style) := Or.inl ⟨91, 0, yX2_style, cX2_style, 1, (some .int), rm_X2_style, rfl, rfl, o, ca_X2_style, mkX8_91, ⟨rfl, rfl, by decide, by decide⟩, rv_X2_style⟩
theorem si_X8_value_105 {l : Launch} {D : va_G} {cy : Nat → ClassId} {ad : Nat → Nat} (o : OK_X3_endSeam l D cy ad) : Site l D cy ad kdX lnX 46 yX8_value.cls tbX8_value rm_X8_value 105 (1, 4, P_X3_endSeam, C_X3_endSeam) := Or.inl ⟨99, 0, yX3_endSeam, cX3_endSeam, 1, (some (.object "SeamMap$Seam")), rm_X3_endSeam, rfl, rfl, o, ca_X3_endSeam, mkX8_99, ⟨rfl, rfl, by decide, by decide⟩, rv_X3_endSeam⟩
theorem si_X8_value_108 {l : Launch} {D : va_G} {cy : Nat → ClassId} {ad : Nat → Nat} (o : OK_X2_offset l D cy ad) : Site l D cy ad kdX lnX 46 yX8_value.cls tbX8_value rm_X8_value 108 (1, 1, P_X2_offset, C_X2_offset) := Or.inl ⟨96, 0, yX2_offset, cX2_offset, 1, (some .int), rm_X2_offset, rfl, rfl, o, ca_X2_offset, mkX8_96, ⟨rfl, rfl, by decide, by decide⟩, rv_X2_offset⟩
theorem si_X8_value_116 {l : Launch} {D : va_G} {cy : Nat → ClassId} {ad : Nat → Nat} (o : OK_X1_number l D cy ad) : Site l D cy ad kdX lnX 46 yX8_value.cls tbX8_value rm_X8_value 116 (1, 1, P_X1_number, C_X1_number) := Or.inl ⟨102, 0, yX1_number, cX1_number, 1, (some .int), rm_X1_number, rfl, rfl, o, ca_X1_number, mkX8_102, ⟨rfl, rfl, by decide, by decide⟩, rv_X1_number⟩
theorem si_X8_value_124 {l : Launch} {D : va_G} {cy : Nat → ClassId} {ad : Nat → Nat} (o : OK_X3_openBorders l D cy ad) : Site l D cy ad kdX lnX 46 yX8_value.cls tbX8_value rm_X8_value 124 (1, 1, P_X3_openBorders, C_X3_openBorders) := Or.inl ⟨105, 0, yX3_openBorders, cX3_openBorders, 3, (some .int), rm_X3_openBorders, rfl, rfl, o, ca_X3_openBorders, mkX8_105, ⟨rfl, rfl, by decide, by decide⟩, rv_X3_openBorders⟩
theorem si_X8_value_132 {l : Launch} {D : va_G} {cy : Nat → ClassId} {ad : Nat → Nat} (o : OK_X0_size l D cy ad) : Site l D cy ad kdX lnX 46 yX8_value.cls tbX8_value rm_X8_value 132 (1, 1, P_X0_size, C_X0_size) := Or.inl ⟨108, 0, yX0_size, cX0_size, 1, (some .int), rm_X0_size, rfl, rfl, o, ca_X0_size, mkX8_108, ⟨rfl, rfl, by decide, by decide⟩, rv_X0_size⟩
set_option maxRecDepth 100000 in
set_option maxHeartbeats 4000000 in
theorem met_X8_value {l : Launch} {D : va_G} {cy : Nat → ClassId} {ad : Nat → Nat} (hA : jA ad 46) (o_X0_size : OK_X0_size l D cy ad) (o_X1_number : OK_X1_number l D cy ad) (o_X2_offset : OK_X2_offset l D cy ad) (o_X2_style : OK_X2_style l D cy ad) (o_X3_columns : OK_X3_columns l D cy ad) (o_X3_endSeam : OK_X3_endSeam l D cy ad) (o_X3_openBorders : OK_X3_openBorders l D cy ad) (o_X3_rows : OK_X3_rows l D cy ad) (o_X3_sideSeam : OK_X3_sideSeam l D cy ad) 
    (hent : ∀ (p : Nat) (w : Int) (M0 : Mem), p_X8_value p w M0 → okM M0 → inR w → ((w < 0 ∨ 8 < w) → ((True) ∧ c_X8_value p w M0 (-2) M0)) ∧ ((w = 0 → (kdX p = 8 ∧ (p_X3_columns 1 M0 ∧ ∀ (x2 : Int) (M1 : Mem), inR x2 → okM M1 → c_X3_columns 1 M0 x2 M1 → ((True) ∧ c_X8_value p w M0 x2 M1)))) ∧ ((w = 0 + 1 → (kdX p = 8 ∧ (p_X3_rows 1 M0 ∧ ∀ (x4 : Int) (M3 : Mem), inR x4 → okM M3 → c_X3_rows 1 M0 x4 M3 → ((True) ∧ c_X8_value p w M0 x4 M3)))) ∧ ((w = 0 + 1 + 1 → (kdX p = 8 ∧ (p_X3_sideSeam 1 M0 ∧ ∀ (x6 : Int) (M5 : Mem), inR x6 → okM M5 → c_X3_sideSeam 1 M0 x6 M5 → (p_X2_style x6.toNat M5 ∧ ∀ (x8 : Int) (M7 : Mem), inR x8 → okM M7 → c_X2_style x6.toNat M5 x8 M7 → ((True) ∧ c_X8_value p w M0 x8 M7))))) ∧ ((w = 0 + 1 + 1 + 1 → (kdX p = 8 ∧ (p_X3_sideSeam 1 M0 ∧ ∀ (x10 : Int) (M9 : Mem), inR x10 → okM M9 → c_X3_sideSeam 1 M0 x10 M9 → (p_X2_offset x10.toNat M9 ∧ ∀ (x12 : Int) (M11 : Mem), inR x12 → okM M11 → c_X2_offset x10.toNat M9 x12 M11 → ((True) ∧ c_X8_value p w M0 x12 M11))))) ∧ ((w = 0 + 1 + 1 + 1 + 1 → (kdX p = 8 ∧ (p_X3_endSeam 1 M0 ∧ ∀ (x14 : Int) (M13 : Mem), inR x14 → okM M13 → c_X3_endSeam 1 M0 x14 M13 → (p_X2_style x14.toNat M13 ∧ ∀ (x16 : Int) (M15 : Mem), inR x16 → okM M15 → c_X2_style x14.toNat M13 x16 M15 → ((True) ∧ c_X8_value p w M0 x16 M15))))) ∧ ((w = 0 + 1 + 1 + 1 + 1 + 1 → (kdX p = 8 ∧ (p_X3_endSeam 1 M0 ∧ ∀ (x18 : Int) (M17 : Mem), inR x18 → okM M17 → c_X3_endSeam 1 M0 x18 M17 → (p_X2_offset x18.toNat M17 ∧ ∀ (x20 : Int) (M19 : Mem), inR x20 → okM M19 → c_X2_offset x18.toNat M17 x20 M19 → ((True) ∧ c_X8_value p w M0 x20 M19))))) ∧ ((w = 0 + 1 + 1 + 1 + 1 + 1 + 1 → (kdX p = 8 ∧ (p_X1_number ((M0 p 6).toNat) M0 ∧ ∀ (x22 : Int) (M21 : Mem), inR x22 → okM M21 → c_X1_number ((M0 p 6).toNat) M0 x22 M21 → ((True) ∧ c_X8_value p w M0 x22 M21)))) ∧ ((w = 0 + 1 + 1 + 1 + 1 + 1 + 1 + 1 → (kdX p = 8 ∧ (p_X3_openBorders 1 M0 ∧ ∀ (x24 : Int) (M23 : Mem), inR x24 → okM M23 → c_X3_openBorders 1 M0 x24 M23 → ((True) ∧ c_X8_value p w M0 x24 M23)))) ∧ ((w = 0 + 1 + 1 + 1 + 1 + 1 + 1 + 1 + 1 → (kdX p = 8 ∧ (p_X0_size 16 M0 ∧ ∀ (x26 : Int) (M25 : Mem), inR x26 → okM M25 → c_X0_size 16 M0 x26 M25 → ((True) ∧ c_X8_value p w M0 x26 M25)))) ∧ (True)))))))))))
    : OK_X8_value l D cy ad := by
  refine met_of (tb := tbX8_value) (ft := ftX8) (cst := cst0) (ct := ct_X8_value) (cuts := []) 46 (JA_X8_value ) hA jWX (by decide) tbX8_value_ok (by decide) ftX8_ok cst0_ok (ldc_of (tb := tbX8_value) (cst := cst0) (by decide)) rfl (List.forall_mem_cons.mpr ⟨si_X8_value_56 o_X3_columns, List.forall_mem_cons.mpr ⟨si_X8_value_64 o_X3_rows, List.forall_mem_cons.mpr ⟨si_X8_value_72 o_X3_sideSeam, List.forall_mem_cons.mpr ⟨si_X8_value_75 o_X2_style, List.forall_mem_cons.mpr ⟨si_X8_value_83 o_X3_sideSeam, List.forall_mem_cons.mpr ⟨si_X8_value_86 o_X2_offset, List.forall_mem_cons.mpr ⟨si_X8_value_94 o_X3_endSeam, List.forall_mem_cons.mpr ⟨si_X8_value_97 o_X2_style, List.forall_mem_cons.mpr ⟨si_X8_value_105 o_X3_endSeam, List.forall_mem_cons.mpr ⟨si_X8_value_108 o_X2_offset, List.forall_mem_cons.mpr ⟨si_X8_value_116 o_X1_number, List.forall_mem_cons.mpr ⟨si_X8_value_124 o_X3_openBorders, List.forall_mem_cons.mpr ⟨si_X8_value_132 o_X0_size, fun q h => absurd h List.not_mem_nil⟩⟩⟩⟩⟩⟩⟩⟩⟩⟩⟩⟩⟩) ?_ ?_ ?_
  · intro as M0 h
    unfold P_X8_value at h
    split at h
    · exact Nat.le_of_ble_eq_true rfl
    · exact h.elim
  · intro as M0 h hM has
    unfold P_X8_value at h
    split at h
    next p w => exact hent p w M0 h hM (has w (by simp))
    · exact h.elim
  · intro as M0 h hM has pc ls st M n hI hM1
    unfold P_X8_value at h
    split at h
    · exact hI.elim
    · exact h.elim
abbrev p_X8_kind (p : Nat) (t : Int) (M : Mem) : Prop := kdX p = 8 ∧ p = 0 ∧ (∃ σ, absX M σ)
abbrev c_X8_kind (p : Nat) (t : Int) (M : Mem) (x : Int) (M' : Mem) : Prop := ∀ σ, absX M σ → x = F_kind σ t ∧ absX M' σ
def P_X8_kind (as : List AV) (M : Mem) : Prop := match as with
  | [.inr p, .inl t] => p_X8_kind p t M
  | _ => False
def C_X8_kind (as : List AV) (M : Mem) (x : Int) (M' : Mem) : Prop := match as with
  | [.inr p, .inl t] => c_X8_kind p t M x M'
  | _ => False
abbrev rm_X8_kind : Room := { frames := 2, cells := 0, slots := 0, locals := 41 }
abbrev OK_X8_kind (l : Launch) (D : va_G) (cy : Nat → ClassId) (ad : Nat → Nat) : Prop := MetA l D cy ad kdX lnX 46 yX8_kind cX8_kind 2 (some .int) rm_X8_kind 1 P_X8_kind C_X8_kind
theorem ca_X8_kind : CalV yX8_kind cX8_kind 2 (some .int) 1 := ⟨⟨wcX8_kind, wnX8, by decide +kernel, by decide +kernel, by decide +kernel⟩, wiX8_kind, wlX8_kind⟩
theorem rv_X8_kind : ∀ as M, P_X8_kind as M → ∃ a As q, as = .inr a :: As ∧ vwCl[kdX a]? = some q ∧ q.1 = yX8_kind.cls := by
  intro as M h
  unfold P_X8_kind at h
  split at h
  · exact ⟨_, _, (RX8, TX8, 8), rfl, by rw [h.1]; rfl, rfl⟩
  · exact h.elim
def ct_X8_kind : List (Nat × CS) := [(5, (2, 2, P_X3_has, C_X3_has))]
def J_X8_kind  (p : Nat) (t : Int) (M0 : Mem) : IT := fun pc ls st M μ => match pc, ls, st, M, μ with
  | _, _, _, _, _ => False
def JA_X8_kind  (as : List AV) (M0 : Mem) : IT := match as with
  | [.inr p, .inl t] => J_X8_kind  p t M0
  | _ => fun _ _ _ _ _ => False
theorem si_X8_kind_5 {l : Launch} {D : va_G} {cy : Nat → ClassId} {ad : Nat → Nat} (o : OK_X3_has l D cy ad) : Site l D cy ad kdX lnX 46 yX8_kind.cls tbX8_kind rm_X8_kind 5 (2, 2, P_X3_has, C_X3_has) := Or.inl ⟨111, 1, yX3_has, cX3_has, 2, (some .boolean), rm_X3_has, rfl, rfl, o, ca_X3_has, mkX8_111, ⟨rfl, rfl, by decide, by decide⟩, rv_X3_has⟩
set_option maxRecDepth 100000 in
set_option maxHeartbeats 4000000 in
theorem met_X8_kind {l : Launch} {D : va_G} {cy : Nat → ClassId} {ad : Nat → Nat} (hA : jA ad 46) (o_X3_has : OK_X3_has l D cy ad) 
    (hent : ∀ (p : Nat) (t : Int) (M0 : Mem), p_X8_kind p t M0 → okM M0 → inR t → kdX p = 8 ∧ (p_X3_has 1 t M0 ∧ ∀ (x2 : Int) (M1 : Mem), inR x2 → okM M1 → c_X3_has 1 t M0 x2 M1 → ((x2 = (0 : Int) → ((True) ∧ c_X8_kind p t M0 (-1) M1)) ∧ (¬ x2 = (0 : Int) → (kdX p = 8 ∧ (kdX 6 = 21 ∧ (0 ≤ t ∧ t < 144) ∧ ((True) ∧ c_X8_kind p t M0 (M1 6 (t).toNat) M1)))))))
    : OK_X8_kind l D cy ad := by
  refine met_of (tb := tbX8_kind) (ft := ftX8) (cst := cst0) (ct := ct_X8_kind) (cuts := []) 14 (JA_X8_kind ) hA jWX (by decide) tbX8_kind_ok (by decide) ftX8_ok cst0_ok (ldc_of (tb := tbX8_kind) (cst := cst0) (by decide)) rfl (List.forall_mem_cons.mpr ⟨si_X8_kind_5 o_X3_has, fun q h => absurd h List.not_mem_nil⟩) ?_ ?_ ?_
  · intro as M0 h
    unfold P_X8_kind at h
    split at h
    · exact Nat.le_of_ble_eq_true rfl
    · exact h.elim
  · intro as M0 h hM has
    unfold P_X8_kind at h
    split at h
    next p t => exact hent p t M0 h hM (has t (by simp))
    · exact h.elim
  · intro as M0 h hM has pc ls st M n hI hM1
    unfold P_X8_kind at h
    split at h
    · exact hI.elim
    · exact h.elim
abbrev p_X8_neighbour (p : Nat) (t : Int) (d : Int) (M : Mem) : Prop := kdX p = 8 ∧ p = 0 ∧ (∃ σ, absX M σ)
abbrev c_X8_neighbour (p : Nat) (t : Int) (d : Int) (M : Mem) (x : Int) (M' : Mem) : Prop := ∀ σ, absX M σ → x = F_neighbour σ t d ∧ absX M' σ
def P_X8_neighbour (as : List AV) (M : Mem) : Prop := match as with
  | [.inr p, .inl t, .inl d] => p_X8_neighbour p t d M
  | _ => False
def C_X8_neighbour (as : List AV) (M : Mem) (x : Int) (M' : Mem) : Prop := match as with
  | [.inr p, .inl t, .inl d] => c_X8_neighbour p t d M x M'
  | _ => False
abbrev rm_X8_neighbour : Room := { frames := 2, cells := 0, slots := 0, locals := 41 }
abbrev OK_X8_neighbour (l : Launch) (D : va_G) (cy : Nat → ClassId) (ad : Nat → Nat) : Prop := MetA l D cy ad kdX lnX 46 yX8_neighbour cX8_neighbour 3 (some .int) rm_X8_neighbour 1 P_X8_neighbour C_X8_neighbour
theorem ca_X8_neighbour : CalV yX8_neighbour cX8_neighbour 3 (some .int) 2 := ⟨⟨wcX8_neighbour, wnX8, by decide +kernel, by decide +kernel, by decide +kernel⟩, wiX8_neighbour, wlX8_neighbour⟩
theorem rv_X8_neighbour : ∀ as M, P_X8_neighbour as M → ∃ a As q, as = .inr a :: As ∧ vwCl[kdX a]? = some q ∧ q.1 = yX8_neighbour.cls := by
  intro as M h
  unfold P_X8_neighbour at h
  split at h
  · exact ⟨_, _, (RX8, TX8, 8), rfl, by rw [h.1]; rfl, rfl⟩
  · exact h.elim
def ct_X8_neighbour : List (Nat × CS) := [(5, (2, 2, P_X3_has, C_X3_has)), (14, (1, 2, P_X8_isDirection, C_X8_isDirection)), (29, (3, 1, P_X3_next, C_X3_next))]
def J_X8_neighbour  (p : Nat) (t : Int) (d : Int) (M0 : Mem) : IT := fun pc ls st M μ => match pc, ls, st, M, μ with
  | _, _, _, _, _ => False
def JA_X8_neighbour  (as : List AV) (M0 : Mem) : IT := match as with
  | [.inr p, .inl t, .inl d] => J_X8_neighbour  p t d M0
  | _ => fun _ _ _ _ _ => False
theorem si_X8_neighbour_5 {l : Launch} {D : va_G} {cy : Nat → ClassId} {ad : Nat → Nat} (o : OK_X3_has l D cy ad) : Site l D cy ad kdX lnX 46 yX8_neighbour.cls tbX8_neighbour rm_X8_neighbour 5 (2, 2, P_X3_has, C_X3_has) := Or.inl ⟨111, 1, yX3_has, cX3_has, 2, (some .boolean), rm_X3_has, rfl, rfl, o, ca_X3_has, mkX8_111, ⟨rfl, rfl, by decide, by decide⟩, rv_X3_has⟩
theorem si_X8_neighbour_14 {l : Launch} {D : va_G} {cy : Nat → ClassId} {ad : Nat → Nat} (o : OK_X8_isDirection l D cy ad) : Site l D cy ad kdX lnX 46 yX8_neighbour.cls tbX8_neighbour rm_X8_neighbour 14 (1, 2, P_X8_isDirection, C_X8_isDirection) := Or.inr (Or.inl ⟨114, 1, yX8_isDirection, cX8_isDirection, 1, (some .boolean), rm_X8_isDirection, rfl, rfl, o, ca_X8_isDirection, mkX8_114, rfl, ⟨rfl, rfl, by decide, by decide⟩⟩)
theorem si_X8_neighbour_29 {l : Launch} {D : va_G} {cy : Nat → ClassId} {ad : Nat → Nat} (o : OK_X3_next l D cy ad) : Site l D cy ad kdX lnX 46 yX8_neighbour.cls tbX8_neighbour rm_X8_neighbour 29 (3, 1, P_X3_next, C_X3_next) := Or.inl ⟨117, 2, yX3_next, cX3_next, 3, (some .int), rm_X3_next, rfl, rfl, o, ca_X3_next, mkX8_117, ⟨rfl, rfl, by decide, by decide⟩, rv_X3_next⟩
set_option maxRecDepth 100000 in
set_option maxHeartbeats 4000000 in
theorem met_X8_neighbour {l : Launch} {D : va_G} {cy : Nat → ClassId} {ad : Nat → Nat} (hA : jA ad 46) (o_X3_has : OK_X3_has l D cy ad) (o_X3_next : OK_X3_next l D cy ad) (o_X8_isDirection : OK_X8_isDirection l D cy ad) 
    (hent : ∀ (p : Nat) (t : Int) (d : Int) (M0 : Mem), p_X8_neighbour p t d M0 → okM M0 → inR t → inR d → kdX p = 8 ∧ (p_X3_has 1 t M0 ∧ ∀ (x2 : Int) (M1 : Mem), inR x2 → okM M1 → c_X3_has 1 t M0 x2 M1 → ((¬ x2 = (0 : Int) → (p_X8_isDirection d M1 ∧ ∀ (x4 : Int) (M3 : Mem), inR x4 → okM M3 → c_X8_isDirection d M1 x4 M3 → ((¬ x4 = (0 : Int) → (kdX p = 8 ∧ (p_X3_next 1 t d M3 ∧ ∀ (x6 : Int) (M5 : Mem), inR x6 → okM M5 → c_X3_next 1 t d M3 x6 M5 → ((True) ∧ c_X8_neighbour p t d M0 x6 M5)))) ∧ (¬ (¬ x4 = (0 : Int)) → ((True) ∧ c_X8_neighbour p t d M0 (-2) M3))))) ∧ (¬ (¬ x2 = (0 : Int)) → ((True) ∧ c_X8_neighbour p t d M0 (-1) M1)))))
    : OK_X8_neighbour l D cy ad := by
  refine met_of (tb := tbX8_neighbour) (ft := ftX8) (cst := cst0) (ct := ct_X8_neighbour) (cuts := []) 20 (JA_X8_neighbour ) hA jWX (by decide) tbX8_neighbour_ok (by decide) ftX8_ok cst0_ok (ldc_of (tb := tbX8_neighbour) (cst := cst0) (by decide)) rfl (List.forall_mem_cons.mpr ⟨si_X8_neighbour_5 o_X3_has, List.forall_mem_cons.mpr ⟨si_X8_neighbour_14 o_X8_isDirection, List.forall_mem_cons.mpr ⟨si_X8_neighbour_29 o_X3_next, fun q h => absurd h List.not_mem_nil⟩⟩⟩) ?_ ?_ ?_
  · intro as M0 h
    unfold P_X8_neighbour at h
    split at h
    · exact Nat.le_of_ble_eq_true rfl
    · exact h.elim
  · intro as M0 h hM has
    unfold P_X8_neighbour at h
    split at h
    next p t d => exact hent p t d M0 h hM (has t (by simp)) (has d (by simp))
    · exact h.elim
  · intro as M0 h hM has pc ls st M n hI hM1
    unfold P_X8_neighbour at h
    split at h
    · exact hI.elim
    · exact h.elim
abbrev p_X8_type (p : Nat) (c : Int) (M : Mem) : Prop := kdX p = 8 ∧ p = 0 ∧ (∃ σ, absX M σ) ∧ 0 ≤ c ∧ c < 65536
abbrev c_X8_type (p : Nat) (c : Int) (M : Mem) (x : Int) (M' : Mem) : Prop := ∀ σ, absX M σ → x = F_type σ c ∧ absX M' (G_type σ c)
def P_X8_type (as : List AV) (M : Mem) : Prop := match as with
  | [.inr p, .inl c] => p_X8_type p c M
  | _ => False
def C_X8_type (as : List AV) (M : Mem) (x : Int) (M' : Mem) : Prop := match as with
  | [.inr p, .inl c] => c_X8_type p c M x M'
  | _ => False
abbrev rm_X8_type : Room := { frames := 1, cells := 0, slots := 0, locals := 21 }
abbrev OK_X8_type (l : Launch) (D : va_G) (cy : Nat → ClassId) (ad : Nat → Nat) : Prop := MetA l D cy ad kdX lnX 46 yX8_type cX8_type 2 (some .int) rm_X8_type 1 P_X8_type C_X8_type
theorem ca_X8_type : CalV yX8_type cX8_type 2 (some .int) 1 := ⟨⟨wcX8_type, wnX8, by decide +kernel, by decide +kernel, by decide +kernel⟩, wiX8_type, wlX8_type⟩
theorem rv_X8_type : ∀ as M, P_X8_type as M → ∃ a As q, as = .inr a :: As ∧ vwCl[kdX a]? = some q ∧ q.1 = yX8_type.cls := by
  intro as M h
  unfold P_X8_type at h
  split at h
  · exact ⟨_, _, (RX8, TX8, 8), rfl, by rw [h.1]; rfl, rfl⟩
  · exact h.elim
def ct_X8_type : List (Nat × CS) := [(5, (2, 1, P_X4_append, C_X4_append))]
def J_X8_type  (p : Nat) (c : Int) (M0 : Mem) : IT := fun pc ls st M μ => match pc, ls, st, M, μ with
  | _, _, _, _, _ => False
def JA_X8_type  (as : List AV) (M0 : Mem) : IT := match as with
  | [.inr p, .inl c] => J_X8_type  p c M0
  | _ => fun _ _ _ _ _ => False
theorem si_X8_type_5 {l : Launch} {D : va_G} {cy : Nat → ClassId} {ad : Nat → Nat} (o : OK_X4_append l D cy ad) : Site l D cy ad kdX lnX 46 yX8_type.cls tbX8_type rm_X8_type 5 (2, 1, P_X4_append, C_X4_append) := Or.inl ⟨121, 1, yX4_append, cX4_append, 2, (some .int), rm_X4_append, rfl, rfl, o, ca_X4_append, mkX8_121, ⟨rfl, rfl, by decide, by decide⟩, rv_X4_append⟩
set_option maxRecDepth 100000 in
set_option maxHeartbeats 4000000 in
theorem met_X8_type {l : Launch} {D : va_G} {cy : Nat → ClassId} {ad : Nat → Nat} (hA : jA ad 46) (o_X4_append : OK_X4_append l D cy ad) 
    (hent : ∀ (p : Nat) (c : Int) (M0 : Mem), p_X8_type p c M0 → okM M0 → inR c → kdX p = 8 ∧ (p_X4_append 12 c M0 ∧ ∀ (x2 : Int) (M1 : Mem), inR x2 → okM M1 → c_X4_append 12 c M0 x2 M1 → ((True) ∧ c_X8_type p c M0 x2 M1)))
    : OK_X8_type l D cy ad := by
  refine met_of (tb := tbX8_type) (ft := ftX8) (cst := cst0) (ct := ct_X8_type) (cuts := []) 7 (JA_X8_type ) hA jWX (by decide) tbX8_type_ok (by decide) ftX8_ok cst0_ok (ldc_of (tb := tbX8_type) (cst := cst0) (by decide)) rfl (List.forall_mem_cons.mpr ⟨si_X8_type_5 o_X4_append, fun q h => absurd h List.not_mem_nil⟩) ?_ ?_ ?_
  · intro as M0 h
    unfold P_X8_type at h
    split at h
    · exact Nat.le_of_ble_eq_true rfl
    · exact h.elim
  · intro as M0 h hM has
    unfold P_X8_type at h
    split at h
    next p c => exact hent p c M0 h hM (has c (by simp))
    · exact h.elim
  · intro as M0 h hM has pc ls st M n hI hM1
    unfold P_X8_type at h
    split at h
    · exact hI.elim
    · exact h.elim
abbrev p_X8_clearText (p : Nat) (M : Mem) : Prop := kdX p = 8 ∧ p = 0 ∧ (∃ σ, absX M σ)
abbrev c_X8_clearText (p : Nat) (M : Mem) (x : Int) (M' : Mem) : Prop := ∀ σ, absX M σ → x = F_clearText σ ∧ absX M' (G_clearText σ)
def P_X8_clearText (as : List AV) (M : Mem) : Prop := match as with
  | [.inr p] => p_X8_clearText p M
  | _ => False
def C_X8_clearText (as : List AV) (M : Mem) (x : Int) (M' : Mem) : Prop := match as with
  | [.inr p] => c_X8_clearText p M x M'
  | _ => False
abbrev rm_X8_clearText : Room := { frames := 1, cells := 0, slots := 0, locals := 21 }
abbrev OK_X8_clearText (l : Launch) (D : va_G) (cy : Nat → ClassId) (ad : Nat → Nat) : Prop := MetA l D cy ad kdX lnX 46 yX8_clearText cX8_clearText 1 (some .int) rm_X8_clearText 1 P_X8_clearText C_X8_clearText
theorem ca_X8_clearText : CalV yX8_clearText cX8_clearText 1 (some .int) 0 := ⟨⟨wcX8_clearText, wnX8, by decide +kernel, by decide +kernel, by decide +kernel⟩, wiX8_clearText, wlX8_clearText⟩
theorem rv_X8_clearText : ∀ as M, P_X8_clearText as M → ∃ a As q, as = .inr a :: As ∧ vwCl[kdX a]? = some q ∧ q.1 = yX8_clearText.cls := by
  intro as M h
  unfold P_X8_clearText at h
  split at h
  · exact ⟨_, _, (RX8, TX8, 8), rfl, by rw [h.1]; rfl, rfl⟩
  · exact h.elim
def ct_X8_clearText : List (Nat × CS) := [(4, (1, 1, P_X4_empty, C_X4_empty))]
def J_X8_clearText  (p : Nat) (M0 : Mem) : IT := fun pc ls st M μ => match pc, ls, st, M, μ with
  | _, _, _, _, _ => False
def JA_X8_clearText  (as : List AV) (M0 : Mem) : IT := match as with
  | [.inr p] => J_X8_clearText  p M0
  | _ => fun _ _ _ _ _ => False
theorem si_X8_clearText_4 {l : Launch} {D : va_G} {cy : Nat → ClassId} {ad : Nat → Nat} (o : OK_X4_empty l D cy ad) : Site l D cy ad kdX lnX 46 yX8_clearText.cls tbX8_clearText rm_X8_clearText 4 (1, 1, P_X4_empty, C_X4_empty) := Or.inl ⟨125, 0, yX4_empty, cX4_empty, 2, (some .int), rm_X4_empty, rfl, rfl, o, ca_X4_empty, mkX8_125, ⟨rfl, rfl, by decide, by decide⟩, rv_X4_empty⟩
set_option maxRecDepth 100000 in
set_option maxHeartbeats 4000000 in
theorem met_X8_clearText {l : Launch} {D : va_G} {cy : Nat → ClassId} {ad : Nat → Nat} (hA : jA ad 46) (o_X4_empty : OK_X4_empty l D cy ad) 
    (hent : ∀ (p : Nat) (M0 : Mem), p_X8_clearText p M0 → okM M0 → kdX p = 8 ∧ (p_X4_empty 12 M0 ∧ ∀ (x2 : Int) (M1 : Mem), inR x2 → okM M1 → c_X4_empty 12 M0 x2 M1 → ((True) ∧ c_X8_clearText p M0 x2 M1)))
    : OK_X8_clearText l D cy ad := by
  refine met_of (tb := tbX8_clearText) (ft := ftX8) (cst := cst0) (ct := ct_X8_clearText) (cuts := []) 6 (JA_X8_clearText ) hA jWX (by decide) tbX8_clearText_ok (by decide) ftX8_ok cst0_ok (ldc_of (tb := tbX8_clearText) (cst := cst0) (by decide)) rfl (List.forall_mem_cons.mpr ⟨si_X8_clearText_4 o_X4_empty, fun q h => absurd h List.not_mem_nil⟩) ?_ ?_ ?_
  · intro as M0 h
    unfold P_X8_clearText at h
    split at h
    · exact Nat.le_of_ble_eq_true rfl
    · exact h.elim
  · intro as M0 h hM has
    unfold P_X8_clearText at h
    split at h
    next p => exact hent p M0 h hM
    · exact h.elim
  · intro as M0 h hM has pc ls st M n hI hM1
    unfold P_X8_clearText at h
    split at h
    · exact hI.elim
    · exact h.elim
abbrev p_X8_readTiles (p : Nat) (M : Mem) : Prop := kdX p = 8 ∧ p = 0 ∧ (∃ σ, absX M σ)
abbrev c_X8_readTiles (p : Nat) (M : Mem) (x : Int) (M' : Mem) : Prop := ∀ σ, absX M σ → x = F_readTiles σ ∧ absX M' (G_readTiles σ)
def P_X8_readTiles (as : List AV) (M : Mem) : Prop := match as with
  | [.inr p] => p_X8_readTiles p M
  | _ => False
def C_X8_readTiles (as : List AV) (M : Mem) (x : Int) (M' : Mem) : Prop := match as with
  | [.inr p] => c_X8_readTiles p M x M'
  | _ => False
abbrev rm_X8_readTiles : Room := { frames := 6, cells := 0, slots := 0, locals := 133 }
abbrev OK_X8_readTiles (l : Launch) (D : va_G) (cy : Nat → ClassId) (ad : Nat → Nat) : Prop := MetA l D cy ad kdX lnX 46 yX8_readTiles cX8_readTiles 3 (some .int) rm_X8_readTiles 1 P_X8_readTiles C_X8_readTiles
theorem ca_X8_readTiles : CalV yX8_readTiles cX8_readTiles 3 (some .int) 0 := ⟨⟨wcX8_readTiles, wnX8, by decide +kernel, by decide +kernel, by decide +kernel⟩, wiX8_readTiles, wlX8_readTiles⟩
theorem rv_X8_readTiles : ∀ as M, P_X8_readTiles as M → ∃ a As q, as = .inr a :: As ∧ vwCl[kdX a]? = some q ∧ q.1 = yX8_readTiles.cls := by
  intro as M h
  unfold P_X8_readTiles at h
  split at h
  · exact ⟨_, _, (RX8, TX8, 8), rfl, by rw [h.1]; rfl, rfl⟩
  · exact h.elim
def ct_X8_readTiles : List (Nat × CS) := [(8, (1, 1, P_X3_columns, C_X3_columns)), (15, (1, 1, P_X3_rows, C_X3_rows)), (18, (3, 1, P_X4_faultAsTiles, C_X4_faultAsTiles)), (40, (2, 0, P_X0_record, C_X0_record)), (44, (1, 1, P_X8_takeKindsFromText, C_X8_takeKindsFromText)), (49, (1, 0, P_X8_repairParts, C_X8_repairParts))]
def J_X8_readTiles  (p : Nat) (M0 : Mem) : IT := fun pc ls st M μ => match pc, ls, st, M, μ with
  | _, _, _, _, _ => False
def JA_X8_readTiles  (as : List AV) (M0 : Mem) : IT := match as with
  | [.inr p] => J_X8_readTiles  p M0
  | _ => fun _ _ _ _ _ => False
theorem si_X8_readTiles_8 {l : Launch} {D : va_G} {cy : Nat → ClassId} {ad : Nat → Nat} (o : OK_X3_columns l D cy ad) : Site l D cy ad kdX lnX 46 yX8_readTiles.cls tbX8_readTiles rm_X8_readTiles 8 (1, 1, P_X3_columns, C_X3_columns) := Or.inl ⟨74, 0, yX3_columns, cX3_columns, 1, (some .int), rm_X3_columns, rfl, rfl, o, ca_X3_columns, mkX8_74, ⟨rfl, rfl, by decide, by decide⟩, rv_X3_columns⟩
theorem si_X8_readTiles_15 {l : Launch} {D : va_G} {cy : Nat → ClassId} {ad : Nat → Nat} (o : OK_X3_rows l D cy ad) : Site l D cy ad kdX lnX 46 yX8_readTiles.cls tbX8_readTiles rm_X8_readTiles 15 (1, 1, P_X3_rows, C_X3_rows) := Or.inl ⟨77, 0, yX3_rows, cX3_rows, 1, (some .int), rm_X3_rows, rfl, rfl, o, ca_X3_rows, mkX8_77, ⟨rfl, rfl, by decide, by decide⟩, rv_X3_rows⟩
theorem si_X8_readTiles_18 {l : Launch} {D : va_G} {cy : Nat → ClassId} {ad : Nat → Nat} (o : OK_X4_faultAsTiles l D cy ad) : Site l D cy ad kdX lnX 46 yX8_readTiles.cls tbX8_readTiles rm_X8_readTiles 18 (3, 1, P_X4_faultAsTiles, C_X4_faultAsTiles) := Or.inl ⟨128, 2, yX4_faultAsTiles, cX4_faultAsTiles, 6, (some .int), rm_X4_faultAsTiles, rfl, rfl, o, ca_X4_faultAsTiles, mkX8_128, ⟨rfl, rfl, by decide, by decide⟩, rv_X4_faultAsTiles⟩
theorem si_X8_readTiles_40 {l : Launch} {D : va_G} {cy : Nat → ClassId} {ad : Nat → Nat} (o : OK_X0_record l D cy ad) : Site l D cy ad kdX lnX 46 yX8_readTiles.cls tbX8_readTiles rm_X8_readTiles 40 (2, 0, P_X0_record, C_X0_record) := Or.inl ⟨131, 1, yX0_record, cX0_record, 2, none, rm_X0_record, rfl, rfl, o, ca_X0_record, mkX8_131, ⟨rfl, rfl, by decide, by decide⟩, rv_X0_record⟩
theorem si_X8_readTiles_44 {l : Launch} {D : va_G} {cy : Nat → ClassId} {ad : Nat → Nat} (o : OK_X8_takeKindsFromText l D cy ad) : Site l D cy ad kdX lnX 46 yX8_readTiles.cls tbX8_readTiles rm_X8_readTiles 44 (1, 1, P_X8_takeKindsFromText, C_X8_takeKindsFromText) := Or.inl ⟨135, 0, yX8_takeKindsFromText, cX8_takeKindsFromText, 6, (some .int), rm_X8_takeKindsFromText, rfl, rfl, o, ca_X8_takeKindsFromText, mkX8_135, ⟨rfl, rfl, by decide, by decide⟩, rv_X8_takeKindsFromText⟩
theorem si_X8_readTiles_49 {l : Launch} {D : va_G} {cy : Nat → ClassId} {ad : Nat → Nat} (o : OK_X8_repairParts l D cy ad) : Site l D cy ad kdX lnX 46 yX8_readTiles.cls tbX8_readTiles rm_X8_readTiles 49 (1, 0, P_X8_repairParts, C_X8_repairParts) := Or.inl ⟨84, 0, yX8_repairParts, cX8_repairParts, 2, none, rm_X8_repairParts, rfl, rfl, o, ca_X8_repairParts, mkX8_84, ⟨rfl, rfl, by decide, by decide⟩, rv_X8_repairParts⟩
set_option maxRecDepth 100000 in
set_option maxHeartbeats 4000000 in
theorem met_X8_readTiles {l : Launch} {D : va_G} {cy : Nat → ClassId} {ad : Nat → Nat} (hA : jA ad 46) (o_X0_record : OK_X0_record l D cy ad) (o_X3_columns : OK_X3_columns l D cy ad) (o_X3_rows : OK_X3_rows l D cy ad) (o_X4_faultAsTiles : OK_X4_faultAsTiles l D cy ad) (o_X8_repairParts : OK_X8_repairParts l D cy ad) (o_X8_takeKindsFromText : OK_X8_takeKindsFromText l D cy ad) 
    (hent : ∀ (p : Nat) (M0 : Mem), p_X8_readTiles p M0 → okM M0 → kdX p = 8 ∧ (kdX p = 8 ∧ (p_X3_columns 1 M0 ∧ ∀ (x2 : Int) (M1 : Mem), inR x2 → okM M1 → c_X3_columns 1 M0 x2 M1 → (kdX p = 8 ∧ (p_X3_rows 1 M1 ∧ ∀ (x4 : Int) (M3 : Mem), inR x4 → okM M3 → c_X3_rows 1 M1 x4 M3 → (p_X4_faultAsTiles 12 x2 x4 M3 ∧ ∀ (x6 : Int) (M5 : Mem), inR x6 → okM M5 → c_X4_faultAsTiles 12 x2 x4 M3 x6 M5 → ((x6 = (-1 : Int) → (kdX p = 8 ∧ (kdX p = 8 ∧ (p_X0_record 16 6 M5 ∧ ∀ (x8 : Int) (M7 : Mem), inR x8 → okM M7 → c_X0_record 16 6 M5 x8 M7 → (p_X8_takeKindsFromText p M7 ∧ ∀ (x10 : Int) (M9 : Mem), inR x10 → okM M9 → c_X8_takeKindsFromText p M7 x10 M9 → (p_X8_repairParts p M9 ∧ ∀ (x12 : Int) (M11 : Mem), inR x12 → okM M11 → c_X8_repairParts p M9 x12 M11 → ((True) ∧ c_X8_readTiles p M0 x10 M11))))))) ∧ (¬ x6 = (-1 : Int) → (inR ((-100) - x6) ∧ ((True) ∧ c_X8_readTiles p M0 ((-100) - x6) M5))))))))))
    : OK_X8_readTiles l D cy ad := by
  refine met_of (tb := tbX8_readTiles) (ft := ftX8) (cst := cst0) (ct := ct_X8_readTiles) (cuts := []) 31 (JA_X8_readTiles ) hA jWX (by decide) tbX8_readTiles_ok (by decide) ftX8_ok cst0_ok (ldc_of (tb := tbX8_readTiles) (cst := cst0) (by decide)) rfl (List.forall_mem_cons.mpr ⟨si_X8_readTiles_8 o_X3_columns, List.forall_mem_cons.mpr ⟨si_X8_readTiles_15 o_X3_rows, List.forall_mem_cons.mpr ⟨si_X8_readTiles_18 o_X4_faultAsTiles, List.forall_mem_cons.mpr ⟨si_X8_readTiles_40 o_X0_record, List.forall_mem_cons.mpr ⟨si_X8_readTiles_44 o_X8_takeKindsFromText, List.forall_mem_cons.mpr ⟨si_X8_readTiles_49 o_X8_repairParts, fun q h => absurd h List.not_mem_nil⟩⟩⟩⟩⟩⟩) ?_ ?_ ?_
  · intro as M0 h
    unfold P_X8_readTiles at h
    split at h
    · exact Nat.le_of_ble_eq_true rfl
    · exact h.elim
  · intro as M0 h hM has
    unfold P_X8_readTiles at h
    split at h
    next p => exact hent p M0 h hM
    · exact h.elim
  · intro as M0 h hM has pc ls st M n hI hM1
    unfold P_X8_readTiles at h
    split at h
    · exact hI.elim
    · exact h.elim
abbrev p_X8_walk (p : Nat) (t : Int) (y : Int) (w : Int) (M : Mem) : Prop := kdX p = 8 ∧ p = 0 ∧ (∃ σ, absX M σ)
abbrev c_X8_walk (p : Nat) (t : Int) (y : Int) (w : Int) (M : Mem) (x : Int) (M' : Mem) : Prop := ∀ σ, absX M σ → x = F_walk σ t y w ∧ absX M' σ
def P_X8_walk (as : List AV) (M : Mem) : Prop := match as with
  | [.inr p, .inl t, .inl y, .inl w] => p_X8_walk p t y w M
  | _ => False
def C_X8_walk (as : List AV) (M : Mem) (x : Int) (M' : Mem) : Prop := match as with
  | [.inr p, .inl t, .inl y, .inl w] => c_X8_walk p t y w M x M'
  | _ => False
abbrev rm_X8_walk : Room := { frames := 4, cells := 0, slots := 0, locals := 89 }
abbrev OK_X8_walk (l : Launch) (D : va_G) (cy : Nat → ClassId) (ad : Nat → Nat) : Prop := MetA l D cy ad kdX lnX 46 yX8_walk cX8_walk 5 (some .int) rm_X8_walk 1 P_X8_walk C_X8_walk
theorem ca_X8_walk : CalV yX8_walk cX8_walk 5 (some .int) 3 := ⟨⟨wcX8_walk, wnX8, by decide +kernel, by decide +kernel, by decide +kernel⟩, wiX8_walk, wlX8_walk⟩
theorem rv_X8_walk : ∀ as M, P_X8_walk as M → ∃ a As q, as = .inr a :: As ∧ vwCl[kdX a]? = some q ∧ q.1 = yX8_walk.cls := by
  intro as M h
  unfold P_X8_walk at h
  split at h
  · exact ⟨_, _, (RX8, TX8, 8), rfl, by rw [h.1]; rfl, rfl⟩
  · exact h.elim
def ct_X8_walk : List (Nat × CS) := [(5, (2, 2, P_X3_has, C_X3_has)), (14, (1, 2, P_X8_isDirection, C_X8_isDirection)), (36, (1, 1, P_X4_faultAsWalk, C_X4_faultAsWalk)), (63, (4, 0, P_X6_follow, C_X6_follow)), (71, (2, 1, P_X6_tell, C_X6_tell))]
def J_X8_walk  (p : Nat) (t : Int) (y : Int) (w : Int) (M0 : Mem) : IT := fun pc ls st M μ => match pc, ls, st, M, μ with
  | _, _, _, _, _ => False
def JA_X8_walk  (as : List AV) (M0 : Mem) : IT := match as with
  | [.inr p, .inl t, .inl y, .inl w] => J_X8_walk  p t y w M0
  | _ => fun _ _ _ _ _ => False
theorem si_X8_walk_5 {l : Launch} {D : va_G} {cy : Nat → ClassId} {ad : Nat → Nat} (o : OK_X3_has l D cy ad) : Site l D cy ad kdX lnX 46 yX8_walk.cls tbX8_walk rm_X8_walk 5 (2, 2, P_X3_has, C_X3_has) := Or.inl ⟨111, 1, yX3_has, cX3_has, 2, (some .boolean), rm_X3_has, rfl, rfl, o, ca_X3_has, mkX8_111, ⟨rfl, rfl, by decide, by decide⟩, rv_X3_has⟩
theorem si_X8_walk_14 {l : Launch} {D : va_G} {cy : Nat → ClassId} {ad : Nat → Nat} (o : OK_X8_isDirection l D cy ad) : Site l D cy ad kdX lnX 46 yX8_walk.cls tbX8_walk rm_X8_walk 14 (1, 2, P_X8_isDirection, C_X8_isDirection) := Or.inr (Or.inl ⟨114, 1, yX8_isDirection, cX8_isDirection, 1, (some .boolean), rm_X8_isDirection, rfl, rfl, o, ca_X8_isDirection, mkX8_114, rfl, ⟨rfl, rfl, by decide, by decide⟩⟩)
theorem si_X8_walk_36 {l : Launch} {D : va_G} {cy : Nat → ClassId} {ad : Nat → Nat} (o : OK_X4_faultAsWalk l D cy ad) : Site l D cy ad kdX lnX 46 yX8_walk.cls tbX8_walk rm_X8_walk 36 (1, 1, P_X4_faultAsWalk, C_X4_faultAsWalk) := Or.inl ⟨138, 0, yX4_faultAsWalk, cX4_faultAsWalk, 3, (some .int), rm_X4_faultAsWalk, rfl, rfl, o, ca_X4_faultAsWalk, mkX8_138, ⟨rfl, rfl, by decide, by decide⟩, rv_X4_faultAsWalk⟩
theorem si_X8_walk_63 {l : Launch} {D : va_G} {cy : Nat → ClassId} {ad : Nat → Nat} (o : OK_X6_follow l D cy ad) : Site l D cy ad kdX lnX 46 yX8_walk.cls tbX8_walk rm_X8_walk 63 (4, 0, P_X6_follow, C_X6_follow) := Or.inl ⟨141, 3, yX6_follow, cX6_follow, 6, none, rm_X6_follow, rfl, rfl, o, ca_X6_follow, mkX8_141, ⟨rfl, rfl, by decide, by decide⟩, rv_X6_follow⟩
theorem si_X8_walk_71 {l : Launch} {D : va_G} {cy : Nat → ClassId} {ad : Nat → Nat} (o : OK_X6_tell l D cy ad) : Site l D cy ad kdX lnX 46 yX8_walk.cls tbX8_walk rm_X8_walk 71 (2, 1, P_X6_tell, C_X6_tell) := Or.inl ⟨145, 1, yX6_tell, cX6_tell, 2, (some .int), rm_X6_tell, rfl, rfl, o, ca_X6_tell, mkX8_145, ⟨rfl, rfl, by decide, by decide⟩, rv_X6_tell⟩
set_option maxRecDepth 100000 in
set_option maxHeartbeats 4000000 in
theorem met_X8_walk {l : Launch} {D : va_G} {cy : Nat → ClassId} {ad : Nat → Nat} (hA : jA ad 46) (o_X3_has : OK_X3_has l D cy ad) (o_X4_faultAsWalk : OK_X4_faultAsWalk l D cy ad) (o_X6_follow : OK_X6_follow l D cy ad) (o_X6_tell : OK_X6_tell l D cy ad) (o_X8_isDirection : OK_X8_isDirection l D cy ad) 
    (hent : ∀ (p : Nat) (t : Int) (y : Int) (w : Int) (M0 : Mem), p_X8_walk p t y w M0 → okM M0 → inR t → inR y → inR w → kdX p = 8 ∧ (p_X3_has 1 t M0 ∧ ∀ (x2 : Int) (M1 : Mem), inR x2 → okM M1 → c_X3_has 1 t M0 x2 M1 → ((¬ x2 = (0 : Int) → (p_X8_isDirection y M1 ∧ ∀ (x4 : Int) (M3 : Mem), inR x4 → okM M3 → c_X8_isDirection y M1 x4 M3 → ((x4 = (0 : Int) → ((True) ∧ c_X8_walk p t y w M0 (-2) M3)) ∧ (¬ x4 = (0 : Int) → ((w < (0 : Int) → ((True) ∧ c_X8_walk p t y w M0 (-2) M3)) ∧ (¬ w < (0 : Int) → ((w ≤ (4 : Int) → (kdX p = 8 ∧ (p_X4_faultAsWalk 12 M3 ∧ ∀ (x6 : Int) (M5 : Mem), inR x6 → okM M5 → c_X4_faultAsWalk 12 M3 x6 M5 → ((x6 = (-1 : Int) → (kdX p = 8 ∧ (kdX p = 8 ∧ (p_X6_follow 14 12 t y M5 ∧ ∀ (x8 : Int) (M7 : Mem), inR x8 → okM M7 → c_X6_follow 14 12 t y M5 x8 M7 → (kdX p = 8 ∧ (p_X6_tell 14 w M7 ∧ ∀ (x10 : Int) (M9 : Mem), inR x10 → okM M9 → c_X6_tell 14 w M7 x10 M9 → ((True) ∧ c_X8_walk p t y w M0 x10 M9))))))) ∧ (¬ x6 = (-1 : Int) → (inR ((-100) - x6) ∧ ((True) ∧ c_X8_walk p t y w M0 ((-100) - x6) M5))))))) ∧ (¬ w ≤ (4 : Int) → ((True) ∧ c_X8_walk p t y w M0 (-2) M3))))))))) ∧ (¬ (¬ x2 = (0 : Int)) → ((True) ∧ c_X8_walk p t y w M0 (-1) M1)))))
    : OK_X8_walk l D cy ad := by
  refine met_of (tb := tbX8_walk) (ft := ftX8) (cst := cst0) (ct := ct_X8_walk) (cuts := []) 42 (JA_X8_walk ) hA jWX (by decide) tbX8_walk_ok (by decide) ftX8_ok cst0_ok (ldc_of (tb := tbX8_walk) (cst := cst0) (by decide)) rfl (List.forall_mem_cons.mpr ⟨si_X8_walk_5 o_X3_has, List.forall_mem_cons.mpr ⟨si_X8_walk_14 o_X8_isDirection, List.forall_mem_cons.mpr ⟨si_X8_walk_36 o_X4_faultAsWalk, List.forall_mem_cons.mpr ⟨si_X8_walk_63 o_X6_follow, List.forall_mem_cons.mpr ⟨si_X8_walk_71 o_X6_tell, fun q h => absurd h List.not_mem_nil⟩⟩⟩⟩⟩) ?_ ?_ ?_
  · intro as M0 h
    unfold P_X8_walk at h
    split at h
    · exact Nat.le_of_ble_eq_true rfl
    · exact h.elim
  · intro as M0 h hM has
    unfold P_X8_walk at h
    split at h
    next p t y w => exact hent p t y w M0 h hM (has t (by simp)) (has y (by simp)) (has w (by simp))
    · exact h.elim
  · intro as M0 h hM has pc ls st M n hI hM1
    unfold P_X8_walk at h
    split at h
    · exact hI.elim
    · exact h.elim
abbrev p_X8_setTile (p : Nat) (t : Int) (k : Int) (M : Mem) : Prop := kdX p = 8 ∧ p = 0 ∧ (∃ σ, absX M σ)
abbrev c_X8_setTile (p : Nat) (t : Int) (k : Int) (M : Mem) (x : Int) (M' : Mem) : Prop := ∀ σ, absX M σ → x = F_setTile σ t k ∧ absX M' (G_setTile σ t k)
def P_X8_setTile (as : List AV) (M : Mem) : Prop := match as with
  | [.inr p, .inl t, .inl k] => p_X8_setTile p t k M
  | _ => False
def C_X8_setTile (as : List AV) (M : Mem) (x : Int) (M' : Mem) : Prop := match as with
  | [.inr p, .inl t, .inl k] => c_X8_setTile p t k M x M'
  | _ => False
abbrev rm_X8_setTile : Room := { frames := 6, cells := 0, slots := 0, locals := 133 }
abbrev OK_X8_setTile (l : Launch) (D : va_G) (cy : Nat → ClassId) (ad : Nat → Nat) : Prop := MetA l D cy ad kdX lnX 46 yX8_setTile cX8_setTile 3 (some .int) rm_X8_setTile 1 P_X8_setTile C_X8_setTile
theorem ca_X8_setTile : CalV yX8_setTile cX8_setTile 3 (some .int) 2 := ⟨⟨wcX8_setTile, wnX8, by decide +kernel, by decide +kernel, by decide +kernel⟩, wiX8_setTile, wlX8_setTile⟩
theorem rv_X8_setTile : ∀ as M, P_X8_setTile as M → ∃ a As q, as = .inr a :: As ∧ vwCl[kdX a]? = some q ∧ q.1 = yX8_setTile.cls := by
  intro as M h
  unfold P_X8_setTile at h
  split at h
  · exact ⟨_, _, (RX8, TX8, 8), rfl, by rw [h.1]; rfl, rfl⟩
  · exact h.elim
def ct_X8_setTile : List (Nat × CS) := [(5, (2, 2, P_X3_has, C_X3_has)), (14, (1, 2, P_X8_isKind, C_X8_isKind)), (31, (2, 0, P_X0_record, C_X0_record)), (42, (1, 0, P_X8_repairParts, C_X8_repairParts)), (54, (3, 1, P_X1_changesSince, C_X1_changesSince))]
def J_X8_setTile  (p : Nat) (t : Int) (k : Int) (M0 : Mem) : IT := fun pc ls st M μ => match pc, ls, st, M, μ with
  | _, _, _, _, _ => False
def JA_X8_setTile  (as : List AV) (M0 : Mem) : IT := match as with
  | [.inr p, .inl t, .inl k] => J_X8_setTile  p t k M0
  | _ => fun _ _ _ _ _ => False
theorem si_X8_setTile_5 {l : Launch} {D : va_G} {cy : Nat → ClassId} {ad : Nat → Nat} (o : OK_X3_has l D cy ad) : Site l D cy ad kdX lnX 46 yX8_setTile.cls tbX8_setTile rm_X8_setTile 5 (2, 2, P_X3_has, C_X3_has) := Or.inl ⟨111, 1, yX3_has, cX3_has, 2, (some .boolean), rm_X3_has, rfl, rfl, o, ca_X3_has, mkX8_111, ⟨rfl, rfl, by decide, by decide⟩, rv_X3_has⟩
theorem si_X8_setTile_14 {l : Launch} {D : va_G} {cy : Nat → ClassId} {ad : Nat → Nat} (o : OK_X8_isKind l D cy ad) : Site l D cy ad kdX lnX 46 yX8_setTile.cls tbX8_setTile rm_X8_setTile 14 (1, 2, P_X8_isKind, C_X8_isKind) := Or.inr (Or.inl ⟨149, 1, yX8_isKind, cX8_isKind, 1, (some .boolean), rm_X8_isKind, rfl, rfl, o, ca_X8_isKind, mkX8_149, rfl, ⟨rfl, rfl, by decide, by decide⟩⟩)
theorem si_X8_setTile_31 {l : Launch} {D : va_G} {cy : Nat → ClassId} {ad : Nat → Nat} (o : OK_X0_record l D cy ad) : Site l D cy ad kdX lnX 46 yX8_setTile.cls tbX8_setTile rm_X8_setTile 31 (2, 0, P_X0_record, C_X0_record) := Or.inl ⟨131, 1, yX0_record, cX0_record, 2, none, rm_X0_record, rfl, rfl, o, ca_X0_record, mkX8_131, ⟨rfl, rfl, by decide, by decide⟩, rv_X0_record⟩
theorem si_X8_setTile_42 {l : Launch} {D : va_G} {cy : Nat → ClassId} {ad : Nat → Nat} (o : OK_X8_repairParts l D cy ad) : Site l D cy ad kdX lnX 46 yX8_setTile.cls tbX8_setTile rm_X8_setTile 42 (1, 0, P_X8_repairParts, C_X8_repairParts) := Or.inl ⟨84, 0, yX8_repairParts, cX8_repairParts, 2, none, rm_X8_repairParts, rfl, rfl, o, ca_X8_repairParts, mkX8_84, ⟨rfl, rfl, by decide, by decide⟩, rv_X8_repairParts⟩
theorem si_X8_setTile_54 {l : Launch} {D : va_G} {cy : Nat → ClassId} {ad : Nat → Nat} (o : OK_X1_changesSince l D cy ad) : Site l D cy ad kdX lnX 46 yX8_setTile.cls tbX8_setTile rm_X8_setTile 54 (3, 1, P_X1_changesSince, C_X1_changesSince) := Or.inl ⟨152, 2, yX1_changesSince, cX1_changesSince, 5, (some .int), rm_X1_changesSince, rfl, rfl, o, ca_X1_changesSince, mkX8_152, ⟨rfl, rfl, by decide, by decide⟩, rv_X1_changesSince⟩
set_option maxRecDepth 100000 in
set_option maxHeartbeats 4000000 in
theorem met_X8_setTile {l : Launch} {D : va_G} {cy : Nat → ClassId} {ad : Nat → Nat} (hA : jA ad 46) (o_X0_record : OK_X0_record l D cy ad) (o_X1_changesSince : OK_X1_changesSince l D cy ad) (o_X3_has : OK_X3_has l D cy ad) (o_X8_isKind : OK_X8_isKind l D cy ad) (o_X8_repairParts : OK_X8_repairParts l D cy ad) 
    (hent : ∀ (p : Nat) (t : Int) (k : Int) (M0 : Mem), p_X8_setTile p t k M0 → okM M0 → inR t → inR k → kdX p = 8 ∧ (p_X3_has 1 t M0 ∧ ∀ (x2 : Int) (M1 : Mem), inR x2 → okM M1 → c_X3_has 1 t M0 x2 M1 → ((¬ x2 = (0 : Int) → (p_X8_isKind k M1 ∧ ∀ (x4 : Int) (M3 : Mem), inR x4 → okM M3 → c_X8_isKind k M1 x4 M3 → ((¬ x4 = (0 : Int) → (kdX p = 8 ∧ (kdX p = 8 ∧ (p_X0_record 16 6 M3 ∧ ∀ (x6 : Int) (M5 : Mem), inR x6 → okM M5 → c_X0_record 16 6 M3 x6 M5 → (kdX p = 8 ∧ (kdX 6 = 21 ∧ (0 ≤ t ∧ t < 144) ∧ (p_X8_repairParts p (up M5 6 (t).toNat k) ∧ ∀ (x8 : Int) (M7 : Mem), inR x8 → okM M7 → c_X8_repairParts p (up M5 6 (t).toNat k) x8 M7 → (kdX p = 8 ∧ (kdX p = 8 ∧ (p_X1_changesSince ((M7 p 6).toNat) ((M7 p 7).toNat) t M7 ∧ ∀ (x10 : Int) (M9 : Mem), inR x10 → okM M9 → c_X1_changesSince ((M7 p 6).toNat) ((M7 p 7).toNat) t M7 x10 M9 → ((True) ∧ c_X8_setTile p t k M0 x10 M9))))))))))) ∧ (¬ (¬ x4 = (0 : Int)) → ((True) ∧ c_X8_setTile p t k M0 (-2) M3))))) ∧ (¬ (¬ x2 = (0 : Int)) → ((True) ∧ c_X8_setTile p t k M0 (-1) M1)))))
    : OK_X8_setTile l D cy ad := by
  refine met_of (tb := tbX8_setTile) (ft := ftX8) (cst := cst0) (ct := ct_X8_setTile) (cuts := []) 33 (JA_X8_setTile ) hA jWX (by decide) tbX8_setTile_ok (by decide) ftX8_ok cst0_ok (ldc_of (tb := tbX8_setTile) (cst := cst0) (by decide)) rfl (List.forall_mem_cons.mpr ⟨si_X8_setTile_5 o_X3_has, List.forall_mem_cons.mpr ⟨si_X8_setTile_14 o_X8_isKind, List.forall_mem_cons.mpr ⟨si_X8_setTile_31 o_X0_record, List.forall_mem_cons.mpr ⟨si_X8_setTile_42 o_X8_repairParts, List.forall_mem_cons.mpr ⟨si_X8_setTile_54 o_X1_changesSince, fun q h => absurd h List.not_mem_nil⟩⟩⟩⟩⟩) ?_ ?_ ?_
  · intro as M0 h
    unfold P_X8_setTile at h
    split at h
    · exact Nat.le_of_ble_eq_true rfl
    · exact h.elim
  · intro as M0 h hM has
    unfold P_X8_setTile at h
    split at h
    next p t k => exact hent p t k M0 h hM (has t (by simp)) (has k (by simp))
    · exact h.elim
  · intro as M0 h hM has pc ls st M n hI hM1
    unfold P_X8_setTile at h
    split at h
    · exact hI.elim
    · exact h.elim
abbrev p_X8_fill (p : Nat) (t : Int) (k : Int) (M : Mem) : Prop := kdX p = 8 ∧ p = 0 ∧ (∃ σ, absX M σ)
abbrev c_X8_fill (p : Nat) (t : Int) (k : Int) (M : Mem) (x : Int) (M' : Mem) : Prop := ∀ σ, absX M σ → x = F_fill σ t k ∧ absX M' (G_fill σ t k)
def P_X8_fill (as : List AV) (M : Mem) : Prop := match as with
  | [.inr p, .inl t, .inl k] => p_X8_fill p t k M
  | _ => False
def C_X8_fill (as : List AV) (M : Mem) (x : Int) (M' : Mem) : Prop := match as with
  | [.inr p, .inl t, .inl k] => c_X8_fill p t k M x M'
  | _ => False
abbrev rm_X8_fill : Room := { frames := 6, cells := 0, slots := 0, locals := 133 }
abbrev OK_X8_fill (l : Launch) (D : va_G) (cy : Nat → ClassId) (ad : Nat → Nat) : Prop := MetA l D cy ad kdX lnX 46 yX8_fill cX8_fill 3 (some .int) rm_X8_fill 1 P_X8_fill C_X8_fill
theorem ca_X8_fill : CalV yX8_fill cX8_fill 3 (some .int) 2 := ⟨⟨wcX8_fill, wnX8, by decide +kernel, by decide +kernel, by decide +kernel⟩, wiX8_fill, wlX8_fill⟩
theorem rv_X8_fill : ∀ as M, P_X8_fill as M → ∃ a As q, as = .inr a :: As ∧ vwCl[kdX a]? = some q ∧ q.1 = yX8_fill.cls := by
  intro as M h
  unfold P_X8_fill at h
  split at h
  · exact ⟨_, _, (RX8, TX8, 8), rfl, by rw [h.1]; rfl, rfl⟩
  · exact h.elim
def ct_X8_fill : List (Nat × CS) := [(5, (2, 2, P_X3_has, C_X3_has)), (14, (1, 2, P_X8_isKind, C_X8_isKind)), (31, (2, 0, P_X0_record, C_X0_record)), (40, (2, 1, P_X1_labelOf, C_X1_labelOf)), (44, (3, 0, P_X8_giveKindToPart, C_X8_giveKindToPart)), (48, (1, 0, P_X8_repairParts, C_X8_repairParts)), (60, (2, 1, P_X1_labelOf, C_X1_labelOf)), (63, (2, 1, P_X1_sizeOf, C_X1_sizeOf))]
def J_X8_fill  (p : Nat) (t : Int) (k : Int) (M0 : Mem) : IT := fun pc ls st M μ => match pc, ls, st, M, μ with
  | _, _, _, _, _ => False
def JA_X8_fill  (as : List AV) (M0 : Mem) : IT := match as with
  | [.inr p, .inl t, .inl k] => J_X8_fill  p t k M0
  | _ => fun _ _ _ _ _ => False
theorem si_X8_fill_5 {l : Launch} {D : va_G} {cy : Nat → ClassId} {ad : Nat → Nat} (o : OK_X3_has l D cy ad) : Site l D cy ad kdX lnX 46 yX8_fill.cls tbX8_fill rm_X8_fill 5 (2, 2, P_X3_has, C_X3_has) := Or.inl ⟨111, 1, yX3_has, cX3_has, 2, (some .boolean), rm_X3_has, rfl, rfl, o, ca_X3_has, mkX8_111, ⟨rfl, rfl, by decide, by decide⟩, rv_X3_has⟩
theorem si_X8_fill_14 {l : Launch} {D : va_G} {cy : Nat → ClassId} {ad : Nat → Nat} (o : OK_X8_isKind l D cy ad) : Site l D cy ad kdX lnX 46 yX8_fill.cls tbX8_fill rm_X8_fill 14 (1, 2, P_X8_isKind, C_X8_isKind) := Or.inr (Or.inl ⟨149, 1, yX8_isKind, cX8_isKind, 1, (some .boolean), rm_X8_isKind, rfl, rfl, o, ca_X8_isKind, mkX8_149, rfl, ⟨rfl, rfl, by decide, by decide⟩⟩)
theorem si_X8_fill_31 {l : Launch} {D : va_G} {cy : Nat → ClassId} {ad : Nat → Nat} (o : OK_X0_record l D cy ad) : Site l D cy ad kdX lnX 46 yX8_fill.cls tbX8_fill rm_X8_fill 31 (2, 0, P_X0_record, C_X0_record) := Or.inl ⟨131, 1, yX0_record, cX0_record, 2, none, rm_X0_record, rfl, rfl, o, ca_X0_record, mkX8_131, ⟨rfl, rfl, by decide, by decide⟩, rv_X0_record⟩
theorem si_X8_fill_40 {l : Launch} {D : va_G} {cy : Nat → ClassId} {ad : Nat → Nat} (o : OK_X1_labelOf l D cy ad) : Site l D cy ad kdX lnX 46 yX8_fill.cls tbX8_fill rm_X8_fill 40 (2, 1, P_X1_labelOf, C_X1_labelOf) := Or.inl ⟨156, 1, yX1_labelOf, cX1_labelOf, 2, (some .int), rm_X1_labelOf, rfl, rfl, o, ca_X1_labelOf, mkX8_156, ⟨rfl, rfl, by decide, by decide⟩, rv_X1_labelOf⟩
theorem si_X8_fill_44 {l : Launch} {D : va_G} {cy : Nat → ClassId} {ad : Nat → Nat} (o : OK_X8_giveKindToPart l D cy ad) : Site l D cy ad kdX lnX 46 yX8_fill.cls tbX8_fill rm_X8_fill 44 (3, 0, P_X8_giveKindToPart, C_X8_giveKindToPart) := Or.inl ⟨159, 2, yX8_giveKindToPart, cX8_giveKindToPart, 4, none, rm_X8_giveKindToPart, rfl, rfl, o, ca_X8_giveKindToPart, mkX8_159, ⟨rfl, rfl, by decide, by decide⟩, rv_X8_giveKindToPart⟩
theorem si_X8_fill_48 {l : Launch} {D : va_G} {cy : Nat → ClassId} {ad : Nat → Nat} (o : OK_X8_repairParts l D cy ad) : Site l D cy ad kdX lnX 46 yX8_fill.cls tbX8_fill rm_X8_fill 48 (1, 0, P_X8_repairParts, C_X8_repairParts) := Or.inl ⟨84, 0, yX8_repairParts, cX8_repairParts, 2, none, rm_X8_repairParts, rfl, rfl, o, ca_X8_repairParts, mkX8_84, ⟨rfl, rfl, by decide, by decide⟩, rv_X8_repairParts⟩
theorem si_X8_fill_60 {l : Launch} {D : va_G} {cy : Nat → ClassId} {ad : Nat → Nat} (o : OK_X1_labelOf l D cy ad) : Site l D cy ad kdX lnX 46 yX8_fill.cls tbX8_fill rm_X8_fill 60 (2, 1, P_X1_labelOf, C_X1_labelOf) := Or.inl ⟨156, 1, yX1_labelOf, cX1_labelOf, 2, (some .int), rm_X1_labelOf, rfl, rfl, o, ca_X1_labelOf, mkX8_156, ⟨rfl, rfl, by decide, by decide⟩, rv_X1_labelOf⟩
theorem si_X8_fill_63 {l : Launch} {D : va_G} {cy : Nat → ClassId} {ad : Nat → Nat} (o : OK_X1_sizeOf l D cy ad) : Site l D cy ad kdX lnX 46 yX8_fill.cls tbX8_fill rm_X8_fill 63 (2, 1, P_X1_sizeOf, C_X1_sizeOf) := Or.inl ⟨162, 1, yX1_sizeOf, cX1_sizeOf, 2, (some .int), rm_X1_sizeOf, rfl, rfl, o, ca_X1_sizeOf, mkX8_162, ⟨rfl, rfl, by decide, by decide⟩, rv_X1_sizeOf⟩
set_option maxRecDepth 100000 in
set_option maxHeartbeats 4000000 in
theorem met_X8_fill {l : Launch} {D : va_G} {cy : Nat → ClassId} {ad : Nat → Nat} (hA : jA ad 46) (o_X0_record : OK_X0_record l D cy ad) (o_X1_labelOf : OK_X1_labelOf l D cy ad) (o_X1_sizeOf : OK_X1_sizeOf l D cy ad) (o_X3_has : OK_X3_has l D cy ad) (o_X8_giveKindToPart : OK_X8_giveKindToPart l D cy ad) (o_X8_isKind : OK_X8_isKind l D cy ad) (o_X8_repairParts : OK_X8_repairParts l D cy ad) 
    (hent : ∀ (p : Nat) (t : Int) (k : Int) (M0 : Mem), p_X8_fill p t k M0 → okM M0 → inR t → inR k → kdX p = 8 ∧ (p_X3_has 1 t M0 ∧ ∀ (x2 : Int) (M1 : Mem), inR x2 → okM M1 → c_X3_has 1 t M0 x2 M1 → ((¬ x2 = (0 : Int) → (p_X8_isKind k M1 ∧ ∀ (x4 : Int) (M3 : Mem), inR x4 → okM M3 → c_X8_isKind k M1 x4 M3 → ((¬ x4 = (0 : Int) → (kdX p = 8 ∧ (kdX p = 8 ∧ (p_X0_record 16 6 M3 ∧ ∀ (x6 : Int) (M5 : Mem), inR x6 → okM M5 → c_X0_record 16 6 M3 x6 M5 → (kdX p = 8 ∧ (p_X1_labelOf ((M5 p 6).toNat) t M5 ∧ ∀ (x8 : Int) (M7 : Mem), inR x8 → okM M7 → c_X1_labelOf ((M5 p 6).toNat) t M5 x8 M7 → (p_X8_giveKindToPart p x8 k M7 ∧ ∀ (x10 : Int) (M9 : Mem), inR x10 → okM M9 → c_X8_giveKindToPart p x8 k M7 x10 M9 → (p_X8_repairParts p M9 ∧ ∀ (x12 : Int) (M11 : Mem), inR x12 → okM M11 → c_X8_repairParts p M9 x12 M11 → (kdX p = 8 ∧ (kdX p = 8 ∧ (p_X1_labelOf ((M11 p 6).toNat) t M11 ∧ ∀ (x14 : Int) (M13 : Mem), inR x14 → okM M13 → c_X1_labelOf ((M11 p 6).toNat) t M11 x14 M13 → (p_X1_sizeOf ((M11 p 6).toNat) x14 M13 ∧ ∀ (x16 : Int) (M15 : Mem), inR x16 → okM M15 → c_X1_sizeOf ((M11 p 6).toNat) x14 M13 x16 M15 → ((True) ∧ c_X8_fill p t k M0 x16 M15))))))))))))) ∧ (¬ (¬ x4 = (0 : Int)) → ((True) ∧ c_X8_fill p t k M0 (-2) M3))))) ∧ (¬ (¬ x2 = (0 : Int)) → ((True) ∧ c_X8_fill p t k M0 (-1) M1)))))
    : OK_X8_fill l D cy ad := by
  refine met_of (tb := tbX8_fill) (ft := ftX8) (cst := cst0) (ct := ct_X8_fill) (cuts := []) 36 (JA_X8_fill ) hA jWX (by decide) tbX8_fill_ok (by decide) ftX8_ok cst0_ok (ldc_of (tb := tbX8_fill) (cst := cst0) (by decide)) rfl (List.forall_mem_cons.mpr ⟨si_X8_fill_5 o_X3_has, List.forall_mem_cons.mpr ⟨si_X8_fill_14 o_X8_isKind, List.forall_mem_cons.mpr ⟨si_X8_fill_31 o_X0_record, List.forall_mem_cons.mpr ⟨si_X8_fill_40 o_X1_labelOf, List.forall_mem_cons.mpr ⟨si_X8_fill_44 o_X8_giveKindToPart, List.forall_mem_cons.mpr ⟨si_X8_fill_48 o_X8_repairParts, List.forall_mem_cons.mpr ⟨si_X8_fill_60 o_X1_labelOf, List.forall_mem_cons.mpr ⟨si_X8_fill_63 o_X1_sizeOf, fun q h => absurd h List.not_mem_nil⟩⟩⟩⟩⟩⟩⟩⟩) ?_ ?_ ?_
  · intro as M0 h
    unfold P_X8_fill at h
    split at h
    · exact Nat.le_of_ble_eq_true rfl
    · exact h.elim
  · intro as M0 h hM has
    unfold P_X8_fill at h
    split at h
    next p t k => exact hent p t k M0 h hM (has t (by simp)) (has k (by simp))
    · exact h.elim
  · intro as M0 h hM has pc ls st M n hI hM1
    unfold P_X8_fill at h
    split at h
    · exact hI.elim
    · exact h.elim
abbrev p_X8_undo (p : Nat) (M : Mem) : Prop := kdX p = 8 ∧ p = 0 ∧ (∃ σ, absX M σ)
abbrev c_X8_undo (p : Nat) (M : Mem) (x : Int) (M' : Mem) : Prop := ∀ σ, absX M σ → x = F_undo σ ∧ absX M' (G_undo σ)
def P_X8_undo (as : List AV) (M : Mem) : Prop := match as with
  | [.inr p] => p_X8_undo p M
  | _ => False
def C_X8_undo (as : List AV) (M : Mem) (x : Int) (M' : Mem) : Prop := match as with
  | [.inr p] => c_X8_undo p M x M'
  | _ => False
abbrev rm_X8_undo : Room := { frames := 6, cells := 0, slots := 0, locals := 133 }
abbrev OK_X8_undo (l : Launch) (D : va_G) (cy : Nat → ClassId) (ad : Nat → Nat) : Prop := MetA l D cy ad kdX lnX 46 yX8_undo cX8_undo 1 (some .int) rm_X8_undo 1 P_X8_undo C_X8_undo
theorem ca_X8_undo : CalV yX8_undo cX8_undo 1 (some .int) 0 := ⟨⟨wcX8_undo, wnX8, by decide +kernel, by decide +kernel, by decide +kernel⟩, wiX8_undo, wlX8_undo⟩
theorem rv_X8_undo : ∀ as M, P_X8_undo as M → ∃ a As q, as = .inr a :: As ∧ vwCl[kdX a]? = some q ∧ q.1 = yX8_undo.cls := by
  intro as M h
  unfold P_X8_undo at h
  split at h
  · exact ⟨_, _, (RX8, TX8, 8), rfl, by rw [h.1]; rfl, rfl⟩
  · exact h.elim
def ct_X8_undo : List (Nat × CS) := [(4, (1, 1, P_X0_size, C_X0_size)), (21, (2, 0, P_X0_restore, C_X0_restore)), (25, (1, 0, P_X8_repairParts, C_X8_repairParts)), (32, (1, 1, P_X0_size, C_X0_size))]
def J_X8_undo  (p : Nat) (M0 : Mem) : IT := fun pc ls st M μ => match pc, ls, st, M, μ with
  | _, _, _, _, _ => False
def JA_X8_undo  (as : List AV) (M0 : Mem) : IT := match as with
  | [.inr p] => J_X8_undo  p M0
  | _ => fun _ _ _ _ _ => False
theorem si_X8_undo_4 {l : Launch} {D : va_G} {cy : Nat → ClassId} {ad : Nat → Nat} (o : OK_X0_size l D cy ad) : Site l D cy ad kdX lnX 46 yX8_undo.cls tbX8_undo rm_X8_undo 4 (1, 1, P_X0_size, C_X0_size) := Or.inl ⟨108, 0, yX0_size, cX0_size, 1, (some .int), rm_X0_size, rfl, rfl, o, ca_X0_size, mkX8_108, ⟨rfl, rfl, by decide, by decide⟩, rv_X0_size⟩
theorem si_X8_undo_21 {l : Launch} {D : va_G} {cy : Nat → ClassId} {ad : Nat → Nat} (o : OK_X0_restore l D cy ad) : Site l D cy ad kdX lnX 46 yX8_undo.cls tbX8_undo rm_X8_undo 21 (2, 0, P_X0_restore, C_X0_restore) := Or.inl ⟨165, 1, yX0_restore, cX0_restore, 2, none, rm_X0_restore, rfl, rfl, o, ca_X0_restore, mkX8_165, ⟨rfl, rfl, by decide, by decide⟩, rv_X0_restore⟩
theorem si_X8_undo_25 {l : Launch} {D : va_G} {cy : Nat → ClassId} {ad : Nat → Nat} (o : OK_X8_repairParts l D cy ad) : Site l D cy ad kdX lnX 46 yX8_undo.cls tbX8_undo rm_X8_undo 25 (1, 0, P_X8_repairParts, C_X8_repairParts) := Or.inl ⟨84, 0, yX8_repairParts, cX8_repairParts, 2, none, rm_X8_repairParts, rfl, rfl, o, ca_X8_repairParts, mkX8_84, ⟨rfl, rfl, by decide, by decide⟩, rv_X8_repairParts⟩
theorem si_X8_undo_32 {l : Launch} {D : va_G} {cy : Nat → ClassId} {ad : Nat → Nat} (o : OK_X0_size l D cy ad) : Site l D cy ad kdX lnX 46 yX8_undo.cls tbX8_undo rm_X8_undo 32 (1, 1, P_X0_size, C_X0_size) := Or.inl ⟨108, 0, yX0_size, cX0_size, 1, (some .int), rm_X0_size, rfl, rfl, o, ca_X0_size, mkX8_108, ⟨rfl, rfl, by decide, by decide⟩, rv_X0_size⟩
set_option maxRecDepth 100000 in
set_option maxHeartbeats 4000000 in
theorem met_X8_undo {l : Launch} {D : va_G} {cy : Nat → ClassId} {ad : Nat → Nat} (hA : jA ad 46) (o_X0_restore : OK_X0_restore l D cy ad) (o_X0_size : OK_X0_size l D cy ad) (o_X8_repairParts : OK_X8_repairParts l D cy ad) 
    (hent : ∀ (p : Nat) (M0 : Mem), p_X8_undo p M0 → okM M0 → kdX p = 8 ∧ (p_X0_size 16 M0 ∧ ∀ (x2 : Int) (M1 : Mem), inR x2 → okM M1 → c_X0_size 16 M0 x2 M1 → ((¬ x2 = (0 : Int) → (kdX p = 8 ∧ (kdX p = 8 ∧ (p_X0_restore 16 6 M1 ∧ ∀ (x4 : Int) (M3 : Mem), inR x4 → okM M3 → c_X0_restore 16 6 M1 x4 M3 → (p_X8_repairParts p M3 ∧ ∀ (x6 : Int) (M5 : Mem), inR x6 → okM M5 → c_X8_repairParts p M3 x6 M5 → (kdX p = 8 ∧ (p_X0_size 16 M5 ∧ ∀ (x8 : Int) (M7 : Mem), inR x8 → okM M7 → c_X0_size 16 M5 x8 M7 → ((True) ∧ c_X8_undo p M0 x8 M7)))))))) ∧ (¬ (¬ x2 = (0 : Int)) → ((True) ∧ c_X8_undo p M0 (-5) M1)))))
    : OK_X8_undo l D cy ad := by
  refine met_of (tb := tbX8_undo) (ft := ftX8) (cst := cst0) (ct := ct_X8_undo) (cuts := []) 19 (JA_X8_undo ) hA jWX (by decide) tbX8_undo_ok (by decide) ftX8_ok cst0_ok (ldc_of (tb := tbX8_undo) (cst := cst0) (by decide)) rfl (List.forall_mem_cons.mpr ⟨si_X8_undo_4 o_X0_size, List.forall_mem_cons.mpr ⟨si_X8_undo_21 o_X0_restore, List.forall_mem_cons.mpr ⟨si_X8_undo_25 o_X8_repairParts, List.forall_mem_cons.mpr ⟨si_X8_undo_32 o_X0_size, fun q h => absurd h List.not_mem_nil⟩⟩⟩⟩) ?_ ?_ ?_
  · intro as M0 h
    unfold P_X8_undo at h
    split at h
    · exact Nat.le_of_ble_eq_true rfl
    · exact h.elim
  · intro as M0 h hM has
    unfold P_X8_undo at h
    split at h
    next p => exact hent p M0 h hM
    · exact h.elim
  · intro as M0 h hM has pc ls st M n hI hM1
    unfold P_X8_undo at h
    split at h
    · exact hI.elim
    · exact h.elim
abbrev p_X8_label (p : Nat) (t : Int) (M : Mem) : Prop := kdX p = 8 ∧ p = 0 ∧ (∃ σ, absX M σ)
abbrev c_X8_label (p : Nat) (t : Int) (M : Mem) (x : Int) (M' : Mem) : Prop := ∀ σ, absX M σ → x = F_label σ t ∧ absX M' σ
def P_X8_label (as : List AV) (M : Mem) : Prop := match as with
  | [.inr p, .inl t] => p_X8_label p t M
  | _ => False
def C_X8_label (as : List AV) (M : Mem) (x : Int) (M' : Mem) : Prop := match as with
  | [.inr p, .inl t] => c_X8_label p t M x M'
  | _ => False
abbrev rm_X8_label : Room := { frames := 2, cells := 0, slots := 0, locals := 41 }
abbrev OK_X8_label (l : Launch) (D : va_G) (cy : Nat → ClassId) (ad : Nat → Nat) : Prop := MetA l D cy ad kdX lnX 46 yX8_label cX8_label 2 (some .int) rm_X8_label 1 P_X8_label C_X8_label
theorem ca_X8_label : CalV yX8_label cX8_label 2 (some .int) 1 := ⟨⟨wcX8_label, wnX8, by decide +kernel, by decide +kernel, by decide +kernel⟩, wiX8_label, wlX8_label⟩
theorem rv_X8_label : ∀ as M, P_X8_label as M → ∃ a As q, as = .inr a :: As ∧ vwCl[kdX a]? = some q ∧ q.1 = yX8_label.cls := by
  intro as M h
  unfold P_X8_label at h
  split at h
  · exact ⟨_, _, (RX8, TX8, 8), rfl, by rw [h.1]; rfl, rfl⟩
  · exact h.elim
def ct_X8_label : List (Nat × CS) := [(5, (2, 2, P_X3_has, C_X3_has)), (16, (2, 1, P_X1_labelOf, C_X1_labelOf))]
def J_X8_label  (p : Nat) (t : Int) (M0 : Mem) : IT := fun pc ls st M μ => match pc, ls, st, M, μ with
  | _, _, _, _, _ => False
def JA_X8_label  (as : List AV) (M0 : Mem) : IT := match as with
  | [.inr p, .inl t] => J_X8_label  p t M0
  | _ => fun _ _ _ _ _ => False
theorem si_X8_label_5 {l : Launch} {D : va_G} {cy : Nat → ClassId} {ad : Nat → Nat} (o : OK_X3_has l D cy ad) : Site l D cy ad kdX lnX 46 yX8_label.cls tbX8_label rm_X8_label 5 (2, 2, P_X3_has, C_X3_has) := Or.inl ⟨111, 1, yX3_has, cX3_has, 2, (some .boolean), rm_X3_has, rfl, rfl, o, ca_X3_has, mkX8_111, ⟨rfl, rfl, by decide, by decide⟩, rv_X3_has⟩
theorem si_X8_label_16 {l : Launch} {D : va_G} {cy : Nat → ClassId} {ad : Nat → Nat} (o : OK_X1_labelOf l D cy ad) : Site l D cy ad kdX lnX 46 yX8_label.cls tbX8_label rm_X8_label 16 (2, 1, P_X1_labelOf, C_X1_labelOf) := Or.inl ⟨156, 1, yX1_labelOf, cX1_labelOf, 2, (some .int), rm_X1_labelOf, rfl, rfl, o, ca_X1_labelOf, mkX8_156, ⟨rfl, rfl, by decide, by decide⟩, rv_X1_labelOf⟩
set_option maxRecDepth 100000 in
set_option maxHeartbeats 4000000 in
theorem met_X8_label {l : Launch} {D : va_G} {cy : Nat → ClassId} {ad : Nat → Nat} (hA : jA ad 46) (o_X1_labelOf : OK_X1_labelOf l D cy ad) (o_X3_has : OK_X3_has l D cy ad) 
    (hent : ∀ (p : Nat) (t : Int) (M0 : Mem), p_X8_label p t M0 → okM M0 → inR t → kdX p = 8 ∧ (p_X3_has 1 t M0 ∧ ∀ (x2 : Int) (M1 : Mem), inR x2 → okM M1 → c_X3_has 1 t M0 x2 M1 → ((x2 = (0 : Int) → ((True) ∧ c_X8_label p t M0 (-1) M1)) ∧ (¬ x2 = (0 : Int) → (kdX p = 8 ∧ (p_X1_labelOf ((M1 p 6).toNat) t M1 ∧ ∀ (x4 : Int) (M3 : Mem), inR x4 → okM M3 → c_X1_labelOf ((M1 p 6).toNat) t M1 x4 M3 → ((True) ∧ c_X8_label p t M0 x4 M3)))))))
    : OK_X8_label l D cy ad := by
  refine met_of (tb := tbX8_label) (ft := ftX8) (cst := cst0) (ct := ct_X8_label) (cuts := []) 14 (JA_X8_label ) hA jWX (by decide) tbX8_label_ok (by decide) ftX8_ok cst0_ok (ldc_of (tb := tbX8_label) (cst := cst0) (by decide)) rfl (List.forall_mem_cons.mpr ⟨si_X8_label_5 o_X3_has, List.forall_mem_cons.mpr ⟨si_X8_label_16 o_X1_labelOf, fun q h => absurd h List.not_mem_nil⟩⟩) ?_ ?_ ?_
  · intro as M0 h
    unfold P_X8_label at h
    split at h
    · exact Nat.le_of_ble_eq_true rfl
    · exact h.elim
  · intro as M0 h hM has
    unfold P_X8_label at h
    split at h
    next p t => exact hent p t M0 h hM (has t (by simp))
    · exact h.elim
  · intro as M0 h hM has pc ls st M n hI hM1
    unfold P_X8_label at h
    split at h
    · exact hI.elim
    · exact h.elim
abbrev p_X8_part (p : Nat) (k : Int) (M : Mem) : Prop := kdX p = 8 ∧ p = 0 ∧ (∃ σ, absX M σ)
abbrev c_X8_part (p : Nat) (k : Int) (M : Mem) (x : Int) (M' : Mem) : Prop := ∀ σ, absX M σ → x = F_part σ k ∧ absX M' σ
def P_X8_part (as : List AV) (M : Mem) : Prop := match as with
  | [.inr p, .inl k] => p_X8_part p k M
  | _ => False
def C_X8_part (as : List AV) (M : Mem) (x : Int) (M' : Mem) : Prop := match as with
  | [.inr p, .inl k] => c_X8_part p k M x M'
  | _ => False
abbrev rm_X8_part : Room := { frames := 2, cells := 0, slots := 0, locals := 43 }
abbrev OK_X8_part (l : Launch) (D : va_G) (cy : Nat → ClassId) (ad : Nat → Nat) : Prop := MetA l D cy ad kdX lnX 46 yX8_part cX8_part 2 (some .int) rm_X8_part 1 P_X8_part C_X8_part
theorem ca_X8_part : CalV yX8_part cX8_part 2 (some .int) 1 := ⟨⟨wcX8_part, wnX8, by decide +kernel, by decide +kernel, by decide +kernel⟩, wiX8_part, wlX8_part⟩
theorem rv_X8_part : ∀ as M, P_X8_part as M → ∃ a As q, as = .inr a :: As ∧ vwCl[kdX a]? = some q ∧ q.1 = yX8_part.cls := by
  intro as M h
  unfold P_X8_part at h
  split at h
  · exact ⟨_, _, (RX8, TX8, 8), rfl, by rw [h.1]; rfl, rfl⟩
  · exact h.elim
def ct_X8_part : List (Nat × CS) := [(14, (2, 1, P_X1_labelNumber, C_X1_labelNumber))]
def J_X8_part  (p : Nat) (k : Int) (M0 : Mem) : IT := fun pc ls st M μ => match pc, ls, st, M, μ with
  | _, _, _, _, _ => False
def JA_X8_part  (as : List AV) (M0 : Mem) : IT := match as with
  | [.inr p, .inl k] => J_X8_part  p k M0
  | _ => fun _ _ _ _ _ => False
theorem si_X8_part_14 {l : Launch} {D : va_G} {cy : Nat → ClassId} {ad : Nat → Nat} (o : OK_X1_labelNumber l D cy ad) : Site l D cy ad kdX lnX 46 yX8_part.cls tbX8_part rm_X8_part 14 (2, 1, P_X1_labelNumber, C_X1_labelNumber) := Or.inl ⟨168, 1, yX1_labelNumber, cX1_labelNumber, 4, (some .int), rm_X1_labelNumber, rfl, rfl, o, ca_X1_labelNumber, mkX8_168, ⟨rfl, rfl, by decide, by decide⟩, rv_X1_labelNumber⟩
set_option maxRecDepth 100000 in
set_option maxHeartbeats 4000000 in
theorem met_X8_part {l : Launch} {D : va_G} {cy : Nat → ClassId} {ad : Nat → Nat} (hA : jA ad 46) (o_X1_labelNumber : OK_X1_labelNumber l D cy ad) 
    (hent : ∀ (p : Nat) (k : Int) (M0 : Mem), p_X8_part p k M0 → okM M0 → inR k → ((0 : Int) ≤ k → (kdX p = 8 ∧ (p_X1_labelNumber ((M0 p 6).toNat) k M0 ∧ ∀ (x2 : Int) (M1 : Mem), inR x2 → okM M1 → c_X1_labelNumber ((M0 p 6).toNat) k M0 x2 M1 → ((True) ∧ c_X8_part p k M0 x2 M1)))) ∧ (¬ (0 : Int) ≤ k → ((True) ∧ c_X8_part p k M0 (-2) M0)))
    : OK_X8_part l D cy ad := by
  refine met_of (tb := tbX8_part) (ft := ftX8) (cst := cst0) (ct := ct_X8_part) (cuts := []) 11 (JA_X8_part ) hA jWX (by decide) tbX8_part_ok (by decide) ftX8_ok cst0_ok (ldc_of (tb := tbX8_part) (cst := cst0) (by decide)) rfl (List.forall_mem_cons.mpr ⟨si_X8_part_14 o_X1_labelNumber, fun q h => absurd h List.not_mem_nil⟩) ?_ ?_ ?_
  · intro as M0 h
    unfold P_X8_part at h
    split at h
    · exact Nat.le_of_ble_eq_true rfl
    · exact h.elim
  · intro as M0 h hM has
    unfold P_X8_part at h
    split at h
    next p k => exact hent p k M0 h hM (has k (by simp))
    · exact h.elim
  · intro as M0 h hM has pc ls st M n hI hM1
    unfold P_X8_part at h
    split at h
    · exact hI.elim
    · exact h.elim
abbrev p_X8_ofPart (p : Nat) (f : Int) (w : Int) (M : Mem) : Prop := kdX p = 8 ∧ p = 0 ∧ (∃ σ, absX M σ)
abbrev c_X8_ofPart (p : Nat) (f : Int) (w : Int) (M : Mem) (x : Int) (M' : Mem) : Prop := ∀ σ, absX M σ → x = F_ofPart σ f w ∧ absX M' σ
def P_X8_ofPart (as : List AV) (M : Mem) : Prop := match as with
  | [.inr p, .inl f, .inl w] => p_X8_ofPart p f w M
  | _ => False
def C_X8_ofPart (as : List AV) (M : Mem) (x : Int) (M' : Mem) : Prop := match as with
  | [.inr p, .inl f, .inl w] => c_X8_ofPart p f w M x M'
  | _ => False
abbrev rm_X8_ofPart : Room := { frames := 4, cells := 0, slots := 0, locals := 91 }
abbrev OK_X8_ofPart (l : Launch) (D : va_G) (cy : Nat → ClassId) (ad : Nat → Nat) : Prop := MetA l D cy ad kdX lnX 46 yX8_ofPart cX8_ofPart 3 (some .int) rm_X8_ofPart 1 P_X8_ofPart C_X8_ofPart
theorem ca_X8_ofPart : CalV yX8_ofPart cX8_ofPart 3 (some .int) 2 := ⟨⟨wcX8_ofPart, wnX8, by decide +kernel, by decide +kernel, by decide +kernel⟩, wiX8_ofPart, wlX8_ofPart⟩
theorem rv_X8_ofPart : ∀ as M, P_X8_ofPart as M → ∃ a As q, as = .inr a :: As ∧ vwCl[kdX a]? = some q ∧ q.1 = yX8_ofPart.cls := by
  intro as M h
  unfold P_X8_ofPart at h
  split at h
  · exact ⟨_, _, (RX8, TX8, 8), rfl, by rw [h.1]; rfl, rfl⟩
  · exact h.elim
def ct_X8_ofPart : List (Nat × CS) := [(5, (2, 2, P_X3_has, C_X3_has)), (16, (2, 1, P_X1_labelOf, C_X1_labelOf)), (44, (3, 1, P_X1_property, C_X1_property))]
def J_X8_ofPart  (p : Nat) (f : Int) (w : Int) (M0 : Mem) : IT := fun pc ls st M μ => match pc, ls, st, M, μ with
  | _, _, _, _, _ => False
def JA_X8_ofPart  (as : List AV) (M0 : Mem) : IT := match as with
  | [.inr p, .inl f, .inl w] => J_X8_ofPart  p f w M0
  | _ => fun _ _ _ _ _ => False
theorem si_X8_ofPart_5 {l : Launch} {D : va_G} {cy : Nat → ClassId} {ad : Nat → Nat} (o : OK_X3_has l D cy ad) : Site l D cy ad kdX lnX 46 yX8_ofPart.cls tbX8_ofPart rm_X8_ofPart 5 (2, 2, P_X3_has, C_X3_has) := Or.inl ⟨111, 1, yX3_has, cX3_has, 2, (some .boolean), rm_X3_has, rfl, rfl, o, ca_X3_has, mkX8_111, ⟨rfl, rfl, by decide, by decide⟩, rv_X3_has⟩
theorem si_X8_ofPart_16 {l : Launch} {D : va_G} {cy : Nat → ClassId} {ad : Nat → Nat} (o : OK_X1_labelOf l D cy ad) : Site l D cy ad kdX lnX 46 yX8_ofPart.cls tbX8_ofPart rm_X8_ofPart 16 (2, 1, P_X1_labelOf, C_X1_labelOf) := Or.inl ⟨156, 1, yX1_labelOf, cX1_labelOf, 2, (some .int), rm_X1_labelOf, rfl, rfl, o, ca_X1_labelOf, mkX8_156, ⟨rfl, rfl, by decide, by decide⟩, rv_X1_labelOf⟩
theorem si_X8_ofPart_44 {l : Launch} {D : va_G} {cy : Nat → ClassId} {ad : Nat → Nat} (o : OK_X1_property l D cy ad) : Site l D cy ad kdX lnX 46 yX8_ofPart.cls tbX8_ofPart rm_X8_ofPart 44 (3, 1, P_X1_property, C_X1_property) := Or.inl ⟨171, 2, yX1_property, cX1_property, 3, (some .int), rm_X1_property, rfl, rfl, o, ca_X1_property, mkX8_171, ⟨rfl, rfl, by decide, by decide⟩, rv_X1_property⟩
set_option maxRecDepth 100000 in
set_option maxHeartbeats 4000000 in
theorem met_X8_ofPart {l : Launch} {D : va_G} {cy : Nat → ClassId} {ad : Nat → Nat} (hA : jA ad 46) (o_X1_labelOf : OK_X1_labelOf l D cy ad) (o_X1_property : OK_X1_property l D cy ad) (o_X3_has : OK_X3_has l D cy ad) 
    (hent : ∀ (p : Nat) (f : Int) (w : Int) (M0 : Mem), p_X8_ofPart p f w M0 → okM M0 → inR f → inR w → kdX p = 8 ∧ (p_X3_has 1 f M0 ∧ ∀ (x2 : Int) (M1 : Mem), inR x2 → okM M1 → c_X3_has 1 f M0 x2 M1 → ((x2 = (0 : Int) → ((True) ∧ c_X8_ofPart p f w M0 (-1) M1)) ∧ (¬ x2 = (0 : Int) → (kdX p = 8 ∧ (p_X1_labelOf ((M1 p 6).toNat) f M1 ∧ ∀ (x4 : Int) (M3 : Mem), inR x4 → okM M3 → c_X1_labelOf ((M1 p 6).toNat) f M1 x4 M3 → ((x4 = f → ((w < (0 : Int) → ((True) ∧ c_X8_ofPart p f w M0 (-2) M3)) ∧ (¬ w < (0 : Int) → ((w ≤ (7 : Int) → (kdX p = 8 ∧ (p_X1_property ((M3 p 6).toNat) f w M3 ∧ ∀ (x6 : Int) (M5 : Mem), inR x6 → okM M5 → c_X1_property ((M3 p 6).toNat) f w M3 x6 M5 → ((True) ∧ c_X8_ofPart p f w M0 x6 M5)))) ∧ (¬ w ≤ (7 : Int) → ((True) ∧ c_X8_ofPart p f w M0 (-2) M3)))))) ∧ (¬ x4 = f → ((True) ∧ c_X8_ofPart p f w M0 (-1) M3)))))))))
    : OK_X8_ofPart l D cy ad := by
  refine met_of (tb := tbX8_ofPart) (ft := ftX8) (cst := cst0) (ct := ct_X8_ofPart) (cuts := []) 28 (JA_X8_ofPart ) hA jWX (by decide) tbX8_ofPart_ok (by decide) ftX8_ok cst0_ok (ldc_of (tb := tbX8_ofPart) (cst := cst0) (by decide)) rfl (List.forall_mem_cons.mpr ⟨si_X8_ofPart_5 o_X3_has, List.forall_mem_cons.mpr ⟨si_X8_ofPart_16 o_X1_labelOf, List.forall_mem_cons.mpr ⟨si_X8_ofPart_44 o_X1_property, fun q h => absurd h List.not_mem_nil⟩⟩⟩) ?_ ?_ ?_
  · intro as M0 h
    unfold P_X8_ofPart at h
    split at h
    · exact Nat.le_of_ble_eq_true rfl
    · exact h.elim
  · intro as M0 h hM has
    unfold P_X8_ofPart at h
    split at h
    next p f w => exact hent p f w M0 h hM (has f (by simp)) (has w (by simp))
    · exact h.elim
  · intro as M0 h hM has pc ls st M n hI hM1
    unfold P_X8_ofPart at h
    split at h
    · exact hI.elim
    · exact h.elim
abbrev p_X8_greatestPart (p : Nat) (k : Int) (M : Mem) : Prop := kdX p = 8 ∧ p = 0 ∧ (∃ σ, absX M σ)
abbrev c_X8_greatestPart (p : Nat) (k : Int) (M : Mem) (x : Int) (M' : Mem) : Prop := ∀ σ, absX M σ → x = F_greatestPart σ k ∧ absX M' σ
def P_X8_greatestPart (as : List AV) (M : Mem) : Prop := match as with
  | [.inr p, .inl k] => p_X8_greatestPart p k M
  | _ => False
def C_X8_greatestPart (as : List AV) (M : Mem) (x : Int) (M' : Mem) : Prop := match as with
  | [.inr p, .inl k] => c_X8_greatestPart p k M x M'
  | _ => False
abbrev rm_X8_greatestPart : Room := { frames := 2, cells := 0, slots := 0, locals := 43 }
abbrev OK_X8_greatestPart (l : Launch) (D : va_G) (cy : Nat → ClassId) (ad : Nat → Nat) : Prop := MetA l D cy ad kdX lnX 46 yX8_greatestPart cX8_greatestPart 2 (some .int) rm_X8_greatestPart 1 P_X8_greatestPart C_X8_greatestPart
theorem ca_X8_greatestPart : CalV yX8_greatestPart cX8_greatestPart 2 (some .int) 1 := ⟨⟨wcX8_greatestPart, wnX8, by decide +kernel, by decide +kernel, by decide +kernel⟩, wiX8_greatestPart, wlX8_greatestPart⟩
theorem rv_X8_greatestPart : ∀ as M, P_X8_greatestPart as M → ∃ a As q, as = .inr a :: As ∧ vwCl[kdX a]? = some q ∧ q.1 = yX8_greatestPart.cls := by
  intro as M h
  unfold P_X8_greatestPart at h
  split at h
  · exact ⟨_, _, (RX8, TX8, 8), rfl, by rw [h.1]; rfl, rfl⟩
  · exact h.elim
def ct_X8_greatestPart : List (Nat × CS) := [(1, (1, 2, P_X8_isKind, C_X8_isKind)), (12, (2, 1, P_X1_greatestOf, C_X1_greatestOf))]
def J_X8_greatestPart  (p : Nat) (k : Int) (M0 : Mem) : IT := fun pc ls st M μ => match pc, ls, st, M, μ with
  | _, _, _, _, _ => False
def JA_X8_greatestPart  (as : List AV) (M0 : Mem) : IT := match as with
  | [.inr p, .inl k] => J_X8_greatestPart  p k M0
  | _ => fun _ _ _ _ _ => False
theorem si_X8_greatestPart_1 {l : Launch} {D : va_G} {cy : Nat → ClassId} {ad : Nat → Nat} (o : OK_X8_isKind l D cy ad) : Site l D cy ad kdX lnX 46 yX8_greatestPart.cls tbX8_greatestPart rm_X8_greatestPart 1 (1, 2, P_X8_isKind, C_X8_isKind) := Or.inr (Or.inl ⟨149, 1, yX8_isKind, cX8_isKind, 1, (some .boolean), rm_X8_isKind, rfl, rfl, o, ca_X8_isKind, mkX8_149, rfl, ⟨rfl, rfl, by decide, by decide⟩⟩)
theorem si_X8_greatestPart_12 {l : Launch} {D : va_G} {cy : Nat → ClassId} {ad : Nat → Nat} (o : OK_X1_greatestOf l D cy ad) : Site l D cy ad kdX lnX 46 yX8_greatestPart.cls tbX8_greatestPart rm_X8_greatestPart 12 (2, 1, P_X1_greatestOf, C_X1_greatestOf) := Or.inl ⟨174, 1, yX1_greatestOf, cX1_greatestOf, 4, (some .int), rm_X1_greatestOf, rfl, rfl, o, ca_X1_greatestOf, mkX8_174, ⟨rfl, rfl, by decide, by decide⟩, rv_X1_greatestOf⟩
set_option maxRecDepth 100000 in
set_option maxHeartbeats 4000000 in
theorem met_X8_greatestPart {l : Launch} {D : va_G} {cy : Nat → ClassId} {ad : Nat → Nat} (hA : jA ad 46) (o_X1_greatestOf : OK_X1_greatestOf l D cy ad) (o_X8_isKind : OK_X8_isKind l D cy ad) 
    (hent : ∀ (p : Nat) (k : Int) (M0 : Mem), p_X8_greatestPart p k M0 → okM M0 → inR k → p_X8_isKind k M0 ∧ ∀ (x2 : Int) (M1 : Mem), inR x2 → okM M1 → c_X8_isKind k M0 x2 M1 → ((x2 = (0 : Int) → ((True) ∧ c_X8_greatestPart p k M0 (-2) M1)) ∧ (¬ x2 = (0 : Int) → (kdX p = 8 ∧ (p_X1_greatestOf ((M1 p 6).toNat) k M1 ∧ ∀ (x4 : Int) (M3 : Mem), inR x4 → okM M3 → c_X1_greatestOf ((M1 p 6).toNat) k M1 x4 M3 → ((True) ∧ c_X8_greatestPart p k M0 x4 M3))))))
    : OK_X8_greatestPart l D cy ad := by
  refine met_of (tb := tbX8_greatestPart) (ft := ftX8) (cst := cst0) (ct := ct_X8_greatestPart) (cuts := []) 12 (JA_X8_greatestPart ) hA jWX (by decide) tbX8_greatestPart_ok (by decide) ftX8_ok cst0_ok (ldc_of (tb := tbX8_greatestPart) (cst := cst0) (by decide)) rfl (List.forall_mem_cons.mpr ⟨si_X8_greatestPart_1 o_X8_isKind, List.forall_mem_cons.mpr ⟨si_X8_greatestPart_12 o_X1_greatestOf, fun q h => absurd h List.not_mem_nil⟩⟩) ?_ ?_ ?_
  · intro as M0 h
    unfold P_X8_greatestPart at h
    split at h
    · exact Nat.le_of_ble_eq_true rfl
    · exact h.elim
  · intro as M0 h hM has
    unfold P_X8_greatestPart at h
    split at h
    next p k => exact hent p k M0 h hM (has k (by simp))
    · exact h.elim
  · intro as M0 h hM has pc ls st M n hI hM1
    unfold P_X8_greatestPart at h
    split at h
    · exact hI.elim
    · exact h.elim
abbrev p_X8_partsIf (p : Nat) (t : Int) (k : Int) (M : Mem) : Prop := kdX p = 8 ∧ p = 0 ∧ (∃ σ, absX M σ)
abbrev c_X8_partsIf (p : Nat) (t : Int) (k : Int) (M : Mem) (x : Int) (M' : Mem) : Prop := ∀ σ, absX M σ → x = F_partsIf σ t k ∧ absX M' σ
def P_X8_partsIf (as : List AV) (M : Mem) : Prop := match as with
  | [.inr p, .inl t, .inl k] => p_X8_partsIf p t k M
  | _ => False
def C_X8_partsIf (as : List AV) (M : Mem) (x : Int) (M' : Mem) : Prop := match as with
  | [.inr p, .inl t, .inl k] => c_X8_partsIf p t k M x M'
  | _ => False
abbrev rm_X8_partsIf : Room := { frames := 5, cells := 0, slots := 0, locals := 112 }
abbrev OK_X8_partsIf (l : Launch) (D : va_G) (cy : Nat → ClassId) (ad : Nat → Nat) : Prop := MetA l D cy ad kdX lnX 46 yX8_partsIf cX8_partsIf 4 (some .int) rm_X8_partsIf 1 P_X8_partsIf C_X8_partsIf
theorem ca_X8_partsIf : CalV yX8_partsIf cX8_partsIf 4 (some .int) 2 := ⟨⟨wcX8_partsIf, wnX8, by decide +kernel, by decide +kernel, by decide +kernel⟩, wiX8_partsIf, wlX8_partsIf⟩
theorem rv_X8_partsIf : ∀ as M, P_X8_partsIf as M → ∃ a As q, as = .inr a :: As ∧ vwCl[kdX a]? = some q ∧ q.1 = yX8_partsIf.cls := by
  intro as M h
  unfold P_X8_partsIf at h
  split at h
  · exact ⟨_, _, (RX8, TX8, 8), rfl, by rw [h.1]; rfl, rfl⟩
  · exact h.elim
def ct_X8_partsIf : List (Nat × CS) := [(5, (2, 2, P_X3_has, C_X3_has)), (14, (1, 2, P_X8_isKind, C_X8_isKind)), (41, (1, 0, P_X1_find, C_X1_find)), (55, (1, 1, P_X1_number, C_X1_number))]
def J_X8_partsIf  (p : Nat) (t : Int) (k : Int) (M0 : Mem) : IT := fun pc ls st M μ => match pc, ls, st, M, μ with
  | _, _, _, _, _ => False
def JA_X8_partsIf  (as : List AV) (M0 : Mem) : IT := match as with
  | [.inr p, .inl t, .inl k] => J_X8_partsIf  p t k M0
  | _ => fun _ _ _ _ _ => False
theorem si_X8_partsIf_5 {l : Launch} {D : va_G} {cy : Nat → ClassId} {ad : Nat → Nat} (o : OK_X3_has l D cy ad) : Site l D cy ad kdX lnX 46 yX8_partsIf.cls tbX8_partsIf rm_X8_partsIf 5 (2, 2, P_X3_has, C_X3_has) := Or.inl ⟨111, 1, yX3_has, cX3_has, 2, (some .boolean), rm_X3_has, rfl, rfl, o, ca_X3_has, mkX8_111, ⟨rfl, rfl, by decide, by decide⟩, rv_X3_has⟩
theorem si_X8_partsIf_14 {l : Launch} {D : va_G} {cy : Nat → ClassId} {ad : Nat → Nat} (o : OK_X8_isKind l D cy ad) : Site l D cy ad kdX lnX 46 yX8_partsIf.cls tbX8_partsIf rm_X8_partsIf 14 (1, 2, P_X8_isKind, C_X8_isKind) := Or.inr (Or.inl ⟨149, 1, yX8_isKind, cX8_isKind, 1, (some .boolean), rm_X8_isKind, rfl, rfl, o, ca_X8_isKind, mkX8_149, rfl, ⟨rfl, rfl, by decide, by decide⟩⟩)
theorem si_X8_partsIf_41 {l : Launch} {D : va_G} {cy : Nat → ClassId} {ad : Nat → Nat} (o : OK_X1_find l D cy ad) : Site l D cy ad kdX lnX 46 yX8_partsIf.cls tbX8_partsIf rm_X8_partsIf 41 (1, 0, P_X1_find, C_X1_find) := Or.inl ⟨177, 0, yX1_find, cX1_find, 2, none, rm_X1_find, rfl, rfl, o, ca_X1_find, mkX8_177, ⟨rfl, rfl, by decide, by decide⟩, rv_X1_find⟩
theorem si_X8_partsIf_55 {l : Launch} {D : va_G} {cy : Nat → ClassId} {ad : Nat → Nat} (o : OK_X1_number l D cy ad) : Site l D cy ad kdX lnX 46 yX8_partsIf.cls tbX8_partsIf rm_X8_partsIf 55 (1, 1, P_X1_number, C_X1_number) := Or.inl ⟨102, 0, yX1_number, cX1_number, 1, (some .int), rm_X1_number, rfl, rfl, o, ca_X1_number, mkX8_102, ⟨rfl, rfl, by decide, by decide⟩, rv_X1_number⟩
set_option maxRecDepth 100000 in
set_option maxHeartbeats 4000000 in
theorem met_X8_partsIf {l : Launch} {D : va_G} {cy : Nat → ClassId} {ad : Nat → Nat} (hA : jA ad 46) (o_X1_find : OK_X1_find l D cy ad) (o_X1_number : OK_X1_number l D cy ad) (o_X3_has : OK_X3_has l D cy ad) (o_X8_isKind : OK_X8_isKind l D cy ad) 
    (hent : ∀ (p : Nat) (t : Int) (k : Int) (M0 : Mem), p_X8_partsIf p t k M0 → okM M0 → inR t → inR k → kdX p = 8 ∧ (p_X3_has 1 t M0 ∧ ∀ (x2 : Int) (M1 : Mem), inR x2 → okM M1 → c_X3_has 1 t M0 x2 M1 → ((¬ x2 = (0 : Int) → (p_X8_isKind k M1 ∧ ∀ (x4 : Int) (M3 : Mem), inR x4 → okM M3 → c_X8_isKind k M1 x4 M3 → ((¬ x4 = (0 : Int) → (kdX p = 8 ∧ (kdX 6 = 21 ∧ (0 ≤ t ∧ t < 144) ∧ (kdX p = 8 ∧ (kdX 6 = 21 ∧ (0 ≤ t ∧ t < 144) ∧ (kdX p = 8 ∧ (p_X1_find ((up M3 6 (t).toNat k p 7).toNat) (up M3 6 (t).toNat k) ∧ ∀ (x6 : Int) (M5 : Mem), inR x6 → okM M5 → c_X1_find ((up M3 6 (t).toNat k p 7).toNat) (up M3 6 (t).toNat k) x6 M5 → (kdX p = 8 ∧ (kdX 6 = 21 ∧ (0 ≤ t ∧ t < 144) ∧ (kdX p = 8 ∧ (p_X1_number ((up M5 6 (t).toNat (M3 6 (t).toNat) p 7).toNat) (up M5 6 (t).toNat (M3 6 (t).toNat)) ∧ ∀ (x8 : Int) (M7 : Mem), inR x8 → okM M7 → c_X1_number ((up M5 6 (t).toNat (M3 6 (t).toNat) p 7).toNat) (up M5 6 (t).toNat (M3 6 (t).toNat)) x8 M7 → ((True) ∧ c_X8_partsIf p t k M0 x8 M7)))))))))))) ∧ (¬ (¬ x4 = (0 : Int)) → ((True) ∧ c_X8_partsIf p t k M0 (-2) M3))))) ∧ (¬ (¬ x2 = (0 : Int)) → ((True) ∧ c_X8_partsIf p t k M0 (-1) M1)))))
    : OK_X8_partsIf l D cy ad := by
  refine met_of (tb := tbX8_partsIf) (ft := ftX8) (cst := cst0) (ct := ct_X8_partsIf) (cuts := []) 36 (JA_X8_partsIf ) hA jWX (by decide) tbX8_partsIf_ok (by decide) ftX8_ok cst0_ok (ldc_of (tb := tbX8_partsIf) (cst := cst0) (by decide)) rfl (List.forall_mem_cons.mpr ⟨si_X8_partsIf_5 o_X3_has, List.forall_mem_cons.mpr ⟨si_X8_partsIf_14 o_X8_isKind, List.forall_mem_cons.mpr ⟨si_X8_partsIf_41 o_X1_find, List.forall_mem_cons.mpr ⟨si_X8_partsIf_55 o_X1_number, fun q h => absurd h List.not_mem_nil⟩⟩⟩⟩) ?_ ?_ ?_
  · intro as M0 h
    unfold P_X8_partsIf at h
    split at h
    · exact Nat.le_of_ble_eq_true rfl
    · exact h.elim
  · intro as M0 h hM has
    unfold P_X8_partsIf at h
    split at h
    next p t k => exact hent p t k M0 h hM (has t (by simp)) (has k (by simp))
    · exact h.elim
  · intro as M0 h hM has pc ls st M n hI hM1
    unfold P_X8_partsIf at h
    split at h
    · exact hI.elim
    · exact h.elim
abbrev p_X8_setWeight (p : Nat) (k : Int) (v : Int) (M : Mem) : Prop := kdX p = 8 ∧ p = 0 ∧ (∃ σ, absX M σ)
abbrev c_X8_setWeight (p : Nat) (k : Int) (v : Int) (M : Mem) (x : Int) (M' : Mem) : Prop := ∀ σ, absX M σ → x = F_setWeight σ k v ∧ absX M' (G_setWeight σ k v)
def P_X8_setWeight (as : List AV) (M : Mem) : Prop := match as with
  | [.inr p, .inl k, .inl v] => p_X8_setWeight p k v M
  | _ => False
def C_X8_setWeight (as : List AV) (M : Mem) (x : Int) (M' : Mem) : Prop := match as with
  | [.inr p, .inl k, .inl v] => c_X8_setWeight p k v M x M'
  | _ => False
abbrev rm_X8_setWeight : Room := { frames := 1, cells := 0, slots := 0, locals := 23 }
abbrev OK_X8_setWeight (l : Launch) (D : va_G) (cy : Nat → ClassId) (ad : Nat → Nat) : Prop := MetA l D cy ad kdX lnX 46 yX8_setWeight cX8_setWeight 3 (some .int) rm_X8_setWeight 1 P_X8_setWeight C_X8_setWeight
theorem ca_X8_setWeight : CalV yX8_setWeight cX8_setWeight 3 (some .int) 2 := ⟨⟨wcX8_setWeight, wnX8, by decide +kernel, by decide +kernel, by decide +kernel⟩, wiX8_setWeight, wlX8_setWeight⟩
theorem rv_X8_setWeight : ∀ as M, P_X8_setWeight as M → ∃ a As q, as = .inr a :: As ∧ vwCl[kdX a]? = some q ∧ q.1 = yX8_setWeight.cls := by
  intro as M h
  unfold P_X8_setWeight at h
  split at h
  · exact ⟨_, _, (RX8, TX8, 8), rfl, by rw [h.1]; rfl, rfl⟩
  · exact h.elim
def ct_X8_setWeight : List (Nat × CS) := [(1, (1, 2, P_X8_isKind, C_X8_isKind)), (26, (3, 1, P_X7_changeWeight, C_X7_changeWeight))]
def J_X8_setWeight  (p : Nat) (k : Int) (v : Int) (M0 : Mem) : IT := fun pc ls st M μ => match pc, ls, st, M, μ with
  | _, _, _, _, _ => False
def JA_X8_setWeight  (as : List AV) (M0 : Mem) : IT := match as with
  | [.inr p, .inl k, .inl v] => J_X8_setWeight  p k v M0
  | _ => fun _ _ _ _ _ => False
theorem si_X8_setWeight_1 {l : Launch} {D : va_G} {cy : Nat → ClassId} {ad : Nat → Nat} (o : OK_X8_isKind l D cy ad) : Site l D cy ad kdX lnX 46 yX8_setWeight.cls tbX8_setWeight rm_X8_setWeight 1 (1, 2, P_X8_isKind, C_X8_isKind) := Or.inr (Or.inl ⟨149, 1, yX8_isKind, cX8_isKind, 1, (some .boolean), rm_X8_isKind, rfl, rfl, o, ca_X8_isKind, mkX8_149, rfl, ⟨rfl, rfl, by decide, by decide⟩⟩)
theorem si_X8_setWeight_26 {l : Launch} {D : va_G} {cy : Nat → ClassId} {ad : Nat → Nat} (o : OK_X7_changeWeight l D cy ad) : Site l D cy ad kdX lnX 46 yX8_setWeight.cls tbX8_setWeight rm_X8_setWeight 26 (3, 1, P_X7_changeWeight, C_X7_changeWeight) := Or.inl ⟨180, 2, yX7_changeWeight, cX7_changeWeight, 4, (some .int), rm_X7_changeWeight, rfl, rfl, o, ca_X7_changeWeight, mkX8_180, ⟨rfl, rfl, by decide, by decide⟩, rv_X7_changeWeight⟩
set_option maxRecDepth 100000 in
set_option maxHeartbeats 4000000 in
theorem met_X8_setWeight {l : Launch} {D : va_G} {cy : Nat → ClassId} {ad : Nat → Nat} (hA : jA ad 46) (o_X7_changeWeight : OK_X7_changeWeight l D cy ad) (o_X8_isKind : OK_X8_isKind l D cy ad) 
    (hent : ∀ (p : Nat) (k : Int) (v : Int) (M0 : Mem), p_X8_setWeight p k v M0 → okM M0 → inR k → inR v → p_X8_isKind k M0 ∧ ∀ (x2 : Int) (M1 : Mem), inR x2 → okM M1 → c_X8_isKind k M0 x2 M1 → ((x2 = (0 : Int) → ((True) ∧ c_X8_setWeight p k v M0 (-2) M1)) ∧ (¬ x2 = (0 : Int) → ((v < (0 : Int) → ((True) ∧ c_X8_setWeight p k v M0 (-2) M1)) ∧ (¬ v < (0 : Int) → ((v ≤ (9 : Int) → (kdX p = 8 ∧ (p_X7_changeWeight 7 k v M1 ∧ ∀ (x4 : Int) (M3 : Mem), inR x4 → okM M3 → c_X7_changeWeight 7 k v M1 x4 M3 → ((True) ∧ c_X8_setWeight p k v M0 x4 M3)))) ∧ (¬ v ≤ (9 : Int) → ((True) ∧ c_X8_setWeight p k v M0 (-2) M1))))))))
    : OK_X8_setWeight l D cy ad := by
  refine met_of (tb := tbX8_setWeight) (ft := ftX8) (cst := cst0) (ct := ct_X8_setWeight) (cuts := []) 18 (JA_X8_setWeight ) hA jWX (by decide) tbX8_setWeight_ok (by decide) ftX8_ok cst0_ok (ldc_of (tb := tbX8_setWeight) (cst := cst0) (by decide)) rfl (List.forall_mem_cons.mpr ⟨si_X8_setWeight_1 o_X8_isKind, List.forall_mem_cons.mpr ⟨si_X8_setWeight_26 o_X7_changeWeight, fun q h => absurd h List.not_mem_nil⟩⟩) ?_ ?_ ?_
  · intro as M0 h
    unfold P_X8_setWeight at h
    split at h
    · exact Nat.le_of_ble_eq_true rfl
    · exact h.elim
  · intro as M0 h hM has
    unfold P_X8_setWeight at h
    split at h
    next p k v => exact hent p k v M0 h hM (has k (by simp)) (has v (by simp))
    · exact h.elim
  · intro as M0 h hM has pc ls st M n hI hM1
    unfold P_X8_setWeight at h
    split at h
    · exact hI.elim
    · exact h.elim
abbrev p_X8_distance (p : Nat) (t : Int) (o : Int) (M : Mem) : Prop := kdX p = 8 ∧ p = 0 ∧ (∃ σ, absX M σ)
abbrev c_X8_distance (p : Nat) (t : Int) (o : Int) (M : Mem) (x : Int) (M' : Mem) : Prop := ∀ σ, absX M σ → x = F_distance σ t o ∧ absX M' σ
def P_X8_distance (as : List AV) (M : Mem) : Prop := match as with
  | [.inr p, .inl t, .inl o] => p_X8_distance p t o M
  | _ => False
def C_X8_distance (as : List AV) (M : Mem) (x : Int) (M' : Mem) : Prop := match as with
  | [.inr p, .inl t, .inl o] => c_X8_distance p t o M x M'
  | _ => False
abbrev rm_X8_distance : Room := { frames := 4, cells := 0, slots := 0, locals := 92 }
abbrev OK_X8_distance (l : Launch) (D : va_G) (cy : Nat → ClassId) (ad : Nat → Nat) : Prop := MetA l D cy ad kdX lnX 46 yX8_distance cX8_distance 3 (some .int) rm_X8_distance 1 P_X8_distance C_X8_distance
theorem ca_X8_distance : CalV yX8_distance cX8_distance 3 (some .int) 2 := ⟨⟨wcX8_distance, wnX8, by decide +kernel, by decide +kernel, by decide +kernel⟩, wiX8_distance, wlX8_distance⟩
theorem rv_X8_distance : ∀ as M, P_X8_distance as M → ∃ a As q, as = .inr a :: As ∧ vwCl[kdX a]? = some q ∧ q.1 = yX8_distance.cls := by
  intro as M h
  unfold P_X8_distance at h
  split at h
  · exact ⟨_, _, (RX8, TX8, 8), rfl, by rw [h.1]; rfl, rfl⟩
  · exact h.elim
def ct_X8_distance : List (Nat × CS) := [(5, (2, 2, P_X3_has, C_X3_has)), (16, (2, 2, P_X3_has, C_X3_has)), (29, (2, 0, P_X7_measureFrom, C_X7_measureFrom)), (37, (2, 1, P_X7_lengthTo, C_X7_lengthTo))]
def J_X8_distance  (p : Nat) (t : Int) (o : Int) (M0 : Mem) : IT := fun pc ls st M μ => match pc, ls, st, M, μ with
  | _, _, _, _, _ => False
def JA_X8_distance  (as : List AV) (M0 : Mem) : IT := match as with
  | [.inr p, .inl t, .inl o] => J_X8_distance  p t o M0
  | _ => fun _ _ _ _ _ => False
theorem si_X8_distance_5 {l : Launch} {D : va_G} {cy : Nat → ClassId} {ad : Nat → Nat} (o : OK_X3_has l D cy ad) : Site l D cy ad kdX lnX 46 yX8_distance.cls tbX8_distance rm_X8_distance 5 (2, 2, P_X3_has, C_X3_has) := Or.inl ⟨111, 1, yX3_has, cX3_has, 2, (some .boolean), rm_X3_has, rfl, rfl, o, ca_X3_has, mkX8_111, ⟨rfl, rfl, by decide, by decide⟩, rv_X3_has⟩
theorem si_X8_distance_16 {l : Launch} {D : va_G} {cy : Nat → ClassId} {ad : Nat → Nat} (o : OK_X3_has l D cy ad) : Site l D cy ad kdX lnX 46 yX8_distance.cls tbX8_distance rm_X8_distance 16 (2, 2, P_X3_has, C_X3_has) := Or.inl ⟨111, 1, yX3_has, cX3_has, 2, (some .boolean), rm_X3_has, rfl, rfl, o, ca_X3_has, mkX8_111, ⟨rfl, rfl, by decide, by decide⟩, rv_X3_has⟩
theorem si_X8_distance_29 {l : Launch} {D : va_G} {cy : Nat → ClassId} {ad : Nat → Nat} (o : OK_X7_measureFrom l D cy ad) : Site l D cy ad kdX lnX 46 yX8_distance.cls tbX8_distance rm_X8_distance 29 (2, 0, P_X7_measureFrom, C_X7_measureFrom) := Or.inl ⟨183, 1, yX7_measureFrom, cX7_measureFrom, 3, none, rm_X7_measureFrom, rfl, rfl, o, ca_X7_measureFrom, mkX8_183, ⟨rfl, rfl, by decide, by decide⟩, rv_X7_measureFrom⟩
theorem si_X8_distance_37 {l : Launch} {D : va_G} {cy : Nat → ClassId} {ad : Nat → Nat} (o : OK_X7_lengthTo l D cy ad) : Site l D cy ad kdX lnX 46 yX8_distance.cls tbX8_distance rm_X8_distance 37 (2, 1, P_X7_lengthTo, C_X7_lengthTo) := Or.inl ⟨187, 1, yX7_lengthTo, cX7_lengthTo, 2, (some .int), rm_X7_lengthTo, rfl, rfl, o, ca_X7_lengthTo, mkX8_187, ⟨rfl, rfl, by decide, by decide⟩, rv_X7_lengthTo⟩
set_option maxRecDepth 100000 in
set_option maxHeartbeats 4000000 in
theorem met_X8_distance {l : Launch} {D : va_G} {cy : Nat → ClassId} {ad : Nat → Nat} (hA : jA ad 46) (o_X3_has : OK_X3_has l D cy ad) (o_X7_lengthTo : OK_X7_lengthTo l D cy ad) (o_X7_measureFrom : OK_X7_measureFrom l D cy ad) 
    (hent : ∀ (p : Nat) (t : Int) (o : Int) (M0 : Mem), p_X8_distance p t o M0 → okM M0 → inR t → inR o → kdX p = 8 ∧ (p_X3_has 1 t M0 ∧ ∀ (x2 : Int) (M1 : Mem), inR x2 → okM M1 → c_X3_has 1 t M0 x2 M1 → ((x2 = (0 : Int) → ((True) ∧ c_X8_distance p t o M0 (-1) M1)) ∧ (¬ x2 = (0 : Int) → (kdX p = 8 ∧ (p_X3_has 1 o M1 ∧ ∀ (x4 : Int) (M3 : Mem), inR x4 → okM M3 → c_X3_has 1 o M1 x4 M3 → ((¬ x4 = (0 : Int) → (kdX p = 8 ∧ (p_X7_measureFrom 7 t M3 ∧ ∀ (x6 : Int) (M5 : Mem), inR x6 → okM M5 → c_X7_measureFrom 7 t M3 x6 M5 → (kdX p = 8 ∧ (p_X7_lengthTo 7 o M5 ∧ ∀ (x8 : Int) (M7 : Mem), inR x8 → okM M7 → c_X7_lengthTo 7 o M5 x8 M7 → ((True) ∧ c_X8_distance p t o M0 x8 M7)))))) ∧ (¬ (¬ x4 = (0 : Int)) → ((True) ∧ c_X8_distance p t o M0 (-1) M3)))))))))
    : OK_X8_distance l D cy ad := by
  refine met_of (tb := tbX8_distance) (ft := ftX8) (cst := cst0) (ct := ct_X8_distance) (cuts := []) 23 (JA_X8_distance ) hA jWX (by decide) tbX8_distance_ok (by decide) ftX8_ok cst0_ok (ldc_of (tb := tbX8_distance) (cst := cst0) (by decide)) rfl (List.forall_mem_cons.mpr ⟨si_X8_distance_5 o_X3_has, List.forall_mem_cons.mpr ⟨si_X8_distance_16 o_X3_has, List.forall_mem_cons.mpr ⟨si_X8_distance_29 o_X7_measureFrom, List.forall_mem_cons.mpr ⟨si_X8_distance_37 o_X7_lengthTo, fun q h => absurd h List.not_mem_nil⟩⟩⟩⟩) ?_ ?_ ?_
  · intro as M0 h
    unfold P_X8_distance at h
    split at h
    · exact Nat.le_of_ble_eq_true rfl
    · exact h.elim
  · intro as M0 h hM has
    unfold P_X8_distance at h
    split at h
    next p t o => exact hent p t o M0 h hM (has t (by simp)) (has o (by simp))
    · exact h.elim
  · intro as M0 h hM has pc ls st M n hI hM1
    unfold P_X8_distance at h
    split at h
    · exact hI.elim
    · exact h.elim
abbrev p_X8_route (p : Nat) (t : Int) (o : Int) (k : Int) (M : Mem) : Prop := kdX p = 8 ∧ p = 0 ∧ (∃ σ, absX M σ)
abbrev c_X8_route (p : Nat) (t : Int) (o : Int) (k : Int) (M : Mem) (x : Int) (M' : Mem) : Prop := ∀ σ, absX M σ → x = F_route σ t o k ∧ absX M' σ
def P_X8_route (as : List AV) (M : Mem) : Prop := match as with
  | [.inr p, .inl t, .inl o, .inl k] => p_X8_route p t o k M
  | _ => False
def C_X8_route (as : List AV) (M : Mem) (x : Int) (M' : Mem) : Prop := match as with
  | [.inr p, .inl t, .inl o, .inl k] => c_X8_route p t o k M x M'
  | _ => False
abbrev rm_X8_route : Room := { frames := 4, cells := 0, slots := 0, locals := 96 }
abbrev OK_X8_route (l : Launch) (D : va_G) (cy : Nat → ClassId) (ad : Nat → Nat) : Prop := MetA l D cy ad kdX lnX 46 yX8_route cX8_route 4 (some .int) rm_X8_route 1 P_X8_route C_X8_route
theorem ca_X8_route : CalV yX8_route cX8_route 4 (some .int) 3 := ⟨⟨wcX8_route, wnX8, by decide +kernel, by decide +kernel, by decide +kernel⟩, wiX8_route, wlX8_route⟩
theorem rv_X8_route : ∀ as M, P_X8_route as M → ∃ a As q, as = .inr a :: As ∧ vwCl[kdX a]? = some q ∧ q.1 = yX8_route.cls := by
  intro as M h
  unfold P_X8_route at h
  split at h
  · exact ⟨_, _, (RX8, TX8, 8), rfl, by rw [h.1]; rfl, rfl⟩
  · exact h.elim
def ct_X8_route : List (Nat × CS) := [(5, (2, 2, P_X3_has, C_X3_has)), (16, (2, 2, P_X3_has, C_X3_has)), (37, (2, 0, P_X7_measureFrom, C_X7_measureFrom)), (45, (2, 1, P_X7_lengthTo, C_X7_lengthTo)), (65, (4, 1, P_X7_routeTile, C_X7_routeTile))]
def J_X8_route  (p : Nat) (t : Int) (o : Int) (k : Int) (M0 : Mem) : IT := fun pc ls st M μ => match pc, ls, st, M, μ with
  | _, _, _, _, _ => False
def JA_X8_route  (as : List AV) (M0 : Mem) : IT := match as with
  | [.inr p, .inl t, .inl o, .inl k] => J_X8_route  p t o k M0
  | _ => fun _ _ _ _ _ => False
theorem si_X8_route_5 {l : Launch} {D : va_G} {cy : Nat → ClassId} {ad : Nat → Nat} (o : OK_X3_has l D cy ad) : Site l D cy ad kdX lnX 46 yX8_route.cls tbX8_route rm_X8_route 5 (2, 2, P_X3_has, C_X3_has) := Or.inl ⟨111, 1, yX3_has, cX3_has, 2, (some .boolean), rm_X3_has, rfl, rfl, o, ca_X3_has, mkX8_111, ⟨rfl, rfl, by decide, by decide⟩, rv_X3_has⟩
theorem si_X8_route_16 {l : Launch} {D : va_G} {cy : Nat → ClassId} {ad : Nat → Nat} (o : OK_X3_has l D cy ad) : Site l D cy ad kdX lnX 46 yX8_route.cls tbX8_route rm_X8_route 16 (2, 2, P_X3_has, C_X3_has) := Or.inl ⟨111, 1, yX3_has, cX3_has, 2, (some .boolean), rm_X3_has, rfl, rfl, o, ca_X3_has, mkX8_111, ⟨rfl, rfl, by decide, by decide⟩, rv_X3_has⟩
theorem si_X8_route_37 {l : Launch} {D : va_G} {cy : Nat → ClassId} {ad : Nat → Nat} (o : OK_X7_measureFrom l D cy ad) : Site l D cy ad kdX lnX 46 yX8_route.cls tbX8_route rm_X8_route 37 (2, 0, P_X7_measureFrom, C_X7_measureFrom) := Or.inl ⟨183, 1, yX7_measureFrom, cX7_measureFrom, 3, none, rm_X7_measureFrom, rfl, rfl, o, ca_X7_measureFrom, mkX8_183, ⟨rfl, rfl, by decide, by decide⟩, rv_X7_measureFrom⟩
theorem si_X8_route_45 {l : Launch} {D : va_G} {cy : Nat → ClassId} {ad : Nat → Nat} (o : OK_X7_lengthTo l D cy ad) : Site l D cy ad kdX lnX 46 yX8_route.cls tbX8_route rm_X8_route 45 (2, 1, P_X7_lengthTo, C_X7_lengthTo) := Or.inl ⟨187, 1, yX7_lengthTo, cX7_lengthTo, 2, (some .int), rm_X7_lengthTo, rfl, rfl, o, ca_X7_lengthTo, mkX8_187, ⟨rfl, rfl, by decide, by decide⟩, rv_X7_lengthTo⟩
theorem si_X8_route_65 {l : Launch} {D : va_G} {cy : Nat → ClassId} {ad : Nat → Nat} (o : OK_X7_routeTile l D cy ad) : Site l D cy ad kdX lnX 46 yX8_route.cls tbX8_route rm_X8_route 65 (4, 1, P_X7_routeTile, C_X7_routeTile) := Or.inl ⟨190, 3, yX7_routeTile, cX7_routeTile, 6, (some .int), rm_X7_routeTile, rfl, rfl, o, ca_X7_routeTile, mkX8_190, ⟨rfl, rfl, by decide, by decide⟩, rv_X7_routeTile⟩
set_option maxRecDepth 100000 in
set_option maxHeartbeats 4000000 in
theorem met_X8_route {l : Launch} {D : va_G} {cy : Nat → ClassId} {ad : Nat → Nat} (hA : jA ad 46) (o_X3_has : OK_X3_has l D cy ad) (o_X7_lengthTo : OK_X7_lengthTo l D cy ad) (o_X7_measureFrom : OK_X7_measureFrom l D cy ad) (o_X7_routeTile : OK_X7_routeTile l D cy ad) 
    (hent : ∀ (p : Nat) (t : Int) (o : Int) (k : Int) (M0 : Mem), p_X8_route p t o k M0 → okM M0 → inR t → inR o → inR k → kdX p = 8 ∧ (p_X3_has 1 t M0 ∧ ∀ (x2 : Int) (M1 : Mem), inR x2 → okM M1 → c_X3_has 1 t M0 x2 M1 → ((x2 = (0 : Int) → ((True) ∧ c_X8_route p t o k M0 (-1) M1)) ∧ (¬ x2 = (0 : Int) → (kdX p = 8 ∧ (p_X3_has 1 o M1 ∧ ∀ (x4 : Int) (M3 : Mem), inR x4 → okM M3 → c_X3_has 1 o M1 x4 M3 → ((¬ x4 = (0 : Int) → (((-1 : Int) ≤ k → (kdX p = 8 ∧ (p_X7_measureFrom 7 o M3 ∧ ∀ (x6 : Int) (M5 : Mem), inR x6 → okM M5 → c_X7_measureFrom 7 o M3 x6 M5 → (kdX p = 8 ∧ (p_X7_lengthTo 7 t M5 ∧ ∀ (x8 : Int) (M7 : Mem), inR x8 → okM M7 → c_X7_lengthTo 7 t M5 x8 M7 → ((¬ x8 = (-4 : Int) → (kdX p = 8 ∧ (p_X7_routeTile 7 t o k M7 ∧ ∀ (x10 : Int) (M9 : Mem), inR x10 → okM M9 → c_X7_routeTile 7 t o k M7 x10 M9 → ((True) ∧ c_X8_route p t o k M0 x10 M9)))) ∧ (¬ (¬ x8 = (-4 : Int)) → ((True) ∧ c_X8_route p t o k M0 (-4) M7)))))))) ∧ (¬ (-1 : Int) ≤ k → ((True) ∧ c_X8_route p t o k M0 (-2) M3)))) ∧ (¬ (¬ x4 = (0 : Int)) → ((True) ∧ c_X8_route p t o k M0 (-1) M3)))))))))
    : OK_X8_route l D cy ad := by
  refine met_of (tb := tbX8_route) (ft := ftX8) (cst := cst0) (ct := ct_X8_route) (cuts := []) 38 (JA_X8_route ) hA jWX (by decide) tbX8_route_ok (by decide) ftX8_ok cst0_ok (ldc_of (tb := tbX8_route) (cst := cst0) (by decide)) rfl (List.forall_mem_cons.mpr ⟨si_X8_route_5 o_X3_has, List.forall_mem_cons.mpr ⟨si_X8_route_16 o_X3_has, List.forall_mem_cons.mpr ⟨si_X8_route_37 o_X7_measureFrom, List.forall_mem_cons.mpr ⟨si_X8_route_45 o_X7_lengthTo, List.forall_mem_cons.mpr ⟨si_X8_route_65 o_X7_routeTile, fun q h => absurd h List.not_mem_nil⟩⟩⟩⟩⟩) ?_ ?_ ?_
  · intro as M0 h
    unfold P_X8_route at h
    split at h
    · exact Nat.le_of_ble_eq_true rfl
    · exact h.elim
  · intro as M0 h hM has
    unfold P_X8_route at h
    split at h
    next p t o k => exact hent p t o k M0 h hM (has t (by simp)) (has o (by simp)) (has k (by simp))
    · exact h.elim
  · intro as M0 h hM has pc ls st M n hI hM1
    unfold P_X8_route at h
    split at h
    · exact hI.elim
    · exact h.elim
abbrev p_X8_farthest (p : Nat) (t : Int) (M : Mem) : Prop := kdX p = 8 ∧ p = 0 ∧ (∃ σ, absX M σ)
abbrev c_X8_farthest (p : Nat) (t : Int) (M : Mem) (x : Int) (M' : Mem) : Prop := ∀ σ, absX M σ → x = F_farthest σ t ∧ absX M' σ
def P_X8_farthest (as : List AV) (M : Mem) : Prop := match as with
  | [.inr p, .inl t] => p_X8_farthest p t M
  | _ => False
def C_X8_farthest (as : List AV) (M : Mem) (x : Int) (M' : Mem) : Prop := match as with
  | [.inr p, .inl t] => c_X8_farthest p t M x M'
  | _ => False
abbrev rm_X8_farthest : Room := { frames := 4, cells := 0, slots := 0, locals := 92 }
abbrev OK_X8_farthest (l : Launch) (D : va_G) (cy : Nat → ClassId) (ad : Nat → Nat) : Prop := MetA l D cy ad kdX lnX 46 yX8_farthest cX8_farthest 2 (some .int) rm_X8_farthest 1 P_X8_farthest C_X8_farthest
theorem ca_X8_farthest : CalV yX8_farthest cX8_farthest 2 (some .int) 1 := ⟨⟨wcX8_farthest, wnX8, by decide +kernel, by decide +kernel, by decide +kernel⟩, wiX8_farthest, wlX8_farthest⟩
theorem rv_X8_farthest : ∀ as M, P_X8_farthest as M → ∃ a As q, as = .inr a :: As ∧ vwCl[kdX a]? = some q ∧ q.1 = yX8_farthest.cls := by
  intro as M h
  unfold P_X8_farthest at h
  split at h
  · exact ⟨_, _, (RX8, TX8, 8), rfl, by rw [h.1]; rfl, rfl⟩
  · exact h.elim
def ct_X8_farthest : List (Nat × CS) := [(5, (2, 2, P_X3_has, C_X3_has)), (18, (2, 0, P_X7_measureFrom, C_X7_measureFrom)), (26, (2, 1, P_X7_farthestTile, C_X7_farthestTile))]
def J_X8_farthest  (p : Nat) (t : Int) (M0 : Mem) : IT := fun pc ls st M μ => match pc, ls, st, M, μ with
  | _, _, _, _, _ => False
def JA_X8_farthest  (as : List AV) (M0 : Mem) : IT := match as with
  | [.inr p, .inl t] => J_X8_farthest  p t M0
  | _ => fun _ _ _ _ _ => False
theorem si_X8_farthest_5 {l : Launch} {D : va_G} {cy : Nat → ClassId} {ad : Nat → Nat} (o : OK_X3_has l D cy ad) : Site l D cy ad kdX lnX 46 yX8_farthest.cls tbX8_farthest rm_X8_farthest 5 (2, 2, P_X3_has, C_X3_has) := Or.inl ⟨111, 1, yX3_has, cX3_has, 2, (some .boolean), rm_X3_has, rfl, rfl, o, ca_X3_has, mkX8_111, ⟨rfl, rfl, by decide, by decide⟩, rv_X3_has⟩
theorem si_X8_farthest_18 {l : Launch} {D : va_G} {cy : Nat → ClassId} {ad : Nat → Nat} (o : OK_X7_measureFrom l D cy ad) : Site l D cy ad kdX lnX 46 yX8_farthest.cls tbX8_farthest rm_X8_farthest 18 (2, 0, P_X7_measureFrom, C_X7_measureFrom) := Or.inl ⟨183, 1, yX7_measureFrom, cX7_measureFrom, 3, none, rm_X7_measureFrom, rfl, rfl, o, ca_X7_measureFrom, mkX8_183, ⟨rfl, rfl, by decide, by decide⟩, rv_X7_measureFrom⟩
theorem si_X8_farthest_26 {l : Launch} {D : va_G} {cy : Nat → ClassId} {ad : Nat → Nat} (o : OK_X7_farthestTile l D cy ad) : Site l D cy ad kdX lnX 46 yX8_farthest.cls tbX8_farthest rm_X8_farthest 26 (2, 1, P_X7_farthestTile, C_X7_farthestTile) := Or.inl ⟨194, 1, yX7_farthestTile, cX7_farthestTile, 4, (some .int), rm_X7_farthestTile, rfl, rfl, o, ca_X7_farthestTile, mkX8_194, ⟨rfl, rfl, by decide, by decide⟩, rv_X7_farthestTile⟩
set_option maxRecDepth 100000 in
set_option maxHeartbeats 4000000 in
theorem met_X8_farthest {l : Launch} {D : va_G} {cy : Nat → ClassId} {ad : Nat → Nat} (hA : jA ad 46) (o_X3_has : OK_X3_has l D cy ad) (o_X7_farthestTile : OK_X7_farthestTile l D cy ad) (o_X7_measureFrom : OK_X7_measureFrom l D cy ad) 
    (hent : ∀ (p : Nat) (t : Int) (M0 : Mem), p_X8_farthest p t M0 → okM M0 → inR t → kdX p = 8 ∧ (p_X3_has 1 t M0 ∧ ∀ (x2 : Int) (M1 : Mem), inR x2 → okM M1 → c_X3_has 1 t M0 x2 M1 → ((¬ x2 = (0 : Int) → (kdX p = 8 ∧ (p_X7_measureFrom 7 t M1 ∧ ∀ (x4 : Int) (M3 : Mem), inR x4 → okM M3 → c_X7_measureFrom 7 t M1 x4 M3 → (kdX p = 8 ∧ (p_X7_farthestTile 7 t M3 ∧ ∀ (x6 : Int) (M5 : Mem), inR x6 → okM M5 → c_X7_farthestTile 7 t M3 x6 M5 → ((True) ∧ c_X8_farthest p t M0 x6 M5)))))) ∧ (¬ (¬ x2 = (0 : Int)) → ((True) ∧ c_X8_farthest p t M0 (-1) M1)))))
    : OK_X8_farthest l D cy ad := by
  refine met_of (tb := tbX8_farthest) (ft := ftX8) (cst := cst0) (ct := ct_X8_farthest) (cuts := []) 18 (JA_X8_farthest ) hA jWX (by decide) tbX8_farthest_ok (by decide) ftX8_ok cst0_ok (ldc_of (tb := tbX8_farthest) (cst := cst0) (by decide)) rfl (List.forall_mem_cons.mpr ⟨si_X8_farthest_5 o_X3_has, List.forall_mem_cons.mpr ⟨si_X8_farthest_18 o_X7_measureFrom, List.forall_mem_cons.mpr ⟨si_X8_farthest_26 o_X7_farthestTile, fun q h => absurd h List.not_mem_nil⟩⟩⟩) ?_ ?_ ?_
  · intro as M0 h
    unfold P_X8_farthest at h
    split at h
    · exact Nat.le_of_ble_eq_true rfl
    · exact h.elim
  · intro as M0 h hM has
    unfold P_X8_farthest at h
    split at h
    next p t => exact hent p t M0 h hM (has t (by simp))
    · exact h.elim
  · intro as M0 h hM has pc ls st M n hI hM1
    unfold P_X8_farthest at h
    split at h
    · exact hI.elim
    · exact h.elim
abbrev p_X8_within (p : Nat) (t : Int) (v : Int) (M : Mem) : Prop := kdX p = 8 ∧ p = 0 ∧ (∃ σ, absX M σ)
abbrev c_X8_within (p : Nat) (t : Int) (v : Int) (M : Mem) (x : Int) (M' : Mem) : Prop := ∀ σ, absX M σ → x = F_within σ t v ∧ absX M' σ
def P_X8_within (as : List AV) (M : Mem) : Prop := match as with
  | [.inr p, .inl t, .inl v] => p_X8_within p t v M
  | _ => False
def C_X8_within (as : List AV) (M : Mem) (x : Int) (M' : Mem) : Prop := match as with
  | [.inr p, .inl t, .inl v] => c_X8_within p t v M x M'
  | _ => False
abbrev rm_X8_within : Room := { frames := 4, cells := 0, slots := 0, locals := 92 }
abbrev OK_X8_within (l : Launch) (D : va_G) (cy : Nat → ClassId) (ad : Nat → Nat) : Prop := MetA l D cy ad kdX lnX 46 yX8_within cX8_within 3 (some .int) rm_X8_within 1 P_X8_within C_X8_within
theorem ca_X8_within : CalV yX8_within cX8_within 3 (some .int) 2 := ⟨⟨wcX8_within, wnX8, by decide +kernel, by decide +kernel, by decide +kernel⟩, wiX8_within, wlX8_within⟩
theorem rv_X8_within : ∀ as M, P_X8_within as M → ∃ a As q, as = .inr a :: As ∧ vwCl[kdX a]? = some q ∧ q.1 = yX8_within.cls := by
  intro as M h
  unfold P_X8_within at h
  split at h
  · exact ⟨_, _, (RX8, TX8, 8), rfl, by rw [h.1]; rfl, rfl⟩
  · exact h.elim
def ct_X8_within : List (Nat × CS) := [(5, (2, 2, P_X3_has, C_X3_has)), (25, (2, 0, P_X7_measureFrom, C_X7_measureFrom)), (33, (2, 1, P_X7_tilesUpTo, C_X7_tilesUpTo))]
def J_X8_within  (p : Nat) (t : Int) (v : Int) (M0 : Mem) : IT := fun pc ls st M μ => match pc, ls, st, M, μ with
  | _, _, _, _, _ => False
def JA_X8_within  (as : List AV) (M0 : Mem) : IT := match as with
  | [.inr p, .inl t, .inl v] => J_X8_within  p t v M0
  | _ => fun _ _ _ _ _ => False
theorem si_X8_within_5 {l : Launch} {D : va_G} {cy : Nat → ClassId} {ad : Nat → Nat} (o : OK_X3_has l D cy ad) : Site l D cy ad kdX lnX 46 yX8_within.cls tbX8_within rm_X8_within 5 (2, 2, P_X3_has, C_X3_has) := Or.inl ⟨111, 1, yX3_has, cX3_has, 2, (some .boolean), rm_X3_has, rfl, rfl, o, ca_X3_has, mkX8_111, ⟨rfl, rfl, by decide, by decide⟩, rv_X3_has⟩
theorem si_X8_within_25 {l : Launch} {D : va_G} {cy : Nat → ClassId} {ad : Nat → Nat} (o : OK_X7_measureFrom l D cy ad) : Site l D cy ad kdX lnX 46 yX8_within.cls tbX8_within rm_X8_within 25 (2, 0, P_X7_measureFrom, C_X7_measureFrom) := Or.inl ⟨183, 1, yX7_measureFrom, cX7_measureFrom, 3, none, rm_X7_measureFrom, rfl, rfl, o, ca_X7_measureFrom, mkX8_183, ⟨rfl, rfl, by decide, by decide⟩, rv_X7_measureFrom⟩
theorem si_X8_within_33 {l : Launch} {D : va_G} {cy : Nat → ClassId} {ad : Nat → Nat} (o : OK_X7_tilesUpTo l D cy ad) : Site l D cy ad kdX lnX 46 yX8_within.cls tbX8_within rm_X8_within 33 (2, 1, P_X7_tilesUpTo, C_X7_tilesUpTo) := Or.inl ⟨197, 1, yX7_tilesUpTo, cX7_tilesUpTo, 4, (some .int), rm_X7_tilesUpTo, rfl, rfl, o, ca_X7_tilesUpTo, mkX8_197, ⟨rfl, rfl, by decide, by decide⟩, rv_X7_tilesUpTo⟩
set_option maxRecDepth 100000 in
set_option maxHeartbeats 4000000 in
theorem met_X8_within {l : Launch} {D : va_G} {cy : Nat → ClassId} {ad : Nat → Nat} (hA : jA ad 46) (o_X3_has : OK_X3_has l D cy ad) (o_X7_measureFrom : OK_X7_measureFrom l D cy ad) (o_X7_tilesUpTo : OK_X7_tilesUpTo l D cy ad) 
    (hent : ∀ (p : Nat) (t : Int) (v : Int) (M0 : Mem), p_X8_within p t v M0 → okM M0 → inR t → inR v → kdX p = 8 ∧ (p_X3_has 1 t M0 ∧ ∀ (x2 : Int) (M1 : Mem), inR x2 → okM M1 → c_X3_has 1 t M0 x2 M1 → ((¬ x2 = (0 : Int) → (((0 : Int) ≤ v → (kdX p = 8 ∧ (p_X7_measureFrom 7 t M1 ∧ ∀ (x4 : Int) (M3 : Mem), inR x4 → okM M3 → c_X7_measureFrom 7 t M1 x4 M3 → (kdX p = 8 ∧ (p_X7_tilesUpTo 7 v M3 ∧ ∀ (x6 : Int) (M5 : Mem), inR x6 → okM M5 → c_X7_tilesUpTo 7 v M3 x6 M5 → ((True) ∧ c_X8_within p t v M0 x6 M5)))))) ∧ (¬ (0 : Int) ≤ v → ((True) ∧ c_X8_within p t v M0 (-2) M1)))) ∧ (¬ (¬ x2 = (0 : Int)) → ((True) ∧ c_X8_within p t v M0 (-1) M1)))))
    : OK_X8_within l D cy ad := by
  refine met_of (tb := tbX8_within) (ft := ftX8) (cst := cst0) (ct := ct_X8_within) (cuts := []) 22 (JA_X8_within ) hA jWX (by decide) tbX8_within_ok (by decide) ftX8_ok cst0_ok (ldc_of (tb := tbX8_within) (cst := cst0) (by decide)) rfl (List.forall_mem_cons.mpr ⟨si_X8_within_5 o_X3_has, List.forall_mem_cons.mpr ⟨si_X8_within_25 o_X7_measureFrom, List.forall_mem_cons.mpr ⟨si_X8_within_33 o_X7_tilesUpTo, fun q h => absurd h List.not_mem_nil⟩⟩⟩) ?_ ?_ ?_
  · intro as M0 h
    unfold P_X8_within at h
    split at h
    · exact Nat.le_of_ble_eq_true rfl
    · exact h.elim
  · intro as M0 h hM has
    unfold P_X8_within at h
    split at h
    next p t v => exact hent p t v M0 h hM (has t (by simp)) (has v (by simp))
    · exact h.elim
  · intro as M0 h hM has pc ls st M n hI hM1
    unfold P_X8_within at h
    split at h
    · exact hI.elim
    · exact h.elim
abbrev p_X8_nearest (p : Nat) (t : Int) (k : Int) (M : Mem) : Prop := kdX p = 8 ∧ p = 0 ∧ (∃ σ, absX M σ)
abbrev c_X8_nearest (p : Nat) (t : Int) (k : Int) (M : Mem) (x : Int) (M' : Mem) : Prop := ∀ σ, absX M σ → x = F_nearest σ t k ∧ absX M' σ
def P_X8_nearest (as : List AV) (M : Mem) : Prop := match as with
  | [.inr p, .inl t, .inl k] => p_X8_nearest p t k M
  | _ => False
def C_X8_nearest (as : List AV) (M : Mem) (x : Int) (M' : Mem) : Prop := match as with
  | [.inr p, .inl t, .inl k] => c_X8_nearest p t k M x M'
  | _ => False
abbrev rm_X8_nearest : Room := { frames := 4, cells := 0, slots := 0, locals := 92 }
abbrev OK_X8_nearest (l : Launch) (D : va_G) (cy : Nat → ClassId) (ad : Nat → Nat) : Prop := MetA l D cy ad kdX lnX 46 yX8_nearest cX8_nearest 3 (some .int) rm_X8_nearest 1 P_X8_nearest C_X8_nearest
theorem ca_X8_nearest : CalV yX8_nearest cX8_nearest 3 (some .int) 2 := ⟨⟨wcX8_nearest, wnX8, by decide +kernel, by decide +kernel, by decide +kernel⟩, wiX8_nearest, wlX8_nearest⟩
theorem rv_X8_nearest : ∀ as M, P_X8_nearest as M → ∃ a As q, as = .inr a :: As ∧ vwCl[kdX a]? = some q ∧ q.1 = yX8_nearest.cls := by
  intro as M h
  unfold P_X8_nearest at h
  split at h
  · exact ⟨_, _, (RX8, TX8, 8), rfl, by rw [h.1]; rfl, rfl⟩
  · exact h.elim
def ct_X8_nearest : List (Nat × CS) := [(5, (2, 2, P_X3_has, C_X3_has)), (14, (1, 2, P_X8_isKind, C_X8_isKind)), (28, (2, 0, P_X7_measureFrom, C_X7_measureFrom)), (36, (2, 1, P_X7_nearestOf, C_X7_nearestOf))]
def J_X8_nearest  (p : Nat) (t : Int) (k : Int) (M0 : Mem) : IT := fun pc ls st M μ => match pc, ls, st, M, μ with
  | _, _, _, _, _ => False
def JA_X8_nearest  (as : List AV) (M0 : Mem) : IT := match as with
  | [.inr p, .inl t, .inl k] => J_X8_nearest  p t k M0
  | _ => fun _ _ _ _ _ => False
theorem si_X8_nearest_5 {l : Launch} {D : va_G} {cy : Nat → ClassId} {ad : Nat → Nat} (o : OK_X3_has l D cy ad) : Site l D cy ad kdX lnX 46 yX8_nearest.cls tbX8_nearest rm_X8_nearest 5 (2, 2, P_X3_has, C_X3_has) := Or.inl ⟨111, 1, yX3_has, cX3_has, 2, (some .boolean), rm_X3_has, rfl, rfl, o, ca_X3_has, mkX8_111, ⟨rfl, rfl, by decide, by decide⟩, rv_X3_has⟩
theorem si_X8_nearest_14 {l : Launch} {D : va_G} {cy : Nat → ClassId} {ad : Nat → Nat} (o : OK_X8_isKind l D cy ad) : Site l D cy ad kdX lnX 46 yX8_nearest.cls tbX8_nearest rm_X8_nearest 14 (1, 2, P_X8_isKind, C_X8_isKind) := Or.inr (Or.inl ⟨149, 1, yX8_isKind, cX8_isKind, 1, (some .boolean), rm_X8_isKind, rfl, rfl, o, ca_X8_isKind, mkX8_149, rfl, ⟨rfl, rfl, by decide, by decide⟩⟩)
theorem si_X8_nearest_28 {l : Launch} {D : va_G} {cy : Nat → ClassId} {ad : Nat → Nat} (o : OK_X7_measureFrom l D cy ad) : Site l D cy ad kdX lnX 46 yX8_nearest.cls tbX8_nearest rm_X8_nearest 28 (2, 0, P_X7_measureFrom, C_X7_measureFrom) := Or.inl ⟨183, 1, yX7_measureFrom, cX7_measureFrom, 3, none, rm_X7_measureFrom, rfl, rfl, o, ca_X7_measureFrom, mkX8_183, ⟨rfl, rfl, by decide, by decide⟩, rv_X7_measureFrom⟩
theorem si_X8_nearest_36 {l : Launch} {D : va_G} {cy : Nat → ClassId} {ad : Nat → Nat} (o : OK_X7_nearestOf l D cy ad) : Site l D cy ad kdX lnX 46 yX8_nearest.cls tbX8_nearest rm_X8_nearest 36 (2, 1, P_X7_nearestOf, C_X7_nearestOf) := Or.inl ⟨200, 1, yX7_nearestOf, cX7_nearestOf, 4, (some .int), rm_X7_nearestOf, rfl, rfl, o, ca_X7_nearestOf, mkX8_200, ⟨rfl, rfl, by decide, by decide⟩, rv_X7_nearestOf⟩
set_option maxRecDepth 100000 in
set_option maxHeartbeats 4000000 in
theorem met_X8_nearest {l : Launch} {D : va_G} {cy : Nat → ClassId} {ad : Nat → Nat} (hA : jA ad 46) (o_X3_has : OK_X3_has l D cy ad) (o_X7_measureFrom : OK_X7_measureFrom l D cy ad) (o_X7_nearestOf : OK_X7_nearestOf l D cy ad) (o_X8_isKind : OK_X8_isKind l D cy ad) 
    (hent : ∀ (p : Nat) (t : Int) (k : Int) (M0 : Mem), p_X8_nearest p t k M0 → okM M0 → inR t → inR k → kdX p = 8 ∧ (p_X3_has 1 t M0 ∧ ∀ (x2 : Int) (M1 : Mem), inR x2 → okM M1 → c_X3_has 1 t M0 x2 M1 → ((¬ x2 = (0 : Int) → (p_X8_isKind k M1 ∧ ∀ (x4 : Int) (M3 : Mem), inR x4 → okM M3 → c_X8_isKind k M1 x4 M3 → ((¬ x4 = (0 : Int) → (kdX p = 8 ∧ (p_X7_measureFrom 7 t M3 ∧ ∀ (x6 : Int) (M5 : Mem), inR x6 → okM M5 → c_X7_measureFrom 7 t M3 x6 M5 → (kdX p = 8 ∧ (p_X7_nearestOf 7 k M5 ∧ ∀ (x8 : Int) (M7 : Mem), inR x8 → okM M7 → c_X7_nearestOf 7 k M5 x8 M7 → ((True) ∧ c_X8_nearest p t k M0 x8 M7)))))) ∧ (¬ (¬ x4 = (0 : Int)) → ((True) ∧ c_X8_nearest p t k M0 (-2) M3))))) ∧ (¬ (¬ x2 = (0 : Int)) → ((True) ∧ c_X8_nearest p t k M0 (-1) M1)))))
    : OK_X8_nearest l D cy ad := by
  refine met_of (tb := tbX8_nearest) (ft := ftX8) (cst := cst0) (ct := ct_X8_nearest) (cuts := []) 23 (JA_X8_nearest ) hA jWX (by decide) tbX8_nearest_ok (by decide) ftX8_ok cst0_ok (ldc_of (tb := tbX8_nearest) (cst := cst0) (by decide)) rfl (List.forall_mem_cons.mpr ⟨si_X8_nearest_5 o_X3_has, List.forall_mem_cons.mpr ⟨si_X8_nearest_14 o_X8_isKind, List.forall_mem_cons.mpr ⟨si_X8_nearest_28 o_X7_measureFrom, List.forall_mem_cons.mpr ⟨si_X8_nearest_36 o_X7_nearestOf, fun q h => absurd h List.not_mem_nil⟩⟩⟩⟩) ?_ ?_ ?_
  · intro as M0 h
    unfold P_X8_nearest at h
    split at h
    · exact Nat.le_of_ble_eq_true rfl
    · exact h.elim
  · intro as M0 h hM has
    unfold P_X8_nearest at h
    split at h
    next p t k => exact hent p t k M0 h hM (has t (by simp)) (has k (by simp))
    · exact h.elim
  · intro as M0 h hM has pc ls st M n hI hM1
    unfold P_X8_nearest at h
    split at h
    · exact hI.elim
    · exact h.elim
