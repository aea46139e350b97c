/-! ===== the constructors of the map and of the model: from the cells to the small machine's worlds ===== -/
def mX0 : Mem := fun a k => if a = 0 then (if k = 6 then 30 else if k = 7 then 38 else 0) else 0
theorem mX0_ok : okM mX0 := fun a k => by
  unfold mX0
  split
  · split
    · decide
    · split <;> decide
  · decide
theorem in65 : ∀ x, (Sum.inl x : AV) ∈ ([.inl 6, .inl 5] : List AV) → inR x := fun x hx => by
  rcases List.mem_cons.mp hx with h | h
  · cases h; decide
  · rcases List.mem_cons.mp h with h | h
    · cases h; decide
    · cases h
/-- the map's state at the start -/
def sZ : Mem := G_reset (fun _ _ => 0) 6 5
theorem wld_of {D : va_G} {ad kd ln : Nat → Nat} {cy : Nat → ClassId} {nc : Nat} {M : Mem} {H : Heap} (h : ∀ a, a < nc → va_at D vwCl (ad a, eOf ad kd ln cy M a) H) : va_P D vwCl (wld ad kd ln cy nc M) H := by
  intro k q hq
  have hl : k < nc := by
    have := (List.getElem?_eq_some_iff.mp hq).1
    simpa [wld] using this
  rw [wld_at hl] at hq
  cases hq
  exact h k hl
section JW
variable {D : va_G} {cl : List vw_C} {ad kd ln : Nat → Nat} {cy : Nat → ClassId} {M : Mem} {H : Heap} {q a ci n : Nat}
theorem jw_arr (h : va_at D cl (q, .inl (cy ci, n, .inl (fun _ => 0))) H) (h1 : ad a = q) (h2 : kd a = ci) (h3 : 20 ≤ ci ∧ ci ≠ 23) (h4 : ln a = n) (h5 : ∀ j, M a j = 0) : va_at D cl (ad a, eOf ad kd ln cy M a) H := by
  rw [eOf_arr h2 h3.1 h3.2, h1, h4, show (fun j => I32 (M a j)) = fun _ => 0 from funext fun j => by rw [h5]; exact I32_0]
  exact h
theorem jw_obj {fs : List Value} (h : va_at D cl (q, .inr (ci, fs)) H) (h1 : ad a = q) (h2 : kd a = ci) (h3 : ci < 20) (h4 : flds ad ci a M = fs) : va_at D cl (ad a, eOf ad kd ln cy M a) H := by
  rw [eOf_obj h2 h3, h1, h4]
  exact h
theorem jw_rows (h : va_at D cl (q, mwE cy q) H) (h1 : ad a = q) (h2 : kd a = 23) (h3 : ln a = 12) (h4 : ∀ i, i < 12 → ad (a + 1 + i) = q + 1 + i) : va_at D cl (ad a, eOf ad kd ln cy M a) H := by
  rw [eOf_rows h2, h1, h3]
  have h' : H[q]? = some (vp_cell (cy 23) (12, .inr (.inr (.inr (.inr (fun i => some (q + 1 + i))))))) := h
  show H[q]? = some (vp_cell (cy 23) (12, .inr (.inr (.inr (.inr (fun i => some (ad (a + 1 + i))))))))
  rw [h', vp_cell_q, vp_cell_q]
  exact congrArg some (arrV_cg (fun j hj => by rw [h4 j hj]))
theorem jA_of {A : Nat → Prop} {ws : va_W} {pos adl : List Nat} (hD : va_D A ws) (h : pos.map (fun i => (ws[i]?).map Prod.fst) = adl.map some) (hn : va_nd pos = true) : jA (fun a => adl.getD a 0) adl.length ∧ ∀ a, a < adl.length → A (adl.getD a 0) := by
  have hl : pos.length = adl.length := by
    have := congrArg List.length h
    rw [List.length_map, List.length_map] at this
    exact this
  have key : ∀ a, a < adl.length → ∃ i e, pos[a]? = some i ∧ ws[i]? = some (adl.getD a 0, e) := by
    intro a ha
    have h1 : (pos.map (fun i => (ws[i]?).map Prod.fst))[a]? = (adl.map some)[a]? := by rw [h]
    rw [List.getElem?_map, List.getElem?_map, List.getElem?_eq_getElem ha, List.getElem?_eq_getElem (by omega)] at h1
    have h2 : (ws[pos[a]'(by omega)]?).map Prod.fst = some adl[a] := Option.some.inj h1
    obtain ⟨e, e1, e2⟩ := Option.map_eq_some_iff.mp h2
    have e3 : adl.getD a 0 = adl[a] := by rw [List.getD_eq_getElem?_getD, List.getElem?_eq_getElem ha]; rfl
    exact ⟨pos[a]'(by omega), e.2, List.getElem?_eq_getElem (by omega), by rw [e1, e3, ← e2]⟩
  refine ⟨fun a b ha hb hab => ?_, fun a ha => ?_⟩
  · obtain ⟨i, e, h1, h2⟩ := key a ha
    obtain ⟨j, f, h3, h4⟩ := key b hb
    have := hD.1 i j _ _ h2 h4 hab
    subst this
    exact va_nd_inj pos hn a b i h1 h3
  · obtain ⟨i, e, h1, h2⟩ := key a ha
    exact hD.2 i _ h2
end JW
set_option maxHeartbeats 4000000 in
set_option maxRecDepth 100000 in
theorem oX9_init (l : Launch) (D : va_G) (cy : Nat → ClassId) (h0 sz : Nat) : Met l yX9_init (Cond.code yX9_init cX9_init 1 none :: wtb) ({ frames := 1, cells := 11, slots := 3046, locals := 23 }) (va_Pc [.ref h0] (fun U => U.heap.size = sz ∧ va_P D vwCl [(h0, .inr (9, [.int 0, .int 0, .int 0, .null, .null, .int 0, .int 0, .int 0, .int 0, .int 0, .null, .null, .null, .null, .null, .null, .int 0, .null, .null, .null]))] U.heap ∧ va_K D vwCl (tysJ cy) U ∧ va_D (fun _ => True) [(h0, .inr (9, [.int 0, .int 0, .int 0, .null, .null, .int 0, .int 0, .int 0, .int 0, .int 0, .null, .null, .null, .null, .null, .null, .int 0, .null, .null, .null]))] ∧ nestOK U)) (va_Qv (fun _ : Unit => True) (fun _ t => ∃ (ad : Nat → Nat) (M : Mem), jA ad 12 ∧ ad 0 = h0 ∧ (∀ a, a < 12 → va_A [(h0, .inr (9, [.int 0, .int 0, .int 0, .null, .null, .int 0, .int 0, .int 0, .int 0, .int 0, .null, .null, .null, .null, .null, .null, .int 0, .null, .null, .null]))] sz (ad a)) ∧ okM M ∧ absY M sZ ∧ va_P D vwCl (wld ad kdY lnY cy 12 M) t.heap) (va_A [(h0, .inr (9, [.int 0, .int 0, .int 0, .null, .null, .int 0, .int 0, .int 0, .int 0, .int 0, .null, .null, .null, .null, .null, .null, .int 0, .null, .null, .null]))] sz)) 11 3046 (va_A [(h0, .inr (9, [.int 0, .int 0, .int 0, .null, .null, .int 0, .int 0, .int 0, .int 0, .int 0, .null, .null, .null, .null, .null, .null, .int 0, .null, .null, .null]))] sz) := by
  refine Met.ofW (cc := cX9_init) (maxL := 1) (ret := none) (by decide) rfl ?_
  intro p e s m args below meth c s₁ B hml hv
  obtain ⟨rfl, hsz, hP, hK, hD0, hN⟩ := hv
  have hx := B.exec
  have hb := B.bytes
  have hr := B.returns
  have hts0 := atoms_spec (ws := Cond.code yX9_init cX9_init 1 none :: wtb) B.pre
  have hts : ∀ w ∈ wtb, w.before _ s = true := fun w hw => hts0 w (List.mem_cons_of_mem _ hw)
  have hown : s.vm.findClass RX9 = some m.cls := findClass_of_methodNamed B.named
  have hlocks := B.notSynchronized
  have hin : meth.name = "<init>" := (name_of_methodNamed B.named B.method).1
  subst hsz
  have hD := hD0.self (sz := s.heap.size)
  generalize hAe : va_A [(h0, .inr (9, [.int 0, .int 0, .int 0, .null, .null, .int 0, .int 0, .int 0, .int 0, .int 0, .null, .null, .null, .null, .null, .null, .int 0, .null, .null, .null]))] s.heap.size = A at hD ⊢
  have hA : ∀ q : Nat, s.heap.size ≤ q → A q := fun q h => by rw [← hAe]; exact Or.inr h
  have hS : va_S A s.heap s.heap [] := va_S.rf
  have hP : va_P D vwCl [(h0, .inr (9, [.int 0, .int 0, .int 0, .null, .null, .int 0, .int 0, .int 0, .int 0, .int 0, .null, .null, .null, .null, .null, .null, .int 0, .null, .null, .null]))] s.heap := hP
  have hl := lv_entry ([.ref h0]) (n := 1) (Nat.le_of_ble_eq_true rfl)
  rw [lg_entry_eq]
  generalize (lg_sl ([.ref h0]) ++ List.replicate (1 - (lg_sl ([.ref h0])).length) Slot.unset).toArray = ls at hl ⊢
  have hl : lv_has ls 1 [(0, .ref h0)] := hl
  refine lv_aload_n hx hb dX9_init_0 rfl (lv_at hl 0 rfl) ?_
  refine W.objInit hx hb hown (hts _ (wtb_in (w := .methodLink RX9 1 objectInit) (mem_at 724 (by decide +kernel)) rfl)) (hts _ wa_oi) (hts _ wa_oc) rfl (by rw [hml]; exact hl.1) rfl dX9_init_1 (Nat.le_of_ble_eq_true rfl) (Nat.le_of_ble_eq_true rfl) ?_
  refine W.eq (g2 := F0 m 4 ls []) rfl ?_
  refine lv_aload_n hx hb dX9_init_4 rfl (lv_at hl 0 rfl) ?_
  refine lv_sipush (v := 144) hx hb dX9_init_5 (by decide) ?_
  refine jc_new (atype := .int) hx hb (hts _ wa_int) (hK.2 1 _ rfl).2 rfl (by decide) hK hP hD hS hA (by decide) (N := 144) (by decide) (by decide) (by show 0 + 1 ≤ 11; decide) (by show 0 + 144 ≤ 3046; decide) dX9_init_8 (fun q1 H hP hD hS => ?_)
  refine W.widen (k := 1) (n := 144) (Nat.le_of_ble_eq_true rfl) (Nat.le_of_ble_eq_true rfl) ?_
  have hP : va_P D vwCl [(h0, .inr (9, [.int 0, .int 0, .int 0, .null, .null, .int 0, .int 0, .int 0, .int 0, .int 0, .null, .null, .null, .null, .null, .null, .int 0, .null, .null, .null])), (q1, .inl (cy 21, 144, .inl (fun _ => 0)))] _ := hP
  have hD : va_D A [(h0, .inr (9, [.int 0, .int 0, .int 0, .null, .null, .int 0, .int 0, .int 0, .int 0, .int 0, .null, .null, .null, .null, .null, .null, .int 0, .null, .null, .null])), (q1, .inl (cy 21, 144, .inl (fun _ => 0)))] := hD
  refine va_putF (D := D) (ci := 9) (v := .ref q1) (ty := .array .int) (C := RX9) (T := TX9) (N := 20) hx hb hts (clsOK_of (ci := 9) rfl).2.2.1 tyX9 tyX9_ok nmX9 hown hK hP hD hS 0 rfl rfl 3 (by decide) (hts _ (wtb_in (w := .fieldLink RX9 7 RX9 "kindOf" "[I") (mem_at 732 (by decide +kernel)) rfl)) (fun _ h9 => h9) rfl hin rfl (by decide +kernel) rfl rfl (Nat.le_of_ble_eq_true rfl) dX9_init_10 (fun H locs hP hD hS => ?_)
  have hP : va_P D vwCl [(h0, .inr (9, [.int 0, .int 0, .int 0, .ref q1, .null, .int 0, .int 0, .int 0, .int 0, .int 0, .null, .null, .null, .null, .null, .null, .int 0, .null, .null, .null])), (q1, .inl (cy 21, 144, .inl (fun _ => 0)))] _ := hP
  have hD : va_D A [(h0, .inr (9, [.int 0, .int 0, .int 0, .ref q1, .null, .int 0, .int 0, .int 0, .int 0, .int 0, .null, .null, .null, .null, .null, .null, .int 0, .null, .null, .null])), (q1, .inl (cy 21, 144, .inl (fun _ => 0)))] := hD
  refine lv_aload_n hx hb dX9_init_13 rfl (lv_at hl 0 rfl) ?_
  refine lv_bipush (v := 6) hx hb dX9_init_14 (by decide) ?_
  refine jc_new (atype := .int) hx hb (hts _ wa_int) (hK.2 1 _ rfl).2 rfl (by decide) hK hP hD hS hA (by decide) (N := 6) (by decide) (by decide) (by show 1 + 1 ≤ 11; decide) (by show 144 + 6 ≤ 3046; decide) dX9_init_16 (fun q2 H hP hD hS => ?_)
  refine W.widen (k := 2) (n := 150) (Nat.le_of_ble_eq_true rfl) (Nat.le_of_ble_eq_true rfl) ?_
  have hP : va_P D vwCl [(h0, .inr (9, [.int 0, .int 0, .int 0, .ref q1, .null, .int 0, .int 0, .int 0, .int 0, .int 0, .null, .null, .null, .null, .null, .null, .int 0, .null, .null, .null])), (q1, .inl (cy 21, 144, .inl (fun _ => 0))), (q2, .inl (cy 21, 6, .inl (fun _ => 0)))] _ := hP
  have hD : va_D A [(h0, .inr (9, [.int 0, .int 0, .int 0, .ref q1, .null, .int 0, .int 0, .int 0, .int 0, .int 0, .null, .null, .null, .null, .null, .null, .int 0, .null, .null, .null])), (q1, .inl (cy 21, 144, .inl (fun _ => 0))), (q2, .inl (cy 21, 6, .inl (fun _ => 0)))] := hD
  refine va_putF (D := D) (ci := 9) (v := .ref q2) (ty := .array .int) (C := RX9) (T := TX9) (N := 20) hx hb hts (clsOK_of (ci := 9) rfl).2.2.1 tyX9 tyX9_ok nmX9 hown hK hP hD hS 0 rfl rfl 4 (by decide) (hts _ (wtb_in (w := .fieldLink RX9 13 RX9 "weightOf" "[I") (mem_at 733 (by decide +kernel)) rfl)) (fun _ h9 => h9) rfl hin rfl (by decide +kernel) rfl rfl (Nat.le_of_ble_eq_true rfl) dX9_init_18 (fun H locs hP hD hS => ?_)
  have hP : va_P D vwCl [(h0, .inr (9, [.int 0, .int 0, .int 0, .ref q1, .ref q2, .int 0, .int 0, .int 0, .int 0, .int 0, .null, .null, .null, .null, .null, .null, .int 0, .null, .null, .null])), (q1, .inl (cy 21, 144, .inl (fun _ => 0))), (q2, .inl (cy 21, 6, .inl (fun _ => 0)))] _ := hP
  have hD : va_D A [(h0, .inr (9, [.int 0, .int 0, .int 0, .ref q1, .ref q2, .int 0, .int 0, .int 0, .int 0, .int 0, .null, .null, .null, .null, .null, .null, .int 0, .null, .null, .null])), (q1, .inl (cy 21, 144, .inl (fun _ => 0))), (q2, .inl (cy 21, 6, .inl (fun _ => 0)))] := hD
  refine lv_aload_n hx hb dX9_init_21 rfl (lv_at hl 0 rfl) ?_
  refine lv_sipush (v := 160) hx hb dX9_init_22 (by decide) ?_
  refine jc_new (atype := .char) hx hb (hts _ wa_char) (hK.2 0 _ rfl).2 rfl (by decide) hK hP hD hS hA (by decide) (N := 160) (by decide) (by decide) (by show 2 + 1 ≤ 11; decide) (by show 150 + 160 ≤ 3046; decide) dX9_init_25 (fun q3 H hP hD hS => ?_)
  refine W.widen (k := 3) (n := 310) (Nat.le_of_ble_eq_true rfl) (Nat.le_of_ble_eq_true rfl) ?_
  have hP : va_P D vwCl [(h0, .inr (9, [.int 0, .int 0, .int 0, .ref q1, .ref q2, .int 0, .int 0, .int 0, .int 0, .int 0, .null, .null, .null, .null, .null, .null, .int 0, .null, .null, .null])), (q1, .inl (cy 21, 144, .inl (fun _ => 0))), (q2, .inl (cy 21, 6, .inl (fun _ => 0))), (q3, .inl (cy 20, 160, .inl (fun _ => 0)))] _ := hP
  have hD : va_D A [(h0, .inr (9, [.int 0, .int 0, .int 0, .ref q1, .ref q2, .int 0, .int 0, .int 0, .int 0, .int 0, .null, .null, .null, .null, .null, .null, .int 0, .null, .null, .null])), (q1, .inl (cy 21, 144, .inl (fun _ => 0))), (q2, .inl (cy 21, 6, .inl (fun _ => 0))), (q3, .inl (cy 20, 160, .inl (fun _ => 0)))] := hD
  refine va_putF (D := D) (ci := 9) (v := .ref q3) (ty := .array .char) (C := RX9) (T := TX9) (N := 20) hx hb hts (clsOK_of (ci := 9) rfl).2.2.1 tyX9 tyX9_ok nmX9 hown hK hP hD hS 0 rfl rfl 10 (by decide) (hts _ (wtb_in (w := .fieldLink RX9 16 RX9 "text" "[C") (mem_at 739 (by decide +kernel)) rfl)) (fun _ h9 => h9) rfl hin rfl (by decide +kernel) rfl rfl (Nat.le_of_ble_eq_true rfl) dX9_init_27 (fun H locs hP hD hS => ?_)
  have hP : va_P D vwCl [(h0, .inr (9, [.int 0, .int 0, .int 0, .ref q1, .ref q2, .int 0, .int 0, .int 0, .int 0, .int 0, .ref q3, .null, .null, .null, .null, .null, .int 0, .null, .null, .null])), (q1, .inl (cy 21, 144, .inl (fun _ => 0))), (q2, .inl (cy 21, 6, .inl (fun _ => 0))), (q3, .inl (cy 20, 160, .inl (fun _ => 0)))] _ := hP
  have hD : va_D A [(h0, .inr (9, [.int 0, .int 0, .int 0, .ref q1, .ref q2, .int 0, .int 0, .int 0, .int 0, .int 0, .ref q3, .null, .null, .null, .null, .null, .int 0, .null, .null, .null])), (q1, .inl (cy 21, 144, .inl (fun _ => 0))), (q2, .inl (cy 21, 6, .inl (fun _ => 0))), (q3, .inl (cy 20, 160, .inl (fun _ => 0)))] := hD
  refine lv_aload_n hx hb dX9_init_30 rfl (lv_at hl 0 rfl) ?_
  refine lv_sipush (v := 144) hx hb dX9_init_31 (by decide) ?_
  refine jc_new (atype := .boolean) hx hb (hts _ wa_boolean) (hK.2 2 _ rfl).2 rfl (by decide) hK hP hD hS hA (by decide) (N := 144) (by decide) (by decide) (by show 3 + 1 ≤ 11; decide) (by show 310 + 144 ≤ 3046; decide) dX9_init_34 (fun q4 H hP hD hS => ?_)
  refine W.widen (k := 4) (n := 454) (Nat.le_of_ble_eq_true rfl) (Nat.le_of_ble_eq_true rfl) ?_
  have hP : va_P D vwCl [(h0, .inr (9, [.int 0, .int 0, .int 0, .ref q1, .ref q2, .int 0, .int 0, .int 0, .int 0, .int 0, .ref q3, .null, .null, .null, .null, .null, .int 0, .null, .null, .null])), (q1, .inl (cy 21, 144, .inl (fun _ => 0))), (q2, .inl (cy 21, 6, .inl (fun _ => 0))), (q3, .inl (cy 20, 160, .inl (fun _ => 0))), (q4, .inl (cy 22, 144, .inl (fun _ => 0)))] _ := hP
  have hD : va_D A [(h0, .inr (9, [.int 0, .int 0, .int 0, .ref q1, .ref q2, .int 0, .int 0, .int 0, .int 0, .int 0, .ref q3, .null, .null, .null, .null, .null, .int 0, .null, .null, .null])), (q1, .inl (cy 21, 144, .inl (fun _ => 0))), (q2, .inl (cy 21, 6, .inl (fun _ => 0))), (q3, .inl (cy 20, 160, .inl (fun _ => 0))), (q4, .inl (cy 22, 144, .inl (fun _ => 0)))] := hD
  refine va_putF (D := D) (ci := 9) (v := .ref q4) (ty := .array .boolean) (C := RX9) (T := TX9) (N := 20) hx hb hts (clsOK_of (ci := 9) rfl).2.2.1 tyX9 tyX9_ok nmX9 hown hK hP hD hS 0 rfl rfl 11 (by decide) (hts _ (wtb_in (w := .fieldLink RX9 20 RX9 "isSeen" "[Z") (mem_at 740 (by decide +kernel)) rfl)) (fun _ h9 => h9) rfl hin rfl (by decide +kernel) rfl rfl (Nat.le_of_ble_eq_true rfl) dX9_init_36 (fun H locs hP hD hS => ?_)
  have hP : va_P D vwCl [(h0, .inr (9, [.int 0, .int 0, .int 0, .ref q1, .ref q2, .int 0, .int 0, .int 0, .int 0, .int 0, .ref q3, .ref q4, .null, .null, .null, .null, .int 0, .null, .null, .null])), (q1, .inl (cy 21, 144, .inl (fun _ => 0))), (q2, .inl (cy 21, 6, .inl (fun _ => 0))), (q3, .inl (cy 20, 160, .inl (fun _ => 0))), (q4, .inl (cy 22, 144, .inl (fun _ => 0)))] _ := hP
  have hD : va_D A [(h0, .inr (9, [.int 0, .int 0, .int 0, .ref q1, .ref q2, .int 0, .int 0, .int 0, .int 0, .int 0, .ref q3, .ref q4, .null, .null, .null, .null, .int 0, .null, .null, .null])), (q1, .inl (cy 21, 144, .inl (fun _ => 0))), (q2, .inl (cy 21, 6, .inl (fun _ => 0))), (q3, .inl (cy 20, 160, .inl (fun _ => 0))), (q4, .inl (cy 22, 144, .inl (fun _ => 0)))] := hD
  refine lv_aload_n hx hb dX9_init_39 rfl (lv_at hl 0 rfl) ?_
  refine lv_sipush (v := 144) hx hb dX9_init_40 (by decide) ?_
  refine jc_new (atype := .int) hx hb (hts _ wa_int) (hK.2 1 _ rfl).2 rfl (by decide) hK hP hD hS hA (by decide) (N := 144) (by decide) (by decide) (by show 4 + 1 ≤ 11; decide) (by show 454 + 144 ≤ 3046; decide) dX9_init_43 (fun q5 H hP hD hS => ?_)
  refine W.widen (k := 5) (n := 598) (Nat.le_of_ble_eq_true rfl) (Nat.le_of_ble_eq_true rfl) ?_
  have hP : va_P D vwCl [(h0, .inr (9, [.int 0, .int 0, .int 0, .ref q1, .ref q2, .int 0, .int 0, .int 0, .int 0, .int 0, .ref q3, .ref q4, .null, .null, .null, .null, .int 0, .null, .null, .null])), (q1, .inl (cy 21, 144, .inl (fun _ => 0))), (q2, .inl (cy 21, 6, .inl (fun _ => 0))), (q3, .inl (cy 20, 160, .inl (fun _ => 0))), (q4, .inl (cy 22, 144, .inl (fun _ => 0))), (q5, .inl (cy 21, 144, .inl (fun _ => 0)))] _ := hP
  have hD : va_D A [(h0, .inr (9, [.int 0, .int 0, .int 0, .ref q1, .ref q2, .int 0, .int 0, .int 0, .int 0, .int 0, .ref q3, .ref q4, .null, .null, .null, .null, .int 0, .null, .null, .null])), (q1, .inl (cy 21, 144, .inl (fun _ => 0))), (q2, .inl (cy 21, 6, .inl (fun _ => 0))), (q3, .inl (cy 20, 160, .inl (fun _ => 0))), (q4, .inl (cy 22, 144, .inl (fun _ => 0))), (q5, .inl (cy 21, 144, .inl (fun _ => 0)))] := hD
  refine va_putF (D := D) (ci := 9) (v := .ref q5) (ty := .array .int) (C := RX9) (T := TX9) (N := 20) hx hb hts (clsOK_of (ci := 9) rfl).2.2.1 tyX9 tyX9_ok nmX9 hown hK hP hD hS 0 rfl rfl 12 (by decide) (hts _ (wtb_in (w := .fieldLink RX9 24 RX9 "labelOf" "[I") (mem_at 741 (by decide +kernel)) rfl)) (fun _ h9 => h9) rfl hin rfl (by decide +kernel) rfl rfl (Nat.le_of_ble_eq_true rfl) dX9_init_45 (fun H locs hP hD hS => ?_)
  have hP : va_P D vwCl [(h0, .inr (9, [.int 0, .int 0, .int 0, .ref q1, .ref q2, .int 0, .int 0, .int 0, .int 0, .int 0, .ref q3, .ref q4, .ref q5, .null, .null, .null, .int 0, .null, .null, .null])), (q1, .inl (cy 21, 144, .inl (fun _ => 0))), (q2, .inl (cy 21, 6, .inl (fun _ => 0))), (q3, .inl (cy 20, 160, .inl (fun _ => 0))), (q4, .inl (cy 22, 144, .inl (fun _ => 0))), (q5, .inl (cy 21, 144, .inl (fun _ => 0)))] _ := hP
  have hD : va_D A [(h0, .inr (9, [.int 0, .int 0, .int 0, .ref q1, .ref q2, .int 0, .int 0, .int 0, .int 0, .int 0, .ref q3, .ref q4, .ref q5, .null, .null, .null, .int 0, .null, .null, .null])), (q1, .inl (cy 21, 144, .inl (fun _ => 0))), (q2, .inl (cy 21, 6, .inl (fun _ => 0))), (q3, .inl (cy 20, 160, .inl (fun _ => 0))), (q4, .inl (cy 22, 144, .inl (fun _ => 0))), (q5, .inl (cy 21, 144, .inl (fun _ => 0)))] := hD
  refine lv_aload_n hx hb dX9_init_48 rfl (lv_at hl 0 rfl) ?_
  refine lv_sipush (v := 144) hx hb dX9_init_49 (by decide) ?_
  refine jc_new (atype := .int) hx hb (hts _ wa_int) (hK.2 1 _ rfl).2 rfl (by decide) hK hP hD hS hA (by decide) (N := 144) (by decide) (by decide) (by show 5 + 1 ≤ 11; decide) (by show 598 + 144 ≤ 3046; decide) dX9_init_52 (fun q6 H hP hD hS => ?_)
  refine W.widen (k := 6) (n := 742) (Nat.le_of_ble_eq_true rfl) (Nat.le_of_ble_eq_true rfl) ?_
  have hP : va_P D vwCl [(h0, .inr (9, [.int 0, .int 0, .int 0, .ref q1, .ref q2, .int 0, .int 0, .int 0, .int 0, .int 0, .ref q3, .ref q4, .ref q5, .null, .null, .null, .int 0, .null, .null, .null])), (q1, .inl (cy 21, 144, .inl (fun _ => 0))), (q2, .inl (cy 21, 6, .inl (fun _ => 0))), (q3, .inl (cy 20, 160, .inl (fun _ => 0))), (q4, .inl (cy 22, 144, .inl (fun _ => 0))), (q5, .inl (cy 21, 144, .inl (fun _ => 0))), (q6, .inl (cy 21, 144, .inl (fun _ => 0)))] _ := hP
  have hD : va_D A [(h0, .inr (9, [.int 0, .int 0, .int 0, .ref q1, .ref q2, .int 0, .int 0, .int 0, .int 0, .int 0, .ref q3, .ref q4, .ref q5, .null, .null, .null, .int 0, .null, .null, .null])), (q1, .inl (cy 21, 144, .inl (fun _ => 0))), (q2, .inl (cy 21, 6, .inl (fun _ => 0))), (q3, .inl (cy 20, 160, .inl (fun _ => 0))), (q4, .inl (cy 22, 144, .inl (fun _ => 0))), (q5, .inl (cy 21, 144, .inl (fun _ => 0))), (q6, .inl (cy 21, 144, .inl (fun _ => 0)))] := hD
  refine va_putF (D := D) (ci := 9) (v := .ref q6) (ty := .array .int) (C := RX9) (T := TX9) (N := 20) hx hb hts (clsOK_of (ci := 9) rfl).2.2.1 tyX9 tyX9_ok nmX9 hown hK hP hD hS 0 rfl rfl 13 (by decide) (hts _ (wtb_in (w := .fieldLink RX9 27 RX9 "crossed" "[I") (mem_at 742 (by decide +kernel)) rfl)) (fun _ h9 => h9) rfl hin rfl (by decide +kernel) rfl rfl (Nat.le_of_ble_eq_true rfl) dX9_init_54 (fun H locs hP hD hS => ?_)
  have hP : va_P D vwCl [(h0, .inr (9, [.int 0, .int 0, .int 0, .ref q1, .ref q2, .int 0, .int 0, .int 0, .int 0, .int 0, .ref q3, .ref q4, .ref q5, .ref q6, .null, .null, .int 0, .null, .null, .null])), (q1, .inl (cy 21, 144, .inl (fun _ => 0))), (q2, .inl (cy 21, 6, .inl (fun _ => 0))), (q3, .inl (cy 20, 160, .inl (fun _ => 0))), (q4, .inl (cy 22, 144, .inl (fun _ => 0))), (q5, .inl (cy 21, 144, .inl (fun _ => 0))), (q6, .inl (cy 21, 144, .inl (fun _ => 0)))] _ := hP
  have hD : va_D A [(h0, .inr (9, [.int 0, .int 0, .int 0, .ref q1, .ref q2, .int 0, .int 0, .int 0, .int 0, .int 0, .ref q3, .ref q4, .ref q5, .ref q6, .null, .null, .int 0, .null, .null, .null])), (q1, .inl (cy 21, 144, .inl (fun _ => 0))), (q2, .inl (cy 21, 6, .inl (fun _ => 0))), (q3, .inl (cy 20, 160, .inl (fun _ => 0))), (q4, .inl (cy 22, 144, .inl (fun _ => 0))), (q5, .inl (cy 21, 144, .inl (fun _ => 0))), (q6, .inl (cy 21, 144, .inl (fun _ => 0)))] := hD
  refine lv_aload_n hx hb dX9_init_57 rfl (lv_at hl 0 rfl) ?_
  refine lv_sipush (v := 144) hx hb dX9_init_58 (by decide) ?_
  refine jc_new (atype := .int) hx hb (hts _ wa_int) (hK.2 1 _ rfl).2 rfl (by decide) hK hP hD hS hA (by decide) (N := 144) (by decide) (by decide) (by show 6 + 1 ≤ 11; decide) (by show 742 + 144 ≤ 3046; decide) dX9_init_61 (fun q7 H hP hD hS => ?_)
  refine W.widen (k := 7) (n := 886) (Nat.le_of_ble_eq_true rfl) (Nat.le_of_ble_eq_true rfl) ?_
  have hP : va_P D vwCl [(h0, .inr (9, [.int 0, .int 0, .int 0, .ref q1, .ref q2, .int 0, .int 0, .int 0, .int 0, .int 0, .ref q3, .ref q4, .ref q5, .ref q6, .null, .null, .int 0, .null, .null, .null])), (q1, .inl (cy 21, 144, .inl (fun _ => 0))), (q2, .inl (cy 21, 6, .inl (fun _ => 0))), (q3, .inl (cy 20, 160, .inl (fun _ => 0))), (q4, .inl (cy 22, 144, .inl (fun _ => 0))), (q5, .inl (cy 21, 144, .inl (fun _ => 0))), (q6, .inl (cy 21, 144, .inl (fun _ => 0))), (q7, .inl (cy 21, 144, .inl (fun _ => 0)))] _ := hP
  have hD : va_D A [(h0, .inr (9, [.int 0, .int 0, .int 0, .ref q1, .ref q2, .int 0, .int 0, .int 0, .int 0, .int 0, .ref q3, .ref q4, .ref q5, .ref q6, .null, .null, .int 0, .null, .null, .null])), (q1, .inl (cy 21, 144, .inl (fun _ => 0))), (q2, .inl (cy 21, 6, .inl (fun _ => 0))), (q3, .inl (cy 20, 160, .inl (fun _ => 0))), (q4, .inl (cy 22, 144, .inl (fun _ => 0))), (q5, .inl (cy 21, 144, .inl (fun _ => 0))), (q6, .inl (cy 21, 144, .inl (fun _ => 0))), (q7, .inl (cy 21, 144, .inl (fun _ => 0)))] := hD
  refine va_putF (D := D) (ci := 9) (v := .ref q7) (ty := .array .int) (C := RX9) (T := TX9) (N := 20) hx hb hts (clsOK_of (ci := 9) rfl).2.2.1 tyX9 tyX9_ok nmX9 hown hK hP hD hS 0 rfl rfl 14 (by decide) (hts _ (wtb_in (w := .fieldLink RX9 30 RX9 "stepsTo" "[I") (mem_at 743 (by decide +kernel)) rfl)) (fun _ h9 => h9) rfl hin rfl (by decide +kernel) rfl rfl (Nat.le_of_ble_eq_true rfl) dX9_init_63 (fun H locs hP hD hS => ?_)
  have hP : va_P D vwCl [(h0, .inr (9, [.int 0, .int 0, .int 0, .ref q1, .ref q2, .int 0, .int 0, .int 0, .int 0, .int 0, .ref q3, .ref q4, .ref q5, .ref q6, .ref q7, .null, .int 0, .null, .null, .null])), (q1, .inl (cy 21, 144, .inl (fun _ => 0))), (q2, .inl (cy 21, 6, .inl (fun _ => 0))), (q3, .inl (cy 20, 160, .inl (fun _ => 0))), (q4, .inl (cy 22, 144, .inl (fun _ => 0))), (q5, .inl (cy 21, 144, .inl (fun _ => 0))), (q6, .inl (cy 21, 144, .inl (fun _ => 0))), (q7, .inl (cy 21, 144, .inl (fun _ => 0)))] _ := hP
  have hD : va_D A [(h0, .inr (9, [.int 0, .int 0, .int 0, .ref q1, .ref q2, .int 0, .int 0, .int 0, .int 0, .int 0, .ref q3, .ref q4, .ref q5, .ref q6, .ref q7, .null, .int 0, .null, .null, .null])), (q1, .inl (cy 21, 144, .inl (fun _ => 0))), (q2, .inl (cy 21, 6, .inl (fun _ => 0))), (q3, .inl (cy 20, 160, .inl (fun _ => 0))), (q4, .inl (cy 22, 144, .inl (fun _ => 0))), (q5, .inl (cy 21, 144, .inl (fun _ => 0))), (q6, .inl (cy 21, 144, .inl (fun _ => 0))), (q7, .inl (cy 21, 144, .inl (fun _ => 0)))] := hD
  refine lv_aload_n hx hb dX9_init_66 rfl (lv_at hl 0 rfl) ?_
  refine lv_sipush (v := 144) hx hb dX9_init_67 (by decide) ?_
  refine jc_new (atype := .int) hx hb (hts _ wa_int) (hK.2 1 _ rfl).2 rfl (by decide) hK hP hD hS hA (by decide) (N := 144) (by decide) (by decide) (by show 7 + 1 ≤ 11; decide) (by show 886 + 144 ≤ 3046; decide) dX9_init_70 (fun q8 H hP hD hS => ?_)
  refine W.widen (k := 8) (n := 1030) (Nat.le_of_ble_eq_true rfl) (Nat.le_of_ble_eq_true rfl) ?_
  have hP : va_P D vwCl [(h0, .inr (9, [.int 0, .int 0, .int 0, .ref q1, .ref q2, .int 0, .int 0, .int 0, .int 0, .int 0, .ref q3, .ref q4, .ref q5, .ref q6, .ref q7, .null, .int 0, .null, .null, .null])), (q1, .inl (cy 21, 144, .inl (fun _ => 0))), (q2, .inl (cy 21, 6, .inl (fun _ => 0))), (q3, .inl (cy 20, 160, .inl (fun _ => 0))), (q4, .inl (cy 22, 144, .inl (fun _ => 0))), (q5, .inl (cy 21, 144, .inl (fun _ => 0))), (q6, .inl (cy 21, 144, .inl (fun _ => 0))), (q7, .inl (cy 21, 144, .inl (fun _ => 0))), (q8, .inl (cy 21, 144, .inl (fun _ => 0)))] _ := hP
  have hD : va_D A [(h0, .inr (9, [.int 0, .int 0, .int 0, .ref q1, .ref q2, .int 0, .int 0, .int 0, .int 0, .int 0, .ref q3, .ref q4, .ref q5, .ref q6, .ref q7, .null, .int 0, .null, .null, .null])), (q1, .inl (cy 21, 144, .inl (fun _ => 0))), (q2, .inl (cy 21, 6, .inl (fun _ => 0))), (q3, .inl (cy 20, 160, .inl (fun _ => 0))), (q4, .inl (cy 22, 144, .inl (fun _ => 0))), (q5, .inl (cy 21, 144, .inl (fun _ => 0))), (q6, .inl (cy 21, 144, .inl (fun _ => 0))), (q7, .inl (cy 21, 144, .inl (fun _ => 0))), (q8, .inl (cy 21, 144, .inl (fun _ => 0)))] := hD
  refine va_putF (D := D) (ci := 9) (v := .ref q8) (ty := .array .int) (C := RX9) (T := TX9) (N := 20) hx hb hts (clsOK_of (ci := 9) rfl).2.2.1 tyX9 tyX9_ok nmX9 hown hK hP hD hS 0 rfl rfl 15 (by decide) (hts _ (wtb_in (w := .fieldLink RX9 33 RX9 "queue" "[I") (mem_at 744 (by decide +kernel)) rfl)) (fun _ h9 => h9) rfl hin rfl (by decide +kernel) rfl rfl (Nat.le_of_ble_eq_true rfl) dX9_init_72 (fun H locs hP hD hS => ?_)
  have hP : va_P D vwCl [(h0, .inr (9, [.int 0, .int 0, .int 0, .ref q1, .ref q2, .int 0, .int 0, .int 0, .int 0, .int 0, .ref q3, .ref q4, .ref q5, .ref q6, .ref q7, .ref q8, .int 0, .null, .null, .null])), (q1, .inl (cy 21, 144, .inl (fun _ => 0))), (q2, .inl (cy 21, 6, .inl (fun _ => 0))), (q3, .inl (cy 20, 160, .inl (fun _ => 0))), (q4, .inl (cy 22, 144, .inl (fun _ => 0))), (q5, .inl (cy 21, 144, .inl (fun _ => 0))), (q6, .inl (cy 21, 144, .inl (fun _ => 0))), (q7, .inl (cy 21, 144, .inl (fun _ => 0))), (q8, .inl (cy 21, 144, .inl (fun _ => 0)))] _ := hP
  have hD : va_D A [(h0, .inr (9, [.int 0, .int 0, .int 0, .ref q1, .ref q2, .int 0, .int 0, .int 0, .int 0, .int 0, .ref q3, .ref q4, .ref q5, .ref q6, .ref q7, .ref q8, .int 0, .null, .null, .null])), (q1, .inl (cy 21, 144, .inl (fun _ => 0))), (q2, .inl (cy 21, 6, .inl (fun _ => 0))), (q3, .inl (cy 20, 160, .inl (fun _ => 0))), (q4, .inl (cy 22, 144, .inl (fun _ => 0))), (q5, .inl (cy 21, 144, .inl (fun _ => 0))), (q6, .inl (cy 21, 144, .inl (fun _ => 0))), (q7, .inl (cy 21, 144, .inl (fun _ => 0))), (q8, .inl (cy 21, 144, .inl (fun _ => 0)))] := hD
  refine lv_aload_n hx hb dX9_init_75 rfl (lv_at hl 0 rfl) ?_
  refine lv_sipush (v := 1728) hx hb dX9_init_76 (by decide) ?_
  refine jc_new (atype := .int) hx hb (hts _ wa_int) (hK.2 1 _ rfl).2 rfl (by decide) hK hP hD hS hA (by decide) (N := 1728) (by decide) (by decide) (by show 8 + 1 ≤ 11; decide) (by show 1030 + 1728 ≤ 3046; decide) dX9_init_79 (fun q9 H hP hD hS => ?_)
  refine W.widen (k := 9) (n := 2758) (Nat.le_of_ble_eq_true rfl) (Nat.le_of_ble_eq_true rfl) ?_
  have hP : va_P D vwCl [(h0, .inr (9, [.int 0, .int 0, .int 0, .ref q1, .ref q2, .int 0, .int 0, .int 0, .int 0, .int 0, .ref q3, .ref q4, .ref q5, .ref q6, .ref q7, .ref q8, .int 0, .null, .null, .null])), (q1, .inl (cy 21, 144, .inl (fun _ => 0))), (q2, .inl (cy 21, 6, .inl (fun _ => 0))), (q3, .inl (cy 20, 160, .inl (fun _ => 0))), (q4, .inl (cy 22, 144, .inl (fun _ => 0))), (q5, .inl (cy 21, 144, .inl (fun _ => 0))), (q6, .inl (cy 21, 144, .inl (fun _ => 0))), (q7, .inl (cy 21, 144, .inl (fun _ => 0))), (q8, .inl (cy 21, 144, .inl (fun _ => 0))), (q9, .inl (cy 21, 1728, .inl (fun _ => 0)))] _ := hP
  have hD : va_D A [(h0, .inr (9, [.int 0, .int 0, .int 0, .ref q1, .ref q2, .int 0, .int 0, .int 0, .int 0, .int 0, .ref q3, .ref q4, .ref q5, .ref q6, .ref q7, .ref q8, .int 0, .null, .null, .null])), (q1, .inl (cy 21, 144, .inl (fun _ => 0))), (q2, .inl (cy 21, 6, .inl (fun _ => 0))), (q3, .inl (cy 20, 160, .inl (fun _ => 0))), (q4, .inl (cy 22, 144, .inl (fun _ => 0))), (q5, .inl (cy 21, 144, .inl (fun _ => 0))), (q6, .inl (cy 21, 144, .inl (fun _ => 0))), (q7, .inl (cy 21, 144, .inl (fun _ => 0))), (q8, .inl (cy 21, 144, .inl (fun _ => 0))), (q9, .inl (cy 21, 1728, .inl (fun _ => 0)))] := hD
  refine va_putF (D := D) (ci := 9) (v := .ref q9) (ty := .array .int) (C := RX9) (T := TX9) (N := 20) hx hb hts (clsOK_of (ci := 9) rfl).2.2.1 tyX9 tyX9_ok nmX9 hown hK hP hD hS 0 rfl rfl 17 (by decide) (hts _ (wtb_in (w := .fieldLink RX9 36 RX9 "keptRow" "[I") (mem_at 746 (by decide +kernel)) rfl)) (fun _ h9 => h9) rfl hin rfl (by decide +kernel) rfl rfl (Nat.le_of_ble_eq_true rfl) dX9_init_81 (fun H locs hP hD hS => ?_)
  have hP : va_P D vwCl [(h0, .inr (9, [.int 0, .int 0, .int 0, .ref q1, .ref q2, .int 0, .int 0, .int 0, .int 0, .int 0, .ref q3, .ref q4, .ref q5, .ref q6, .ref q7, .ref q8, .int 0, .ref q9, .null, .null])), (q1, .inl (cy 21, 144, .inl (fun _ => 0))), (q2, .inl (cy 21, 6, .inl (fun _ => 0))), (q3, .inl (cy 20, 160, .inl (fun _ => 0))), (q4, .inl (cy 22, 144, .inl (fun _ => 0))), (q5, .inl (cy 21, 144, .inl (fun _ => 0))), (q6, .inl (cy 21, 144, .inl (fun _ => 0))), (q7, .inl (cy 21, 144, .inl (fun _ => 0))), (q8, .inl (cy 21, 144, .inl (fun _ => 0))), (q9, .inl (cy 21, 1728, .inl (fun _ => 0)))] _ := hP
  have hD : va_D A [(h0, .inr (9, [.int 0, .int 0, .int 0, .ref q1, .ref q2, .int 0, .int 0, .int 0, .int 0, .int 0, .ref q3, .ref q4, .ref q5, .ref q6, .ref q7, .ref q8, .int 0, .ref q9, .null, .null])), (q1, .inl (cy 21, 144, .inl (fun _ => 0))), (q2, .inl (cy 21, 6, .inl (fun _ => 0))), (q3, .inl (cy 20, 160, .inl (fun _ => 0))), (q4, .inl (cy 22, 144, .inl (fun _ => 0))), (q5, .inl (cy 21, 144, .inl (fun _ => 0))), (q6, .inl (cy 21, 144, .inl (fun _ => 0))), (q7, .inl (cy 21, 144, .inl (fun _ => 0))), (q8, .inl (cy 21, 144, .inl (fun _ => 0))), (q9, .inl (cy 21, 1728, .inl (fun _ => 0)))] := hD
  refine lv_aload_n hx hb dX9_init_84 rfl (lv_at hl 0 rfl) ?_
  refine lv_sipush (v := 144) hx hb dX9_init_85 (by decide) ?_
  refine jc_new (atype := .int) hx hb (hts _ wa_int) (hK.2 1 _ rfl).2 rfl (by decide) hK hP hD hS hA (by decide) (N := 144) (by decide) (by decide) (by show 9 + 1 ≤ 11; decide) (by show 2758 + 144 ≤ 3046; decide) dX9_init_88 (fun q10 H hP hD hS => ?_)
  refine W.widen (k := 10) (n := 2902) (Nat.le_of_ble_eq_true rfl) (Nat.le_of_ble_eq_true rfl) ?_
  have hP : va_P D vwCl [(h0, .inr (9, [.int 0, .int 0, .int 0, .ref q1, .ref q2, .int 0, .int 0, .int 0, .int 0, .int 0, .ref q3, .ref q4, .ref q5, .ref q6, .ref q7, .ref q8, .int 0, .ref q9, .null, .null])), (q1, .inl (cy 21, 144, .inl (fun _ => 0))), (q2, .inl (cy 21, 6, .inl (fun _ => 0))), (q3, .inl (cy 20, 160, .inl (fun _ => 0))), (q4, .inl (cy 22, 144, .inl (fun _ => 0))), (q5, .inl (cy 21, 144, .inl (fun _ => 0))), (q6, .inl (cy 21, 144, .inl (fun _ => 0))), (q7, .inl (cy 21, 144, .inl (fun _ => 0))), (q8, .inl (cy 21, 144, .inl (fun _ => 0))), (q9, .inl (cy 21, 1728, .inl (fun _ => 0))), (q10, .inl (cy 21, 144, .inl (fun _ => 0)))] _ := hP
  have hD : va_D A [(h0, .inr (9, [.int 0, .int 0, .int 0, .ref q1, .ref q2, .int 0, .int 0, .int 0, .int 0, .int 0, .ref q3, .ref q4, .ref q5, .ref q6, .ref q7, .ref q8, .int 0, .ref q9, .null, .null])), (q1, .inl (cy 21, 144, .inl (fun _ => 0))), (q2, .inl (cy 21, 6, .inl (fun _ => 0))), (q3, .inl (cy 20, 160, .inl (fun _ => 0))), (q4, .inl (cy 22, 144, .inl (fun _ => 0))), (q5, .inl (cy 21, 144, .inl (fun _ => 0))), (q6, .inl (cy 21, 144, .inl (fun _ => 0))), (q7, .inl (cy 21, 144, .inl (fun _ => 0))), (q8, .inl (cy 21, 144, .inl (fun _ => 0))), (q9, .inl (cy 21, 1728, .inl (fun _ => 0))), (q10, .inl (cy 21, 144, .inl (fun _ => 0)))] := hD
  refine va_putF (D := D) (ci := 9) (v := .ref q10) (ty := .array .int) (C := RX9) (T := TX9) (N := 20) hx hb hts (clsOK_of (ci := 9) rfl).2.2.1 tyX9 tyX9_ok nmX9 hown hK hP hD hS 0 rfl rfl 18 (by decide) (hts _ (wtb_in (w := .fieldLink RX9 39 RX9 "labelBefore" "[I") (mem_at 747 (by decide +kernel)) rfl)) (fun _ h9 => h9) rfl hin rfl (by decide +kernel) rfl rfl (Nat.le_of_ble_eq_true rfl) dX9_init_90 (fun H locs hP hD hS => ?_)
  have hP : va_P D vwCl [(h0, .inr (9, [.int 0, .int 0, .int 0, .ref q1, .ref q2, .int 0, .int 0, .int 0, .int 0, .int 0, .ref q3, .ref q4, .ref q5, .ref q6, .ref q7, .ref q8, .int 0, .ref q9, .ref q10, .null])), (q1, .inl (cy 21, 144, .inl (fun _ => 0))), (q2, .inl (cy 21, 6, .inl (fun _ => 0))), (q3, .inl (cy 20, 160, .inl (fun _ => 0))), (q4, .inl (cy 22, 144, .inl (fun _ => 0))), (q5, .inl (cy 21, 144, .inl (fun _ => 0))), (q6, .inl (cy 21, 144, .inl (fun _ => 0))), (q7, .inl (cy 21, 144, .inl (fun _ => 0))), (q8, .inl (cy 21, 144, .inl (fun _ => 0))), (q9, .inl (cy 21, 1728, .inl (fun _ => 0))), (q10, .inl (cy 21, 144, .inl (fun _ => 0)))] _ := hP
  have hD : va_D A [(h0, .inr (9, [.int 0, .int 0, .int 0, .ref q1, .ref q2, .int 0, .int 0, .int 0, .int 0, .int 0, .ref q3, .ref q4, .ref q5, .ref q6, .ref q7, .ref q8, .int 0, .ref q9, .ref q10, .null])), (q1, .inl (cy 21, 144, .inl (fun _ => 0))), (q2, .inl (cy 21, 6, .inl (fun _ => 0))), (q3, .inl (cy 20, 160, .inl (fun _ => 0))), (q4, .inl (cy 22, 144, .inl (fun _ => 0))), (q5, .inl (cy 21, 144, .inl (fun _ => 0))), (q6, .inl (cy 21, 144, .inl (fun _ => 0))), (q7, .inl (cy 21, 144, .inl (fun _ => 0))), (q8, .inl (cy 21, 144, .inl (fun _ => 0))), (q9, .inl (cy 21, 1728, .inl (fun _ => 0))), (q10, .inl (cy 21, 144, .inl (fun _ => 0)))] := hD
  refine lv_aload_n hx hb dX9_init_93 rfl (lv_at hl 0 rfl) ?_
  refine lv_sipush (v := 144) hx hb dX9_init_94 (by decide) ?_
  refine jc_new (atype := .int) hx hb (hts _ wa_int) (hK.2 1 _ rfl).2 rfl (by decide) hK hP hD hS hA (by decide) (N := 144) (by decide) (by decide) (by show 10 + 1 ≤ 11; decide) (by show 2902 + 144 ≤ 3046; decide) dX9_init_97 (fun q11 H hP hD hS => ?_)
  refine W.widen (k := 11) (n := 3046) (Nat.le_of_ble_eq_true rfl) (Nat.le_of_ble_eq_true rfl) ?_
  have hP : va_P D vwCl [(h0, .inr (9, [.int 0, .int 0, .int 0, .ref q1, .ref q2, .int 0, .int 0, .int 0, .int 0, .int 0, .ref q3, .ref q4, .ref q5, .ref q6, .ref q7, .ref q8, .int 0, .ref q9, .ref q10, .null])), (q1, .inl (cy 21, 144, .inl (fun _ => 0))), (q2, .inl (cy 21, 6, .inl (fun _ => 0))), (q3, .inl (cy 20, 160, .inl (fun _ => 0))), (q4, .inl (cy 22, 144, .inl (fun _ => 0))), (q5, .inl (cy 21, 144, .inl (fun _ => 0))), (q6, .inl (cy 21, 144, .inl (fun _ => 0))), (q7, .inl (cy 21, 144, .inl (fun _ => 0))), (q8, .inl (cy 21, 144, .inl (fun _ => 0))), (q9, .inl (cy 21, 1728, .inl (fun _ => 0))), (q10, .inl (cy 21, 144, .inl (fun _ => 0))), (q11, .inl (cy 21, 144, .inl (fun _ => 0)))] _ := hP
  have hD : va_D A [(h0, .inr (9, [.int 0, .int 0, .int 0, .ref q1, .ref q2, .int 0, .int 0, .int 0, .int 0, .int 0, .ref q3, .ref q4, .ref q5, .ref q6, .ref q7, .ref q8, .int 0, .ref q9, .ref q10, .null])), (q1, .inl (cy 21, 144, .inl (fun _ => 0))), (q2, .inl (cy 21, 6, .inl (fun _ => 0))), (q3, .inl (cy 20, 160, .inl (fun _ => 0))), (q4, .inl (cy 22, 144, .inl (fun _ => 0))), (q5, .inl (cy 21, 144, .inl (fun _ => 0))), (q6, .inl (cy 21, 144, .inl (fun _ => 0))), (q7, .inl (cy 21, 144, .inl (fun _ => 0))), (q8, .inl (cy 21, 144, .inl (fun _ => 0))), (q9, .inl (cy 21, 1728, .inl (fun _ => 0))), (q10, .inl (cy 21, 144, .inl (fun _ => 0))), (q11, .inl (cy 21, 144, .inl (fun _ => 0)))] := hD
  refine va_putF (D := D) (ci := 9) (v := .ref q11) (ty := .array .int) (C := RX9) (T := TX9) (N := 20) hx hb hts (clsOK_of (ci := 9) rfl).2.2.1 tyX9 tyX9_ok nmX9 hown hK hP hD hS 0 rfl rfl 19 (by decide) (hts _ (wtb_in (w := .fieldLink RX9 42 RX9 "distanceTo" "[I") (mem_at 748 (by decide +kernel)) rfl)) (fun _ h9 => h9) rfl hin rfl (by decide +kernel) rfl rfl (Nat.le_of_ble_eq_true rfl) dX9_init_99 (fun H locs hP hD hS => ?_)
  have hP : va_P D vwCl [(h0, .inr (9, [.int 0, .int 0, .int 0, .ref q1, .ref q2, .int 0, .int 0, .int 0, .int 0, .int 0, .ref q3, .ref q4, .ref q5, .ref q6, .ref q7, .ref q8, .int 0, .ref q9, .ref q10, .ref q11])), (q1, .inl (cy 21, 144, .inl (fun _ => 0))), (q2, .inl (cy 21, 6, .inl (fun _ => 0))), (q3, .inl (cy 20, 160, .inl (fun _ => 0))), (q4, .inl (cy 22, 144, .inl (fun _ => 0))), (q5, .inl (cy 21, 144, .inl (fun _ => 0))), (q6, .inl (cy 21, 144, .inl (fun _ => 0))), (q7, .inl (cy 21, 144, .inl (fun _ => 0))), (q8, .inl (cy 21, 144, .inl (fun _ => 0))), (q9, .inl (cy 21, 1728, .inl (fun _ => 0))), (q10, .inl (cy 21, 144, .inl (fun _ => 0))), (q11, .inl (cy 21, 144, .inl (fun _ => 0)))] _ := hP
  have hD : va_D A [(h0, .inr (9, [.int 0, .int 0, .int 0, .ref q1, .ref q2, .int 0, .int 0, .int 0, .int 0, .int 0, .ref q3, .ref q4, .ref q5, .ref q6, .ref q7, .ref q8, .int 0, .ref q9, .ref q10, .ref q11])), (q1, .inl (cy 21, 144, .inl (fun _ => 0))), (q2, .inl (cy 21, 6, .inl (fun _ => 0))), (q3, .inl (cy 20, 160, .inl (fun _ => 0))), (q4, .inl (cy 22, 144, .inl (fun _ => 0))), (q5, .inl (cy 21, 144, .inl (fun _ => 0))), (q6, .inl (cy 21, 144, .inl (fun _ => 0))), (q7, .inl (cy 21, 144, .inl (fun _ => 0))), (q8, .inl (cy 21, 144, .inl (fun _ => 0))), (q9, .inl (cy 21, 1728, .inl (fun _ => 0))), (q10, .inl (cy 21, 144, .inl (fun _ => 0))), (q11, .inl (cy 21, 144, .inl (fun _ => 0)))] := hD
  refine lv_aload_n hx hb dX9_init_102 rfl (lv_at hl 0 rfl) ?_
  refine lv_bipush (v := 6) hx hb dX9_init_103 (by decide) ?_
  refine lv_iconst (v := 5) hx hb dX9_init_105 (by decide) ?_
  obtain ⟨ad, had⟩ : ∃ ad : Nat → Nat, ad = fun a => ([h0, q1, q2, q3, q4, q5, q6, q7, q8, q9, q10, q11] : List Nat).getD a 0 := ⟨_, rfl⟩
  have a_0 : ad 0 = h0 := by rw [had]; rfl
  have a_1 : ad 1 = q1 := by rw [had]; rfl
  have a_2 : ad 2 = q2 := by rw [had]; rfl
  have a_3 : ad 3 = q3 := by rw [had]; rfl
  have a_4 : ad 4 = q4 := by rw [had]; rfl
  have a_5 : ad 5 = q5 := by rw [had]; rfl
  have a_6 : ad 6 = q6 := by rw [had]; rfl
  have a_7 : ad 7 = q7 := by rw [had]; rfl
  have a_8 : ad 8 = q8 := by rw [had]; rfl
  have a_9 : ad 9 = q9 := by rw [had]; rfl
  have a_10 : ad 10 = q10 := by rw [had]; rfl
  have a_11 : ad 11 = q11 := by rw [had]; rfl
  have hjA : jA ad 12 ∧ ∀ a, a < 12 → A (ad a) := by rw [had]; exact jA_of (pos := [0, 1, 2, 3, 4, 5, 6, 7, 8, 9, 10, 11]) hD rfl (by decide)
  have hW : va_P D vwCl (wld ad kdY lnY cy 12 (fun _ _ => 0)) H := wld_of (fun a ha => by
    match a, ha with
    | 0, _ => exact jw_obj (hP 0 _ rfl) a_0 rfl (by decide) (by show [Value.int (I32 0), Value.int (I32 0), Value.int (I32 0), Value.ref (ad 1), Value.ref (ad 2), Value.int (I32 0), Value.int (I32 0), Value.int (I32 0), Value.int (I32 0), Value.int (I32 0), Value.ref (ad 3), Value.ref (ad 4), Value.ref (ad 5), Value.ref (ad 6), Value.ref (ad 7), Value.ref (ad 8), Value.int (I32 0), Value.ref (ad 9), Value.ref (ad 10), Value.ref (ad 11)] = _; rw [I32_0, a_1, a_2, a_3, a_4, a_5, a_6, a_7, a_8, a_9, a_10, a_11])
    | 1, _ => exact jw_arr (ci := 21) (hP 1 _ rfl) a_1 rfl (by decide) rfl (fun _ => rfl)
    | 2, _ => exact jw_arr (ci := 21) (hP 2 _ rfl) a_2 rfl (by decide) rfl (fun _ => rfl)
    | 3, _ => exact jw_arr (ci := 20) (hP 3 _ rfl) a_3 rfl (by decide) rfl (fun _ => rfl)
    | 4, _ => exact jw_arr (ci := 22) (hP 4 _ rfl) a_4 rfl (by decide) rfl (fun _ => rfl)
    | 5, _ => exact jw_arr (ci := 21) (hP 5 _ rfl) a_5 rfl (by decide) rfl (fun _ => rfl)
    | 6, _ => exact jw_arr (ci := 21) (hP 6 _ rfl) a_6 rfl (by decide) rfl (fun _ => rfl)
    | 7, _ => exact jw_arr (ci := 21) (hP 7 _ rfl) a_7 rfl (by decide) rfl (fun _ => rfl)
    | 8, _ => exact jw_arr (ci := 21) (hP 8 _ rfl) a_8 rfl (by decide) rfl (fun _ => rfl)
    | 9, _ => exact jw_arr (ci := 21) (hP 9 _ rfl) a_9 rfl (by decide) rfl (fun _ => rfl)
    | 10, _ => exact jw_arr (ci := 21) (hP 10 _ rfl) a_10 rfl (by decide) rfl (fun _ => rfl)
    | 11, _ => exact jw_arr (ci := 21) (hP 11 _ rfl) a_11 rfl (by decide) rfl (fun _ => rfl)
    | n + 12, ha => exact absurd ha (by omega))
  refine jc_inv (own := RX9) (ad := ad) (As := [.inl 6, .inl 5]) (M := fun _ _ => 0) (q := (RX9, TX9, 20)) (ok_X9_begin hjA.1) ca_X9_begin mkX9_45 ⟨rfl, rfl, (Nat.le_of_ble_eq_true rfl), (Nat.le_of_ble_eq_true rfl)⟩ hx hb hml hown hts hK rfl rfl rfl (by decide) ⟨rfl, rfl, by decide⟩ (fun _ _ => inR_0) in65 hW hS hjA.2 hl.1 (by decide) dX9_init_106 ⟨(Nat.le_of_ble_eq_true rfl), (Nat.le_of_ble_eq_true rfl)⟩ (rest := []) (by rw [a_0]; rfl) (fun x M9 H1 locs1 rx hM9 hC hP9 hS9 hk9 => ?_)
  have hX9 : absY M9 sZ := beg_y (M := fun _ _ => 0) (σ := fun _ _ => 0) (x := x) (by decide) (by decide) (fun j hj => by have hj2 : (j : Int) < 0 := hj; omega) ⟨rfl, fun j hj => by have hj2 : (j : Int) < 0 := hj; omega⟩ (show c_X9_begin 0 6 5 (fun _ _ => 0) x M9 from hC)
  have hS := hS9
  exact W.vret hx hb hr (fun t ht hW => ⟨⟨(), rfl, trivial, ad, M9, hjA.1, a_0, hjA.2, hM9, hX9, hP9.at ht⟩, hS.F ht⟩) hS.2.2 dX9_init_109
