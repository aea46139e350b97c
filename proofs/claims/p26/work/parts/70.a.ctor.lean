/-! ===== the constructors ===== -/
theorem wa_int : Cond.arrayClass .int ∈ wtb := wtb_in (mem_at 89 (by decide +kernel)) rfl
theorem wa_char : Cond.arrayClass .char ∈ wtb := wtb_in (mem_at 138 (by decide +kernel)) rfl
theorem wa_boolean : Cond.arrayClass .boolean ∈ wtb := wtb_in (mem_at 167 (by decide +kernel)) rfl
theorem wa_over : Cond.arrayOver (.array .int) ∈ lw_tbl := mem_at 175 (by decide +kernel)
theorem wa_oi : Cond.instanceMethod objectInit ∈ wtb := wtb_in (mem_at 49 (by decide +kernel)) rfl
theorem wa_oc : Cond.code objectInit ⟨#[0xb1]⟩ 1 none ∈ wtb := wtb_in (mem_at 50 (by decide +kernel)) rfl
theorem va_P.at {D : va_G} {cl : List vw_C} {ws : va_W} {H : Heap} {t : State} (h : va_P D cl ws H) (ht : t.heap = H) : va_P D cl ws t.heap := by rw [ht]; exact h
def nestOK (U : State) : Prop := overOK U ∧ va_Nw (.methodLinkNest RX8 11 yX3_init "SeamMap") U ∧ va_Nw (.methodLinkNest RX8 31 yX4_init "SeamMap") U ∧ va_Nw (.methodLinkNest RX8 47 yX0_init "SeamMap") U ∧ va_Nw (.methodLinkNest RX1 30 yX5_init "SeamMap") U ∧ va_Nw (.methodLinkNest RX3 11 yX2_init "SeamMap") U ∧ va_Nw (.methodLinkNest RX7 20 yX5_init "SeamMap") U
theorem nestOK.moved {s U : State} (hW : s.WarmedH U.vm) (h : nestOK s) : nestOK U := ⟨h.1.alike hW.alike, va_Nw.warmM hW h.2.1, va_Nw.warmM hW h.2.2.1, va_Nw.warmM hW h.2.2.2.1, va_Nw.warmM hW h.2.2.2.2.1, va_Nw.warmM hW h.2.2.2.2.2.1, va_Nw.warmM hW h.2.2.2.2.2.2⟩
theorem nestOK.same {u U : State} (hv : u.vm = U.vm) (h : nestOK u) : nestOK U := ⟨h.1.alike (by rw [hv]; exact Vm.Alike.refl _), va_Nw.same rfl hv h.2.1, va_Nw.same rfl hv h.2.2.1, va_Nw.same rfl hv h.2.2.2.1, va_Nw.same rfl hv h.2.2.2.2.1, va_Nw.same rfl hv h.2.2.2.2.2.1, va_Nw.same rfl hv h.2.2.2.2.2.2⟩
theorem nestOK.of {s : State} {args : Array Value} (hts : ∀ w ∈ lw_tbl, w.before args s = true) : nestOK s := ⟨mw_over (hts _ wa_over), va_Nw.of rfl (hts _ (mem_at (w := .methodLinkNest RX8 11 yX3_init "SeamMap") 53 (by decide +kernel))), va_Nw.of rfl (hts _ (mem_at (w := .methodLinkNest RX8 31 yX4_init "SeamMap") 127 (by decide +kernel))), va_Nw.of rfl (hts _ (mem_at (w := .methodLinkNest RX8 47 yX0_init "SeamMap") 170 (by decide +kernel))), va_Nw.of rfl (hts _ (mem_at (w := .methodLinkNest RX1 30 yX5_init "SeamMap") 193 (by decide +kernel))), va_Nw.of rfl (hts _ (mem_at (w := .methodLinkNest RX3 11 yX2_init "SeamMap") 59 (by decide +kernel))), va_Nw.of rfl (hts _ (mem_at (w := .methodLinkNest RX7 20 yX5_init "SeamMap") 98 (by decide +kernel)))⟩
set_option maxHeartbeats 4000000 in
set_option maxRecDepth 100000 in
theorem oX5_init (l : Launch) (D : va_G) (cy : Nat → ClassId) (h0 sz : Nat) : Met l yX5_init (Cond.code yX5_init cX5_init 1 none :: wtb) ({ frames := 1, cells := 1, slots := 144, locals := 12 }) (va_Pc [.ref h0] (fun U => U.heap.size = sz ∧ va_P D vwCl [(h0, .inr (5, [.null, .int 0]))] U.heap ∧ va_K D vwCl (tysJ cy) U ∧ va_D (fun _ => True) [(h0, .inr (5, [.null, .int 0]))] ∧ nestOK U)) (va_Qv (fun _ : Unit => True) (fun _ t => ∃ q1, va_P D vwCl [(h0, .inr (5, [.ref q1, .int 0])), (q1, .inl (cy 21, 144, .inl (fun _ => 0)))] t.heap ∧ va_D (va_A [(h0, .inr (5, [.null, .int 0]))] sz) [(h0, .inr (5, [.ref q1, .int 0])), (q1, .inl (cy 21, 144, .inl (fun _ => 0)))]) (va_A [(h0, .inr (5, [.null, .int 0]))] sz)) 1 144 (va_A [(h0, .inr (5, [.null, .int 0]))] sz) := by
  refine Met.ofW (cc := cX5_init) (maxL := 1) (ret := none) (by decide) rfl ?_
  intro p e s m args below meth c s₁ B hml hv
  obtain ⟨rfl, hsz, hP, hK, hD0, hN⟩ := hv
  have hx := B.exec
  have hb := B.bytes
  have hr := B.returns
  have hts0 := atoms_spec (ws := Cond.code yX5_init cX5_init 1 none :: wtb) B.pre
  have hts : ∀ w ∈ wtb, w.before _ s = true := fun w hw => hts0 w (List.mem_cons_of_mem _ hw)
  have hown : s.vm.findClass RX5 = some m.cls := findClass_of_methodNamed B.named
  have hlocks := B.notSynchronized
  have hin : meth.name = "<init>" := (name_of_methodNamed B.named B.method).1
  subst hsz
  have hD := hD0.self (sz := s.heap.size)
  generalize hAe : va_A [(h0, .inr (5, [.null, .int 0]))] s.heap.size = A at hD ⊢
  have hA : ∀ q : Nat, s.heap.size ≤ q → A q := fun q h => by rw [← hAe]; exact Or.inr h
  have hS : va_S A s.heap s.heap [] := va_S.rf
  have hP : va_P D vwCl [(h0, .inr (5, [.null, .int 0]))] s.heap := hP
  have hl := lv_entry ([.ref h0]) (n := 1) (Nat.le_of_ble_eq_true rfl)
  rw [lg_entry_eq]
  generalize (lg_sl ([.ref h0]) ++ List.replicate (1 - (lg_sl ([.ref h0])).length) Slot.unset).toArray = ls at hl ⊢
  have hl : lv_has ls 1 [(0, .ref h0)] := hl
  refine lv_aload_n hx hb dX5_init_0 rfl (lv_at hl 0 rfl) ?_
  refine W.objInit hx hb hown (hts _ (wtb_in (w := .methodLink RX5 3 objectInit) (mem_at 101 (by decide +kernel)) rfl)) (hts _ wa_oi) (hts _ wa_oc) rfl (by rw [hml]; exact hl.1) rfl dX5_init_1 (Nat.le_of_ble_eq_true rfl) (Nat.le_of_ble_eq_true rfl) ?_
  refine W.eq (g2 := F0 m 4 ls []) rfl ?_
  refine lv_aload_n hx hb dX5_init_4 rfl (lv_at hl 0 rfl) ?_
  refine lv_sipush (v := 144) hx hb dX5_init_5 (by decide) ?_
  refine jc_new (atype := .int) hx hb (hts _ wa_int) (hK.2 1 _ rfl).2 rfl (by decide) hK hP hD hS hA (by decide) (N := 144) (by decide) (by decide) (by show 0 + 1 ≤ 1; decide) (by show 0 + 144 ≤ 144; decide) dX5_init_8 (fun q1 H hP hD hS => ?_)
  refine W.widen (k := 1) (n := 144) (Nat.le_of_ble_eq_true rfl) (Nat.le_of_ble_eq_true rfl) ?_
  have hP : va_P D vwCl [(h0, .inr (5, [.null, .int 0])), (q1, .inl (cy 21, 144, .inl (fun _ => 0)))] _ := hP
  have hD : va_D A [(h0, .inr (5, [.null, .int 0])), (q1, .inl (cy 21, 144, .inl (fun _ => 0)))] := hD
  refine va_putF (D := D) (ci := 5) (v := .ref q1) (ty := .array .int) (C := RX5) (T := TX5) (N := 2) hx hb hts (clsOK_of (ci := 5) rfl).2.2.1 tyX5 tyX5_ok nmX5 hown hK hP hD hS 0 rfl rfl 0 (by decide) (hts _ (wtb_in (w := .fieldLink RX5 9 RX5 "tiles" "[I") (mem_at 102 (by decide +kernel)) rfl)) (fun _ h9 => h9) rfl hin rfl (by decide +kernel) rfl rfl (Nat.le_of_ble_eq_true rfl) dX5_init_10 (fun H locs hP hD hS => ?_)
  have hP : va_P D vwCl [(h0, .inr (5, [.ref q1, .int 0])), (q1, .inl (cy 21, 144, .inl (fun _ => 0)))] _ := hP
  have hD : va_D A [(h0, .inr (5, [.ref q1, .int 0])), (q1, .inl (cy 21, 144, .inl (fun _ => 0)))] := hD
  exact W.vret hx hb hr (fun t ht hW => ⟨⟨(), rfl, trivial, q1, hP.at ht, hD⟩, hS.F ht⟩) hS.2.2 dX5_init_13
set_option maxHeartbeats 4000000 in
set_option maxRecDepth 100000 in
theorem oX2_init (l : Launch) (D : va_G) (cy : Nat → ClassId) (h0 sz : Nat) : Met l yX2_init (Cond.code yX2_init cX2_init 1 none :: wtb) ({ frames := 1, cells := 0, slots := 0, locals := 12 }) (va_Pc [.ref h0] (fun U => U.heap.size = sz ∧ va_P D vwCl [(h0, .inr (2, [.int 0, .int 0]))] U.heap ∧ va_K D vwCl (tysJ cy) U ∧ va_D (fun _ => True) [(h0, .inr (2, [.int 0, .int 0]))] ∧ nestOK U)) (va_Qv (fun _ : Unit => True) (fun _ t => va_P D vwCl [(h0, .inr (2, [.int 0, .int 0]))] t.heap ∧ va_D (va_A [(h0, .inr (2, [.int 0, .int 0]))] sz) [(h0, .inr (2, [.int 0, .int 0]))]) (va_A [(h0, .inr (2, [.int 0, .int 0]))] sz)) 0 0 (va_A [(h0, .inr (2, [.int 0, .int 0]))] sz) := by
  refine Met.ofW (cc := cX2_init) (maxL := 1) (ret := none) (by decide) rfl ?_
  intro p e s m args below meth c s₁ B hml hv
  obtain ⟨rfl, hsz, hP, hK, hD0, hN⟩ := hv
  have hx := B.exec
  have hb := B.bytes
  have hr := B.returns
  have hts0 := atoms_spec (ws := Cond.code yX2_init cX2_init 1 none :: wtb) B.pre
  have hts : ∀ w ∈ wtb, w.before _ s = true := fun w hw => hts0 w (List.mem_cons_of_mem _ hw)
  have hown : s.vm.findClass RX2 = some m.cls := findClass_of_methodNamed B.named
  have hlocks := B.notSynchronized
  have hin : meth.name = "<init>" := (name_of_methodNamed B.named B.method).1
  subst hsz
  have hD := hD0.self (sz := s.heap.size)
  generalize hAe : va_A [(h0, .inr (2, [.int 0, .int 0]))] s.heap.size = A at hD ⊢
  have hA : ∀ q : Nat, s.heap.size ≤ q → A q := fun q h => by rw [← hAe]; exact Or.inr h
  have hS : va_S A s.heap s.heap [] := va_S.rf
  have hP : va_P D vwCl [(h0, .inr (2, [.int 0, .int 0]))] s.heap := hP
  have hl := lv_entry ([.ref h0]) (n := 1) (Nat.le_of_ble_eq_true rfl)
  rw [lg_entry_eq]
  generalize (lg_sl ([.ref h0]) ++ List.replicate (1 - (lg_sl ([.ref h0])).length) Slot.unset).toArray = ls at hl ⊢
  have hl : lv_has ls 1 [(0, .ref h0)] := hl
  refine lv_aload_n hx hb dX2_init_0 rfl (lv_at hl 0 rfl) ?_
  refine W.objInit hx hb hown (hts _ (wtb_in (w := .methodLink RX2 3 objectInit) (mem_at 62 (by decide +kernel)) rfl)) (hts _ wa_oi) (hts _ wa_oc) rfl (by rw [hml]; exact hl.1) rfl dX2_init_1 (Nat.le_of_ble_eq_true rfl) (Nat.le_of_ble_eq_true rfl) ?_
  refine W.eq (g2 := F0 m 4 ls []) rfl ?_
  exact W.vret hx hb hr (fun t ht hW => ⟨⟨(), rfl, trivial, hP.at ht, hD⟩, hS.F ht⟩) hS.2.2 dX2_init_4
set_option maxHeartbeats 4000000 in
set_option maxRecDepth 100000 in
theorem oX4_init (l : Launch) (D : va_G) (cy : Nat → ClassId) (h0 sz : Nat) : Met l yX4_init (Cond.code yX4_init cX4_init 1 none :: wtb) ({ frames := 1, cells := 1, slots := 160, locals := 12 }) (va_Pc [.ref h0] (fun U => U.heap.size = sz ∧ va_P D vwCl [(h0, .inr (4, [.null, .int 0]))] U.heap ∧ va_K D vwCl (tysJ cy) U ∧ va_D (fun _ => True) [(h0, .inr (4, [.null, .int 0]))] ∧ nestOK U)) (va_Qv (fun _ : Unit => True) (fun _ t => ∃ q1, va_P D vwCl [(h0, .inr (4, [.ref q1, .int 0])), (q1, .inl (cy 20, 160, .inl (fun _ => 0)))] t.heap ∧ va_D (va_A [(h0, .inr (4, [.null, .int 0]))] sz) [(h0, .inr (4, [.ref q1, .int 0])), (q1, .inl (cy 20, 160, .inl (fun _ => 0)))]) (va_A [(h0, .inr (4, [.null, .int 0]))] sz)) 1 160 (va_A [(h0, .inr (4, [.null, .int 0]))] sz) := by
  refine Met.ofW (cc := cX4_init) (maxL := 1) (ret := none) (by decide) rfl ?_
  intro p e s m args below meth c s₁ B hml hv
  obtain ⟨rfl, hsz, hP, hK, hD0, hN⟩ := hv
  have hx := B.exec
  have hb := B.bytes
  have hr := B.returns
  have hts0 := atoms_spec (ws := Cond.code yX4_init cX4_init 1 none :: wtb) B.pre
  have hts : ∀ w ∈ wtb, w.before _ s = true := fun w hw => hts0 w (List.mem_cons_of_mem _ hw)
  have hown : s.vm.findClass RX4 = some m.cls := findClass_of_methodNamed B.named
  have hlocks := B.notSynchronized
  have hin : meth.name = "<init>" := (name_of_methodNamed B.named B.method).1
  subst hsz
  have hD := hD0.self (sz := s.heap.size)
  generalize hAe : va_A [(h0, .inr (4, [.null, .int 0]))] s.heap.size = A at hD ⊢
  have hA : ∀ q : Nat, s.heap.size ≤ q → A q := fun q h => by rw [← hAe]; exact Or.inr h
  have hS : va_S A s.heap s.heap [] := va_S.rf
  have hP : va_P D vwCl [(h0, .inr (4, [.null, .int 0]))] s.heap := hP
  have hl := lv_entry ([.ref h0]) (n := 1) (Nat.le_of_ble_eq_true rfl)
  rw [lg_entry_eq]
  generalize (lg_sl ([.ref h0]) ++ List.replicate (1 - (lg_sl ([.ref h0])).length) Slot.unset).toArray = ls at hl ⊢
  have hl : lv_has ls 1 [(0, .ref h0)] := hl
  refine lv_aload_n hx hb dX4_init_0 rfl (lv_at hl 0 rfl) ?_
  refine W.objInit hx hb hown (hts _ (wtb_in (w := .methodLink RX4 3 objectInit) (mem_at 130 (by decide +kernel)) rfl)) (hts _ wa_oi) (hts _ wa_oc) rfl (by rw [hml]; exact hl.1) rfl dX4_init_1 (Nat.le_of_ble_eq_true rfl) (Nat.le_of_ble_eq_true rfl) ?_
  refine W.eq (g2 := F0 m 4 ls []) rfl ?_
  refine lv_aload_n hx hb dX4_init_4 rfl (lv_at hl 0 rfl) ?_
  refine lv_sipush (v := 160) hx hb dX4_init_5 (by decide) ?_
  refine jc_new (atype := .char) hx hb (hts _ wa_char) (hK.2 0 _ rfl).2 rfl (by decide) hK hP hD hS hA (by decide) (N := 160) (by decide) (by decide) (by show 0 + 1 ≤ 1; decide) (by show 0 + 160 ≤ 160; decide) dX4_init_8 (fun q1 H hP hD hS => ?_)
  refine W.widen (k := 1) (n := 160) (Nat.le_of_ble_eq_true rfl) (Nat.le_of_ble_eq_true rfl) ?_
  have hP : va_P D vwCl [(h0, .inr (4, [.null, .int 0])), (q1, .inl (cy 20, 160, .inl (fun _ => 0)))] _ := hP
  have hD : va_D A [(h0, .inr (4, [.null, .int 0])), (q1, .inl (cy 20, 160, .inl (fun _ => 0)))] := hD
  refine va_putF (D := D) (ci := 4) (v := .ref q1) (ty := .array .char) (C := RX4) (T := TX4) (N := 2) hx hb hts (clsOK_of (ci := 4) rfl).2.2.1 tyX4 tyX4_ok nmX4 hown hK hP hD hS 0 rfl rfl 0 (by decide) (hts _ (wtb_in (w := .fieldLink RX4 9 RX4 "characters" "[C") (mem_at 131 (by decide +kernel)) rfl)) (fun _ h9 => h9) rfl hin rfl (by decide +kernel) rfl rfl (Nat.le_of_ble_eq_true rfl) dX4_init_10 (fun H locs hP hD hS => ?_)
  have hP : va_P D vwCl [(h0, .inr (4, [.ref q1, .int 0])), (q1, .inl (cy 20, 160, .inl (fun _ => 0)))] _ := hP
  have hD : va_D A [(h0, .inr (4, [.ref q1, .int 0])), (q1, .inl (cy 20, 160, .inl (fun _ => 0)))] := hD
  exact W.vret hx hb hr (fun t ht hW => ⟨⟨(), rfl, trivial, q1, hP.at ht, hD⟩, hS.F ht⟩) hS.2.2 dX4_init_13
set_option maxHeartbeats 4000000 in
set_option maxRecDepth 100000 in
theorem oX6_init (l : Launch) (D : va_G) (cy : Nat → ClassId) (h0 r1 sz : Nat) : Met l yX6_init (Cond.code yX6_init cX6_init 2 none :: wtb) ({ frames := 1, cells := 1, slots := 144, locals := 12 }) (va_Pc [.ref h0, .ref r1] (fun U => U.heap.size = sz ∧ va_P D vwCl [(h0, .inr (6, [.null, .null, .int 0, .int 0, .int 0, .int 0, .int 0]))] U.heap ∧ va_K D vwCl (tysJ cy) U ∧ va_D (fun _ => True) [(h0, .inr (6, [.null, .null, .int 0, .int 0, .int 0, .int 0, .int 0]))] ∧ nestOK U)) (va_Qv (fun _ : Unit => True) (fun _ t => ∃ q1, va_P D vwCl [(h0, .inr (6, [.ref r1, .ref q1, .int 0, .int 0, .int 0, .int 0, .int 0])), (q1, .inl (cy 22, 144, .inl (fun _ => 0)))] t.heap ∧ va_D (va_A [(h0, .inr (6, [.null, .null, .int 0, .int 0, .int 0, .int 0, .int 0]))] sz) [(h0, .inr (6, [.ref r1, .ref q1, .int 0, .int 0, .int 0, .int 0, .int 0])), (q1, .inl (cy 22, 144, .inl (fun _ => 0)))]) (va_A [(h0, .inr (6, [.null, .null, .int 0, .int 0, .int 0, .int 0, .int 0]))] sz)) 1 144 (va_A [(h0, .inr (6, [.null, .null, .int 0, .int 0, .int 0, .int 0, .int 0]))] sz) := by
  refine Met.ofW (cc := cX6_init) (maxL := 2) (ret := none) (by decide) rfl ?_
  intro p e s m args below meth c s₁ B hml hv
  obtain ⟨rfl, hsz, hP, hK, hD0, hN⟩ := hv
  have hx := B.exec
  have hb := B.bytes
  have hr := B.returns
  have hts0 := atoms_spec (ws := Cond.code yX6_init cX6_init 2 none :: wtb) B.pre
  have hts : ∀ w ∈ wtb, w.before _ s = true := fun w hw => hts0 w (List.mem_cons_of_mem _ hw)
  have hown : s.vm.findClass RX6 = some m.cls := findClass_of_methodNamed B.named
  have hlocks := B.notSynchronized
  have hin : meth.name = "<init>" := (name_of_methodNamed B.named B.method).1
  subst hsz
  have hD := hD0.self (sz := s.heap.size)
  generalize hAe : va_A [(h0, .inr (6, [.null, .null, .int 0, .int 0, .int 0, .int 0, .int 0]))] s.heap.size = A at hD ⊢
  have hA : ∀ q : Nat, s.heap.size ≤ q → A q := fun q h => by rw [← hAe]; exact Or.inr h
  have hS : va_S A s.heap s.heap [] := va_S.rf
  have hP : va_P D vwCl [(h0, .inr (6, [.null, .null, .int 0, .int 0, .int 0, .int 0, .int 0]))] s.heap := hP
  have hl := lv_entry ([.ref h0, .ref r1]) (n := 2) (Nat.le_of_ble_eq_true rfl)
  rw [lg_entry_eq]
  generalize (lg_sl ([.ref h0, .ref r1]) ++ List.replicate (2 - (lg_sl ([.ref h0, .ref r1])).length) Slot.unset).toArray = ls at hl ⊢
  have hl : lv_has ls 2 [(0, .ref h0), (1, .ref r1)] := hl
  refine lv_aload_n hx hb dX6_init_0 rfl (lv_at hl 0 rfl) ?_
  refine W.objInit hx hb hown (hts _ (wtb_in (w := .methodLink RX6 3 objectInit) (mem_at 144 (by decide +kernel)) rfl)) (hts _ wa_oi) (hts _ wa_oc) rfl (by rw [hml]; exact hl.1) rfl dX6_init_1 (Nat.le_of_ble_eq_true rfl) (Nat.le_of_ble_eq_true rfl) ?_
  refine W.eq (g2 := F0 m 4 ls []) rfl ?_
  refine lv_aload_n hx hb dX6_init_4 rfl (lv_at hl 0 rfl) ?_
  refine lv_sipush (v := 144) hx hb dX6_init_5 (by decide) ?_
  refine jc_new (atype := .boolean) hx hb (hts _ wa_boolean) (hK.2 2 _ rfl).2 rfl (by decide) hK hP hD hS hA (by decide) (N := 144) (by decide) (by decide) (by show 0 + 1 ≤ 1; decide) (by show 0 + 144 ≤ 144; decide) dX6_init_8 (fun q1 H hP hD hS => ?_)
  refine W.widen (k := 1) (n := 144) (Nat.le_of_ble_eq_true rfl) (Nat.le_of_ble_eq_true rfl) ?_
  have hP : va_P D vwCl [(h0, .inr (6, [.null, .null, .int 0, .int 0, .int 0, .int 0, .int 0])), (q1, .inl (cy 22, 144, .inl (fun _ => 0)))] _ := hP
  have hD : va_D A [(h0, .inr (6, [.null, .null, .int 0, .int 0, .int 0, .int 0, .int 0])), (q1, .inl (cy 22, 144, .inl (fun _ => 0)))] := hD
  refine va_putF (D := D) (ci := 6) (v := .ref q1) (ty := .array .boolean) (C := RX6) (T := TX6) (N := 7) hx hb hts (clsOK_of (ci := 6) rfl).2.2.1 tyX6 tyX6_ok nmX6 hown hK hP hD hS 0 rfl rfl 1 (by decide) (hts _ (wtb_in (w := .fieldLink RX6 9 RX6 "entered" "[Z") (mem_at 146 (by decide +kernel)) rfl)) (fun _ h9 => h9) rfl hin rfl (by decide +kernel) rfl rfl (Nat.le_of_ble_eq_true rfl) dX6_init_10 (fun H locs hP hD hS => ?_)
  have hP : va_P D vwCl [(h0, .inr (6, [.null, .ref q1, .int 0, .int 0, .int 0, .int 0, .int 0])), (q1, .inl (cy 22, 144, .inl (fun _ => 0)))] _ := hP
  have hD : va_D A [(h0, .inr (6, [.null, .ref q1, .int 0, .int 0, .int 0, .int 0, .int 0])), (q1, .inl (cy 22, 144, .inl (fun _ => 0)))] := hD
  refine lv_aload_n hx hb dX6_init_13 rfl (lv_at hl 0 rfl) ?_
  refine lv_aload_n hx hb dX6_init_14 rfl (lv_at hl 1 rfl) ?_
  refine va_putF (D := D) (ci := 6) (v := .ref r1) (ty := .object "SeamMap$Surface") (C := RX6) (T := TX6) (N := 7) hx hb hts (clsOK_of (ci := 6) rfl).2.2.1 tyX6 tyX6_ok nmX6 hown hK hP hD hS 0 rfl rfl 0 (by decide) (hts _ (wtb_in (w := .fieldLink RX6 15 RX6 "surface" "LSeamMap$Surface;") (mem_at 145 (by decide +kernel)) rfl)) (fun _ h9 => h9) rfl hin rfl (by decide +kernel) rfl rfl (Nat.le_of_ble_eq_true rfl) dX6_init_15 (fun H locs hP hD hS => ?_)
  have hP : va_P D vwCl [(h0, .inr (6, [.ref r1, .ref q1, .int 0, .int 0, .int 0, .int 0, .int 0])), (q1, .inl (cy 22, 144, .inl (fun _ => 0)))] _ := hP
  have hD : va_D A [(h0, .inr (6, [.ref r1, .ref q1, .int 0, .int 0, .int 0, .int 0, .int 0])), (q1, .inl (cy 22, 144, .inl (fun _ => 0)))] := hD
  exact W.vret hx hb hr (fun t ht hW => ⟨⟨(), rfl, trivial, q1, hP.at ht, hD⟩, hS.F ht⟩) hS.2.2 dX6_init_18
set_option maxHeartbeats 4000000 in
set_option maxRecDepth 100000 in
theorem oX7_init (l : Launch) (D : va_G) (cy : Nat → ClassId) (h0 r1 r2 sz : Nat) : Met l yX7_init (Cond.code yX7_init cX7_init 3 none :: wtb) ({ frames := 2, cells := 4, slots := 296, locals := 32 }) (va_Pc [.ref h0, .ref r1, .ref r2] (fun U => U.heap.size = sz ∧ va_P D vwCl [(h0, .inr (7, [.null, .null, .null, .null, .null]))] U.heap ∧ va_K D vwCl (tysJ cy) U ∧ va_D (fun _ => True) [(h0, .inr (7, [.null, .null, .null, .null, .null]))] ∧ nestOK U)) (va_Qv (fun _ : Unit => True) (fun _ t => ∃ q1 q2 q3 q4, va_P D vwCl [(h0, .inr (7, [.ref r1, .ref r2, .ref q1, .ref q2, .ref q3])), (q1, .inl (cy 21, 6, .inl (fun _ => 0))), (q2, .inl (cy 21, 144, .inl (fun _ => 0))), (q3, .inr (5, [.ref q4, .int 0])), (q4, .inl (cy 21, 144, .inl (fun _ => 0)))] t.heap ∧ va_D (va_A [(h0, .inr (7, [.null, .null, .null, .null, .null]))] sz) [(h0, .inr (7, [.ref r1, .ref r2, .ref q1, .ref q2, .ref q3])), (q1, .inl (cy 21, 6, .inl (fun _ => 0))), (q2, .inl (cy 21, 144, .inl (fun _ => 0))), (q3, .inr (5, [.ref q4, .int 0])), (q4, .inl (cy 21, 144, .inl (fun _ => 0)))]) (va_A [(h0, .inr (7, [.null, .null, .null, .null, .null]))] sz)) 4 296 (va_A [(h0, .inr (7, [.null, .null, .null, .null, .null]))] sz) := by
  refine Met.ofW (cc := cX7_init) (maxL := 3) (ret := none) (by decide) rfl ?_
  intro p e s m args below meth c s₁ B hml hv
  obtain ⟨rfl, hsz, hP, hK, hD0, hN⟩ := hv
  have hx := B.exec
  have hb := B.bytes
  have hr := B.returns
  have hts0 := atoms_spec (ws := Cond.code yX7_init cX7_init 3 none :: wtb) B.pre
  have hts : ∀ w ∈ wtb, w.before _ s = true := fun w hw => hts0 w (List.mem_cons_of_mem _ hw)
  have hown : s.vm.findClass RX7 = some m.cls := findClass_of_methodNamed B.named
  have hlocks := B.notSynchronized
  have hin : meth.name = "<init>" := (name_of_methodNamed B.named B.method).1
  subst hsz
  have hD := hD0.self (sz := s.heap.size)
  generalize hAe : va_A [(h0, .inr (7, [.null, .null, .null, .null, .null]))] s.heap.size = A at hD ⊢
  have hA : ∀ q : Nat, s.heap.size ≤ q → A q := fun q h => by rw [← hAe]; exact Or.inr h
  have hS : va_S A s.heap s.heap [] := va_S.rf
  have hP : va_P D vwCl [(h0, .inr (7, [.null, .null, .null, .null, .null]))] s.heap := hP
  have hl := lv_entry ([.ref h0, .ref r1, .ref r2]) (n := 3) (Nat.le_of_ble_eq_true rfl)
  rw [lg_entry_eq]
  generalize (lg_sl ([.ref h0, .ref r1, .ref r2]) ++ List.replicate (3 - (lg_sl ([.ref h0, .ref r1, .ref r2])).length) Slot.unset).toArray = ls at hl ⊢
  have hl : lv_has ls 3 [(0, .ref h0), (1, .ref r1), (2, .ref r2)] := hl
  refine lv_aload_n hx hb dX7_init_0 rfl (lv_at hl 0 rfl) ?_
  refine W.objInit hx hb hown (hts _ (wtb_in (w := .methodLink RX7 3 objectInit) (mem_at 95 (by decide +kernel)) rfl)) (hts _ wa_oi) (hts _ wa_oc) rfl (by rw [hml]; exact hl.1) rfl dX7_init_1 (Nat.le_of_ble_eq_true rfl) (Nat.le_of_ble_eq_true rfl) ?_
  refine W.eq (g2 := F0 m 4 ls []) rfl ?_
  refine lv_aload_n hx hb dX7_init_4 rfl (lv_at hl 0 rfl) ?_
  refine lv_bipush (v := 6) hx hb dX7_init_5 (by decide) ?_
  refine jc_new (atype := .int) hx hb (hts _ wa_int) (hK.2 1 _ rfl).2 rfl (by decide) hK hP hD hS hA (by decide) (N := 6) (by decide) (by decide) (by show 0 + 1 ≤ 4; decide) (by show 0 + 6 ≤ 296; decide) dX7_init_7 (fun q1 H hP hD hS => ?_)
  refine W.widen (k := 1) (n := 6) (Nat.le_of_ble_eq_true rfl) (Nat.le_of_ble_eq_true rfl) ?_
  have hP : va_P D vwCl [(h0, .inr (7, [.null, .null, .null, .null, .null])), (q1, .inl (cy 21, 6, .inl (fun _ => 0)))] _ := hP
  have hD : va_D A [(h0, .inr (7, [.null, .null, .null, .null, .null])), (q1, .inl (cy 21, 6, .inl (fun _ => 0)))] := hD
  refine va_putF (D := D) (ci := 7) (v := .ref q1) (ty := .array .int) (C := RX7) (T := TX7) (N := 5) hx hb hts (clsOK_of (ci := 7) rfl).2.2.1 tyX7 tyX7_ok nmX7 hown hK hP hD hS 0 rfl rfl 2 (by decide) (hts _ (wtb_in (w := .fieldLink RX7 9 RX7 "weights" "[I") (mem_at 111 (by decide +kernel)) rfl)) (fun _ h9 => h9) rfl hin rfl (by decide +kernel) rfl rfl (Nat.le_of_ble_eq_true rfl) dX7_init_9 (fun H locs hP hD hS => ?_)
  have hP : va_P D vwCl [(h0, .inr (7, [.null, .null, .ref q1, .null, .null])), (q1, .inl (cy 21, 6, .inl (fun _ => 0)))] _ := hP
  have hD : va_D A [(h0, .inr (7, [.null, .null, .ref q1, .null, .null])), (q1, .inl (cy 21, 6, .inl (fun _ => 0)))] := hD
  refine lv_aload_n hx hb dX7_init_12 rfl (lv_at hl 0 rfl) ?_
  refine lv_sipush (v := 144) hx hb dX7_init_13 (by decide) ?_
  refine jc_new (atype := .int) hx hb (hts _ wa_int) (hK.2 1 _ rfl).2 rfl (by decide) hK hP hD hS hA (by decide) (N := 144) (by decide) (by decide) (by show 1 + 1 ≤ 4; decide) (by show 6 + 144 ≤ 296; decide) dX7_init_16 (fun q2 H hP hD hS => ?_)
  refine W.widen (k := 2) (n := 150) (Nat.le_of_ble_eq_true rfl) (Nat.le_of_ble_eq_true rfl) ?_
  have hP : va_P D vwCl [(h0, .inr (7, [.null, .null, .ref q1, .null, .null])), (q1, .inl (cy 21, 6, .inl (fun _ => 0))), (q2, .inl (cy 21, 144, .inl (fun _ => 0)))] _ := hP
  have hD : va_D A [(h0, .inr (7, [.null, .null, .ref q1, .null, .null])), (q1, .inl (cy 21, 6, .inl (fun _ => 0))), (q2, .inl (cy 21, 144, .inl (fun _ => 0)))] := hD
  refine va_putF (D := D) (ci := 7) (v := .ref q2) (ty := .array .int) (C := RX7) (T := TX7) (N := 5) hx hb hts (clsOK_of (ci := 7) rfl).2.2.1 tyX7 tyX7_ok nmX7 hown hK hP hD hS 0 rfl rfl 3 (by decide) (hts _ (wtb_in (w := .fieldLink RX7 15 RX7 "lengths" "[I") (mem_at 112 (by decide +kernel)) rfl)) (fun _ h9 => h9) rfl hin rfl (by decide +kernel) rfl rfl (Nat.le_of_ble_eq_true rfl) dX7_init_18 (fun H locs hP hD hS => ?_)
  have hP : va_P D vwCl [(h0, .inr (7, [.null, .null, .ref q1, .ref q2, .null])), (q1, .inl (cy 21, 6, .inl (fun _ => 0))), (q2, .inl (cy 21, 144, .inl (fun _ => 0)))] _ := hP
  have hD : va_D A [(h0, .inr (7, [.null, .null, .ref q1, .ref q2, .null])), (q1, .inl (cy 21, 6, .inl (fun _ => 0))), (q2, .inl (cy 21, 144, .inl (fun _ => 0)))] := hD
  refine lv_aload_n hx hb dX7_init_21 rfl (lv_at hl 0 rfl) ?_
  refine va_new (ci := 5) (fs := [.null, .int 0]) (C := RX5) (T := TX5) (N := 2) hx hb hts (clsOK_of (ci := 5) rfl).2.2.1 tyX5 tyX5_ok hown (hts _ (wtb_in (w := .classLink RX7 18 RX5) (mem_at 96 (by decide +kernel)) rfl)) (hts _ (wtb_in (w := .instantiable RX5 2) (mem_at 97 (by decide +kernel)) rfl)) (hts _ (wtb_in wnX5 rfl)) hK hP hD hS hA rfl (fun j hj => by rcases (show j = 0 ∨ j = 1 by omega) with rfl | rfl <;> rfl) (by show 2 + 1 ≤ 4; decide) (by show 150 + 2 ≤ 296; decide) dX7_init_22 (fun q3 H hP hD hS => ?_)
  refine W.widen (k := 3) (n := 152) (Nat.le_of_ble_eq_true rfl) (Nat.le_of_ble_eq_true rfl) ?_
  have hP : va_P D vwCl [(h0, .inr (7, [.null, .null, .ref q1, .ref q2, .null])), (q1, .inl (cy 21, 6, .inl (fun _ => 0))), (q2, .inl (cy 21, 144, .inl (fun _ => 0))), (q3, .inr (5, [.null, .int 0]))] _ := hP
  have hD : va_D A [(h0, .inr (7, [.null, .null, .ref q1, .ref q2, .null])), (q1, .inl (cy 21, 6, .inl (fun _ => 0))), (q2, .inl (cy 21, 144, .inl (fun _ => 0))), (q3, .inr (5, [.null, .int 0]))] := hD
  refine lv_dup hx hb dX7_init_25 rfl ?_
  have hPc := hP.sub (ws' := [(q3, .inr (5, [.null, .int 0]))]) [3] rfl
  have hDc := hD.sub (ws' := [(q3, .inr (5, [.null, .int 0]))]) [3] (by decide) rfl
  have hFc := va_free (wc := [(q3, .inr (5, [.null, .int 0]))]) hD hS hA [3] rfl
  refine va_callv (va_runIN (As := []) (rest := [.ref q3, .ref h0]) ⟨hx, hb, hml, hown, hts⟩ (oX5_init l D cy q3 _) ⟨va_cnB (host := "SeamMap") 0 hts (good_cons (big := wtb) wcX5_init) rfl rfl rfl hN.2.2.2.2.2.2 (hts _ (wtb_in wnX5 rfl)) (by decide +kernel) ⟨(Nat.le_of_ble_eq_true rfl), (Nat.le_of_ble_eq_true rfl)⟩, rfl, hts _ (wtb_in wiX5_init rfl)⟩ ⟨fun a U g mk q => by obtain ⟨q0, q1, qP, qK, qD, qN⟩ := q; exact ⟨q0, q1, qP, va_K.moved (u := U) (U := U.calling g mk a) (Vm.Alike.refl U.vm) qK, qD, nestOK.same rfl qN⟩, fun U hU hW => ⟨rfl, by rw [hU], by rw [hU]; exact hPc, va_K.moved hW.alike hK, hDc.weaken (fun _ _ _ _ => trivial), nestOK.moved hW hN⟩⟩ rfl rfl hl.1 rfl (lv_room (Nat.le_of_ble_eq_true rfl)) dX7_init_26 ⟨(by show 3 + 1 ≤ 4; decide), (by show 152 + 144 ≤ 296; decide)⟩) hS (fun q _ h => hFc q h) hFc (fun u t H1 locs ht hvm hw hB hz1 hk1 hS => ?_)
  obtain ⟨q4, hP1, hD1⟩ := hB
  rw [ht] at hP1
  obtain ⟨hP, hD⟩ := va_join (wr := [(h0, .inr (7, [.null, .null, .ref q1, .ref q2, .null])), (q1, .inl (cy 21, 6, .inl (fun _ => 0))), (q2, .inl (cy 21, 144, .inl (fun _ => 0)))]) (w1 := [(q3, .inr (5, [.ref q4, .int 0])), (q4, .inl (cy 21, 144, .inl (fun _ => 0)))]) hP hD [3] [0, 1, 2] rfl rfl (by decide) (by decide) hk1 hFc hP1 hD1
  generalize H1 = H at hP hS ⊢
  refine W.widen (k := 4) (n := 296) (Nat.le_of_ble_eq_true rfl) (Nat.le_of_ble_eq_true rfl) ?_
  have hP : va_P D vwCl [(h0, .inr (7, [.null, .null, .ref q1, .ref q2, .null])), (q1, .inl (cy 21, 6, .inl (fun _ => 0))), (q2, .inl (cy 21, 144, .inl (fun _ => 0))), (q3, .inr (5, [.ref q4, .int 0])), (q4, .inl (cy 21, 144, .inl (fun _ => 0)))] _ := hP
  have hD : va_D A [(h0, .inr (7, [.null, .null, .ref q1, .ref q2, .null])), (q1, .inl (cy 21, 6, .inl (fun _ => 0))), (q2, .inl (cy 21, 144, .inl (fun _ => 0))), (q3, .inr (5, [.ref q4, .int 0])), (q4, .inl (cy 21, 144, .inl (fun _ => 0)))] := hD
  refine va_putF (D := D) (ci := 7) (v := .ref q3) (ty := .object "SeamMap$TileList") (C := RX7) (T := TX7) (N := 5) hx hb hts (clsOK_of (ci := 7) rfl).2.2.1 tyX7 tyX7_ok nmX7 hown hK hP hD hS 0 rfl rfl 4 (by decide) (hts _ (wtb_in (w := .fieldLink RX7 21 RX7 "open" "LSeamMap$TileList;") (mem_at 113 (by decide +kernel)) rfl)) (fun _ h9 => h9) rfl hin rfl (by decide +kernel) rfl rfl (Nat.le_of_ble_eq_true rfl) dX7_init_29 (fun H locs hP hD hS => ?_)
  have hP : va_P D vwCl [(h0, .inr (7, [.null, .null, .ref q1, .ref q2, .ref q3])), (q1, .inl (cy 21, 6, .inl (fun _ => 0))), (q2, .inl (cy 21, 144, .inl (fun _ => 0))), (q3, .inr (5, [.ref q4, .int 0])), (q4, .inl (cy 21, 144, .inl (fun _ => 0)))] _ := hP
  have hD : va_D A [(h0, .inr (7, [.null, .null, .ref q1, .ref q2, .ref q3])), (q1, .inl (cy 21, 6, .inl (fun _ => 0))), (q2, .inl (cy 21, 144, .inl (fun _ => 0))), (q3, .inr (5, [.ref q4, .int 0])), (q4, .inl (cy 21, 144, .inl (fun _ => 0)))] := hD
  refine lv_aload_n hx hb dX7_init_32 rfl (lv_at hl 0 rfl) ?_
  refine lv_aload_n hx hb dX7_init_33 rfl (lv_at hl 1 rfl) ?_
  refine va_putF (D := D) (ci := 7) (v := .ref r1) (ty := .object "SeamMap$Surface") (C := RX7) (T := TX7) (N := 5) hx hb hts (clsOK_of (ci := 7) rfl).2.2.1 tyX7 tyX7_ok nmX7 hown hK hP hD hS 0 rfl rfl 0 (by decide) (hts _ (wtb_in (w := .fieldLink RX7 25 RX7 "surface" "LSeamMap$Surface;") (mem_at 109 (by decide +kernel)) rfl)) (fun _ h9 => h9) rfl hin rfl (by decide +kernel) rfl rfl (Nat.le_of_ble_eq_true rfl) dX7_init_34 (fun H locs hP hD hS => ?_)
  have hP : va_P D vwCl [(h0, .inr (7, [.ref r1, .null, .ref q1, .ref q2, .ref q3])), (q1, .inl (cy 21, 6, .inl (fun _ => 0))), (q2, .inl (cy 21, 144, .inl (fun _ => 0))), (q3, .inr (5, [.ref q4, .int 0])), (q4, .inl (cy 21, 144, .inl (fun _ => 0)))] _ := hP
  have hD : va_D A [(h0, .inr (7, [.ref r1, .null, .ref q1, .ref q2, .ref q3])), (q1, .inl (cy 21, 6, .inl (fun _ => 0))), (q2, .inl (cy 21, 144, .inl (fun _ => 0))), (q3, .inr (5, [.ref q4, .int 0])), (q4, .inl (cy 21, 144, .inl (fun _ => 0)))] := hD
  refine lv_aload_n hx hb dX7_init_37 rfl (lv_at hl 0 rfl) ?_
  refine lv_aload_n hx hb dX7_init_38 rfl (lv_at hl 2 rfl) ?_
  refine va_putF (D := D) (ci := 7) (v := .ref r2) (ty := .array .int) (C := RX7) (T := TX7) (N := 5) hx hb hts (clsOK_of (ci := 7) rfl).2.2.1 tyX7 tyX7_ok nmX7 hown hK hP hD hS 0 rfl rfl 1 (by decide) (hts _ (wtb_in (w := .fieldLink RX7 29 RX7 "kinds" "[I") (mem_at 110 (by decide +kernel)) rfl)) (fun _ h9 => h9) rfl hin rfl (by decide +kernel) rfl rfl (Nat.le_of_ble_eq_true rfl) dX7_init_39 (fun H locs hP hD hS => ?_)
  have hP : va_P D vwCl [(h0, .inr (7, [.ref r1, .ref r2, .ref q1, .ref q2, .ref q3])), (q1, .inl (cy 21, 6, .inl (fun _ => 0))), (q2, .inl (cy 21, 144, .inl (fun _ => 0))), (q3, .inr (5, [.ref q4, .int 0])), (q4, .inl (cy 21, 144, .inl (fun _ => 0)))] _ := hP
  have hD : va_D A [(h0, .inr (7, [.ref r1, .ref r2, .ref q1, .ref q2, .ref q3])), (q1, .inl (cy 21, 6, .inl (fun _ => 0))), (q2, .inl (cy 21, 144, .inl (fun _ => 0))), (q3, .inr (5, [.ref q4, .int 0])), (q4, .inl (cy 21, 144, .inl (fun _ => 0)))] := hD
  exact W.vret hx hb hr (fun t ht hW => ⟨⟨(), rfl, trivial, q1, q2, q3, q4, hP.at ht, hD⟩, hS.F ht⟩) hS.2.2 dX7_init_42
set_option maxHeartbeats 4000000 in
set_option maxRecDepth 100000 in
theorem oX1_init (l : Launch) (D : va_G) (cy : Nat → ClassId) (h0 r1 r2 sz : Nat) : Met l yX1_init (Cond.code yX1_init cX1_init 3 none :: wtb) ({ frames := 2, cells := 7, slots := 866, locals := 32 }) (va_Pc [.ref h0, .ref r1, .ref r2] (fun U => U.heap.size = sz ∧ va_P D vwCl [(h0, .inr (1, [.null, .null, .null, .null, .null, .null, .null, .null, .int 0]))] U.heap ∧ va_K D vwCl (tysJ cy) U ∧ va_D (fun _ => True) [(h0, .inr (1, [.null, .null, .null, .null, .null, .null, .null, .null, .int 0]))] ∧ nestOK U)) (va_Qv (fun _ : Unit => True) (fun _ t => ∃ q1 q2 q3 q4 q5 q6 q7, va_P D vwCl [(h0, .inr (1, [.ref r1, .ref r2, .ref q1, .ref q2, .ref q3, .ref q4, .ref q5, .ref q6, .int 0])), (q1, .inl (cy 21, 144, .inl (fun _ => 0))), (q2, .inl (cy 21, 144, .inl (fun _ => 0))), (q3, .inl (cy 21, 144, .inl (fun _ => 0))), (q4, .inl (cy 21, 144, .inl (fun _ => 0))), (q5, .inl (cy 22, 144, .inl (fun _ => 0))), (q6, .inr (5, [.ref q7, .int 0])), (q7, .inl (cy 21, 144, .inl (fun _ => 0)))] t.heap ∧ va_D (va_A [(h0, .inr (1, [.null, .null, .null, .null, .null, .null, .null, .null, .int 0]))] sz) [(h0, .inr (1, [.ref r1, .ref r2, .ref q1, .ref q2, .ref q3, .ref q4, .ref q5, .ref q6, .int 0])), (q1, .inl (cy 21, 144, .inl (fun _ => 0))), (q2, .inl (cy 21, 144, .inl (fun _ => 0))), (q3, .inl (cy 21, 144, .inl (fun _ => 0))), (q4, .inl (cy 21, 144, .inl (fun _ => 0))), (q5, .inl (cy 22, 144, .inl (fun _ => 0))), (q6, .inr (5, [.ref q7, .int 0])), (q7, .inl (cy 21, 144, .inl (fun _ => 0)))]) (va_A [(h0, .inr (1, [.null, .null, .null, .null, .null, .null, .null, .null, .int 0]))] sz)) 7 866 (va_A [(h0, .inr (1, [.null, .null, .null, .null, .null, .null, .null, .null, .int 0]))] sz) := by
  refine Met.ofW (cc := cX1_init) (maxL := 3) (ret := none) (by decide) rfl ?_
  intro p e s m args below meth c s₁ B hml hv
  obtain ⟨rfl, hsz, hP, hK, hD0, hN⟩ := hv
  have hx := B.exec
  have hb := B.bytes
  have hr := B.returns
  have hts0 := atoms_spec (ws := Cond.code yX1_init cX1_init 3 none :: wtb) B.pre
  have hts : ∀ w ∈ wtb, w.before _ s = true := fun w hw => hts0 w (List.mem_cons_of_mem _ hw)
  have hown : s.vm.findClass RX1 = some m.cls := findClass_of_methodNamed B.named
  have hlocks := B.notSynchronized
  have hin : meth.name = "<init>" := (name_of_methodNamed B.named B.method).1
  subst hsz
  have hD := hD0.self (sz := s.heap.size)
  generalize hAe : va_A [(h0, .inr (1, [.null, .null, .null, .null, .null, .null, .null, .null, .int 0]))] s.heap.size = A at hD ⊢
  have hA : ∀ q : Nat, s.heap.size ≤ q → A q := fun q h => by rw [← hAe]; exact Or.inr h
  have hS : va_S A s.heap s.heap [] := va_S.rf
  have hP : va_P D vwCl [(h0, .inr (1, [.null, .null, .null, .null, .null, .null, .null, .null, .int 0]))] s.heap := hP
  have hl := lv_entry ([.ref h0, .ref r1, .ref r2]) (n := 3) (Nat.le_of_ble_eq_true rfl)
  rw [lg_entry_eq]
  generalize (lg_sl ([.ref h0, .ref r1, .ref r2]) ++ List.replicate (3 - (lg_sl ([.ref h0, .ref r1, .ref r2])).length) Slot.unset).toArray = ls at hl ⊢
  have hl : lv_has ls 3 [(0, .ref h0), (1, .ref r1), (2, .ref r2)] := hl
  refine lv_aload_n hx hb dX1_init_0 rfl (lv_at hl 0 rfl) ?_
  refine W.objInit hx hb hown (hts _ (wtb_in (w := .methodLink RX1 3 objectInit) (mem_at 191 (by decide +kernel)) rfl)) (hts _ wa_oi) (hts _ wa_oc) rfl (by rw [hml]; exact hl.1) rfl dX1_init_1 (Nat.le_of_ble_eq_true rfl) (Nat.le_of_ble_eq_true rfl) ?_
  refine W.eq (g2 := F0 m 4 ls []) rfl ?_
  refine lv_aload_n hx hb dX1_init_4 rfl (lv_at hl 0 rfl) ?_
  refine lv_sipush (v := 144) hx hb dX1_init_5 (by decide) ?_
  refine jc_new (atype := .int) hx hb (hts _ wa_int) (hK.2 1 _ rfl).2 rfl (by decide) hK hP hD hS hA (by decide) (N := 144) (by decide) (by decide) (by show 0 + 1 ≤ 7; decide) (by show 0 + 144 ≤ 866; decide) dX1_init_8 (fun q1 H hP hD hS => ?_)
  refine W.widen (k := 1) (n := 144) (Nat.le_of_ble_eq_true rfl) (Nat.le_of_ble_eq_true rfl) ?_
  have hP : va_P D vwCl [(h0, .inr (1, [.null, .null, .null, .null, .null, .null, .null, .null, .int 0])), (q1, .inl (cy 21, 144, .inl (fun _ => 0)))] _ := hP
  have hD : va_D A [(h0, .inr (1, [.null, .null, .null, .null, .null, .null, .null, .null, .int 0])), (q1, .inl (cy 21, 144, .inl (fun _ => 0)))] := hD
  refine va_putF (D := D) (ci := 1) (v := .ref q1) (ty := .array .int) (C := RX1) (T := TX1) (N := 9) hx hb hts (clsOK_of (ci := 1) rfl).2.2.1 tyX1 tyX1_ok nmX1 hown hK hP hD hS 0 rfl rfl 2 (by decide) (hts _ (wtb_in (w := .fieldLink RX1 9 RX1 "labels" "[I") (mem_at 196 (by decide +kernel)) rfl)) (fun _ h9 => h9) rfl hin rfl (by decide +kernel) rfl rfl (Nat.le_of_ble_eq_true rfl) dX1_init_10 (fun H locs hP hD hS => ?_)
  have hP : va_P D vwCl [(h0, .inr (1, [.null, .null, .ref q1, .null, .null, .null, .null, .null, .int 0])), (q1, .inl (cy 21, 144, .inl (fun _ => 0)))] _ := hP
  have hD : va_D A [(h0, .inr (1, [.null, .null, .ref q1, .null, .null, .null, .null, .null, .int 0])), (q1, .inl (cy 21, 144, .inl (fun _ => 0)))] := hD
  refine lv_aload_n hx hb dX1_init_13 rfl (lv_at hl 0 rfl) ?_
  refine lv_sipush (v := 144) hx hb dX1_init_14 (by decide) ?_
  refine jc_new (atype := .int) hx hb (hts _ wa_int) (hK.2 1 _ rfl).2 rfl (by decide) hK hP hD hS hA (by decide) (N := 144) (by decide) (by decide) (by show 1 + 1 ≤ 7; decide) (by show 144 + 144 ≤ 866; decide) dX1_init_17 (fun q2 H hP hD hS => ?_)
  refine W.widen (k := 2) (n := 288) (Nat.le_of_ble_eq_true rfl) (Nat.le_of_ble_eq_true rfl) ?_
  have hP : va_P D vwCl [(h0, .inr (1, [.null, .null, .ref q1, .null, .null, .null, .null, .null, .int 0])), (q1, .inl (cy 21, 144, .inl (fun _ => 0))), (q2, .inl (cy 21, 144, .inl (fun _ => 0)))] _ := hP
  have hD : va_D A [(h0, .inr (1, [.null, .null, .ref q1, .null, .null, .null, .null, .null, .int 0])), (q1, .inl (cy 21, 144, .inl (fun _ => 0))), (q2, .inl (cy 21, 144, .inl (fun _ => 0)))] := hD
  refine va_putF (D := D) (ci := 1) (v := .ref q2) (ty := .array .int) (C := RX1) (T := TX1) (N := 9) hx hb hts (clsOK_of (ci := 1) rfl).2.2.1 tyX1 tyX1_ok nmX1 hown hK hP hD hS 0 rfl rfl 3 (by decide) (hts _ (wtb_in (w := .fieldLink RX1 15 RX1 "sizes" "[I") (mem_at 197 (by decide +kernel)) rfl)) (fun _ h9 => h9) rfl hin rfl (by decide +kernel) rfl rfl (Nat.le_of_ble_eq_true rfl) dX1_init_19 (fun H locs hP hD hS => ?_)
  have hP : va_P D vwCl [(h0, .inr (1, [.null, .null, .ref q1, .ref q2, .null, .null, .null, .null, .int 0])), (q1, .inl (cy 21, 144, .inl (fun _ => 0))), (q2, .inl (cy 21, 144, .inl (fun _ => 0)))] _ := hP
  have hD : va_D A [(h0, .inr (1, [.null, .null, .ref q1, .ref q2, .null, .null, .null, .null, .int 0])), (q1, .inl (cy 21, 144, .inl (fun _ => 0))), (q2, .inl (cy 21, 144, .inl (fun _ => 0)))] := hD
  refine lv_aload_n hx hb dX1_init_22 rfl (lv_at hl 0 rfl) ?_
  refine lv_sipush (v := 144) hx hb dX1_init_23 (by decide) ?_
  refine jc_new (atype := .int) hx hb (hts _ wa_int) (hK.2 1 _ rfl).2 rfl (by decide) hK hP hD hS hA (by decide) (N := 144) (by decide) (by decide) (by show 2 + 1 ≤ 7; decide) (by show 288 + 144 ≤ 866; decide) dX1_init_26 (fun q3 H hP hD hS => ?_)
  refine W.widen (k := 3) (n := 432) (Nat.le_of_ble_eq_true rfl) (Nat.le_of_ble_eq_true rfl) ?_
  have hP : va_P D vwCl [(h0, .inr (1, [.null, .null, .ref q1, .ref q2, .null, .null, .null, .null, .int 0])), (q1, .inl (cy 21, 144, .inl (fun _ => 0))), (q2, .inl (cy 21, 144, .inl (fun _ => 0))), (q3, .inl (cy 21, 144, .inl (fun _ => 0)))] _ := hP
  have hD : va_D A [(h0, .inr (1, [.null, .null, .ref q1, .ref q2, .null, .null, .null, .null, .int 0])), (q1, .inl (cy 21, 144, .inl (fun _ => 0))), (q2, .inl (cy 21, 144, .inl (fun _ => 0))), (q3, .inl (cy 21, 144, .inl (fun _ => 0)))] := hD
  refine va_putF (D := D) (ci := 1) (v := .ref q3) (ty := .array .int) (C := RX1) (T := TX1) (N := 9) hx hb hts (clsOK_of (ci := 1) rfl).2.2.1 tyX1 tyX1_ok nmX1 hown hK hP hD hS 0 rfl rfl 4 (by decide) (hts _ (wtb_in (w := .fieldLink RX1 18 RX1 "depths" "[I") (mem_at 198 (by decide +kernel)) rfl)) (fun _ h9 => h9) rfl hin rfl (by decide +kernel) rfl rfl (Nat.le_of_ble_eq_true rfl) dX1_init_28 (fun H locs hP hD hS => ?_)
  have hP : va_P D vwCl [(h0, .inr (1, [.null, .null, .ref q1, .ref q2, .ref q3, .null, .null, .null, .int 0])), (q1, .inl (cy 21, 144, .inl (fun _ => 0))), (q2, .inl (cy 21, 144, .inl (fun _ => 0))), (q3, .inl (cy 21, 144, .inl (fun _ => 0)))] _ := hP
  have hD : va_D A [(h0, .inr (1, [.null, .null, .ref q1, .ref q2, .ref q3, .null, .null, .null, .int 0])), (q1, .inl (cy 21, 144, .inl (fun _ => 0))), (q2, .inl (cy 21, 144, .inl (fun _ => 0))), (q3, .inl (cy 21, 144, .inl (fun _ => 0)))] := hD
  refine lv_aload_n hx hb dX1_init_31 rfl (lv_at hl 0 rfl) ?_
  refine lv_sipush (v := 144) hx hb dX1_init_32 (by decide) ?_
  refine jc_new (atype := .int) hx hb (hts _ wa_int) (hK.2 1 _ rfl).2 rfl (by decide) hK hP hD hS hA (by decide) (N := 144) (by decide) (by decide) (by show 3 + 1 ≤ 7; decide) (by show 432 + 144 ≤ 866; decide) dX1_init_35 (fun q4 H hP hD hS => ?_)
  refine W.widen (k := 4) (n := 576) (Nat.le_of_ble_eq_true rfl) (Nat.le_of_ble_eq_true rfl) ?_
  have hP : va_P D vwCl [(h0, .inr (1, [.null, .null, .ref q1, .ref q2, .ref q3, .null, .null, .null, .int 0])), (q1, .inl (cy 21, 144, .inl (fun _ => 0))), (q2, .inl (cy 21, 144, .inl (fun _ => 0))), (q3, .inl (cy 21, 144, .inl (fun _ => 0))), (q4, .inl (cy 21, 144, .inl (fun _ => 0)))] _ := hP
  have hD : va_D A [(h0, .inr (1, [.null, .null, .ref q1, .ref q2, .ref q3, .null, .null, .null, .int 0])), (q1, .inl (cy 21, 144, .inl (fun _ => 0))), (q2, .inl (cy 21, 144, .inl (fun _ => 0))), (q3, .inl (cy 21, 144, .inl (fun _ => 0))), (q4, .inl (cy 21, 144, .inl (fun _ => 0)))] := hD
  refine va_putF (D := D) (ci := 1) (v := .ref q4) (ty := .array .int) (C := RX1) (T := TX1) (N := 9) hx hb hts (clsOK_of (ci := 1) rfl).2.2.1 tyX1 tyX1_ok nmX1 hown hK hP hD hS 0 rfl rfl 5 (by decide) (hts _ (wtb_in (w := .fieldLink RX1 21 RX1 "crossed" "[I") (mem_at 199 (by decide +kernel)) rfl)) (fun _ h9 => h9) rfl hin rfl (by decide +kernel) rfl rfl (Nat.le_of_ble_eq_true rfl) dX1_init_37 (fun H locs hP hD hS => ?_)
  have hP : va_P D vwCl [(h0, .inr (1, [.null, .null, .ref q1, .ref q2, .ref q3, .ref q4, .null, .null, .int 0])), (q1, .inl (cy 21, 144, .inl (fun _ => 0))), (q2, .inl (cy 21, 144, .inl (fun _ => 0))), (q3, .inl (cy 21, 144, .inl (fun _ => 0))), (q4, .inl (cy 21, 144, .inl (fun _ => 0)))] _ := hP
  have hD : va_D A [(h0, .inr (1, [.null, .null, .ref q1, .ref q2, .ref q3, .ref q4, .null, .null, .int 0])), (q1, .inl (cy 21, 144, .inl (fun _ => 0))), (q2, .inl (cy 21, 144, .inl (fun _ => 0))), (q3, .inl (cy 21, 144, .inl (fun _ => 0))), (q4, .inl (cy 21, 144, .inl (fun _ => 0)))] := hD
  refine lv_aload_n hx hb dX1_init_40 rfl (lv_at hl 0 rfl) ?_
  refine lv_sipush (v := 144) hx hb dX1_init_41 (by decide) ?_
  refine jc_new (atype := .boolean) hx hb (hts _ wa_boolean) (hK.2 2 _ rfl).2 rfl (by decide) hK hP hD hS hA (by decide) (N := 144) (by decide) (by decide) (by show 4 + 1 ≤ 7; decide) (by show 576 + 144 ≤ 866; decide) dX1_init_44 (fun q5 H hP hD hS => ?_)
  refine W.widen (k := 5) (n := 720) (Nat.le_of_ble_eq_true rfl) (Nat.le_of_ble_eq_true rfl) ?_
  have hP : va_P D vwCl [(h0, .inr (1, [.null, .null, .ref q1, .ref q2, .ref q3, .ref q4, .null, .null, .int 0])), (q1, .inl (cy 21, 144, .inl (fun _ => 0))), (q2, .inl (cy 21, 144, .inl (fun _ => 0))), (q3, .inl (cy 21, 144, .inl (fun _ => 0))), (q4, .inl (cy 21, 144, .inl (fun _ => 0))), (q5, .inl (cy 22, 144, .inl (fun _ => 0)))] _ := hP
  have hD : va_D A [(h0, .inr (1, [.null, .null, .ref q1, .ref q2, .ref q3, .ref q4, .null, .null, .int 0])), (q1, .inl (cy 21, 144, .inl (fun _ => 0))), (q2, .inl (cy 21, 144, .inl (fun _ => 0))), (q3, .inl (cy 21, 144, .inl (fun _ => 0))), (q4, .inl (cy 21, 144, .inl (fun _ => 0))), (q5, .inl (cy 22, 144, .inl (fun _ => 0)))] := hD
  refine va_putF (D := D) (ci := 1) (v := .ref q5) (ty := .array .boolean) (C := RX1) (T := TX1) (N := 9) hx hb hts (clsOK_of (ci := 1) rfl).2.2.1 tyX1 tyX1_ok nmX1 hown hK hP hD hS 0 rfl rfl 6 (by decide) (hts _ (wtb_in (w := .fieldLink RX1 24 RX1 "met" "[Z") (mem_at 200 (by decide +kernel)) rfl)) (fun _ h9 => h9) rfl hin rfl (by decide +kernel) rfl rfl (Nat.le_of_ble_eq_true rfl) dX1_init_46 (fun H locs hP hD hS => ?_)
  have hP : va_P D vwCl [(h0, .inr (1, [.null, .null, .ref q1, .ref q2, .ref q3, .ref q4, .ref q5, .null, .int 0])), (q1, .inl (cy 21, 144, .inl (fun _ => 0))), (q2, .inl (cy 21, 144, .inl (fun _ => 0))), (q3, .inl (cy 21, 144, .inl (fun _ => 0))), (q4, .inl (cy 21, 144, .inl (fun _ => 0))), (q5, .inl (cy 22, 144, .inl (fun _ => 0)))] _ := hP
  have hD : va_D A [(h0, .inr (1, [.null, .null, .ref q1, .ref q2, .ref q3, .ref q4, .ref q5, .null, .int 0])), (q1, .inl (cy 21, 144, .inl (fun _ => 0))), (q2, .inl (cy 21, 144, .inl (fun _ => 0))), (q3, .inl (cy 21, 144, .inl (fun _ => 0))), (q4, .inl (cy 21, 144, .inl (fun _ => 0))), (q5, .inl (cy 22, 144, .inl (fun _ => 0)))] := hD
  refine lv_aload_n hx hb dX1_init_49 rfl (lv_at hl 0 rfl) ?_
  refine va_new (ci := 5) (fs := [.null, .int 0]) (C := RX5) (T := TX5) (N := 2) hx hb hts (clsOK_of (ci := 5) rfl).2.2.1 tyX5 tyX5_ok hown (hts _ (wtb_in (w := .classLink RX1 28 RX5) (mem_at 192 (by decide +kernel)) rfl)) (hts _ (wtb_in (w := .instantiable RX5 2) (mem_at 97 (by decide +kernel)) rfl)) (hts _ (wtb_in wnX5 rfl)) hK hP hD hS hA rfl (fun j hj => by rcases (show j = 0 ∨ j = 1 by omega) with rfl | rfl <;> rfl) (by show 5 + 1 ≤ 7; decide) (by show 720 + 2 ≤ 866; decide) dX1_init_50 (fun q6 H hP hD hS => ?_)
  refine W.widen (k := 6) (n := 722) (Nat.le_of_ble_eq_true rfl) (Nat.le_of_ble_eq_true rfl) ?_
  have hP : va_P D vwCl [(h0, .inr (1, [.null, .null, .ref q1, .ref q2, .ref q3, .ref q4, .ref q5, .null, .int 0])), (q1, .inl (cy 21, 144, .inl (fun _ => 0))), (q2, .inl (cy 21, 144, .inl (fun _ => 0))), (q3, .inl (cy 21, 144, .inl (fun _ => 0))), (q4, .inl (cy 21, 144, .inl (fun _ => 0))), (q5, .inl (cy 22, 144, .inl (fun _ => 0))), (q6, .inr (5, [.null, .int 0]))] _ := hP
  have hD : va_D A [(h0, .inr (1, [.null, .null, .ref q1, .ref q2, .ref q3, .ref q4, .ref q5, .null, .int 0])), (q1, .inl (cy 21, 144, .inl (fun _ => 0))), (q2, .inl (cy 21, 144, .inl (fun _ => 0))), (q3, .inl (cy 21, 144, .inl (fun _ => 0))), (q4, .inl (cy 21, 144, .inl (fun _ => 0))), (q5, .inl (cy 22, 144, .inl (fun _ => 0))), (q6, .inr (5, [.null, .int 0]))] := hD
  refine lv_dup hx hb dX1_init_53 rfl ?_
  have hPc := hP.sub (ws' := [(q6, .inr (5, [.null, .int 0]))]) [6] rfl
  have hDc := hD.sub (ws' := [(q6, .inr (5, [.null, .int 0]))]) [6] (by decide) rfl
  have hFc := va_free (wc := [(q6, .inr (5, [.null, .int 0]))]) hD hS hA [6] rfl
  refine va_callv (va_runIN (As := []) (rest := [.ref q6, .ref h0]) ⟨hx, hb, hml, hown, hts⟩ (oX5_init l D cy q6 _) ⟨va_cnB (host := "SeamMap") 0 hts (good_cons (big := wtb) wcX5_init) rfl rfl rfl hN.2.2.2.2.1 (hts _ (wtb_in wnX5 rfl)) (by decide +kernel) ⟨(Nat.le_of_ble_eq_true rfl), (Nat.le_of_ble_eq_true rfl)⟩, rfl, hts _ (wtb_in wiX5_init rfl)⟩ ⟨fun a U g mk q => by obtain ⟨q0, q1, qP, qK, qD, qN⟩ := q; exact ⟨q0, q1, qP, va_K.moved (u := U) (U := U.calling g mk a) (Vm.Alike.refl U.vm) qK, qD, nestOK.same rfl qN⟩, fun U hU hW => ⟨rfl, by rw [hU], by rw [hU]; exact hPc, va_K.moved hW.alike hK, hDc.weaken (fun _ _ _ _ => trivial), nestOK.moved hW hN⟩⟩ rfl rfl hl.1 rfl (lv_room (Nat.le_of_ble_eq_true rfl)) dX1_init_54 ⟨(by show 6 + 1 ≤ 7; decide), (by show 722 + 144 ≤ 866; decide)⟩) hS (fun q _ h => hFc q h) hFc (fun u t H1 locs ht hvm hw hB hz1 hk1 hS => ?_)
  obtain ⟨q7, hP1, hD1⟩ := hB
  rw [ht] at hP1
  obtain ⟨hP, hD⟩ := va_join (wr := [(h0, .inr (1, [.null, .null, .ref q1, .ref q2, .ref q3, .ref q4, .ref q5, .null, .int 0])), (q1, .inl (cy 21, 144, .inl (fun _ => 0))), (q2, .inl (cy 21, 144, .inl (fun _ => 0))), (q3, .inl (cy 21, 144, .inl (fun _ => 0))), (q4, .inl (cy 21, 144, .inl (fun _ => 0))), (q5, .inl (cy 22, 144, .inl (fun _ => 0)))]) (w1 := [(q6, .inr (5, [.ref q7, .int 0])), (q7, .inl (cy 21, 144, .inl (fun _ => 0)))]) hP hD [6] [0, 1, 2, 3, 4, 5] rfl rfl (by decide) (by decide) hk1 hFc hP1 hD1
  generalize H1 = H at hP hS ⊢
  refine W.widen (k := 7) (n := 866) (Nat.le_of_ble_eq_true rfl) (Nat.le_of_ble_eq_true rfl) ?_
  have hP : va_P D vwCl [(h0, .inr (1, [.null, .null, .ref q1, .ref q2, .ref q3, .ref q4, .ref q5, .null, .int 0])), (q1, .inl (cy 21, 144, .inl (fun _ => 0))), (q2, .inl (cy 21, 144, .inl (fun _ => 0))), (q3, .inl (cy 21, 144, .inl (fun _ => 0))), (q4, .inl (cy 21, 144, .inl (fun _ => 0))), (q5, .inl (cy 22, 144, .inl (fun _ => 0))), (q6, .inr (5, [.ref q7, .int 0])), (q7, .inl (cy 21, 144, .inl (fun _ => 0)))] _ := hP
  have hD : va_D A [(h0, .inr (1, [.null, .null, .ref q1, .ref q2, .ref q3, .ref q4, .ref q5, .null, .int 0])), (q1, .inl (cy 21, 144, .inl (fun _ => 0))), (q2, .inl (cy 21, 144, .inl (fun _ => 0))), (q3, .inl (cy 21, 144, .inl (fun _ => 0))), (q4, .inl (cy 21, 144, .inl (fun _ => 0))), (q5, .inl (cy 22, 144, .inl (fun _ => 0))), (q6, .inr (5, [.ref q7, .int 0])), (q7, .inl (cy 21, 144, .inl (fun _ => 0)))] := hD
  refine va_putF (D := D) (ci := 1) (v := .ref q6) (ty := .object "SeamMap$TileList") (C := RX1) (T := TX1) (N := 9) hx hb hts (clsOK_of (ci := 1) rfl).2.2.1 tyX1 tyX1_ok nmX1 hown hK hP hD hS 0 rfl rfl 7 (by decide) (hts _ (wtb_in (w := .fieldLink RX1 31 RX1 "flooded" "LSeamMap$TileList;") (mem_at 201 (by decide +kernel)) rfl)) (fun _ h9 => h9) rfl hin rfl (by decide +kernel) rfl rfl (Nat.le_of_ble_eq_true rfl) dX1_init_57 (fun H locs hP hD hS => ?_)
  have hP : va_P D vwCl [(h0, .inr (1, [.null, .null, .ref q1, .ref q2, .ref q3, .ref q4, .ref q5, .ref q6, .int 0])), (q1, .inl (cy 21, 144, .inl (fun _ => 0))), (q2, .inl (cy 21, 144, .inl (fun _ => 0))), (q3, .inl (cy 21, 144, .inl (fun _ => 0))), (q4, .inl (cy 21, 144, .inl (fun _ => 0))), (q5, .inl (cy 22, 144, .inl (fun _ => 0))), (q6, .inr (5, [.ref q7, .int 0])), (q7, .inl (cy 21, 144, .inl (fun _ => 0)))] _ := hP
  have hD : va_D A [(h0, .inr (1, [.null, .null, .ref q1, .ref q2, .ref q3, .ref q4, .ref q5, .ref q6, .int 0])), (q1, .inl (cy 21, 144, .inl (fun _ => 0))), (q2, .inl (cy 21, 144, .inl (fun _ => 0))), (q3, .inl (cy 21, 144, .inl (fun _ => 0))), (q4, .inl (cy 21, 144, .inl (fun _ => 0))), (q5, .inl (cy 22, 144, .inl (fun _ => 0))), (q6, .inr (5, [.ref q7, .int 0])), (q7, .inl (cy 21, 144, .inl (fun _ => 0)))] := hD
  refine lv_aload_n hx hb dX1_init_60 rfl (lv_at hl 0 rfl) ?_
  refine lv_aload_n hx hb dX1_init_61 rfl (lv_at hl 1 rfl) ?_
  refine va_putF (D := D) (ci := 1) (v := .ref r1) (ty := .object "SeamMap$Surface") (C := RX1) (T := TX1) (N := 9) hx hb hts (clsOK_of (ci := 1) rfl).2.2.1 tyX1 tyX1_ok nmX1 hown hK hP hD hS 0 rfl rfl 0 (by decide) (hts _ (wtb_in (w := .fieldLink RX1 35 RX1 "surface" "LSeamMap$Surface;") (mem_at 194 (by decide +kernel)) rfl)) (fun _ h9 => h9) rfl hin rfl (by decide +kernel) rfl rfl (Nat.le_of_ble_eq_true rfl) dX1_init_62 (fun H locs hP hD hS => ?_)
  have hP : va_P D vwCl [(h0, .inr (1, [.ref r1, .null, .ref q1, .ref q2, .ref q3, .ref q4, .ref q5, .ref q6, .int 0])), (q1, .inl (cy 21, 144, .inl (fun _ => 0))), (q2, .inl (cy 21, 144, .inl (fun _ => 0))), (q3, .inl (cy 21, 144, .inl (fun _ => 0))), (q4, .inl (cy 21, 144, .inl (fun _ => 0))), (q5, .inl (cy 22, 144, .inl (fun _ => 0))), (q6, .inr (5, [.ref q7, .int 0])), (q7, .inl (cy 21, 144, .inl (fun _ => 0)))] _ := hP
  have hD : va_D A [(h0, .inr (1, [.ref r1, .null, .ref q1, .ref q2, .ref q3, .ref q4, .ref q5, .ref q6, .int 0])), (q1, .inl (cy 21, 144, .inl (fun _ => 0))), (q2, .inl (cy 21, 144, .inl (fun _ => 0))), (q3, .inl (cy 21, 144, .inl (fun _ => 0))), (q4, .inl (cy 21, 144, .inl (fun _ => 0))), (q5, .inl (cy 22, 144, .inl (fun _ => 0))), (q6, .inr (5, [.ref q7, .int 0])), (q7, .inl (cy 21, 144, .inl (fun _ => 0)))] := hD
  refine lv_aload_n hx hb dX1_init_65 rfl (lv_at hl 0 rfl) ?_
  refine lv_aload_n hx hb dX1_init_66 rfl (lv_at hl 2 rfl) ?_
  refine va_putF (D := D) (ci := 1) (v := .ref r2) (ty := .array .int) (C := RX1) (T := TX1) (N := 9) hx hb hts (clsOK_of (ci := 1) rfl).2.2.1 tyX1 tyX1_ok nmX1 hown hK hP hD hS 0 rfl rfl 1 (by decide) (hts _ (wtb_in (w := .fieldLink RX1 39 RX1 "kinds" "[I") (mem_at 195 (by decide +kernel)) rfl)) (fun _ h9 => h9) rfl hin rfl (by decide +kernel) rfl rfl (Nat.le_of_ble_eq_true rfl) dX1_init_67 (fun H locs hP hD hS => ?_)
  have hP : va_P D vwCl [(h0, .inr (1, [.ref r1, .ref r2, .ref q1, .ref q2, .ref q3, .ref q4, .ref q5, .ref q6, .int 0])), (q1, .inl (cy 21, 144, .inl (fun _ => 0))), (q2, .inl (cy 21, 144, .inl (fun _ => 0))), (q3, .inl (cy 21, 144, .inl (fun _ => 0))), (q4, .inl (cy 21, 144, .inl (fun _ => 0))), (q5, .inl (cy 22, 144, .inl (fun _ => 0))), (q6, .inr (5, [.ref q7, .int 0])), (q7, .inl (cy 21, 144, .inl (fun _ => 0)))] _ := hP
  have hD : va_D A [(h0, .inr (1, [.ref r1, .ref r2, .ref q1, .ref q2, .ref q3, .ref q4, .ref q5, .ref q6, .int 0])), (q1, .inl (cy 21, 144, .inl (fun _ => 0))), (q2, .inl (cy 21, 144, .inl (fun _ => 0))), (q3, .inl (cy 21, 144, .inl (fun _ => 0))), (q4, .inl (cy 21, 144, .inl (fun _ => 0))), (q5, .inl (cy 22, 144, .inl (fun _ => 0))), (q6, .inr (5, [.ref q7, .int 0])), (q7, .inl (cy 21, 144, .inl (fun _ => 0)))] := hD
  exact W.vret hx hb hr (fun t ht hW => ⟨⟨(), rfl, trivial, q1, q2, q3, q4, q5, q6, q7, hP.at ht, hD⟩, hS.F ht⟩) hS.2.2 dX1_init_70
set_option maxHeartbeats 4000000 in
set_option maxRecDepth 100000 in
theorem oX3_init (l : Launch) (D : va_G) (cy : Nat → ClassId) (h0 sz : Nat) : Met l yX3_init (Cond.code yX3_init cX3_init 1 none :: wtb) ({ frames := 2, cells := 4, slots := 1156, locals := 32 }) (va_Pc [.ref h0] (fun U => U.heap.size = sz ∧ va_P D vwCl [(h0, .inr (3, [.null, .null, .null, .null, .int 0, .int 0]))] U.heap ∧ va_K D vwCl (tysJ cy) U ∧ va_D (fun _ => True) [(h0, .inr (3, [.null, .null, .null, .null, .int 0, .int 0]))] ∧ nestOK U)) (va_Qv (fun _ : Unit => True) (fun _ t => ∃ q1 q2 q3 q4, va_P D vwCl [(h0, .inr (3, [.ref q1, .ref q2, .ref q3, .ref q4, .int 0, .int 0])), (q1, .inr (2, [.int 0, .int 0])), (q2, .inr (2, [.int 0, .int 0])), (q3, .inl (cy 21, 576, .inl (fun _ => 0))), (q4, .inl (cy 21, 576, .inl (fun _ => 0)))] t.heap ∧ va_D (va_A [(h0, .inr (3, [.null, .null, .null, .null, .int 0, .int 0]))] sz) [(h0, .inr (3, [.ref q1, .ref q2, .ref q3, .ref q4, .int 0, .int 0])), (q1, .inr (2, [.int 0, .int 0])), (q2, .inr (2, [.int 0, .int 0])), (q3, .inl (cy 21, 576, .inl (fun _ => 0))), (q4, .inl (cy 21, 576, .inl (fun _ => 0)))]) (va_A [(h0, .inr (3, [.null, .null, .null, .null, .int 0, .int 0]))] sz)) 4 1156 (va_A [(h0, .inr (3, [.null, .null, .null, .null, .int 0, .int 0]))] sz) := by
  refine Met.ofW (cc := cX3_init) (maxL := 1) (ret := none) (by decide) rfl ?_
  intro p e s m args below meth c s₁ B hml hv
  obtain ⟨rfl, hsz, hP, hK, hD0, hN⟩ := hv
  have hx := B.exec
  have hb := B.bytes
  have hr := B.returns
  have hts0 := atoms_spec (ws := Cond.code yX3_init cX3_init 1 none :: wtb) B.pre
  have hts : ∀ w ∈ wtb, w.before _ s = true := fun w hw => hts0 w (List.mem_cons_of_mem _ hw)
  have hown : s.vm.findClass RX3 = some m.cls := findClass_of_methodNamed B.named
  have hlocks := B.notSynchronized
  have hin : meth.name = "<init>" := (name_of_methodNamed B.named B.method).1
  subst hsz
  have hD := hD0.self (sz := s.heap.size)
  generalize hAe : va_A [(h0, .inr (3, [.null, .null, .null, .null, .int 0, .int 0]))] s.heap.size = A at hD ⊢
  have hA : ∀ q : Nat, s.heap.size ≤ q → A q := fun q h => by rw [← hAe]; exact Or.inr h
  have hS : va_S A s.heap s.heap [] := va_S.rf
  have hP : va_P D vwCl [(h0, .inr (3, [.null, .null, .null, .null, .int 0, .int 0]))] s.heap := hP
  have hl := lv_entry ([.ref h0]) (n := 1) (Nat.le_of_ble_eq_true rfl)
  rw [lg_entry_eq]
  generalize (lg_sl ([.ref h0]) ++ List.replicate (1 - (lg_sl ([.ref h0])).length) Slot.unset).toArray = ls at hl ⊢
  have hl : lv_has ls 1 [(0, .ref h0)] := hl
  refine lv_aload_n hx hb dX3_init_0 rfl (lv_at hl 0 rfl) ?_
  refine W.objInit hx hb hown (hts _ (wtb_in (w := .methodLink RX3 3 objectInit) (mem_at 56 (by decide +kernel)) rfl)) (hts _ wa_oi) (hts _ wa_oc) rfl (by rw [hml]; exact hl.1) rfl dX3_init_1 (Nat.le_of_ble_eq_true rfl) (Nat.le_of_ble_eq_true rfl) ?_
  refine W.eq (g2 := F0 m 4 ls []) rfl ?_
  refine lv_aload_n hx hb dX3_init_4 rfl (lv_at hl 0 rfl) ?_
  refine va_new (ci := 2) (fs := [.int 0, .int 0]) (C := RX2) (T := TX2) (N := 2) hx hb hts (clsOK_of (ci := 2) rfl).2.2.1 tyX2 tyX2_ok hown (hts _ (wtb_in (w := .classLink RX3 9 RX2) (mem_at 57 (by decide +kernel)) rfl)) (hts _ (wtb_in (w := .instantiable RX2 2) (mem_at 58 (by decide +kernel)) rfl)) (hts _ (wtb_in wnX2 rfl)) hK hP hD hS hA rfl (fun j hj => by rcases (show j = 0 ∨ j = 1 by omega) with rfl | rfl <;> rfl) (by show 0 + 1 ≤ 4; decide) (by show 0 + 2 ≤ 1156; decide) dX3_init_5 (fun q1 H hP hD hS => ?_)
  refine W.widen (k := 1) (n := 2) (Nat.le_of_ble_eq_true rfl) (Nat.le_of_ble_eq_true rfl) ?_
  have hP : va_P D vwCl [(h0, .inr (3, [.null, .null, .null, .null, .int 0, .int 0])), (q1, .inr (2, [.int 0, .int 0]))] _ := hP
  have hD : va_D A [(h0, .inr (3, [.null, .null, .null, .null, .int 0, .int 0])), (q1, .inr (2, [.int 0, .int 0]))] := hD
  refine lv_dup hx hb dX3_init_8 rfl ?_
  have hPc := hP.sub (ws' := [(q1, .inr (2, [.int 0, .int 0]))]) [1] rfl
  have hDc := hD.sub (ws' := [(q1, .inr (2, [.int 0, .int 0]))]) [1] (by decide) rfl
  have hFc := va_free (wc := [(q1, .inr (2, [.int 0, .int 0]))]) hD hS hA [1] rfl
  refine va_callv (va_runIN (As := []) (rest := [.ref q1, .ref h0]) ⟨hx, hb, hml, hown, hts⟩ (oX2_init l D cy q1 _) ⟨va_cnB (host := "SeamMap") 0 hts (good_cons (big := wtb) wcX2_init) rfl rfl rfl hN.2.2.2.2.2.1 (hts _ (wtb_in wnX2 rfl)) (by decide +kernel) ⟨(Nat.le_of_ble_eq_true rfl), (Nat.le_of_ble_eq_true rfl)⟩, rfl, hts _ (wtb_in wiX2_init rfl)⟩ ⟨fun a U g mk q => by obtain ⟨q0, q1, qP, qK, qD, qN⟩ := q; exact ⟨q0, q1, qP, va_K.moved (u := U) (U := U.calling g mk a) (Vm.Alike.refl U.vm) qK, qD, nestOK.same rfl qN⟩, fun U hU hW => ⟨rfl, by rw [hU], by rw [hU]; exact hPc, va_K.moved hW.alike hK, hDc.weaken (fun _ _ _ _ => trivial), nestOK.moved hW hN⟩⟩ rfl rfl hl.1 rfl (lv_room (Nat.le_of_ble_eq_true rfl)) dX3_init_9 ⟨(by show 1 + 0 ≤ 4; decide), (by show 2 + 0 ≤ 1156; decide)⟩) hS (fun q _ h => hFc q h) hFc (fun u t H1 locs ht hvm hw hB hz1 hk1 hS => ?_)
  obtain ⟨hP1, hD1⟩ := hB
  rw [ht] at hP1
  obtain ⟨hP, hD⟩ := va_join (wr := [(h0, .inr (3, [.null, .null, .null, .null, .int 0, .int 0]))]) (w1 := [(q1, .inr (2, [.int 0, .int 0]))]) hP hD [1] [0] rfl rfl (by decide) (by decide) hk1 hFc hP1 hD1
  generalize H1 = H at hP hS ⊢
  refine W.widen (k := 1) (n := 2) (Nat.le_of_ble_eq_true rfl) (Nat.le_of_ble_eq_true rfl) ?_
  have hP : va_P D vwCl [(h0, .inr (3, [.null, .null, .null, .null, .int 0, .int 0])), (q1, .inr (2, [.int 0, .int 0]))] _ := hP
  have hD : va_D A [(h0, .inr (3, [.null, .null, .null, .null, .int 0, .int 0])), (q1, .inr (2, [.int 0, .int 0]))] := hD
  refine va_putF (D := D) (ci := 3) (v := .ref q1) (ty := .object "SeamMap$Seam") (C := RX3) (T := TX3) (N := 6) hx hb hts (clsOK_of (ci := 3) rfl).2.2.1 tyX3 tyX3_ok nmX3 hown hK hP hD hS 0 rfl rfl 0 (by decide) (hts _ (wtb_in (w := .fieldLink RX3 12 RX3 "side" "LSeamMap$Seam;") (mem_at 70 (by decide +kernel)) rfl)) (fun _ h9 => h9) rfl hin rfl (by decide +kernel) rfl rfl (Nat.le_of_ble_eq_true rfl) dX3_init_12 (fun H locs hP hD hS => ?_)
  have hP : va_P D vwCl [(h0, .inr (3, [.ref q1, .null, .null, .null, .int 0, .int 0])), (q1, .inr (2, [.int 0, .int 0]))] _ := hP
  have hD : va_D A [(h0, .inr (3, [.ref q1, .null, .null, .null, .int 0, .int 0])), (q1, .inr (2, [.int 0, .int 0]))] := hD
  refine lv_aload_n hx hb dX3_init_15 rfl (lv_at hl 0 rfl) ?_
  refine va_new (ci := 2) (fs := [.int 0, .int 0]) (C := RX2) (T := TX2) (N := 2) hx hb hts (clsOK_of (ci := 2) rfl).2.2.1 tyX2 tyX2_ok hown (hts _ (wtb_in (w := .classLink RX3 9 RX2) (mem_at 57 (by decide +kernel)) rfl)) (hts _ (wtb_in (w := .instantiable RX2 2) (mem_at 58 (by decide +kernel)) rfl)) (hts _ (wtb_in wnX2 rfl)) hK hP hD hS hA rfl (fun j hj => by rcases (show j = 0 ∨ j = 1 by omega) with rfl | rfl <;> rfl) (by show 1 + 1 ≤ 4; decide) (by show 2 + 2 ≤ 1156; decide) dX3_init_16 (fun q2 H hP hD hS => ?_)
  refine W.widen (k := 2) (n := 4) (Nat.le_of_ble_eq_true rfl) (Nat.le_of_ble_eq_true rfl) ?_
  have hP : va_P D vwCl [(h0, .inr (3, [.ref q1, .null, .null, .null, .int 0, .int 0])), (q1, .inr (2, [.int 0, .int 0])), (q2, .inr (2, [.int 0, .int 0]))] _ := hP
  have hD : va_D A [(h0, .inr (3, [.ref q1, .null, .null, .null, .int 0, .int 0])), (q1, .inr (2, [.int 0, .int 0])), (q2, .inr (2, [.int 0, .int 0]))] := hD
  refine lv_dup hx hb dX3_init_19 rfl ?_
  have hPc := hP.sub (ws' := [(q2, .inr (2, [.int 0, .int 0]))]) [2] rfl
  have hDc := hD.sub (ws' := [(q2, .inr (2, [.int 0, .int 0]))]) [2] (by decide) rfl
  have hFc := va_free (wc := [(q2, .inr (2, [.int 0, .int 0]))]) hD hS hA [2] rfl
  refine va_callv (va_runIN (As := []) (rest := [.ref q2, .ref h0]) ⟨hx, hb, hml, hown, hts⟩ (oX2_init l D cy q2 _) ⟨va_cnB (host := "SeamMap") 0 hts (good_cons (big := wtb) wcX2_init) rfl rfl rfl hN.2.2.2.2.2.1 (hts _ (wtb_in wnX2 rfl)) (by decide +kernel) ⟨(Nat.le_of_ble_eq_true rfl), (Nat.le_of_ble_eq_true rfl)⟩, rfl, hts _ (wtb_in wiX2_init rfl)⟩ ⟨fun a U g mk q => by obtain ⟨q0, q1, qP, qK, qD, qN⟩ := q; exact ⟨q0, q1, qP, va_K.moved (u := U) (U := U.calling g mk a) (Vm.Alike.refl U.vm) qK, qD, nestOK.same rfl qN⟩, fun U hU hW => ⟨rfl, by rw [hU], by rw [hU]; exact hPc, va_K.moved hW.alike hK, hDc.weaken (fun _ _ _ _ => trivial), nestOK.moved hW hN⟩⟩ rfl rfl hl.1 rfl (lv_room (Nat.le_of_ble_eq_true rfl)) dX3_init_20 ⟨(by show 2 + 0 ≤ 4; decide), (by show 4 + 0 ≤ 1156; decide)⟩) hS (fun q _ h => hFc q h) hFc (fun u t H1 locs ht hvm hw hB hz1 hk1 hS => ?_)
  obtain ⟨hP1, hD1⟩ := hB
  rw [ht] at hP1
  obtain ⟨hP, hD⟩ := va_join (wr := [(h0, .inr (3, [.ref q1, .null, .null, .null, .int 0, .int 0])), (q1, .inr (2, [.int 0, .int 0]))]) (w1 := [(q2, .inr (2, [.int 0, .int 0]))]) hP hD [2] [0, 1] rfl rfl (by decide) (by decide) hk1 hFc hP1 hD1
  generalize H1 = H at hP hS ⊢
  refine W.widen (k := 2) (n := 4) (Nat.le_of_ble_eq_true rfl) (Nat.le_of_ble_eq_true rfl) ?_
  have hP : va_P D vwCl [(h0, .inr (3, [.ref q1, .null, .null, .null, .int 0, .int 0])), (q1, .inr (2, [.int 0, .int 0])), (q2, .inr (2, [.int 0, .int 0]))] _ := hP
  have hD : va_D A [(h0, .inr (3, [.ref q1, .null, .null, .null, .int 0, .int 0])), (q1, .inr (2, [.int 0, .int 0])), (q2, .inr (2, [.int 0, .int 0]))] := hD
  refine va_putF (D := D) (ci := 3) (v := .ref q2) (ty := .object "SeamMap$Seam") (C := RX3) (T := TX3) (N := 6) hx hb hts (clsOK_of (ci := 3) rfl).2.2.1 tyX3 tyX3_ok nmX3 hown hK hP hD hS 0 rfl rfl 1 (by decide) (hts _ (wtb_in (w := .fieldLink RX3 18 RX3 "end" "LSeamMap$Seam;") (mem_at 71 (by decide +kernel)) rfl)) (fun _ h9 => h9) rfl hin rfl (by decide +kernel) rfl rfl (Nat.le_of_ble_eq_true rfl) dX3_init_23 (fun H locs hP hD hS => ?_)
  have hP : va_P D vwCl [(h0, .inr (3, [.ref q1, .ref q2, .null, .null, .int 0, .int 0])), (q1, .inr (2, [.int 0, .int 0])), (q2, .inr (2, [.int 0, .int 0]))] _ := hP
  have hD : va_D A [(h0, .inr (3, [.ref q1, .ref q2, .null, .null, .int 0, .int 0])), (q1, .inr (2, [.int 0, .int 0])), (q2, .inr (2, [.int 0, .int 0]))] := hD
  refine lv_aload_n hx hb dX3_init_26 rfl (lv_at hl 0 rfl) ?_
  refine lv_sipush (v := 576) hx hb dX3_init_27 (by decide) ?_
  refine jc_new (atype := .int) hx hb (hts _ wa_int) (hK.2 1 _ rfl).2 rfl (by decide) hK hP hD hS hA (by decide) (N := 576) (by decide) (by decide) (by show 2 + 1 ≤ 4; decide) (by show 4 + 576 ≤ 1156; decide) dX3_init_30 (fun q3 H hP hD hS => ?_)
  refine W.widen (k := 3) (n := 580) (Nat.le_of_ble_eq_true rfl) (Nat.le_of_ble_eq_true rfl) ?_
  have hP : va_P D vwCl [(h0, .inr (3, [.ref q1, .ref q2, .null, .null, .int 0, .int 0])), (q1, .inr (2, [.int 0, .int 0])), (q2, .inr (2, [.int 0, .int 0])), (q3, .inl (cy 21, 576, .inl (fun _ => 0)))] _ := hP
  have hD : va_D A [(h0, .inr (3, [.ref q1, .ref q2, .null, .null, .int 0, .int 0])), (q1, .inr (2, [.int 0, .int 0])), (q2, .inr (2, [.int 0, .int 0])), (q3, .inl (cy 21, 576, .inl (fun _ => 0)))] := hD
  refine va_putF (D := D) (ci := 3) (v := .ref q3) (ty := .array .int) (C := RX3) (T := TX3) (N := 6) hx hb hts (clsOK_of (ci := 3) rfl).2.2.1 tyX3 tyX3_ok nmX3 hown hK hP hD hS 0 rfl rfl 2 (by decide) (hts _ (wtb_in (w := .fieldLink RX3 21 RX3 "nexts" "[I") (mem_at 72 (by decide +kernel)) rfl)) (fun _ h9 => h9) rfl hin rfl (by decide +kernel) rfl rfl (Nat.le_of_ble_eq_true rfl) dX3_init_32 (fun H locs hP hD hS => ?_)
  have hP : va_P D vwCl [(h0, .inr (3, [.ref q1, .ref q2, .ref q3, .null, .int 0, .int 0])), (q1, .inr (2, [.int 0, .int 0])), (q2, .inr (2, [.int 0, .int 0])), (q3, .inl (cy 21, 576, .inl (fun _ => 0)))] _ := hP
  have hD : va_D A [(h0, .inr (3, [.ref q1, .ref q2, .ref q3, .null, .int 0, .int 0])), (q1, .inr (2, [.int 0, .int 0])), (q2, .inr (2, [.int 0, .int 0])), (q3, .inl (cy 21, 576, .inl (fun _ => 0)))] := hD
  refine lv_aload_n hx hb dX3_init_35 rfl (lv_at hl 0 rfl) ?_
  refine lv_sipush (v := 576) hx hb dX3_init_36 (by decide) ?_
  refine jc_new (atype := .int) hx hb (hts _ wa_int) (hK.2 1 _ rfl).2 rfl (by decide) hK hP hD hS hA (by decide) (N := 576) (by decide) (by decide) (by show 3 + 1 ≤ 4; decide) (by show 580 + 576 ≤ 1156; decide) dX3_init_39 (fun q4 H hP hD hS => ?_)
  refine W.widen (k := 4) (n := 1156) (Nat.le_of_ble_eq_true rfl) (Nat.le_of_ble_eq_true rfl) ?_
  have hP : va_P D vwCl [(h0, .inr (3, [.ref q1, .ref q2, .ref q3, .null, .int 0, .int 0])), (q1, .inr (2, [.int 0, .int 0])), (q2, .inr (2, [.int 0, .int 0])), (q3, .inl (cy 21, 576, .inl (fun _ => 0))), (q4, .inl (cy 21, 576, .inl (fun _ => 0)))] _ := hP
  have hD : va_D A [(h0, .inr (3, [.ref q1, .ref q2, .ref q3, .null, .int 0, .int 0])), (q1, .inr (2, [.int 0, .int 0])), (q2, .inr (2, [.int 0, .int 0])), (q3, .inl (cy 21, 576, .inl (fun _ => 0))), (q4, .inl (cy 21, 576, .inl (fun _ => 0)))] := hD
  refine va_putF (D := D) (ci := 3) (v := .ref q4) (ty := .array .int) (C := RX3) (T := TX3) (N := 6) hx hb hts (clsOK_of (ci := 3) rfl).2.2.1 tyX3 tyX3_ok nmX3 hown hK hP hD hS 0 rfl rfl 3 (by decide) (hts _ (wtb_in (w := .fieldLink RX3 25 RX3 "crossings" "[I") (mem_at 73 (by decide +kernel)) rfl)) (fun _ h9 => h9) rfl hin rfl (by decide +kernel) rfl rfl (Nat.le_of_ble_eq_true rfl) dX3_init_41 (fun H locs hP hD hS => ?_)
  have hP : va_P D vwCl [(h0, .inr (3, [.ref q1, .ref q2, .ref q3, .ref q4, .int 0, .int 0])), (q1, .inr (2, [.int 0, .int 0])), (q2, .inr (2, [.int 0, .int 0])), (q3, .inl (cy 21, 576, .inl (fun _ => 0))), (q4, .inl (cy 21, 576, .inl (fun _ => 0)))] _ := hP
  have hD : va_D A [(h0, .inr (3, [.ref q1, .ref q2, .ref q3, .ref q4, .int 0, .int 0])), (q1, .inr (2, [.int 0, .int 0])), (q2, .inr (2, [.int 0, .int 0])), (q3, .inl (cy 21, 576, .inl (fun _ => 0))), (q4, .inl (cy 21, 576, .inl (fun _ => 0)))] := hD
  exact W.vret hx hb hr (fun t ht hW => ⟨⟨(), rfl, trivial, q1, q2, q3, q4, hP.at ht, hD⟩, hS.F ht⟩) hS.2.2 dX3_init_44
set_option maxHeartbeats 4000000 in
set_option maxRecDepth 100000 in
theorem oX0_init (l : Launch) (D : va_G) (cy : Nat → ClassId) (h0 sz : Nat) : Met l yX0_init (Cond.code yX0_init cX0_init 1 none :: wtb) ({ frames := 1, cells := 13, slots := 1740, locals := 12 }) (va_Pc [.ref h0] (fun U => U.heap.size = sz ∧ va_P D vwCl [(h0, .inr (0, [.null, .int 0, .int 0]))] U.heap ∧ va_K D vwCl (tysJ cy) U ∧ va_D (fun _ => True) [(h0, .inr (0, [.null, .int 0, .int 0]))] ∧ nestOK U)) (va_Qv (fun _ : Unit => True) (fun _ t => ∃ q1, va_P D vwCl [(h0, .inr (0, [.ref q1, .int 0, .int 0])), (q1, mwE cy q1), ((q1 + 1 + 0), mwR cy), ((q1 + 1 + 1), mwR cy), ((q1 + 1 + 2), mwR cy), ((q1 + 1 + 3), mwR cy), ((q1 + 1 + 4), mwR cy), ((q1 + 1 + 5), mwR cy), ((q1 + 1 + 6), mwR cy), ((q1 + 1 + 7), mwR cy), ((q1 + 1 + 8), mwR cy), ((q1 + 1 + 9), mwR cy), ((q1 + 1 + 10), mwR cy), ((q1 + 1 + 11), mwR cy)] t.heap ∧ va_D (va_A [(h0, .inr (0, [.null, .int 0, .int 0]))] sz) [(h0, .inr (0, [.ref q1, .int 0, .int 0])), (q1, mwE cy q1), ((q1 + 1 + 0), mwR cy), ((q1 + 1 + 1), mwR cy), ((q1 + 1 + 2), mwR cy), ((q1 + 1 + 3), mwR cy), ((q1 + 1 + 4), mwR cy), ((q1 + 1 + 5), mwR cy), ((q1 + 1 + 6), mwR cy), ((q1 + 1 + 7), mwR cy), ((q1 + 1 + 8), mwR cy), ((q1 + 1 + 9), mwR cy), ((q1 + 1 + 10), mwR cy), ((q1 + 1 + 11), mwR cy)]) (va_A [(h0, .inr (0, [.null, .int 0, .int 0]))] sz)) 13 1740 (va_A [(h0, .inr (0, [.null, .int 0, .int 0]))] sz) := by
  refine Met.ofW (cc := cX0_init) (maxL := 1) (ret := none) (by decide) rfl ?_
  intro p e s m args below meth c s₁ B hml hv
  obtain ⟨rfl, hsz, hP, hK, hD0, hN⟩ := hv
  have hx := B.exec
  have hb := B.bytes
  have hr := B.returns
  have hts0 := atoms_spec (ws := Cond.code yX0_init cX0_init 1 none :: wtb) B.pre
  have hts : ∀ w ∈ wtb, w.before _ s = true := fun w hw => hts0 w (List.mem_cons_of_mem _ hw)
  have hown : s.vm.findClass RX0 = some m.cls := findClass_of_methodNamed B.named
  have hlocks := B.notSynchronized
  have hin : meth.name = "<init>" := (name_of_methodNamed B.named B.method).1
  subst hsz
  have hD := hD0.self (sz := s.heap.size)
  generalize hAe : va_A [(h0, .inr (0, [.null, .int 0, .int 0]))] s.heap.size = A at hD ⊢
  have hA : ∀ q : Nat, s.heap.size ≤ q → A q := fun q h => by rw [← hAe]; exact Or.inr h
  have hS : va_S A s.heap s.heap [] := va_S.rf
  have hP : va_P D vwCl [(h0, .inr (0, [.null, .int 0, .int 0]))] s.heap := hP
  have hl := lv_entry ([.ref h0]) (n := 1) (Nat.le_of_ble_eq_true rfl)
  rw [lg_entry_eq]
  generalize (lg_sl ([.ref h0]) ++ List.replicate (1 - (lg_sl ([.ref h0])).length) Slot.unset).toArray = ls at hl ⊢
  have hl : lv_has ls 1 [(0, .ref h0)] := hl
  refine lv_aload_n hx hb dX0_init_0 rfl (lv_at hl 0 rfl) ?_
  refine W.objInit hx hb hown (hts _ (wtb_in (w := .methodLink RX0 3 objectInit) (mem_at 173 (by decide +kernel)) rfl)) (hts _ wa_oi) (hts _ wa_oc) rfl (by rw [hml]; exact hl.1) rfl dX0_init_1 (Nat.le_of_ble_eq_true rfl) (Nat.le_of_ble_eq_true rfl) ?_
  refine W.eq (g2 := F0 m 4 ls []) rfl ?_
  refine lv_aload_n hx hb dX0_init_4 rfl (lv_at hl 0 rfl) ?_
  refine lv_bipush (v := 12) hx hb dX0_init_5 (by decide) ?_
  refine lv_sipush (v := 144) hx hb dX0_init_7 (by decide) ?_
  refine jc_multi (own := RX0) (N := 12) (M := 144) hx hb hown (hts _ (wtb_in (w := .classLink RX0 9 "[[I") (mem_at 174 (by decide +kernel)) rfl)) hN.1 (hts _ wa_int) (by decide) (by decide) (by decide) (by decide) (by decide) (by decide) (by show 0 + (1 + 12) ≤ 13; decide) (by show 0 + (12 + 12 * 144) ≤ 1740; decide) dX0_init_10 (fun H9 cA cI L e1 e2 f1 f2 f3 f4 f5 => ?_)
  cases (show some cA = some (cy 23) from e1.symm.trans (hK.2 3 _ rfl).2)
  cases (show some cI = some (cy 21) from e2.symm.trans (hK.2 1 _ rfl).2)
  obtain ⟨hP, hD, hS⟩ := jc_maps hP hD hS hA f1 f2 f3 f4 f5
  clear e1 e2 f1 f2 f3 f4 f5
  generalize hq9 : H9 = H at hP hS ⊢
  obtain ⟨q1, hq8⟩ : ∃ q : Nat, q = Array.size s.heap := ⟨_, rfl⟩
  rw [← hq8] at hP hD ⊢
  refine W.widen (k := 13) (n := 1740) (Nat.le_of_ble_eq_true rfl) (Nat.le_of_ble_eq_true rfl) ?_
  have hP : va_P D vwCl [(h0, .inr (0, [.null, .int 0, .int 0])), (q1, mwE cy q1), ((q1 + 1 + 0), mwR cy), ((q1 + 1 + 1), mwR cy), ((q1 + 1 + 2), mwR cy), ((q1 + 1 + 3), mwR cy), ((q1 + 1 + 4), mwR cy), ((q1 + 1 + 5), mwR cy), ((q1 + 1 + 6), mwR cy), ((q1 + 1 + 7), mwR cy), ((q1 + 1 + 8), mwR cy), ((q1 + 1 + 9), mwR cy), ((q1 + 1 + 10), mwR cy), ((q1 + 1 + 11), mwR cy)] _ := hP
  have hD : va_D A [(h0, .inr (0, [.null, .int 0, .int 0])), (q1, mwE cy q1), ((q1 + 1 + 0), mwR cy), ((q1 + 1 + 1), mwR cy), ((q1 + 1 + 2), mwR cy), ((q1 + 1 + 3), mwR cy), ((q1 + 1 + 4), mwR cy), ((q1 + 1 + 5), mwR cy), ((q1 + 1 + 6), mwR cy), ((q1 + 1 + 7), mwR cy), ((q1 + 1 + 8), mwR cy), ((q1 + 1 + 9), mwR cy), ((q1 + 1 + 10), mwR cy), ((q1 + 1 + 11), mwR cy)] := hD
  refine va_putF (D := D) (ci := 0) (v := .ref q1) (ty := .array (.array .int)) (C := RX0) (T := TX0) (N := 3) hx hb hts (clsOK_of (ci := 0) rfl).2.2.1 tyX0 tyX0_ok nmX0 hown hK hP hD hS 0 rfl rfl 0 (by decide) (hts _ (wtb_in (w := .fieldLink RX0 11 RX0 "maps" "[[I") (mem_at 176 (by decide +kernel)) rfl)) (fun _ h9 => h9) rfl hin rfl (by decide +kernel) rfl rfl (Nat.le_of_ble_eq_true rfl) dX0_init_14 (fun H locs hP hD hS => ?_)
  have hP : va_P D vwCl [(h0, .inr (0, [.ref q1, .int 0, .int 0])), (q1, mwE cy q1), ((q1 + 1 + 0), mwR cy), ((q1 + 1 + 1), mwR cy), ((q1 + 1 + 2), mwR cy), ((q1 + 1 + 3), mwR cy), ((q1 + 1 + 4), mwR cy), ((q1 + 1 + 5), mwR cy), ((q1 + 1 + 6), mwR cy), ((q1 + 1 + 7), mwR cy), ((q1 + 1 + 8), mwR cy), ((q1 + 1 + 9), mwR cy), ((q1 + 1 + 10), mwR cy), ((q1 + 1 + 11), mwR cy)] _ := hP
  have hD : va_D A [(h0, .inr (0, [.ref q1, .int 0, .int 0])), (q1, mwE cy q1), ((q1 + 1 + 0), mwR cy), ((q1 + 1 + 1), mwR cy), ((q1 + 1 + 2), mwR cy), ((q1 + 1 + 3), mwR cy), ((q1 + 1 + 4), mwR cy), ((q1 + 1 + 5), mwR cy), ((q1 + 1 + 6), mwR cy), ((q1 + 1 + 7), mwR cy), ((q1 + 1 + 8), mwR cy), ((q1 + 1 + 9), mwR cy), ((q1 + 1 + 10), mwR cy), ((q1 + 1 + 11), mwR cy)] := hD
  exact W.vret hx hb hr (fun t ht hW => ⟨⟨(), rfl, trivial, q1, hP.at ht, hD⟩, hS.F ht⟩) hS.2.2 dX0_init_17
