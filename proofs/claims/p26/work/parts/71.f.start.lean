/-! ===== the entry ===== -/
abbrev lwA (s : State) : Nat → Prop := fun q => s.heap.size ≤ q
/-- what the tables say of the classes at the start -/
theorem law_K {s : State} {args : Array Value} (hts : ∀ w ∈ lw_tbl, w.before args s = true) : ∃ (D : va_G) (cy : Nat → ClassId), va_K D vwCl (tysJ cy) s := by
  have ex : ∀ k : Nat, ∃ (cC : ClassId) (iS : Nat → Nat), ∀ q : vw_C, vwCl[k]? = some q → u_Kn s q.1 q.2.1 q.2.2 cC iS := by
    intro k
    have one : ∀ (C : String) (T : u_T) (N : Nat), vwCl[k]? = some (C, T, N) → (∀ w ∈ u_ws C T N, w ∈ lw_tbl) → Cond.instantiable C N ∈ lw_tbl → ∃ (cC : ClassId) (iS : Nat → Nat), ∀ q : vw_C, vwCl[k]? = some q → u_Kn s q.1 q.2.1 q.2.2 cC iS := fun C T N h1 h2 h3 => by
      obtain ⟨cC, iS, h⟩ := u_known (C := C) (T := T) (N := N) (n := N) hts h2 (hts _ h3)
      refine ⟨cC, iS, fun q hq => ?_⟩
      cases (show some (C, T, N) = some q from h1.symm.trans hq)
      exact h
    match k with
    | 0 => exact one RX0 TX0 3 rfl inX0 (mem_at 169 (by decide +kernel))
    | 1 => exact one RX1 TX1 9 rfl inX1 (mem_at 187 (by decide +kernel))
    | 2 => exact one RX2 TX2 2 rfl inX2 (mem_at 58 (by decide +kernel))
    | 3 => exact one RX3 TX3 6 rfl inX3 (mem_at 52 (by decide +kernel))
    | 4 => exact one RX4 TX4 2 rfl inX4 (mem_at 126 (by decide +kernel))
    | 5 => exact one RX5 TX5 2 rfl inX5 (mem_at 97 (by decide +kernel))
    | 6 => exact one RX6 TX6 7 rfl inX6 (mem_at 140 (by decide +kernel))
    | 7 => exact one RX7 TX7 5 rfl inX7 (mem_at 91 (by decide +kernel))
    | 8 => exact one RX8 TX8 8 rfl inX8 (mem_at 44 (by decide +kernel))
    | k + 9 => exact ⟨0, fun _ => 0, fun q hq => absurd hq (by simp [vwCl])⟩
  obtain ⟨cc, kc, xc, c1, c2, c3⟩ := Cond.arrayClass_spec (hts _ (mem_at (w := .arrayClass .char) 138 (by decide +kernel)))
  obtain ⟨ci, ki, xi, i1, i2, i3⟩ := Cond.arrayClass_spec (hts _ (mem_at (w := .arrayClass .int) 89 (by decide +kernel)))
  obtain ⟨cz, kz, xz, z1, z2, z3⟩ := Cond.arrayClass_spec (hts _ (mem_at (w := .arrayClass .boolean) 167 (by decide +kernel)))
  obtain ⟨co, ca, ka, o1, o2, o3, o4⟩ := mw_over (hts _ wa_over)
  refine ⟨(fun k => Classical.choose (ex k), fun k => Classical.choose (Classical.choose_spec (ex k))), fun k => if k = 20 then cc else if k = 21 then ci else if k = 22 then cz else ca, fun k q hq => Classical.choose_spec (Classical.choose_spec (ex k)) q hq, fun k q hq => ?_⟩
  match k, hq with
  | 0, hq => cases hq; exact ⟨fun n z => ⟨fun k h => (by cases h), kc, c2, xc, c3⟩, c1⟩
  | 1, hq => cases hq; exact ⟨fun n z => ⟨fun k h => (by cases h), ki, i2, xi, i3⟩, i1⟩
  | 2, hq => cases hq; exact ⟨fun n z => ⟨fun k h => (by cases h), kz, z2, xz, z3⟩, z1⟩
  | 3, hq => cases hq; exact ⟨fun n z => ⟨fun k h => (by cases h), ka, o2, co, o3⟩, o4⟩
  | k + 4, hq => exact absurd hq (by simp [tysJ])
set_option maxHeartbeats 4000000 in
set_option maxRecDepth 100000 in
theorem whole_start {p : Program} {e : Env} {s : State} {m : MethodId} {below : List Frame} {meth : Method} {c : Code} (l : Launch) (hflags : l.flags = flags0) {b L : Nat} {xs : Nat → Int32} (hL : L ≤ 260) (C0 : lw_At p s m meth c b L xs) : W p l e room_1 s m #[Value.ref b] below meth c s.heap [] 0 0 (lw_Z below #[Value.ref b] s) (entryFrame m ([Value.ref b] : List Value).toArray 16) := by
  obtain ⟨hx, hb, hr, hml, hown, hts, hXs, hbl, hlocks, hgv⟩ := id C0
  obtain ⟨D, cy, hK⟩ := law_K hts
  have hN : nestOK s := nestOK.of hts
  have htw : ∀ w ∈ wtb, w.before #[Value.ref b] s = true := fun w hw => hts w (List.mem_filter.mp hw).1
  have hA : ∀ q : Nat, s.heap.size ≤ q → lwA s q := fun _ h => h
  have hS : va_S (lwA s) s.heap s.heap [] := va_S.rf
  have hP : va_P D vwCl [] s.heap := fun k q h => by simp at h
  have hD : va_D (lwA s) [] := ⟨fun i j p q h => by simp at h, fun k q h => by simp at h⟩
  have hl := lv_entry ([.ref b]) (n := 16) (Nat.le_of_ble_eq_true rfl)
  rw [lg_entry_eq]
  generalize (lg_sl ([.ref b]) ++ List.replicate (16 - (lg_sl ([.ref b])).length) Slot.unset).toArray = ls at hl ⊢
  have hl : lv_has ls 16 [(0, .ref b)] := hl
  refine va_new (ci := 8) (fs := [.null, .null, .null, .null, .null, .null, .null, .null]) (C := RX8) (T := TX8) (N := 8) hx hb htw (clsOK_of (ci := 8) rfl).2.2.1 tyX8 tyX8_ok hown (htw _ (wtb_in (w := .classLink RL 10 RX8) (mem_at 43 (by decide +kernel)) rfl)) (htw _ (wtb_in (w := .instantiable RX8 8) (mem_at 44 (by decide +kernel)) rfl)) (htw _ (wtb_in wnX8 rfl)) hK hP hD hS hA rfl (fun j hj => by rcases (show j = 0 ∨ j = 1 ∨ j = 2 ∨ j = 3 ∨ j = 4 ∨ j = 5 ∨ j = 6 ∨ j = 7 by omega) with rfl | rfl | rfl | rfl | rfl | rfl | rfl | rfl <;> rfl) (Nat.le_of_ble_eq_true rfl) (Nat.le_of_ble_eq_true rfl) dL_law_0 (fun q0 H hP hD hS => ?_)
  have hP : va_P D vwCl [(q0, .inr (8, [.null, .null, .null, .null, .null, .null, .null, .null]))] H := hP
  have hD : va_D (lwA s) [(q0, .inr (8, [.null, .null, .null, .null, .null, .null, .null, .null]))] := hD
  refine W.widen (k := 1) (n := 8) (Nat.le_of_ble_eq_true rfl) (Nat.le_of_ble_eq_true rfl) ?_
  refine lv_dup hx hb dL_law_3 rfl ?_
  have hFc := va_free (wc := [(q0, .inr (8, [.null, .null, .null, .null, .null, .null, .null, .null]))]) hD hS hA [0] rfl
  refine va_callv (va_runI (As := []) (rest := [.ref q0]) ⟨hx, hb, hml, hown, htw⟩ (oX8_init l D cy q0 _) (cwI 0 htw (good_cons (big := wtb) wcX8_init) rfl rfl rfl (htw _ (wtb_in wnX8 rfl)) (htw _ (wtb_in mkL_99 rfl)) (htw _ (wtb_in wiX8_init rfl)) rfl (by decide +kernel) ⟨Nat.le_of_ble_eq_true rfl, Nat.le_of_ble_eq_true rfl⟩) ⟨fun a U g mk q => by obtain ⟨q0, q1, qP, qK, qD, qN⟩ := q; exact ⟨q0, q1, qP, va_K.moved (u := U) (U := U.calling g mk a) (Vm.Alike.refl U.vm) qK, qD, nestOK.same rfl qN⟩, fun U hU hW => ⟨rfl, by rw [hU], by rw [hU]; exact hP, va_K.moved hW.alike hK, hD.weaken (fun _ _ _ _ => trivial), nestOK.moved hW hN⟩⟩ rfl rfl hl.1 rfl (lv_room (Nat.le_of_ble_eq_true rfl)) dL_law_4 ⟨Nat.le_of_ble_eq_true rfl, Nat.le_of_ble_eq_true rfl⟩) hS (fun q _ h => hFc q h) hFc (fun u t H1 locs ht hvm hw hB hz1 hk1 hS => ?_)
  obtain ⟨adX, MX, jX, x0, fX, oX, hX, pX⟩ := hB
  rw [ht] at pX
  clear hP hD hk1
  refine W.widen (k := 46) (n := 5421) (Nat.le_of_ble_eq_true rfl) (Nat.le_of_ble_eq_true rfl) ?_
  refine lv_astore_n (lv' := [(1, .ref q0), (0, .ref b)]) hx hb dL_law_7 rfl hl (by decide) rfl (fun ls hl => ?_)
  refine lv_bipush (v := I32 ((8 : Nat) : Int)) hx hb dL_law_8 (by decide) ?_
  rw [← x0] at hl
  have hE : jEnv p s m #[Value.ref b] c cL_law 16 RL D cy := ⟨hx, hb, hml, hown, htw, hK⟩
  have hF : ∀ a, a < 46 → lwA s (adX a) := fun a ha => hFc _ (fX a ha)
  have hend : ∀ (ad : Nat → Nat) (cells slots : Nat), cells ≤ 600000 → slots ≤ 7302250 → jEnd p l e room_1 s m #[Value.ref b] below meth c cL_law D cy ad kdZ (lnZ 8) 47 (lwA s) cells slots s.heap (lw_Z below #[Value.ref b] s) 2 (fun x _ => x = 1) := by
    intro ad cells slots h1 h2 x M H locs lsC pc hp rx hM hP hS
    have hp : x = 1 := hp
    subst hp
    refine ⟨fun hv hdg => ?_, fun h4 => by omega, fun h0 => by omega⟩
    refine va_forget (fun q hq => hS.2.2 q hq) ?_
    refine W.widen (k := 600000) (n := 7302250) h1 h2 ?_
    exact lw_ret hx hb hr hlocks hdg
  have go : jSt p l e room_1 s m #[Value.ref b] below meth c 16 D cy adX kdX lnX 46 (lwA s) 46 5421 [(0, .ref b)] s.heap (lw_Z below #[Value.ref b] s) 10 [none, some (.inr 0), none, none, none, none, none, none, none, none, none, none, none, none, none, none] [.inl ((8 : Nat) : Int)] MX := by
    refine jst_new hE jX hF hA (harr_int htw) (n := 8) (by decide) (Nat.le_of_ble_eq_true rfl) (Nat.le_of_ble_eq_true rfl) dL_law_10 (fun x hx => ?_) (fun x hx => absurd hx List.not_mem_nil) (h06_of hX) (fun q hA' hF' hne => ?_)
    · simp only [List.mem_cons, List.not_mem_nil, or_false, Option.some.injEq, Sum.inr.injEq, reduceCtorEq, false_or] at hx
      omega
    have hall := law_all hE hA' hF' hA hXs hbl (by omega) (Nat.not_le.mpr hbl) (hend (adN adX q)) 22 0 rfl
    have CZ : jC p l e room_1 s m #[Value.ref b] below meth c cL_law 16 RL D cy (adN adX q) kdZ (lnZ 8) 47 (lwA s) 47 5429 s.heap (lw_Z below #[Value.ref b] s) 2 (fun x _ => x = 1) := ⟨hE, hA', jWZ (by decide), hF', ⟨Nat.le_of_ble_eq_true rfl, Nat.le_of_ble_eq_true rfl⟩, hend (adN adX q) 47 5429 (by decide) (by decide)⟩
    have H19 := ls_19 (z0 := b) hA' CZ (ls_100 hA' CZ hall)
    have hX' : absX (upA MX 46 (fun _ => 0)) sZ := absX_lo hX (fun b hb => upA_n (by omega))
    intro H locs lsC hM hls hst hP hS hL0
    have hl := jL_lv hL0 [(0, .ref b), (1, .ref (adN adX q 0))] (fun q' hq => by
      simp only [List.mem_cons, List.not_mem_nil, or_false] at hq
      rcases hq with rfl | rfl
      · exact Or.inr List.mem_cons_self
      · exact Or.inl ⟨.inr 0, rfl, rfl⟩)
    refine lv_astore_n (lv' := [(2, .ref (adN adX q 46)), (0, .ref b), (1, .ref (adN adX q 0))]) hx hb dL_law_12 rfl hl (by decide) rfl (fun ls1 hl1 => ?_)
    refine lv_aload_n hx hb dL_law_13 rfl (lv_at hl1 1 rfl) ?_
    refine lv_iconst (v := I32 0) hx hb dL_law_14 rfl ?_
    refine jw_cell hE hXs hbl (by omega) (Nat.not_le.mpr hbl) ⟨Nat.le_of_ble_eq_true rfl, Nat.le_of_ble_eq_true rfl⟩ ⟨Nat.le_of_ble_eq_true rfl, Nat.le_of_ble_eq_true rfl⟩ dL_law_15 hl1.1 (k := 0) ⟨by decide, by decide⟩ hP hS (fun x1 H1 locs1 r1 hP1 hS1 => ?_)
    refine lv_istore_n (lv' := [(3, .int (I32 x1)), (2, .ref (adN adX q 46)), (0, .ref b), (1, .ref (adN adX q 0))]) hx hb dL_law_18 rfl hl1 (by decide) rfl (fun ls2 hl2 => ?_)
    refine H19 none none none none none none none none none none none none none x1 _ ⟨rfl, hX'⟩ H1 locs1 ls2 hM (fun x hx => ?_) (fun x hx => absurd hx List.not_mem_nil) hP1 hS1 (jL_mk rfl hl2 ?_ ?_)
    · simp only [List.mem_cons, List.not_mem_nil, or_false, Option.some.injEq, reduceCtorEq, false_or, Sum.inl.injEq] at hx
      rw [hx]; exact r1
    · intro j w hw
      match j, hw with
      | 0, hw => cases hw
      | 1, hw => cases hw; simp [cV]
      | 2, hw => cases hw; simp [cV]
      | 3, hw => cases hw; simp [cV]
      | 4, hw => cases hw
      | 5, hw => cases hw
      | 6, hw => cases hw
      | 7, hw => cases hw
      | 8, hw => cases hw
      | 9, hw => cases hw
      | 10, hw => cases hw
      | 11, hw => cases hw
      | 12, hw => cases hw
      | 13, hw => cases hw
      | 14, hw => cases hw
      | 15, hw => cases hw
      | j + 16, hw => simp at hw
    · intro q' hq
      rcases List.mem_cons.mp hq with rfl | h
      · simp
      · exact absurd h List.not_mem_nil
  refine go H1 locs ls oX (fun x hx => ?_) (fun x hx => ?_) pX hS (jL_mk rfl hl ?_ ?_)
  · simp at hx
  · simp only [List.mem_cons, List.not_mem_nil, or_false, Sum.inl.injEq] at hx
    rw [hx]; exact ⟨by decide, by decide⟩
  · intro j w hw
    match j, hw with
    | 0, hw => cases hw
    | 1, hw => cases hw; simp [cV]
    | 2, hw => cases hw
    | 3, hw => cases hw
    | 4, hw => cases hw
    | 5, hw => cases hw
    | 6, hw => cases hw
    | 7, hw => cases hw
    | 8, hw => cases hw
    | 9, hw => cases hw
    | 10, hw => cases hw
    | 11, hw => cases hw
    | 12, hw => cases hw
    | 13, hw => cases hw
    | 14, hw => cases hw
    | 15, hw => cases hw
    | j + 16, hw => simp at hw
  · intro q' hq
    rcases List.mem_cons.mp hq with rfl | h
    · simp
    · exact absurd h List.not_mem_nil
