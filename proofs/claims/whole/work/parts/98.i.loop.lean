/-! ===== the law's loop, and its entry ===== -/
theorem va_P_l {D : va_G} {cl : List vw_C} {w1 w2 : va_W} {H : Heap} (h : va_P D cl (w1 ++ w2) H) : va_P D cl w1 H := fun k q hk => h k q (by rw [List.getElem?_append_left (List.getElem?_eq_some_iff.mp hk).1]; exact hk)
theorem va_P_r {D : va_G} {cl : List vw_C} {w1 w2 : va_W} {H : Heap} (h : va_P D cl (w1 ++ w2) H) : va_P D cl w2 H := fun k q hk => h (w1.length + k) q (by rw [List.getElem?_append_right (Nat.le_add_right _ _), Nat.add_sub_cancel_left]; exact hk)
section LL
variable {p : Program} {l : Launch} {e : Env} {s : State} {m : MethodId} {below : List Frame} {meth : Method} {c : Code} {b L : Nat} {xs : Nat → Int32} {D : va_G} {cy : Nat → ClassId} {adX adY : Nat → Nat} {H : Heap} {locs : List Loc} {Q : State → Prop} {ls : Array Slot} {rest : List Value} {pc cells slots : Nat}
theorem law_loop (C0 : lw_At p s m meth c b L xs) (hL : L ≤ 2048) (hK : va_K D vwCl (tysJ cy) s) (hA : LA s adX adY) : ∀ (n i : Nat), L + 8 ≤ n + i → i ≤ L + 4 → ∀ (σ MX MY : Mem) (H : Heap) (locs : List Loc) (ls : Array Slot), absX MX σ → absY MY σ → LW D cy adX adY MX MY H → va_S (lwA s) s.heap H locs → lv_has ls 4 [(3, .int (I32 i)), (2, .ref (adY 0)), (1, .ref (adX 0)), (0, .ref b)] →
    W p l e room_1 s m #[Value.ref b] below meth c H locs 58 8487 (lw_Z below #[Value.ref b] s) (F0 m 18 ls []) := by
  obtain ⟨hx, hb, hr, hml, hown, hts, hXs, hbl, hlocks, hgv⟩ := id C0
  intro n
  induction n with
  | zero =>
    intro i h1 h2
    omega
  | succ n ih =>
    intro i h1 h2 σ MX MY H locs ls hX hY hW hS hl
    have ri : inR (i : Int) := ⟨by omega, by omega⟩
    have rL : inR ((L : Int) - 4) := ⟨by omega, by omega⟩
    refine lv_iload_n hx hb dL_law_18 rfl (lv_at hl 0 rfl) ?_
    refine lv_aload_n hx hb dL_law_19 rfl (lv_at hl 3 rfl) ?_
    refine va_slen hx hb hXs hbl (Nat.not_le.mpr hbl) hS dL_law_20 ?_
    refine lv_iconst (v := I32 4) hx hb dL_law_21 rfl ?_
    refine lv_isub hx hb dL_law_22 ?_
    rw [show Int32.ofNat L = I32 (L : Int) from Int32.ofInt_eq_ofNat.symm, I32_sub]
    refine lv_icmp_gt (tgt := 823) hx hb dL_law_23 (by decide) (fun h => ?_) (fun h => ?_)
    · refine va_forget (fun q hq => hS.2.2 q hq) ?_
      refine W.widen (k := 600000) (n := 7302250) (Nat.le_of_ble_eq_true rfl) (Nat.le_of_ble_eq_true rfl) ?_
      refine lv_iconst (v := 1) hx hb dL_law_823 (by decide) ?_
      exact lw_ret hx hb hr hlocks dL_law_824
    have hi : i + 4 ≤ L := by
      have h3 : ¬ ((L : Int) - 4 < i) := fun y => h ((I32_lt rL ri).mpr y)
      omega
    have hcs : 58 ≤ room_1.cells ∧ 8487 ≤ room_1.slots := ⟨Nat.le_of_ble_eq_true rfl, Nat.le_of_ble_eq_true rfl⟩
    have kk : ∀ (σ MX MY : Mem) (H : Heap) (locs : List Loc), absX MX σ → absY MY σ → LW D cy adX adY MX MY H → va_S (lwA s) s.heap H locs → W p l e room_1 s m #[Value.ref b] below meth c H locs 58 8487 (lw_Z below #[Value.ref b] s) (F0 m 817 ls []) := fun σ MX MY H locs hX hY hW hS => by
      refine lv_iinc (v := I32 ((i + 4 : Nat) : Int)) (lv' := [(3, .int (I32 ((i + 4 : Nat) : Int))), (2, .ref (adY 0)), (1, .ref (adX 0)), (0, .ref b)]) hx hb dL_law_817 hl (k := 0) rfl (I32_add _ _) (by decide) rfl (fun ls hl => ?_)
      refine lv_goto (tgt := 18) hx hb dL_law_820 (by decide) ?_
      exact ih (i + 4) (by omega) (by omega) σ MX MY H locs ls hX hY hW hS hl
    refine lv_aload_n hx hb dL_law_26 rfl (lv_at hl 3 rfl) ?_
    refine lv_iload_n hx hb dL_law_27 rfl (lv_at hl 0 rfl) ?_
    refine va_sld hx hb hXs hbl (Nat.not_le.mpr hbl) hS (I32_vp ri (by omega) (by omega)) dL_law_28 ?_
    rw [I32_clamp ri, Int.toNat_natCast]
    refine lv_bipush (v := 31) hx hb dL_law_29 (by decide) ?_
    refine lv_iand hx hb dL_law_31 ?_
    rcases (by omega : ((xs i &&& 31).toInt < 0 ∨ 22 < (xs i &&& 31).toInt) ∨ (xs i &&& 31).toInt = 0 ∨ (xs i &&& 31).toInt = 1 ∨ (xs i &&& 31).toInt = 2 ∨ (xs i &&& 31).toInt = 3 ∨ (xs i &&& 31).toInt = 4 ∨ (xs i &&& 31).toInt = 5 ∨ (xs i &&& 31).toInt = 6 ∨ (xs i &&& 31).toInt = 7 ∨ (xs i &&& 31).toInt = 8 ∨ (xs i &&& 31).toInt = 9 ∨ (xs i &&& 31).toInt = 10 ∨ (xs i &&& 31).toInt = 11 ∨ (xs i &&& 31).toInt = 12 ∨ (xs i &&& 31).toInt = 13 ∨ (xs i &&& 31).toInt = 14 ∨ (xs i &&& 31).toInt = 15 ∨ (xs i &&& 31).toInt = 16 ∨ (xs i &&& 31).toInt = 17 ∨ (xs i &&& 31).toInt = 18 ∨ (xs i &&& 31).toInt = 19 ∨ (xs i &&& 31).toInt = 20 ∨ (xs i &&& 31).toInt = 21 ∨ (xs i &&& 31).toInt = 22) with hk | hk | hk | hk | hk | hk | hk | hk | hk | hk | hk | hk | hk | hk | hk | hk | hk | hk | hk | hk | hk | hk | hk | hk
    · exact lv_tableOut (tgt := 817) hx hb dL_law_32 hk (by decide) (kk σ MX MY H locs hX hY hW hS)
    · exact lv_tableIn (off := 108) (tgt := 140) hx hb dL_law_32 (by rw [hk]; decide) (by rw [hk]; decide) (by rw [hk]; rfl) (by decide) (law_case_0 C0 hL hK hA (by omega) hX hY hW hS hl hcs kk)
    · exact lv_tableIn (off := 141) (tgt := 173) hx hb dL_law_32 (by rw [hk]; decide) (by rw [hk]; decide) (by rw [hk]; rfl) (by decide) (law_case_1 C0 hL hK hA (by omega) hX hY hW hS hl hcs kk)
    · exact lv_tableIn (off := 200) (tgt := 232) hx hb dL_law_32 (by rw [hk]; decide) (by rw [hk]; decide) (by rw [hk]; rfl) (by decide) (law_case_2 C0 hL hK hA (by omega) hX hY hW hS hl hcs kk)
    · exact lv_tableIn (off := 223) (tgt := 255) hx hb dL_law_32 (by rw [hk]; decide) (by rw [hk]; decide) (by rw [hk]; rfl) (by decide) (law_case_3 C0 hL hK hA (by omega) hX hY hW hS hl hcs kk)
    · exact lv_tableIn (off := 246) (tgt := 278) hx hb dL_law_32 (by rw [hk]; decide) (by rw [hk]; decide) (by rw [hk]; rfl) (by decide) (law_case_4 C0 hL hK hA (by omega) hX hY hW hS hl hcs kk)
    · exact lv_tableIn (off := 279) (tgt := 311) hx hb dL_law_32 (by rw [hk]; decide) (by rw [hk]; decide) (by rw [hk]; rfl) (by decide) (law_case_5 C0 hL hK hA (by omega) hX hY hW hS hl hcs kk)
    · exact lv_tableIn (off := 304) (tgt := 336) hx hb dL_law_32 (by rw [hk]; decide) (by rw [hk]; decide) (by rw [hk]; rfl) (by decide) (law_case_6 C0 hL hK hA (by omega) hX hY hW hS hl hcs kk)
    · exact lv_tableIn (off := 317) (tgt := 349) hx hb dL_law_32 (by rw [hk]; decide) (by rw [hk]; decide) (by rw [hk]; rfl) (by decide) (law_case_7 C0 hL hK hA (by omega) hX hY hW hS hl hcs kk)
    · exact lv_tableIn (off := 330) (tgt := 362) hx hb dL_law_32 (by rw [hk]; decide) (by rw [hk]; decide) (by rw [hk]; rfl) (by decide) (law_case_8 C0 hL hK hA (by omega) hX hY hW hS hl hcs kk)
    · exact lv_tableIn (off := 373) (tgt := 405) hx hb dL_law_32 (by rw [hk]; decide) (by rw [hk]; decide) (by rw [hk]; rfl) (by decide) (law_case_9 C0 hL hK hA (by omega) hX hY hW hS hl hcs kk)
    · exact lv_tableIn (off := 406) (tgt := 438) hx hb dL_law_32 (by rw [hk]; decide) (by rw [hk]; decide) (by rw [hk]; rfl) (by decide) (law_case_10 C0 hL hK hA (by omega) hX hY hW hS hl hcs kk)
    · exact lv_tableIn (off := 439) (tgt := 471) hx hb dL_law_32 (by rw [hk]; decide) (by rw [hk]; decide) (by rw [hk]; rfl) (by decide) (law_case_11 C0 hL hK hA (by omega) hX hY hW hS hl hcs kk)
    · exact lv_tableIn (off := 452) (tgt := 484) hx hb dL_law_32 (by rw [hk]; decide) (by rw [hk]; decide) (by rw [hk]; rfl) (by decide) (law_case_12 C0 hL hK hA (by omega) hX hY hW hS hl hcs kk)
    · exact lv_tableIn (off := 475) (tgt := 507) hx hb dL_law_32 (by rw [hk]; decide) (by rw [hk]; decide) (by rw [hk]; rfl) (by decide) (law_case_13 C0 hL hK hA (by omega) hX hY hW hS hl hcs kk)
    · exact lv_tableIn (off := 498) (tgt := 530) hx hb dL_law_32 (by rw [hk]; decide) (by rw [hk]; decide) (by rw [hk]; rfl) (by decide) (law_case_14 C0 hL hK hA (by omega) hX hY hW hS hl hcs kk)
    · exact lv_tableIn (off := 531) (tgt := 563) hx hb dL_law_32 (by rw [hk]; decide) (by rw [hk]; decide) (by rw [hk]; rfl) (by decide) (law_case_15 C0 hL hK hA (by omega) hX hY hW hS hl hcs kk)
    · exact lv_tableIn (off := 554) (tgt := 586) hx hb dL_law_32 (by rw [hk]; decide) (by rw [hk]; decide) (by rw [hk]; rfl) (by decide) (law_case_16 C0 hL hK hA (by omega) hX hY hW hS hl hcs kk)
    · exact lv_tableIn (off := 587) (tgt := 619) hx hb dL_law_32 (by rw [hk]; decide) (by rw [hk]; decide) (by rw [hk]; rfl) (by decide) (law_case_17 C0 hL hK hA (by omega) hX hY hW hS hl hcs kk)
    · exact lv_tableIn (off := 620) (tgt := 652) hx hb dL_law_32 (by rw [hk]; decide) (by rw [hk]; decide) (by rw [hk]; rfl) (by decide) (law_case_18 C0 hL hK hA (by omega) hX hY hW hS hl hcs kk)
    · exact lv_tableIn (off := 653) (tgt := 685) hx hb dL_law_32 (by rw [hk]; decide) (by rw [hk]; decide) (by rw [hk]; rfl) (by decide) (law_case_19 C0 hL hK hA (by omega) hX hY hW hS hl hcs kk)
    · exact lv_tableIn (off := 696) (tgt := 728) hx hb dL_law_32 (by rw [hk]; decide) (by rw [hk]; decide) (by rw [hk]; rfl) (by decide) (law_case_20 C0 hL hK hA (by omega) hX hY hW hS hl hcs kk)
    · exact lv_tableIn (off := 719) (tgt := 751) hx hb dL_law_32 (by rw [hk]; decide) (by rw [hk]; decide) (by rw [hk]; rfl) (by decide) (law_case_21 C0 hL hK hA (by omega) hX hY hW hS hl hcs kk)
    · exact lv_tableIn (off := 752) (tgt := 784) hx hb dL_law_32 (by rw [hk]; decide) (by rw [hk]; decide) (by rw [hk]; rfl) (by decide) (law_case_22 C0 hL hK hA (by omega) hX hY hW hS hl hcs kk)
end LL
/-- what the tables say of the classes at the start -/
theorem law_K {s : State} {args : Array Value} (hts : ∀ w ∈ lw_tbl, w.before args s = true) : ∃ (D : va_G) (cy : Nat → ClassId), va_K D vwCl (tysJ cy) s := by
  have ex : ∀ k : Nat, ∃ (cC : ClassId) (iS : Nat → Nat), ∀ q : vw_C, vwCl[k]? = some q → u_Kn s q.1 q.2.1 q.2.2 cC iS := by
    intro k
    have one : ∀ (C : String) (T : u_T) (N : Nat), vwCl[k]? = some (C, T, N) → (∀ w ∈ u_ws C T N, w ∈ lw_tbl) → Cond.instantiable C N ∈ lw_tbl → ∃ (cC : ClassId) (iS : Nat → Nat), ∀ q : vw_C, vwCl[k]? = some q → u_Kn s q.1 q.2.1 q.2.2 cC iS := fun C T N h1 h2 h3 => by
      obtain ⟨cC, iS, h⟩ := u_known (C := C) (T := T) (N := N) (n := N) hts h2 (hts _ h3)
      refine ⟨cC, iS, fun q hq => ?_⟩
      cases (show some (C, T, N) = some q from h1.symm.trans hq)
      exact h
    match k with
    | 0 => exact one RX0 TX0 3 rfl inX0 (mem_at 188 (by decide +kernel))
    | 1 => exact one RX1 TX1 9 rfl inX1 (mem_at 206 (by decide +kernel))
    | 2 => exact one RX2 TX2 2 rfl inX2 (mem_at 77 (by decide +kernel))
    | 3 => exact one RX3 TX3 6 rfl inX3 (mem_at 71 (by decide +kernel))
    | 4 => exact one RX4 TX4 2 rfl inX4 (mem_at 145 (by decide +kernel))
    | 5 => exact one RX5 TX5 2 rfl inX5 (mem_at 116 (by decide +kernel))
    | 6 => exact one RX6 TX6 7 rfl inX6 (mem_at 159 (by decide +kernel))
    | 7 => exact one RX7 TX7 5 rfl inX7 (mem_at 110 (by decide +kernel))
    | 8 => exact one RX8 TX8 8 rfl inX8 (mem_at 63 (by decide +kernel))
    | 9 => exact one RX9 TX9 20 rfl inX9 (mem_at 720 (by decide +kernel))
    | k + 10 => exact ⟨0, fun _ => 0, fun q hq => absurd hq (by simp [vwCl])⟩
  obtain ⟨cc, kc, xc, c1, c2, c3⟩ := Cond.arrayClass_spec (hts _ (mem_at (w := .arrayClass .char) 157 (by decide +kernel)))
  obtain ⟨ci, ki, xi, i1, i2, i3⟩ := Cond.arrayClass_spec (hts _ (mem_at (w := .arrayClass .int) 108 (by decide +kernel)))
  obtain ⟨cz, kz, xz, z1, z2, z3⟩ := Cond.arrayClass_spec (hts _ (mem_at (w := .arrayClass .boolean) 186 (by decide +kernel)))
  obtain ⟨co, ca, ka, o1, o2, o3, o4⟩ := mw_over (hts _ wa_over)
  refine ⟨(fun k => Classical.choose (ex k), fun k => Classical.choose (Classical.choose_spec (ex k))), fun k => if k = 20 then cc else if k = 21 then ci else if k = 22 then cz else ca, fun k q hq => Classical.choose_spec (Classical.choose_spec (ex k)) q hq, fun k q hq => ?_⟩
  match k, hq with
  | 0, hq => cases hq; exact ⟨fun n z => ⟨fun k h => (by cases h), kc, c2, xc, c3⟩, c1⟩
  | 1, hq => cases hq; exact ⟨fun n z => ⟨fun k h => (by cases h), ki, i2, xi, i3⟩, i1⟩
  | 2, hq => cases hq; exact ⟨fun n z => ⟨fun k h => (by cases h), kz, z2, xz, z3⟩, z1⟩
  | 3, hq => cases hq; exact ⟨fun n z => ⟨fun k h => (by cases h), ka, o2, co, o3⟩, o4⟩
  | k + 4, hq => exact absurd hq (by simp [tysJ])
set_option maxHeartbeats 4000000 in
set_option maxRecDepth 100000 in
theorem whole_start {p : Program} {e : Env} {s : State} {m : MethodId} {below : List Frame} {meth : Method} {c : Code} (l : Launch) (hflags : l.flags = flags0) {b L : Nat} {xs : Nat → Int32} (hL : L ≤ 2048) (C0 : lw_At p s m meth c b L xs) : W p l e room_1 s m #[Value.ref b] below meth c s.heap [] 0 0 (lw_Z below #[Value.ref b] s) (entryFrame m ([Value.ref b] : List Value).toArray 4) := by
  obtain ⟨hx, hb, hr, hml, hown, hts, hXs, hbl, hlocks, hgv⟩ := id C0
  obtain ⟨D, cy, hK⟩ := law_K hts
  have hN : nestOK s := nestOK.of hts
  have htw : ∀ w ∈ wtb, w.before #[Value.ref b] s = true := fun w hw => hts w (List.mem_filter.mp hw).1
  have hA : ∀ q : Nat, s.heap.size ≤ q → lwA s q := fun _ h => h
  have hS : va_S (lwA s) s.heap s.heap [] := va_S.rf
  have hP : va_P D vwCl [] s.heap := fun k q h => by simp at h
  have hD : va_D (lwA s) [] := ⟨fun i j p q h => by simp at h, fun k q h => by simp at h⟩
  have hl := lv_entry ([.ref b]) (n := 4) (Nat.le_of_ble_eq_true rfl)
  rw [lg_entry_eq]
  generalize (lg_sl ([.ref b]) ++ List.replicate (4 - (lg_sl ([.ref b])).length) Slot.unset).toArray = ls at hl ⊢
  have hl : lv_has ls 4 [(0, .ref b)] := hl
  refine va_new (ci := 8) (fs := [.null, .null, .null, .null, .null, .null, .null, .null]) (C := RX8) (T := TX8) (N := 8) hx hb htw (clsOK_of (ci := 8) rfl).2.2.1 tyX8 tyX8_ok hown (htw _ (wtb_in (w := .classLink RL 7 RX8) (mem_at 62 (by decide +kernel)) rfl)) (htw _ (wtb_in (w := .instantiable RX8 8) (mem_at 63 (by decide +kernel)) rfl)) (htw _ (wtb_in wnX8 rfl)) hK hP hD hS hA rfl (fun j hj => by rcases (show j = 0 ∨ j = 1 ∨ j = 2 ∨ j = 3 ∨ j = 4 ∨ j = 5 ∨ j = 6 ∨ j = 7 by omega) with rfl | rfl | rfl | rfl | rfl | rfl | rfl | rfl <;> rfl) (Nat.le_of_ble_eq_true rfl) (Nat.le_of_ble_eq_true rfl) dL_law_0 (fun q0 H hP hD hS => ?_)
  have hP : va_P D vwCl [(q0, .inr (8, [.null, .null, .null, .null, .null, .null, .null, .null]))] H := hP
  have hD : va_D (lwA s) [(q0, .inr (8, [.null, .null, .null, .null, .null, .null, .null, .null]))] := hD
  refine W.widen (k := 1) (n := 8) (Nat.le_of_ble_eq_true rfl) (Nat.le_of_ble_eq_true rfl) ?_
  refine lv_dup hx hb dL_law_3 rfl ?_
  have hFc := va_free (wc := [(q0, .inr (8, [.null, .null, .null, .null, .null, .null, .null, .null]))]) hD hS hA [0] rfl
  refine va_callv (va_runI (As := []) (rest := [.ref q0]) ⟨hx, hb, hml, hown, htw⟩ (oX8_init l D cy q0 _) (cwI 0 htw (good_cons (big := wtb) wcX8_init) rfl rfl rfl (htw _ (wtb_in wnX8 rfl)) (htw _ (wtb_in mkL_9 rfl)) (htw _ (wtb_in wiX8_init rfl)) rfl (by decide +kernel) ⟨Nat.le_of_ble_eq_true rfl, Nat.le_of_ble_eq_true rfl⟩) ⟨fun a U g mk q => by obtain ⟨q0, q1, qP, qK, qD, qN⟩ := q; exact ⟨q0, q1, qP, va_K.moved (u := U) (U := U.calling g mk a) (Vm.Alike.refl U.vm) qK, qD, nestOK.same rfl qN⟩, fun U hU hW => ⟨rfl, by rw [hU], by rw [hU]; exact hP, va_K.moved hW.alike hK, hD.weaken (fun _ _ _ _ => trivial), nestOK.moved hW hN⟩⟩ rfl rfl hl.1 rfl (lv_room (Nat.le_of_ble_eq_true rfl)) dL_law_4 ⟨Nat.le_of_ble_eq_true rfl, Nat.le_of_ble_eq_true rfl⟩) hS (fun q _ h => hFc q h) hFc (fun u t H1 locs ht hvm hw hB hz1 hk1 hS => ?_)
  obtain ⟨adX, MX, jX, x0, fX, oX, hX, pX⟩ := hB
  rw [ht] at pX
  clear hP hD hk1
  refine W.widen (k := 46) (n := 5421) (Nat.le_of_ble_eq_true rfl) (Nat.le_of_ble_eq_true rfl) ?_
  refine lv_astore_n (lv' := [(1, .ref q0), (0, .ref b)]) hx hb dL_law_7 rfl hl (by decide) rfl (fun ls hl => ?_)
  have dX : va_D (lwA s) (wld adX kdX lnX cy 46 MX) := (wld_D jX).weaken (fun k q _ ⟨a, h1, h2⟩ => by
    rw [← h2]
    exact hFc _ (fX a h1))
  refine va_new (ci := 9) (fs := [.int 0, .int 0, .int 0, .null, .null, .int 0, .int 0, .int 0, .int 0, .int 0, .null, .null, .null, .null, .null, .null, .int 0, .null, .null, .null]) (C := RX9) (T := TX9) (N := 20) hx hb htw (clsOK_of (ci := 9) rfl).2.2.1 tyX9 tyX9_ok hown (htw _ (wtb_in (w := .classLink RL 10 RX9) (mem_at 719 (by decide +kernel)) rfl)) (htw _ (wtb_in (w := .instantiable RX9 20) (mem_at 720 (by decide +kernel)) rfl)) (htw _ (wtb_in wnX9 rfl)) hK pX dX hS hA rfl (fun j hj => by rcases (show j = 0 ∨ j = 1 ∨ j = 2 ∨ j = 3 ∨ j = 4 ∨ j = 5 ∨ j = 6 ∨ j = 7 ∨ j = 8 ∨ j = 9 ∨ j = 10 ∨ j = 11 ∨ j = 12 ∨ j = 13 ∨ j = 14 ∨ j = 15 ∨ j = 16 ∨ j = 17 ∨ j = 18 ∨ j = 19 by omega) with rfl | rfl | rfl | rfl | rfl | rfl | rfl | rfl | rfl | rfl | rfl | rfl | rfl | rfl | rfl | rfl | rfl | rfl | rfl | rfl <;> rfl) (Nat.le_of_ble_eq_true rfl) (Nat.le_of_ble_eq_true rfl) dL_law_8 (fun q1 H2 hP hD hS => ?_)
  have pX := va_P_l hP
  have hPc := va_P_r hP
  have hlen : (wld adX kdX lnX cy 46 MX).length = 46 := by simp [wld]
  have e2 : (wld adX kdX lnX cy 46 MX ++ [(q1, .inr (9, [.int 0, .int 0, .int 0, .null, .null, .int 0, .int 0, .int 0, .int 0, .int 0, .null, .null, .null, .null, .null, .null, .int 0, .null, .null, .null]))])[46]? = some (q1, .inr (9, [.int 0, .int 0, .int 0, .null, .null, .int 0, .int 0, .int 0, .int 0, .int 0, .null, .null, .null, .null, .null, .null, .int 0, .null, .null, .null])) := by
    rw [List.getElem?_append_right (by omega), hlen]
    rfl
  have hne : ∀ a, a < 46 → adX a ≠ q1 := fun a ha y => by
    have e1 : (wld adX kdX lnX cy 46 MX ++ [(q1, .inr (9, [.int 0, .int 0, .int 0, .null, .null, .int 0, .int 0, .int 0, .int 0, .int 0, .null, .null, .null, .null, .null, .null, .int 0, .null, .null, .null]))])[a]? = some (adX a, eOf adX kdX lnX cy MX a) := by
      rw [List.getElem?_append_left (by simp [wld]; exact ha)]
      exact wld_at ha
    have := hD.1 a 46 _ _ e1 e2 y
    omega
  have hq1 : lwA s q1 ∧ q1 < Array.size H2 := ⟨hD.2 46 _ e2, (hPc 0 _ rfl).lt⟩
  have hDc : va_D (lwA s) [(q1, .inr (9, [.int 0, .int 0, .int 0, .null, .null, .int 0, .int 0, .int 0, .int 0, .int 0, .null, .null, .null, .null, .null, .null, .int 0, .null, .null, .null]))] := ⟨fun i j x y hi hj _ => by
    have h1 := (List.getElem?_eq_some_iff.mp hi).1
    have h2 := (List.getElem?_eq_some_iff.mp hj).1
    simp at h1 h2
    omega, fun k q hk => by
    have h1 := (List.getElem?_eq_some_iff.mp hk).1
    simp at h1
    subst h1
    cases hk
    exact hq1.1⟩
  have hlX : ∀ a, a < 46 → adX a < Array.size H2 := fun a ha => (pX a _ (wld_at ha)).lt
  clear hP hD
  refine W.widen (k := 47) (n := 5441) (Nat.le_of_ble_eq_true rfl) (Nat.le_of_ble_eq_true rfl) ?_
  refine lv_dup hx hb dL_law_11 rfl ?_
  have hFy := va_free (wc := [(q1, .inr (9, [.int 0, .int 0, .int 0, .null, .null, .int 0, .int 0, .int 0, .int 0, .int 0, .null, .null, .null, .null, .null, .null, .int 0, .null, .null, .null]))]) hDc hS hA [0] rfl
  refine va_callv (va_runI (As := []) (rest := [.ref q1]) ⟨hx, hb, hml, hown, htw⟩ (oX9_init l D cy q1 _) (cwI 0 htw (good_cons (big := wtb) wcX9_init) rfl rfl rfl (htw _ (wtb_in wnX9 rfl)) (htw _ (wtb_in mkL_12 rfl)) (htw _ (wtb_in wiX9_init rfl)) rfl (by decide +kernel) ⟨Nat.le_of_ble_eq_true rfl, Nat.le_of_ble_eq_true rfl⟩) ⟨fun a U g mk q => by obtain ⟨q0, q1, qP, qK, qD, qN⟩ := q; exact ⟨q0, q1, qP, va_K.moved (u := U) (U := U.calling g mk a) (Vm.Alike.refl U.vm) qK, qD, nestOK.same rfl qN⟩, fun U hU hW => ⟨rfl, by rw [hU], by rw [hU]; exact hPc, va_K.moved hW.alike hK, hDc.weaken (fun _ _ _ _ => trivial), nestOK.moved hW hN⟩⟩ rfl rfl hl.1 rfl (lv_room (Nat.le_of_ble_eq_true rfl)) dL_law_12 ⟨Nat.le_of_ble_eq_true rfl, Nat.le_of_ble_eq_true rfl⟩) hS (fun q _ h => hFy q h) hFy (fun u t H3 locs ht hvm hw hB hz1 hk1 hS => ?_)
  obtain ⟨adY, MY, jY, y0, fY, oY, hY, pY⟩ := hB
  rw [ht] at pY
  have nX : ∀ a, a < 46 → ¬ va_A [(q1, .inr (9, [.int 0, .int 0, .int 0, .null, .null, .int 0, .int 0, .int 0, .int 0, .int 0, .null, .null, .null, .null, .null, .null, .int 0, .null, .null, .null]))] (Array.size H2) (adX a) := fun a ha y => by
    rcases y with ⟨k, e9, h9⟩ | h9
    · have h1 := (List.getElem?_eq_some_iff.mp h9).1
      simp at h1
      subst h1
      cases h9
      exact hne a ha rfl
    · have := hlX a ha
      omega
  have pX3 := wld_kept pX (fun a ha hlt => hk1 _ hlt (nX a ha))
  refine W.widen (k := 58) (n := 8487) (Nat.le_of_ble_eq_true rfl) (Nat.le_of_ble_eq_true rfl) ?_
  refine lv_astore_n (lv' := [(2, .ref q1), (1, .ref q0), (0, .ref b)]) hx hb dL_law_15 rfl hl (by decide) rfl (fun ls hl => ?_)
  refine lv_iconst (v := I32 ((0 : Nat) : Int)) hx hb dL_law_16 rfl ?_
  refine lv_istore_n (lv' := [(3, .int (I32 ((0 : Nat) : Int))), (2, .ref q1), (1, .ref q0), (0, .ref b)]) hx hb dL_law_17 rfl hl (by decide) rfl (fun ls hl => ?_)
  rw [← x0, ← y0] at hl
  exact law_loop C0 hL hK ⟨⟨jX, jY⟩, fun a ha => hFc _ (fX a ha), fun a ha => hFy _ (fY a ha), fun a a' ha ha' y => nX a ha (by rw [y]; exact fY a' ha')⟩ (L + 8) 0 (by omega) (by omega) sZ MX MY _ _ ls hX hY ⟨⟨pX3, pY⟩, oX, oY⟩ hS hl
