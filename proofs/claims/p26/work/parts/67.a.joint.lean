/-! ===== where the pieces of a method of the law are joined: longs, new rows ===== -/
def exB (ps : List Nat) (tb : TB) : Bool := tb.all fun q => match stK q.2.1 with
  | some k => ps.all fun p => !(p == k) && !(p + 1 == k)
  | none => true
theorem exT_of {ex : List (Nat × Value)} {tb : TB} (h : exB (ex.map Prod.fst) tb = true) : exT ex tb := by
  intro pc i n ts hl k hk q hq
  have h1 := List.all_eq_true.mp h _ (lookup_mem hl)
  dsimp only at h1
  rw [hk] at h1
  have h2 := List.all_eq_true.mp h1 q.1 (List.mem_map.mpr ⟨q, hq, rfl⟩)
  simpa using h2
theorem jL_mk {ex : List (Nat × Value)} {ad : Nat → Nat} {lsC : Array Slot} {nL : Nat} {ls : List (Option AV)} {lv : List (Nat × Value)} (hlen : ls.length = nL) (h : lv_has lsC nL lv) (h2 : ∀ (i : Nat) (v : AV), ls[i]? = some (some v) → (i, cV ad v) ∈ lv) (h3 : ∀ q ∈ ex, q ∈ lv) : jL ex ad lsC nL ls := ⟨hlen, lv, h, h2, h3⟩
theorem jL_lv {ex : List (Nat × Value)} {ad : Nat → Nat} {lsC : Array Slot} {nL : Nat} {ls : List (Option AV)} (h : jL ex ad lsC nL ls) (lv' : List (Nat × Value)) (hs : ∀ q ∈ lv', (∃ v, ls[q.1]? = some (some v) ∧ q.2 = cV ad v) ∨ q ∈ ex) : lv_has lsC nL lv' := by
  obtain ⟨h0, lv, h1, h2, h3⟩ := h
  refine ⟨h1.1, h1.2.1, fun q hq => ?_⟩
  rcases hs q hq with ⟨v, e1, e2⟩ | h
  · have := h1.2.2 _ (h2 q.1 v e1)
    rw [e2]
    exact this
  · exact h1.2.2 q (h3 q h)
/-- other addresses, as far as the locals don't speak of them -/
theorem jL_ad {ex : List (Nat × Value)} {ad ad' : Nat → Nat} {lsC : Array Slot} {nL : Nat} {ls : List (Option AV)} (h : jL ex ad lsC nL ls) (he : ∀ a, some (Sum.inr a) ∈ ls → ad' a = ad a) : jL ex ad' lsC nL ls := by
  obtain ⟨h0, lv, h1, h2, h3⟩ := h
  refine ⟨h0, lv, h1, fun i v hi => ?_, h3⟩
  have := h2 i v hi
  cases v with
  | inl x => exact this
  | inr a =>
    have e := he a (List.mem_of_getElem? hi)
    show (i, Value.ref (ad' a)) ∈ lv
    rw [e]
    exact this
def adN (ad : Nat → Nat) (q : Nat) : Nat → Nat := fun a => if a = 46 then q else ad a
theorem adN_lo {ad : Nat → Nat} {q a : Nat} (h : a ≠ 46) : adN ad q a = ad a := if_neg h
theorem adN_46 {ad : Nat → Nat} {q : Nat} : adN ad q 46 = q := if_pos rfl
/-- which cells a cell speaks of -/
def rfoB (a k : Nat) : Bool := !(Nat.blt (kdX a) 20 && isRf (kdX a) k && (!Nat.beq (kdX a) 8 || Nat.blt k 6)) || (Nat.blt (rfo (kdX a) k a (fun _ _ => 100)) 46 && Nat.blt (kdX a) 9 && !Nat.beq (kdX a) 2)
theorem rfoB_all : ((List.range 46).all fun a => (List.range 10).all fun k => rfoB a k) = true := by decide +kernel
theorem rfo_all : ∀ a, a < 46 → kdX a < 20 → ∀ k, k < 10 → isRf (kdX a) k = true → (kdX a ≠ 8 ∨ k < 6) → ∀ M : Mem, rfo (kdX a) k a M < 46 := by
  intro a ha h1 k hk h2 h3 M
  have hb := List.all_eq_true.mp (List.all_eq_true.mp rfoB_all a (List.mem_range.mpr ha)) k (List.mem_range.mpr hk)
  have hc : (Nat.blt (kdX a) 20 && isRf (kdX a) k && (!Nat.beq (kdX a) 8 || Nat.blt k 6)) = true := by
    rw [Bool.and_eq_true, Bool.and_eq_true, Bool.or_eq_true]
    refine ⟨⟨Nat.blt_eq.mpr h1, h2⟩, h3.imp (fun z => ?_) (fun z => Nat.blt_eq.mpr z)⟩
    rw [Bool.not_eq_true', ← Bool.not_eq_true]
    exact fun y => z (Nat.eq_of_beq_eq_true y)
  unfold rfoB at hb
  rw [hc, Bool.not_true, Bool.false_or, Bool.and_eq_true, Bool.and_eq_true] at hb
  have q1 := Nat.blt_eq.mp hb.1.1
  have q9 := Nat.blt_eq.mp hb.1.2
  have q2 : kdX a = 0 ∨ kdX a = 1 ∨ kdX a = 3 ∨ kdX a = 4 ∨ kdX a = 5 ∨ kdX a = 6 ∨ kdX a = 7 ∨ kdX a = 8 := by
    have : kdX a ≠ 2 := fun z => by
      have h4 := hb.2
      rw [z] at h4
      exact absurd h4 (by decide)
    omega
  have e : rfo (kdX a) k a M = rfo (kdX a) k a (fun _ _ => 100) := by
    generalize kdX a = ci at *
    rcases q2 with rfl | rfl | rfl | rfl | rfl | rfl | rfl | rfl
    all_goals
      rcases (show k = 0 ∨ k = 1 ∨ k = 2 ∨ k = 3 ∨ k = 4 ∨ k = 5 ∨ k = 6 ∨ k = 7 ∨ k = 8 ∨ k = 9 by omega) with rfl | rfl | rfl | rfl | rfl | rfl | rfl | rfl | rfl | rfl <;> first | rfl | (exfalso; revert h2; decide) | (exfalso; omega)
  rw [e]
  exact q1
theorem nfs_le : ∀ a, a < 46 → kdX a < 20 → nfs.getD (kdX a) 0 ≤ 9 := by decide +kernel
section WA
variable {D : va_G} {cy : Nat → ClassId} {ad ad' : Nat → Nat} {M : Mem} {H : Heap}
theorem flds_ad {a : Nat} (ha : a < 46) (hk : kdX a < 20) (he : ∀ b, b < 46 → ad' b = ad b) (h06 : (M 0 6).toNat < 46 ∧ (M 0 7).toNat < 46) : flds ad' (kdX a) a M = flds ad (kdX a) a M := by
  unfold flds
  refine List.map_congr_left fun k hkm => ?_
  have hk9 : k < 10 := by
    have := List.mem_range.mp hkm
    have := nfs_le a ha hk
    omega
  cases hr : isRf (kdX a) k with
  | false => rfl
  | true =>
    show Value.ref (ad' _) = Value.ref (ad _)
    rw [he]
    by_cases q : kdX a ≠ 8 ∨ k < 6
    · exact rfo_all a ha hk k hk9 hr q M
    · have q1 : kdX a = 8 := Classical.byContradiction fun z => q (Or.inl z)
      have q2 : k = 6 ∨ k = 7 := by
        have h7 : k ≤ 7 := by
          rw [q1] at hr
          rcases (show k ≤ 7 ∨ k = 8 ∨ k = 9 by omega) with z | rfl | rfl
          · exact z
          · exact Classical.byContradiction fun _ => by
              have hm := List.mem_range.mp hkm
              rw [q1] at hm
              exact absurd hm (by decide)
          · exact Classical.byContradiction fun _ => by
              have hm := List.mem_range.mp hkm
              rw [q1] at hm
              exact absurd hm (by decide)
        omega
      have a0 : a = 0 := (by decide +kernel : ∀ a, a < 46 → kdX a = 8 → a = 0) a ha q1
      subst a0
      rw [q1]
      rcases q2 with rfl | rfl
      · exact h06.1
      · exact h06.2
theorem wld_ad (he : ∀ b, b < 46 → ad' b = ad b) (h06 : (M 0 6).toNat < 46 ∧ (M 0 7).toNat < 46) (h : va_P D vwCl (wld ad kdX lnX cy 46 M) H) : va_P D vwCl (wld ad' kdX lnX cy 46 M) H := by
  intro k q hk
  have hl := wld_lt hk
  have h1 := h k _ (wld_at hl)
  rw [wld_at hl] at hk
  cases hk
  rw [he k hl]
  by_cases q1 : kdX k < 20
  · rw [eOf_obj rfl q1, flds_ad hl q1 he h06, ← eOf_obj rfl q1]
    exact h1
  · by_cases q2 : kdX k = 23
    · rw [eOf_rows q2] at h1 ⊢
      have k17 : k = 17 := (by decide +kernel : ∀ a, a < 46 → kdX a = 23 → a = 17) k hl q2
      subst k17
      show H[ad 17]? = some (vp_cell _ _)
      have h2 : H[ad 17]? = some (vp_cell (cy 23) (lnX 17, .inr (.inr (.inr (.inr (fun i => some (ad (17 + 1 + i)))))))) := h1
      rw [h2, vp_cell_q, vp_cell_q]
      refine congrArg some (arrV_cg (fun j hj => ?_))
      have hj : j < 12 := hj
      show va_rf _ = va_rf _
      rw [he _ (by omega)]
    · rw [eOf_arr rfl (by omega) q2] at h1 ⊢
      exact h1
end WA
/-! a new row -/
section NEW
variable {p : Program} {l : Launch} {e : Env} {R : Room} {s : State} {m : MethodId} {args : Array Value} {below : List Frame} {meth : Method} {c : Code}
variable {cc : ByteArray} {nL : Nat} {own : String} {D : va_G} {cy : Nat → ClassId} {ad : Nat → Nat} {A : Nat → Prop} {cells slots : Nat} {ex : List (Nat × Value)} {H0 : Heap} {Q : State → Prop}
theorem jst_new (hE : jEnv p s m args c cc nL own D cy) (hA : jA ad 46) (hF : ∀ a, a < 46 → A (ad a)) (hA2 : ∀ q, H0.size ≤ q → A q) (harr : (Cond.arrayClass .int).before args s = true) {n : Nat} (hn : n ≤ 1000) (hcells : cells + 1 ≤ R.cells) (hslots : slots + n ≤ R.slots) {pc : Nat} (hdg : decode cc pc = .ok (.newarray .int, 2)) {ls : List (Option AV)} {st : List AV} {M : Mem}
    (hls : ∀ a, some (Sum.inr a) ∈ ls → a < 46) (hst : ∀ a, Sum.inr a ∈ st → a < 46) (h06 : (M 0 6).toNat < 46 ∧ (M 0 7).toNat < 46)
    (kk : ∀ q, jA (adN ad q) 47 → (∀ a, a < 47 → A (adN ad q a)) → (∀ a, a < 46 → q ≠ ad a) → jSt p l e R s m args below meth c nL D cy (adN ad q) kdZ (lnZ n) 47 A (cells + 1) (slots + n) ex H0 Q (pc + 2) ls (.inr 46 :: st) (upA M 46 (fun _ => 0))) :
    jSt p l e R s m args below meth c nL D cy ad kdX lnX 46 A cells slots ex H0 Q pc ls (.inl n :: st) M := by
  obtain ⟨hx, hb, hml, hown, hts, hKv⟩ := id hE
  intro H locs lsC hM hls2 hst2 hP hS hL
  have hD : va_D A (wld ad kdX lnX cy 46 M) := (wld_D hA).weaken (fun k q _ ⟨a, h1, h2⟩ => by rw [← h2]; exact hF a h1)
  have rn : inR (n : Int) := hst2 _ List.mem_cons_self
  refine jc_new (cA := cy 21) (atype := .int) (N := n) (n := I32 n) (ws := wld ad kdX lnX cy 46 M) (D := D) (cl := vwCl) (A := A) (H0 := H0) (tys := tysJ cy) hx hb harr ((hKv.2 1 _ rfl).2) rfl (by decide) hKv hP hD hS hA2 (fun z => ?_) (by rw [I32_clamp rn]; rfl) (by omega) hcells hslots hdg (fun q H1 hP1 hD1 hS1 => ?_)
  · rw [← I32_0] at z
    have := (I32_lt rn inR_0).mp z
    omega
  · have e46 : (wld ad kdX lnX cy 46 M ++ [(q, (.inl (cy 21, n, .inl (fun _ => 0)) : va_E))])[46]? = some (q, .inl (cy 21, n, .inl (fun _ => 0))) := by
      rw [List.getElem?_append_right (by simp [wld])]
      simp [wld]
    have elo : ∀ a, a < 46 → (wld ad kdX lnX cy 46 M ++ [(q, (.inl (cy 21, n, .inl (fun _ => 0)) : va_E))])[a]? = some (ad a, eOf ad kdX lnX cy M a) := fun a ha => by
      rw [List.getElem?_append_left (by simp [wld]; exact ha), wld_at ha]
    have hne : ∀ a, a < 46 → q ≠ ad a := fun a ha z => by
      have := hD1.1 46 a _ _ e46 (elo a ha) z
      omega
    have hjA : jA (adN ad q) 47 := by
      intro a b ha hb hab
      by_cases qa : a = 46
      · by_cases qb : b = 46
        · rw [qa, qb]
        · rw [qa, adN_46, adN_lo qb] at hab
          exact absurd hab (hne b (by omega))
      · by_cases qb : b = 46
        · rw [qb, adN_46, adN_lo qa] at hab
          exact absurd hab.symm (hne a (by omega))
        · rw [adN_lo qa, adN_lo qb] at hab
          exact hA a b (by omega) (by omega) hab
    have hq : A q := hD1.2 46 _ e46
    have hFn : ∀ a, a < 47 → A (adN ad q a) := fun a ha => by
      by_cases qa : a = 46
      · rw [qa, adN_46]; exact hq
      · rw [adN_lo qa]; exact hF a (by omega)
    have hlo : ∀ b, b < 46 → adN ad q b = ad b := fun b hb => adN_lo (by omega)
    have hPX : va_P D vwCl (wld ad kdX lnX cy 46 M) H1 := fun k x hk => by
      have hl := wld_lt hk
      rw [wld_at hl] at hk
      exact hP1 k x (by rw [elo k hl]; exact hk)
    have h46 : va_at D vwCl (q, .inl (cy 21, n, .inl (fun _ => 0))) H1 := hP1 46 _ e46
    have hPZ : va_P D vwCl (wld (adN ad q) kdZ (lnZ n) cy 47 (upA M 46 (fun _ => 0))) H1 := by
      refine wldX_Z (wld_cg (wld_ad hlo h06 hPX) (fun a ha => upA_n (by omega))) ?_
      rw [upA_s, adN_46]
      exact h46
    have hM1 : ∀ a k, inR (upA M 46 (fun _ => 0) a k) := fun a k => by
      by_cases qa : a = 46
      · rw [qa, upA_s]; exact inR_0
      · rw [upA_n qa]; exact hM a k
    have hmap : st.map (cV (adN ad q)) = st.map (cV ad) := List.map_congr_left fun v hv => by
      cases v with
      | inl x => rfl
      | inr a => show Value.ref _ = Value.ref _; rw [hlo a (hst a hv)]
    have := kk q hjA hFn hne H1 locs lsC hM1 hls2 (st_pushA (st_tl hst2)) hPZ hS1 (jL_ad hL (fun a ha => hlo a (hls a ha)))
    rw [List.map_cons, hmap] at this
    have e : cV (adN ad q) (.inr 46) = .ref q := by show Value.ref (adN ad q 46) = _; rw [adN_46]
    rw [e] at this
    exact this
end NEW
/-! ===== contracts of methods that make cells ===== -/
def MetN (l : Launch) (D : va_G) (cy : Nat → ClassId) (ad : Nat → Nat) (y : MethodName) (code : ByteArray) (maxL : Nat) (ret : Option FieldType) (rm : Room) (rty : Nat) (P : List AV → Mem → Prop) (C : List AV → Mem → Int → Mem → Prop) (mc ms : Nat) : Prop :=
  ∀ (sz : Nat) (as : List AV) (M : Mem), P as M → (∀ a k, inR (M a k)) → (∀ x, Sum.inl x ∈ as → inR x) →
    Met l y (Cond.code y code maxL ret :: wtb) rm (va_Pc (as.map (cV ad)) (fun U => U.heap.size = sz ∧ va_P D vwCl (wld ad kdX lnX cy 46 M) U.heap ∧ va_K D vwCl (tysJ cy) U)) (jQ D cy ad kdX lnX 46 rty (C as M)) mc ms (fun q => FR ad 46 q ∨ sz ≤ q)
section CALLN
variable {p : Program} {l : Launch} {e : Env} {R : Room} {s : State} {m : MethodId} {args : Array Value} {below : List Frame} {meth : Method} {c : Code}
variable {cc : ByteArray} {nL : Nat} {own : String} {D : va_G} {cy : Nat → ClassId} {ad : Nat → Nat} {A : Nat → Prop} {cells slots : Nat} {ex : List (Nat × Value)} {H0 : Heap} {Q : State → Prop}
/-- a static call of such a method, from a world with one row more -/
theorem jst_callN {n : Nat} {y : MethodName} {code : ByteArray} {maxL : Nat} {ret : Option FieldType} {rm : Room} {rty : Nat} {P : List AV → Mem → Prop} {C : List AV → Mem → Int → Mem → Prop} {mc ms idx k : Nat} (hE : jEnv p s m args c cc nL own D cy) (hA : jA ad 47) (hF : ∀ a, a < 46 → A (ad a)) (hA2 : ∀ q, H0.size ≤ q → A q)
    (hmet : MetN l D cy ad y code maxL ret rm rty P C mc ms) (hcal : CalS y code maxL ret k) (hlink : Cond.methodLink own idx y ∈ lw_tbl) (hcls : y.cls = own) (hrm : rm.cells = mc ∧ rm.slots = ms ∧ rm.frames + 1 ≤ R.frames ∧ 8 + (maxL + 11) + rm.locals ≤ R.locals) (hcs : cells + mc ≤ R.cells ∧ slots + ms ≤ R.slots)
    {pc : Nat} (hdg : decode cc pc = .ok (.invokestatic idx, 3)) {ls : List (Option AV)} {as st : List AV} {M : Mem} (hk : as.length = k) (hst8 : st.length ≤ 8) (hP1 : P as M)
    (kk : ∀ (x : Int) (M1 : Mem), inR x → okM M1 → C as M x M1 → jSt p l e R s m args below meth c nL D cy ad kdZ (lnZ n) 47 A (cells + mc) (slots + ms) ex H0 Q (pc + 3) ls (vpush rty x st) (glu M1 M)) :
    jSt p l e R s m args below meth c nL D cy ad kdZ (lnZ n) 47 A cells slots ex H0 Q pc ls (as.reverse ++ st) M := by
  obtain ⟨⟨w1, w2, w3, w4, w5⟩, w6⟩ := hcal
  obtain ⟨r1, r2, r3, r4⟩ := hrm
  obtain ⟨hx, hb, hml, hown, hts, hKv⟩ := id hE
  intro H locs lsC hM hls hst hP hS hL
  have hin : ∀ x, (Sum.inl x : AV) ∈ as → inR x := fun x hx => hst x (List.mem_append_left _ (List.mem_reverse.mpr hx))
  have hT : GoodIn wtb (wsS own idx y (Cond.code y code maxL ret :: wtb)) := by
    intro w hw
    unfold wsS at hw
    rcases List.mem_append.mp hw with hw | hw
    · simp only [List.mem_cons, List.not_mem_nil, or_false] at hw
      rcases hw with rfl | rfl | rfl
      · exact ⟨wtb_in hlink rfl, good_of_word rfl⟩
      · exact ⟨wtb_in w6 rfl, good_of_word rfl⟩
      · rw [← hcls]; exact ⟨wtb_in w2 rfl, good_of_word rfl⟩
    · exact good_cons (big := wtb) w1 w hw
  have h46 := wldZ_46 hP
  have hlt : ad 46 < H.size := (hP 46 _ (wld_at (by decide))).lt
  have hrun := va_runS (p := p) (l := l) (e := e) (R := R) (s := s) (m := m) (args := args) (below := below) (meth := meth) (c := c) (H := H) (locs := locs) (cells := cells) (slots := slots) (mc := mc) (ms := ms) (As := as.map (cV ad)) (rest := st.map (cV ad)) (g := F0 m pc lsC ((as.reverse ++ st).map (cV ad)))
    ⟨hx, hb, hml, hown, hts⟩ (hmet H.size as M hP1 hM hin) (cwS k hts hT rfl r1 r2 ⟨hcls, w3, w4, w5⟩ ⟨r3, r4⟩)
    ⟨fun a U g mk q => ⟨q.1, q.2.1, q.2.2.1, va_K.moved (u := U) (U := U.calling g mk a) (Vm.Alike.refl U.vm) q.2.2.2⟩, fun U hU hW2 => ⟨rfl, by rw [hU], by rw [hU]; exact wldZ_X hP, va_K.moved hW2.alike hKv⟩⟩
    rfl (by rw [List.length_map]; exact hk) (by
      obtain ⟨z1, lv, z2, -⟩ := hL
      exact z2.1) (by rw [List.map_append, List.map_reverse]) (by
      show 2 * 0 + _ ≤ 8
      rw [cat_sum]; omega) hdg hcs
  have hFA : ∀ q, (FR ad 46 q ∨ H.size ≤ q) → A q := fun q hq => by
    rcases hq with ⟨a, h1, h2⟩ | h
    · rw [← h2]; exact hF a h1
    · exact hA2 q (Nat.le_trans hS.1 h)
  refine jn_go hrun hS hFA (fun st oc t hq => ⟨hq.2.1, fun q h1 h2 => hq.2.2 q h1 (fun z => h2 (Or.inl z))⟩) (fun v st0 t locs1 h0 hq hS1 => ?_)
  obtain ⟨⟨x, M1, hv, rx, hM1, hC1, hP1'⟩, hz, hk1⟩ := hq
  have hv2 : v = jrv ad rty x := Outcome.returned.inj hv
  subst hv2
  rw [h0] at hz hk1
  have hPZ : va_P D vwCl (wld ad kdZ (lnZ n) cy 47 (glu M1 M)) t.heap := by
    refine wldX_Z (wld_cg hP1' (fun a ha => glu_lo ha)) ?_
    rw [glu_hi (Nat.le_refl 46)]
    exact va_at_arr h46 (hk1 _ hlt (FR_46 hA))
  have hst1 : ∀ z, (Sum.inl z : AV) ∈ vpush rty x st → inR z := by
    have h9 : ∀ x, Sum.inl x ∈ st → inR x := fun x hx => hst x (List.mem_append_right _ hx)
    have := drop_in (st := st) (k := 0) (rt := rty) (x := x) h9 rx
    rwa [List.drop_zero] at this
  have := kk x M1 rx hM1 hC1 t.heap locs1 lsC (glu_ok hM1 hM) hls hst1 hPZ hS1 hL
  rw [jrv_push] at this
  exact this
end CALLN
