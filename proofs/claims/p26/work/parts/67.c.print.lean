/-! ===== the law's number of a map ===== -/
def prF (κ : Nat → Int) : Nat → Int64
  | 0 => 0
  | t + 1 => 1000003 * prF κ t + 7 * (I32 (κ t)).toInt64 + 1
abbrev prS (σ : Mem) : Int64 := prF (σ 1) (nT (gS σ))
theorem prF_cg {κ κ' : Nat → Int} : ∀ n : Nat, (∀ t, t < n → κ t = κ' t) → prF κ n = prF κ' n := by
  intro n
  induction n with
  | zero => intro _; rfl
  | succ n ih =>
    intro h
    unfold prF
    rw [ih (fun t ht => h t (by omega)), h n (by omega)]
def jQP (D : va_G) (cy : Nat → ClassId) (ad : Nat → Nat) (M : Mem) : Array Value → State → Outcome → State → Prop := fun _ st oc t =>
  (∃ (v : Int64) (M1 : Mem), oc = .returned (some (.long v)) ∧ okM M1 ∧ (∀ σ, absX M σ → v = prS σ ∧ absX M1 σ) ∧ va_P D vwCl (wld ad kdX lnX cy 46 M1) t.heap) ∧ va_F (FR ad 46) st t
def OK_L_print (l : Launch) (D : va_G) (cy : Nat → ClassId) (ad : Nat → Nat) : Prop := ∀ M, (∃ σ, absX M σ) → okM M →
  Met l yL_print (Cond.code yL_print cL_print 4 (some .long) :: wtb) rm_L_print (va_Pc [.ref (ad 0)] (fun U => va_P D vwCl (wld ad kdX lnX cy 46 M) U.heap ∧ va_K D vwCl (tysJ cy) U)) (jQP D cy ad M) 0 0 (FR ad 46)
section PR
variable {l : Launch} {D : va_G} {cy : Nat → ClassId} {ad : Nat → Nat}
theorem ok_L_print (hA : jA ad 46) : OK_L_print l D cy ad := by
  rintro M0 ⟨σ, hσ⟩ hM0
  have hn := nT_s hσ.1.1
  refine Met.ofW (cc := cL_print) (maxL := 4) (ret := some .long) (by decide) rfl ?_
  intro p e s m args below meth c s₁ B hml hv
  obtain ⟨rfl, hPw, hK⟩ := hv
  have hts := atoms_spec (ws := Cond.code yL_print cL_print 4 (some .long) :: wtb) B.pre
  have hown : s.vm.findClass RL = some m.cls := findClass_of_methodNamed B.named
  have hx := B.exec
  have hb := B.bytes
  have hlocks := B.notSynchronized
  have htw : ∀ w ∈ wtb, w.before ([Value.ref (ad 0)] : List Value).toArray s = true := fun w hw => hts w (List.mem_cons_of_mem _ hw)
  have hE : jEnv p s m ([Value.ref (ad 0)] : List Value).toArray c cL_print 4 RL D cy := ⟨hx, hb, hml, hown, htw, hK⟩
  have hF : ∀ a, a < 46 → FR ad 46 (ad a) := fun a ha => ⟨a, ha, rfl⟩
  have hC : jC p l e rm_L_print s m ([Value.ref (ad 0)] : List Value).toArray below meth c cL_print 4 RL D cy ad kdX lnX 46 (FR ad 46) 0 0 s.heap (MQ below (jQP D cy ad M0) ([Value.ref (ad 0)] : List Value).toArray s 0 0 (FR ad 46)) 1 (fun _ _ => False) :=
    ⟨hE, hA, jWX, hF, ⟨Nat.zero_le _, Nat.zero_le _⟩, fun x M H locs lsC pc hp => hp.elim⟩
  have hk : ∀ τ, absX M0 τ → prF (σ 1) (nT (gS σ)) = prS τ := fun τ hτ => by
    show _ = prF (τ 1) (nT (gS τ))
    rw [← absX_g hσ hτ]
    exact prF_cg _ (fun t ht => by
      have h1 := hσ.1.2.2.1 t (by omega)
      have h2 := hτ.1.2.2.1 t (by omega)
      rw [← h1, ← h2])
  have loop : ∀ (k : Nat) (t : Int) (v : Int64) (M : Mem), ((nT (gS σ) : Int) - t).toNat = k → TT M0 M → (0 ≤ t ∧ t ≤ nT (gS σ)) → v = prF (σ 1) t.toNat →
      jSt p l e rm_L_print s m ([Value.ref (ad 0)] : List Value).toArray below meth c 4 D cy ad kdX lnX 46 (FR ad 46) 0 0 [(1, .long v)] s.heap (MQ below (jQP D cy ad M0) ([Value.ref (ad 0)] : List Value).toArray s 0 0 (FR ad 46)) 4 [some (.inr 0), none, none, some (.inl t)] [] M := by
    intro k
    induction k using Nat.strongRecOn with
    | ind k ih =>
      intro t v M hkt T ht hv
      refine sg_L_print_4x (ok_X8_value hA) (fun t' M' => t' = t ∧ TT M0 M' ∧ t < nT (gS σ)) (fun t' M' => t' = t ∧ TT M0 M' ∧ t = nT (gS σ)) rfl hC ?_ ?_ none none t M ?_
      · rintro w1 w2 t' M' ⟨rfl, T', htl⟩ H locs lsC hM hls hst hP hS hL
        have hl := jL_lv hL [(0, .ref (ad 0)), (1, .long v), (3, .int (I32 t'))] (fun q hq => by
          simp only [List.mem_cons, List.not_mem_nil, or_false] at hq
          rcases hq with rfl | rfl | rfl
          · exact Or.inl ⟨.inr 0, rfl, rfl⟩
          · exact Or.inr List.mem_cons_self
          · exact Or.inl ⟨.inl t', rfl, rfl⟩)
        have rt : inR t' := ⟨by omega, by omega⟩
        refine lv_ldc2 (own := RL) (v := 1000003) hx hb hown (htw _ (wtb_in (w := .constantLong RL 55 1000003) (mem_at 682 (by decide +kernel)) rfl)) dL_print_19 ?_
        refine lv_lload_n hx hb dL_print_22 rfl (lv_at hl 1 rfl) ?_
        refine lv_lmul hx hb dL_print_23 ?_
        refine lv_ldc2 (own := RL) (v := 7) hx hb hown (htw _ (wtb_in (w := .constantLong RL 57 7) (mem_at 683 (by decide +kernel)) rfl)) dL_print_24 ?_
        refine lv_aload_n hx hb dL_print_27 rfl (lv_at hl 0 rfl) ?_
        refine lv_iload_n hx hb dL_print_28 rfl (lv_at hl 2 rfl) ?_
        refine jc_inv (own := RL) (a := 0) (As := [.inl t']) (M := M') (q := (RX8, TX8, 8)) (rest := [.long 7, .long (1000003 * v)]) (ok_X8_kind hA) ca_X8_kind mkL_25 ⟨rfl, rfl, Nat.le_of_ble_eq_true rfl, Nat.le_of_ble_eq_true rfl⟩ hx hb hml hown htw hK rfl rfl rfl (by decide) ⟨rfl, rfl, σ, T' σ hσ⟩ hM (fun x hx => by
          rcases List.mem_cons.mp hx with h | h
          · cases h; exact rt
          · exact absurd h List.not_mem_nil) hP hS hF hl.1 (Nat.le_of_ble_eq_true rfl) dL_print_29 ⟨Nat.zero_le _, Nat.zero_le _⟩ rfl (fun x M1 H1 locs1 rx hM1 hc hP1 hS1 _ => ?_)
        obtain ⟨ex, T1⟩ := tt_call T' hσ (show c_X8_kind 0 t' M' x M1 from hc)
        rw [F_kd ⟨ht.1, htl⟩] at ex
        refine lv_i2l (v := (I32 x).toInt64) hx hb dL_print_32 rfl ?_
        refine lv_lmul hx hb dL_print_33 ?_
        refine lv_ladd hx hb dL_print_34 ?_
        refine lv_lconst (v := 1) hx hb dL_print_35 rfl ?_
        refine lv_ladd hx hb dL_print_36 ?_
        refine lv_lstore_n (lv' := [(1, .long (1000003 * v + 7 * (I32 x).toInt64 + 1)), (0, .ref (ad 0)), (3, .int (I32 t'))]) hx hb dL_print_37 rfl hl (by decide) rfl (fun ls hl => ?_)
        refine lv_iinc (v := I32 (t' + 1)) (lv' := [(3, .int (I32 (t' + 1))), (1, .long (1000003 * v + 7 * (I32 x).toInt64 + 1)), (0, .ref (ad 0))]) hx hb dL_print_38 hl (k := 2) rfl (I32_add _ _) (by decide) rfl (fun ls hl => ?_)
        refine lv_goto (tgt := 4) hx hb dL_print_41 (by decide) ?_
        have rt1 : inR (t' + 1) := ⟨by omega, by omega⟩
        refine ih ((nT (gS σ) : Int) - (t' + 1)).toNat (by omega) (t' + 1) (1000003 * v + 7 * (I32 x).toInt64 + 1) M1 rfl T1 (by omega) ?_ H1 locs1 ls hM1 ?_ (fun x hx => absurd hx List.not_mem_nil) hP1 hS1 (jL_mk rfl hl ?_ ?_)
        · rw [show (t' + 1).toNat = t'.toNat + 1 by omega, hv, ex]
          rfl
        · intro x hx
          simp only [List.mem_cons, List.not_mem_nil, or_false, Option.some.injEq, reduceCtorEq, false_or, Sum.inl.injEq] at hx
          rw [hx]; exact rt1
        · intro i w hw
          match i, hw with
          | 0, hw => cases hw; exact List.mem_cons_of_mem _ (List.mem_cons_of_mem _ List.mem_cons_self)
          | 3, hw => cases hw; exact List.mem_cons_self
          | i + 4, hw => simp at hw
        · intro q hq
          rcases List.mem_cons.mp hq with rfl | h
          · exact List.mem_cons_of_mem _ List.mem_cons_self
          · exact absurd h List.not_mem_nil
      · rintro w1 w2 t' M' ⟨rfl, T', htl⟩ H locs lsC hM hls hst hP hS hL
        have hlv := jL_lv hL [(1, .long v)] (fun q hq => Or.inr hq)
        refine lv_lload_n hx hb dL_print_44 rfl (lv_at hlv 0 rfl) ?_
        refine W.lret hx hb B.returns (fun t2 ht2 _ => ⟨⟨v, M', rfl, hM, fun τ hτ => ⟨?_, T' τ hτ⟩, by rw [ht2]; exact hP⟩, hS.F ht2⟩) hS.2.2 dL_print_45
        rw [hv, ← hk τ hτ, htl, Int.toNat_natCast]
      · refine ⟨⟨rfl, rfl, σ, T σ hσ⟩, fun x1 M1 _ _ hc => ?_⟩
        obtain ⟨e1, T1⟩ := tt_call T hσ hc
        refine ⟨⟨rfl, rfl, σ, T1 σ hσ⟩, fun x2 M2 _ _ hc => ?_⟩
        obtain ⟨e2, T2⟩ := tt_call T1 hσ hc
        have e12 : x1 * x2 = nT (gS σ) := by rw [e1, e2]; exact hn.1.symm
        rw [e12]
        exact ⟨⟨by omega, by omega⟩, fun h => ⟨rfl, T2, by omega⟩, fun h => ⟨rfl, T2, by omega⟩⟩
  have hl := lv_entry ([.ref (ad 0)]) (n := 4) (Nat.le_of_ble_eq_true rfl)
  rw [lg_entry_eq]
  generalize (lg_sl ([.ref (ad 0)]) ++ List.replicate (4 - (lg_sl ([.ref (ad 0)])).length) Slot.unset).toArray = ls at hl ⊢
  have hl : lv_has ls 4 [(0, .ref (ad 0))] := hl
  refine lv_lconst (v := 0) hx hb dL_print_0 rfl ?_
  refine lv_lstore_n (lv' := [(1, .long 0), (0, .ref (ad 0))]) hx hb dL_print_1 rfl hl (by decide) rfl (fun ls hl => ?_)
  refine lv_iconst (v := I32 0) hx hb dL_print_2 rfl ?_
  refine lv_istore_n (lv' := [(3, .int (I32 0)), (1, .long 0), (0, .ref (ad 0))]) hx hb dL_print_3 rfl hl (by decide) rfl (fun ls hl => ?_)
  refine loop _ 0 0 M0 rfl (fun _ h => h) (by omega) rfl s.heap [] ls hM0 ?_ (fun x hx => absurd hx List.not_mem_nil) hPw va_S.rf (jL_mk rfl hl ?_ ?_)
  · intro x hx
    simp only [List.mem_cons, List.not_mem_nil, or_false, Option.some.injEq, reduceCtorEq, false_or, Sum.inl.injEq] at hx
    rw [hx]; exact inR_0
  · intro i w hw
    match i, hw with
    | 0, hw => cases hw; exact List.mem_cons_of_mem _ (List.mem_cons_of_mem _ List.mem_cons_self)
    | 3, hw => cases hw; exact List.mem_cons_self
    | i + 4, hw => simp at hw
  · intro q hq
    rcases List.mem_cons.mp hq with rfl | h
    · exact List.mem_cons_of_mem _ List.mem_cons_self
    · exact absurd h List.not_mem_nil
end PR
