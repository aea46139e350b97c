/-! ===== the law's walks as one contract ===== -/
abbrev p_L_walks (p : Nat) (a b g k : Int) (M : Mem) : Prop := p = 0 ∧ (g = g ∧ k = k) ∧ ∃ σ, absX M σ ∧ hasS σ a ∧ 0 ≤ b ∧ b < 4
abbrev c_L_walks (p : Nat) (a b g k : Int) (M : Mem) (x : Int) (M' : Mem) : Prop := (p = p ∧ a = a ∧ b = b ∧ g = g ∧ k = k) ∧ x = 1 ∧ RT M M'
def P_L_walks (as : List AV) (M : Mem) : Prop := match as with
  | [.inr p, .inl a, .inl b, .inl g, .inl k] => p_L_walks p a b g k M
  | _ => False
def C_L_walks (as : List AV) (M : Mem) (x : Int) (M' : Mem) : Prop := match as with
  | [.inr p, .inl a, .inl b, .inl g, .inl k] => c_L_walks p a b g k M x M'
  | _ => False
theorem ca_L_walks : CalS yL_walks cL_walks 23 (some .boolean) 5 := ⟨⟨wcL_walks, wnL, by decide +kernel, by decide +kernel, by decide +kernel⟩, wsL_walks⟩
theorem h06_of {M σ : Mem} (h : absX M σ) : (M 0 6).toNat < 46 ∧ (M 0 7).toNat < 46 := by
  have := abs_pt h
  omega
/-- fewer locals spoken of -/
def lessL : List (Option AV) → List (Option AV) → Prop
  | [], [] => True
  | x :: r, y :: r' => (x = none ∨ x = y) ∧ lessL r r'
  | _, _ => False
theorem lessL_get : ∀ {l' l : List (Option AV)}, lessL l' l → l'.length = l.length ∧ ∀ (i : Nat) (v : AV), l'[i]? = some (some v) → l[i]? = some (some v)
  | [], [], _ => ⟨rfl, fun i v h => h⟩
  | x :: r, y :: r', h => by
    obtain ⟨h1, h2⟩ := lessL_get h.2
    refine ⟨congrArg (· + 1) h1, fun i v hi => ?_⟩
    cases i with
    | zero =>
      rcases h.1 with z | z
      · rw [z] at hi; cases hi
      · rw [← z]; exact hi
    | succ i => exact h2 i v hi
  | [], _ :: _, h => h.elim
  | _ :: _, [], h => h.elim
theorem jst_less {p : Program} {l : Launch} {e : Env} {R : Room} {s : State} {m : MethodId} {args : Array Value} {below : List Frame} {meth : Method} {c : Code} {nL : Nat} {D : va_G} {cy : Nat → ClassId} {ad kd ln : Nat → Nat} {nc : Nat} {A : Nat → Prop} {cells slots : Nat} {ex : List (Nat × Value)} {H0 : Heap} {Q : State → Prop} {pc : Nat} {st : List AV} {M : Mem} {ls' ls : List (Option AV)} (h : lessL ls' ls) (k : jSt p l e R s m args below meth c nL D cy ad kd ln nc A cells slots ex H0 Q pc ls' st M) :
    jSt p l e R s m args below meth c nL D cy ad kd ln nc A cells slots ex H0 Q pc ls st M := by
  obtain ⟨h1, h2⟩ := lessL_get h
  intro H locs lsC hM hls hst hP hS hL
  obtain ⟨g0, lv, g1, g2, g3⟩ := hL
  refine k H locs lsC hM (fun x hx => ?_) hst hP hS ⟨h1.trans g0, lv, g1, fun i v hi => g2 i v (h2 i v hi), g3⟩
  obtain ⟨i, hi⟩ := List.getElem?_of_mem hx
  exact hls x (List.mem_of_getElem? (h2 i _ hi))
/-- the end of a method that has made a row -/
theorem endN {p : Program} {l : Launch} {e : Env} {R : Room} {s : State} {m : MethodId} {args : Array Value} {below : List Frame} {meth : Method} {c : Code} {cc : ByteArray} {nL : Nat} {own : String} {D : va_G} {cy : Nat → ClassId} {ad : Nat → Nat} {n mc ms q rty : Nat} {ret : Option FieldType} {C post : Int → Mem → Prop}
    (hE : jEnv p s m args c cc nL own D cy) (hr : meth.sig.returnType = ret) (hret : (rty = 1 ∧ ret = some .int) ∨ (rty = 2 ∧ ret = some .boolean)) (hlocks : meth.locks = false) (hC : ∀ x M, post x M → C x M ∧ ∃ σ, absX M σ) :
    jEnd p l e R s m args below meth c cc D cy (adN ad q) kdZ (lnZ n) 47 (fun q => FR ad 46 q ∨ s.heap.size ≤ q) mc ms s.heap (MQ below (jQ D cy ad kdX lnX 46 rty C) args s mc ms (fun q => FR ad 46 q ∨ s.heap.size ≤ q)) rty post := by
  obtain ⟨hx, hb, -, -, -, -⟩ := id hE
  intro x M H locs lsC pc hp rx hM hP hS
  obtain ⟨hc, σ, hσ⟩ := hC x M hp
  have hPX : va_P D vwCl (wld ad kdX lnX cy 46 M) H := wld_ad (fun b hb => (adN_lo (by omega)).symm) (h06_of hσ) (wldZ_X hP)
  have key : ∀ (t : State), t.heap = H → jQ D cy ad kdX lnX 46 rty C args s (.returned (jrv ad rty x)) t := fun t ht => ⟨⟨x, M, rfl, rx, hM, hc, by rw [ht]; exact hPX⟩, by rw [ht]; exact hS.1, fun q h1 h2 => by rw [ht]; exact hS.2.1 q h1 (fun z => z.elim h2 (fun y => absurd h1 (Nat.not_lt.mpr y)))⟩
  refine ⟨fun hv hdg => ?_, fun h4 => by omega, fun h0 => by omega⟩
  rcases hret with ⟨rfl, h2⟩ | ⟨rfl, h2⟩
  · exact W.zret (ty := .int) hx hb (hr.trans h2) rfl (fun t ht _ => key t ht) hS.2.2 hdg
  · exact W.zret (ty := .boolean) hx hb (hr.trans h2) (by rcases hv with rfl | rfl <;> decide) (fun t ht _ => key t ht) hS.2.2 hdg
section WE
variable {l : Launch} {D : va_G} {cy : Nat → ClassId} {ad : Nat → Nat}
abbrev OK_L_walks (l : Launch) (D : va_G) (cy : Nat → ClassId) (ad : Nat → Nat) : Prop := MetN l D cy ad yL_walks cL_walks 23 (some .boolean) rm_L_walks 2 P_L_walks C_L_walks 1 32
theorem harr_int {args : Array Value} {s : State} (hts : ∀ w ∈ wtb, w.before args s = true) : (Cond.arrayClass .int).before args s = true := hts _ (wtb_in (w := .arrayClass .int) (mem_at 89 (by decide +kernel)) rfl)
theorem ok_L_walks (hA : jA ad 46) : OK_L_walks l D cy ad := by
  intro sz as M0 hP hM0 has
  unfold P_L_walks at hP
  split at hP
  rotate_left
  · exact hP.elim
  next p0 a b g k =>
  obtain ⟨rfl, -, σ, hσ, ha, hb⟩ := hP
  refine Met.ofW (cc := cL_walks) (maxL := 23) (ret := some .boolean) (by decide) rfl ?_
  intro p e s m args below meth c s₁ B hml hv
  obtain ⟨rfl, hsz, hPw, hK⟩ := hv
  subst hsz
  have hts := atoms_spec (ws := Cond.code yL_walks cL_walks 23 (some .boolean) :: wtb) B.pre
  have hown : s.vm.findClass RL = some m.cls := findClass_of_methodNamed B.named
  have htw : ∀ w ∈ wtb, w.before (([.inr 0, .inl a, .inl b, .inl g, .inl k] : List AV).map (cV ad)).toArray s = true := fun w hw => hts w (List.mem_cons_of_mem _ hw)
  have hE : jEnv p s m (([.inr 0, .inl a, .inl b, .inl g, .inl k] : List AV).map (cV ad)).toArray c cL_walks 23 RL D cy := ⟨B.exec, B.bytes, hml, hown, htw, hK⟩
  have hF : ∀ a, a < 46 → (fun q => FR ad 46 q ∨ s.heap.size ≤ q) (ad a) := fun a ha => Or.inl ⟨a, ha, rfl⟩
  have hA2 : ∀ q, s.heap.size ≤ q → (fun q => FR ad 46 q ∨ s.heap.size ≤ q) q := fun q hq => Or.inr hq
  have main : jSt p l e rm_L_walks s m (([.inr 0, .inl a, .inl b, .inl g, .inl k] : List AV).map (cV ad)).toArray below meth c 23 D cy ad kdX lnX 46 (fun q => FR ad 46 q ∨ s.heap.size ≤ q) 0 0 [] s.heap (MQ below (jQ D cy ad kdX lnX 46 2 (C_L_walks [.inr 0, .inl a, .inl b, .inl g, .inl k] M0)) (([.inr 0, .inl a, .inl b, .inl g, .inl k] : List AV).map (cV ad)).toArray s 1 32 (fun q => FR ad 46 q ∨ s.heap.size ≤ q)) 0 ([.inr 0, .inl a, .inl b, .inl g, .inl k].map some ++ List.replicate (23 - 5) none) [] M0 := by
    refine sg_L_walks_0x (ok_X8_clearText hA) (fun a' b' g' k' t d y u v w j M' => (a = a' ∧ b = b' ∧ g = g' ∧ k = k') ∧ (a = t ∧ b = d ∧ 0 = y ∧ 0 = u ∧ 1 = v ∧ 1 = w) ∧ ((32 : Nat) : Int) = j ∧ RT M0 M' ∧ ∃ σ', absX M' σ' ∧ sameT σ σ' ∧ σ' 0 6 = 0) rfl ⟨hE, hA, jWX, hF, ⟨Nat.zero_le _, Nat.zero_le _⟩, fun x M H locs lsC pc (hp : False) => hp.elim⟩ ?_ none none none none none none none none none none none none none none none none none none a b g k M0 ⟨⟨rfl, rfl, σ, hσ⟩, fun x1 M1 _ _ hc => ?_⟩
    · rintro w11 w12 w13 w14 w15 w16 w17 w18 w19 w20 w21 w22 a' b' g' k' t d y u v w j M' ⟨⟨rfl, rfl, rfl, rfl⟩, ⟨rfl, rfl, rfl, rfl, rfl, rfl⟩, rfl, R, σ', hσ', hs, h6⟩
      refine jst_less (ls' := [some (.inr 0), some (.inl a), some (.inl b), some (.inl g), some (.inl k), some (.inl a), some (.inl b), some (.inl 0), some (.inl 0), some (.inl 1), some (.inl 1), none, none, none, none, none, none, none, none, none, none, none, none]) ?_ ?_
      · repeat' (first | exact Or.inl rfl | exact Or.inr rfl | exact trivial | refine ⟨?_, ?_⟩)
      refine jst_new hE hA hF hA2 (harr_int htw) (n := 32) (by decide) (Nat.le_of_ble_eq_true rfl) (Nat.le_of_ble_eq_true rfl) dL_walks_25 (fun x hx => ?_) (fun x hx => absurd hx List.not_mem_nil) (h06_of hσ') (fun q hA' hF' hne => ?_)
      · simp only [List.mem_cons, List.not_mem_nil, or_false, Option.some.injEq, Sum.inr.injEq, reduceCtorEq, false_or] at hx
        omega
      refine ws_all (M0 := M0) (σ0 := σ) (post := fun x M => x = 1 ∧ RT M0 M) hA' ⟨hE, hA', jWZ (by decide), hF', ⟨Nat.le_of_ble_eq_true rfl, Nat.le_of_ble_eq_true rfl⟩, endN hE B.returns (Or.inr ⟨rfl, rfl⟩) B.notSynchronized (fun x M h => ⟨⟨⟨rfl, rfl, rfl, rfl, rfl⟩, h.1, h.2⟩, ?_⟩)⟩ hσ.1.1 ha hb (fun M hR => ⟨rfl, hR⟩) none none none none none none none none none none none none a b g k a b 0 0 1 1 _ ⟨⟨rfl, rfl, rfl, rfl, rfl⟩, ⟨rfl, rfl, rfl, rfl, rfl, rfl⟩, σ', rt_q R (fun τ hτ => absX_lo hτ (fun b hb => upA_n (by omega))), absX_lo hσ' (fun b hb => upA_n (by omega)), hs, h6⟩
      obtain ⟨τ, h1, -⟩ := h.2 σ hσ
      exact ⟨τ, h1⟩
    · exact ⟨⟨rfl, rfl, rfl, rfl⟩, ⟨rfl, rfl, rfl, rfl, rfl, rfl⟩, rfl, fun τ hτ => ⟨_, (hc τ hτ).2, sameT_clear⟩, _, (hc σ hσ).2, sameT_clear, clear_3.2⟩
  rw [lg_entry_eq]
  refine main s.heap [] _ hM0 (fun x hx => ?_) (fun x hx => by cases hx) hPw va_S.rf (jL_entry (Nat.le_of_ble_eq_true rfl))
  rcases List.mem_append.mp hx with h | h
  · obtain ⟨v, h1, h2⟩ := List.mem_map.mp h
    cases h2
    exact has x h1
  · have := List.eq_of_mem_replicate h
    cases this
end WE
