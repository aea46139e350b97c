abbrev cz_L_low (v : Int) (b : Int) (M : Mem) (x : Int) (M' : Mem) : Prop := (x = lowF v b ∧ M' = M) ∧ ∀ b, 46 ≤ b → M' b = M b
def CZ_L_low (as : List AV) (M : Mem) (x : Int) (M' : Mem) : Prop := match as with
  | [.inl v, .inl b] => cz_L_low v b M x M'
  | _ => False
abbrev OKZ_L_low (l : Launch) (D : va_G) (cy : Nat → ClassId) (ad : Nat → Nat) (n : Nat) : Prop := MetA l D cy ad kdZ (lnZ n) 47 yL_low cL_low 2 (some .int) rm_L_low 1 P_L_low CZ_L_low
theorem okz_L_low {l : Launch} {D : va_G} {cy : Nat → ClassId} {ad : Nat → Nat} {n : Nat} (hA : jA ad 47) (h : OK_L_low l D cy ad) : OKZ_L_low l D cy ad n := lift_Z hA h (fun as M x M1 hc => by
  unfold C_L_low at hc
  unfold CZ_L_low
  split at hc
  · exact ⟨⟨hc.1, glu_eq hc.2⟩, fun b hb => glu_hi hb⟩
  · exact hc.elim)

