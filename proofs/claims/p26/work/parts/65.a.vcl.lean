/-- the law's own small number -/
def lowF (v b : Int) : Int := Int.tmod (bAnd v 2147483647) b
theorem bsel {b : Bool} {P Q : Prop} (h : bif b then P else Q) : (b = true ∧ P) ∨ Q := by
  cases b with
  | true => exact Or.inl ⟨rfl, h⟩
  | false => exact Or.inr h
theorem wnL : Cond.initialized RL ∈ lw_tbl := mem_at 32 (by decide +kernel)
abbrev cz_X8_reset (p : Nat) (a : Int) (b : Int) (M : Mem) (x : Int) (M' : Mem) : Prop := (∀ σ, absX M σ → x = F_reset σ a b ∧ absX M' (G_reset σ a b)) ∧ ∀ b, 46 ≤ b → M' b = M b
def CZ_X8_reset (as : List AV) (M : Mem) (x : Int) (M' : Mem) : Prop := match as with
  | [.inr p, .inl a, .inl b] => cz_X8_reset p a b M x M'
  | _ => False
abbrev OKZ_X8_reset (l : Launch) (D : va_G) (cy : Nat → ClassId) (ad : Nat → Nat) (n : Nat) : Prop := MetA l D cy ad kdZ (lnZ n) 47 yX8_reset cX8_reset 3 (some .int) rm_X8_reset 1 P_X8_reset CZ_X8_reset
theorem okz_X8_reset {l : Launch} {D : va_G} {cy : Nat → ClassId} {ad : Nat → Nat} {n : Nat} (hA : jA ad 47) (h : OK_X8_reset l D cy ad) : OKZ_X8_reset l D cy ad n := lift_Z hA h (fun as M x M1 hc => by
  unfold C_X8_reset at hc
  unfold CZ_X8_reset
  split at hc
  · exact ⟨fun σ hσ => ⟨(hc σ hσ).1, absX_glu (hc σ hσ).2⟩, fun b hb => glu_hi hb⟩
  · exact hc.elim)
theorem rvz_X8_reset : ∀ as M, P_X8_reset as M → ∃ a As q, as = .inr a :: As ∧ vwCl[kdZ a]? = some q ∧ q.1 = yX8_reset.cls := fun as M h => by
  obtain ⟨a, As, q, h1, h2, h3⟩ := rv_X8_reset as M h
  exact ⟨a, As, q, h1, (kdZ_of h2).symm ▸ h2, h3⟩
abbrev cz_X8_setSeam (p : Nat) (e : Int) (k : Int) (s : Int) (M : Mem) (x : Int) (M' : Mem) : Prop := (∀ σ, absX M σ → x = F_setSeam σ e k s ∧ absX M' (G_setSeam σ e k s)) ∧ ∀ b, 46 ≤ b → M' b = M b
def CZ_X8_setSeam (as : List AV) (M : Mem) (x : Int) (M' : Mem) : Prop := match as with
  | [.inr p, .inl e, .inl k, .inl s] => cz_X8_setSeam p e k s M x M'
  | _ => False
abbrev OKZ_X8_setSeam (l : Launch) (D : va_G) (cy : Nat → ClassId) (ad : Nat → Nat) (n : Nat) : Prop := MetA l D cy ad kdZ (lnZ n) 47 yX8_setSeam cX8_setSeam 5 (some .int) rm_X8_setSeam 1 P_X8_setSeam CZ_X8_setSeam
theorem okz_X8_setSeam {l : Launch} {D : va_G} {cy : Nat → ClassId} {ad : Nat → Nat} {n : Nat} (hA : jA ad 47) (h : OK_X8_setSeam l D cy ad) : OKZ_X8_setSeam l D cy ad n := lift_Z hA h (fun as M x M1 hc => by
  unfold C_X8_setSeam at hc
  unfold CZ_X8_setSeam
  split at hc
  · exact ⟨fun σ hσ => ⟨(hc σ hσ).1, absX_glu (hc σ hσ).2⟩, fun b hb => glu_hi hb⟩
  · exact hc.elim)
theorem rvz_X8_setSeam : ∀ as M, P_X8_setSeam as M → ∃ a As q, as = .inr a :: As ∧ vwCl[kdZ a]? = some q ∧ q.1 = yX8_setSeam.cls := fun as M h => by
  obtain ⟨a, As, q, h1, h2, h3⟩ := rv_X8_setSeam as M h
  exact ⟨a, As, q, h1, (kdZ_of h2).symm ▸ h2, h3⟩
abbrev cz_X8_value (p : Nat) (w : Int) (M : Mem) (x : Int) (M' : Mem) : Prop := (∀ σ, absX M σ → x = F_value σ w ∧ absX M' σ) ∧ ∀ b, 46 ≤ b → M' b = M b
def CZ_X8_value (as : List AV) (M : Mem) (x : Int) (M' : Mem) : Prop := match as with
  | [.inr p, .inl w] => cz_X8_value p w M x M'
  | _ => False
abbrev OKZ_X8_value (l : Launch) (D : va_G) (cy : Nat → ClassId) (ad : Nat → Nat) (n : Nat) : Prop := MetA l D cy ad kdZ (lnZ n) 47 yX8_value cX8_value 2 (some .int) rm_X8_value 1 P_X8_value CZ_X8_value
theorem okz_X8_value {l : Launch} {D : va_G} {cy : Nat → ClassId} {ad : Nat → Nat} {n : Nat} (hA : jA ad 47) (h : OK_X8_value l D cy ad) : OKZ_X8_value l D cy ad n := lift_Z hA h (fun as M x M1 hc => by
  unfold C_X8_value at hc
  unfold CZ_X8_value
  split at hc
  · exact ⟨fun σ hσ => ⟨(hc σ hσ).1, absX_glu (hc σ hσ).2⟩, fun b hb => glu_hi hb⟩
  · exact hc.elim)
theorem rvz_X8_value : ∀ as M, P_X8_value as M → ∃ a As q, as = .inr a :: As ∧ vwCl[kdZ a]? = some q ∧ q.1 = yX8_value.cls := fun as M h => by
  obtain ⟨a, As, q, h1, h2, h3⟩ := rv_X8_value as M h
  exact ⟨a, As, q, h1, (kdZ_of h2).symm ▸ h2, h3⟩
abbrev cz_X8_kind (p : Nat) (t : Int) (M : Mem) (x : Int) (M' : Mem) : Prop := (∀ σ, absX M σ → x = F_kind σ t ∧ absX M' σ) ∧ ∀ b, 46 ≤ b → M' b = M b
def CZ_X8_kind (as : List AV) (M : Mem) (x : Int) (M' : Mem) : Prop := match as with
  | [.inr p, .inl t] => cz_X8_kind p t M x M'
  | _ => False
abbrev OKZ_X8_kind (l : Launch) (D : va_G) (cy : Nat → ClassId) (ad : Nat → Nat) (n : Nat) : Prop := MetA l D cy ad kdZ (lnZ n) 47 yX8_kind cX8_kind 2 (some .int) rm_X8_kind 1 P_X8_kind CZ_X8_kind
theorem okz_X8_kind {l : Launch} {D : va_G} {cy : Nat → ClassId} {ad : Nat → Nat} {n : Nat} (hA : jA ad 47) (h : OK_X8_kind l D cy ad) : OKZ_X8_kind l D cy ad n := lift_Z hA h (fun as M x M1 hc => by
  unfold C_X8_kind at hc
  unfold CZ_X8_kind
  split at hc
  · exact ⟨fun σ hσ => ⟨(hc σ hσ).1, absX_glu (hc σ hσ).2⟩, fun b hb => glu_hi hb⟩
  · exact hc.elim)
theorem rvz_X8_kind : ∀ as M, P_X8_kind as M → ∃ a As q, as = .inr a :: As ∧ vwCl[kdZ a]? = some q ∧ q.1 = yX8_kind.cls := fun as M h => by
  obtain ⟨a, As, q, h1, h2, h3⟩ := rv_X8_kind as M h
  exact ⟨a, As, q, h1, (kdZ_of h2).symm ▸ h2, h3⟩
abbrev cz_X8_neighbour (p : Nat) (t : Int) (d : Int) (M : Mem) (x : Int) (M' : Mem) : Prop := (∀ σ, absX M σ → x = F_neighbour σ t d ∧ absX M' σ) ∧ ∀ b, 46 ≤ b → M' b = M b
def CZ_X8_neighbour (as : List AV) (M : Mem) (x : Int) (M' : Mem) : Prop := match as with
  | [.inr p, .inl t, .inl d] => cz_X8_neighbour p t d M x M'
  | _ => False
abbrev OKZ_X8_neighbour (l : Launch) (D : va_G) (cy : Nat → ClassId) (ad : Nat → Nat) (n : Nat) : Prop := MetA l D cy ad kdZ (lnZ n) 47 yX8_neighbour cX8_neighbour 3 (some .int) rm_X8_neighbour 1 P_X8_neighbour CZ_X8_neighbour
theorem okz_X8_neighbour {l : Launch} {D : va_G} {cy : Nat → ClassId} {ad : Nat → Nat} {n : Nat} (hA : jA ad 47) (h : OK_X8_neighbour l D cy ad) : OKZ_X8_neighbour l D cy ad n := lift_Z hA h (fun as M x M1 hc => by
  unfold C_X8_neighbour at hc
  unfold CZ_X8_neighbour
  split at hc
  · exact ⟨fun σ hσ => ⟨(hc σ hσ).1, absX_glu (hc σ hσ).2⟩, fun b hb => glu_hi hb⟩
  · exact hc.elim)
theorem rvz_X8_neighbour : ∀ as M, P_X8_neighbour as M → ∃ a As q, as = .inr a :: As ∧ vwCl[kdZ a]? = some q ∧ q.1 = yX8_neighbour.cls := fun as M h => by
  obtain ⟨a, As, q, h1, h2, h3⟩ := rv_X8_neighbour as M h
  exact ⟨a, As, q, h1, (kdZ_of h2).symm ▸ h2, h3⟩
abbrev cz_X8_type (p : Nat) (c : Int) (M : Mem) (x : Int) (M' : Mem) : Prop := (∀ σ, absX M σ → x = F_type σ c ∧ absX M' (G_type σ c)) ∧ ∀ b, 46 ≤ b → M' b = M b
def CZ_X8_type (as : List AV) (M : Mem) (x : Int) (M' : Mem) : Prop := match as with
  | [.inr p, .inl c] => cz_X8_type p c M x M'
  | _ => False
abbrev OKZ_X8_type (l : Launch) (D : va_G) (cy : Nat → ClassId) (ad : Nat → Nat) (n : Nat) : Prop := MetA l D cy ad kdZ (lnZ n) 47 yX8_type cX8_type 2 (some .int) rm_X8_type 1 P_X8_type CZ_X8_type
theorem okz_X8_type {l : Launch} {D : va_G} {cy : Nat → ClassId} {ad : Nat → Nat} {n : Nat} (hA : jA ad 47) (h : OK_X8_type l D cy ad) : OKZ_X8_type l D cy ad n := lift_Z hA h (fun as M x M1 hc => by
  unfold C_X8_type at hc
  unfold CZ_X8_type
  split at hc
  · exact ⟨fun σ hσ => ⟨(hc σ hσ).1, absX_glu (hc σ hσ).2⟩, fun b hb => glu_hi hb⟩
  · exact hc.elim)
theorem rvz_X8_type : ∀ as M, P_X8_type as M → ∃ a As q, as = .inr a :: As ∧ vwCl[kdZ a]? = some q ∧ q.1 = yX8_type.cls := fun as M h => by
  obtain ⟨a, As, q, h1, h2, h3⟩ := rv_X8_type as M h
  exact ⟨a, As, q, h1, (kdZ_of h2).symm ▸ h2, h3⟩
abbrev cz_X8_clearText (p : Nat) (M : Mem) (x : Int) (M' : Mem) : Prop := (∀ σ, absX M σ → x = F_clearText σ ∧ absX M' (G_clearText σ)) ∧ ∀ b, 46 ≤ b → M' b = M b
def CZ_X8_clearText (as : List AV) (M : Mem) (x : Int) (M' : Mem) : Prop := match as with
  | [.inr p] => cz_X8_clearText p M x M'
  | _ => False
abbrev OKZ_X8_clearText (l : Launch) (D : va_G) (cy : Nat → ClassId) (ad : Nat → Nat) (n : Nat) : Prop := MetA l D cy ad kdZ (lnZ n) 47 yX8_clearText cX8_clearText 1 (some .int) rm_X8_clearText 1 P_X8_clearText CZ_X8_clearText
theorem okz_X8_clearText {l : Launch} {D : va_G} {cy : Nat → ClassId} {ad : Nat → Nat} {n : Nat} (hA : jA ad 47) (h : OK_X8_clearText l D cy ad) : OKZ_X8_clearText l D cy ad n := lift_Z hA h (fun as M x M1 hc => by
  unfold C_X8_clearText at hc
  unfold CZ_X8_clearText
  split at hc
  · exact ⟨fun σ hσ => ⟨(hc σ hσ).1, absX_glu (hc σ hσ).2⟩, fun b hb => glu_hi hb⟩
  · exact hc.elim)
theorem rvz_X8_clearText : ∀ as M, P_X8_clearText as M → ∃ a As q, as = .inr a :: As ∧ vwCl[kdZ a]? = some q ∧ q.1 = yX8_clearText.cls := fun as M h => by
  obtain ⟨a, As, q, h1, h2, h3⟩ := rv_X8_clearText as M h
  exact ⟨a, As, q, h1, (kdZ_of h2).symm ▸ h2, h3⟩
abbrev cz_X8_readTiles (p : Nat) (M : Mem) (x : Int) (M' : Mem) : Prop := (∀ σ, absX M σ → x = F_readTiles σ ∧ absX M' (G_readTiles σ)) ∧ ∀ b, 46 ≤ b → M' b = M b
def CZ_X8_readTiles (as : List AV) (M : Mem) (x : Int) (M' : Mem) : Prop := match as with
  | [.inr p] => cz_X8_readTiles p M x M'
  | _ => False
abbrev OKZ_X8_readTiles (l : Launch) (D : va_G) (cy : Nat → ClassId) (ad : Nat → Nat) (n : Nat) : Prop := MetA l D cy ad kdZ (lnZ n) 47 yX8_readTiles cX8_readTiles 3 (some .int) rm_X8_readTiles 1 P_X8_readTiles CZ_X8_readTiles
theorem okz_X8_readTiles {l : Launch} {D : va_G} {cy : Nat → ClassId} {ad : Nat → Nat} {n : Nat} (hA : jA ad 47) (h : OK_X8_readTiles l D cy ad) : OKZ_X8_readTiles l D cy ad n := lift_Z hA h (fun as M x M1 hc => by
  unfold C_X8_readTiles at hc
  unfold CZ_X8_readTiles
  split at hc
  · exact ⟨fun σ hσ => ⟨(hc σ hσ).1, absX_glu (hc σ hσ).2⟩, fun b hb => glu_hi hb⟩
  · exact hc.elim)
theorem rvz_X8_readTiles : ∀ as M, P_X8_readTiles as M → ∃ a As q, as = .inr a :: As ∧ vwCl[kdZ a]? = some q ∧ q.1 = yX8_readTiles.cls := fun as M h => by
  obtain ⟨a, As, q, h1, h2, h3⟩ := rv_X8_readTiles as M h
  exact ⟨a, As, q, h1, (kdZ_of h2).symm ▸ h2, h3⟩
abbrev cz_X8_walk (p : Nat) (t : Int) (y : Int) (w : Int) (M : Mem) (x : Int) (M' : Mem) : Prop := (∀ σ, absX M σ → x = F_walk σ t y w ∧ absX M' σ) ∧ ∀ b, 46 ≤ b → M' b = M b
def CZ_X8_walk (as : List AV) (M : Mem) (x : Int) (M' : Mem) : Prop := match as with
  | [.inr p, .inl t, .inl y, .inl w] => cz_X8_walk p t y w M x M'
  | _ => False
abbrev OKZ_X8_walk (l : Launch) (D : va_G) (cy : Nat → ClassId) (ad : Nat → Nat) (n : Nat) : Prop := MetA l D cy ad kdZ (lnZ n) 47 yX8_walk cX8_walk 5 (some .int) rm_X8_walk 1 P_X8_walk CZ_X8_walk
theorem okz_X8_walk {l : Launch} {D : va_G} {cy : Nat → ClassId} {ad : Nat → Nat} {n : Nat} (hA : jA ad 47) (h : OK_X8_walk l D cy ad) : OKZ_X8_walk l D cy ad n := lift_Z hA h (fun as M x M1 hc => by
  unfold C_X8_walk at hc
  unfold CZ_X8_walk
  split at hc
  · exact ⟨fun σ hσ => ⟨(hc σ hσ).1, absX_glu (hc σ hσ).2⟩, fun b hb => glu_hi hb⟩
  · exact hc.elim)
theorem rvz_X8_walk : ∀ as M, P_X8_walk as M → ∃ a As q, as = .inr a :: As ∧ vwCl[kdZ a]? = some q ∧ q.1 = yX8_walk.cls := fun as M h => by
  obtain ⟨a, As, q, h1, h2, h3⟩ := rv_X8_walk as M h
  exact ⟨a, As, q, h1, (kdZ_of h2).symm ▸ h2, h3⟩
abbrev cz_X8_setTile (p : Nat) (t : Int) (k : Int) (M : Mem) (x : Int) (M' : Mem) : Prop := (∀ σ, absX M σ → x = F_setTile σ t k ∧ absX M' (G_setTile σ t k)) ∧ ∀ b, 46 ≤ b → M' b = M b
def CZ_X8_setTile (as : List AV) (M : Mem) (x : Int) (M' : Mem) : Prop := match as with
  | [.inr p, .inl t, .inl k] => cz_X8_setTile p t k M x M'
  | _ => False
abbrev OKZ_X8_setTile (l : Launch) (D : va_G) (cy : Nat → ClassId) (ad : Nat → Nat) (n : Nat) : Prop := MetA l D cy ad kdZ (lnZ n) 47 yX8_setTile cX8_setTile 3 (some .int) rm_X8_setTile 1 P_X8_setTile CZ_X8_setTile
theorem okz_X8_setTile {l : Launch} {D : va_G} {cy : Nat → ClassId} {ad : Nat → Nat} {n : Nat} (hA : jA ad 47) (h : OK_X8_setTile l D cy ad) : OKZ_X8_setTile l D cy ad n := lift_Z hA h (fun as M x M1 hc => by
  unfold C_X8_setTile at hc
  unfold CZ_X8_setTile
  split at hc
  · exact ⟨fun σ hσ => ⟨(hc σ hσ).1, absX_glu (hc σ hσ).2⟩, fun b hb => glu_hi hb⟩
  · exact hc.elim)
theorem rvz_X8_setTile : ∀ as M, P_X8_setTile as M → ∃ a As q, as = .inr a :: As ∧ vwCl[kdZ a]? = some q ∧ q.1 = yX8_setTile.cls := fun as M h => by
  obtain ⟨a, As, q, h1, h2, h3⟩ := rv_X8_setTile as M h
  exact ⟨a, As, q, h1, (kdZ_of h2).symm ▸ h2, h3⟩
abbrev cz_X8_fill (p : Nat) (t : Int) (k : Int) (M : Mem) (x : Int) (M' : Mem) : Prop := (∀ σ, absX M σ → x = F_fill σ t k ∧ absX M' (G_fill σ t k)) ∧ ∀ b, 46 ≤ b → M' b = M b
def CZ_X8_fill (as : List AV) (M : Mem) (x : Int) (M' : Mem) : Prop := match as with
  | [.inr p, .inl t, .inl k] => cz_X8_fill p t k M x M'
  | _ => False
abbrev OKZ_X8_fill (l : Launch) (D : va_G) (cy : Nat → ClassId) (ad : Nat → Nat) (n : Nat) : Prop := MetA l D cy ad kdZ (lnZ n) 47 yX8_fill cX8_fill 3 (some .int) rm_X8_fill 1 P_X8_fill CZ_X8_fill
theorem okz_X8_fill {l : Launch} {D : va_G} {cy : Nat → ClassId} {ad : Nat → Nat} {n : Nat} (hA : jA ad 47) (h : OK_X8_fill l D cy ad) : OKZ_X8_fill l D cy ad n := lift_Z hA h (fun as M x M1 hc => by
  unfold C_X8_fill at hc
  unfold CZ_X8_fill
  split at hc
  · exact ⟨fun σ hσ => ⟨(hc σ hσ).1, absX_glu (hc σ hσ).2⟩, fun b hb => glu_hi hb⟩
  · exact hc.elim)
theorem rvz_X8_fill : ∀ as M, P_X8_fill as M → ∃ a As q, as = .inr a :: As ∧ vwCl[kdZ a]? = some q ∧ q.1 = yX8_fill.cls := fun as M h => by
  obtain ⟨a, As, q, h1, h2, h3⟩ := rv_X8_fill as M h
  exact ⟨a, As, q, h1, (kdZ_of h2).symm ▸ h2, h3⟩
abbrev cz_X8_undo (p : Nat) (M : Mem) (x : Int) (M' : Mem) : Prop := (∀ σ, absX M σ → x = F_undo σ ∧ absX M' (G_undo σ)) ∧ ∀ b, 46 ≤ b → M' b = M b
def CZ_X8_undo (as : List AV) (M : Mem) (x : Int) (M' : Mem) : Prop := match as with
  | [.inr p] => cz_X8_undo p M x M'
  | _ => False
abbrev OKZ_X8_undo (l : Launch) (D : va_G) (cy : Nat → ClassId) (ad : Nat → Nat) (n : Nat) : Prop := MetA l D cy ad kdZ (lnZ n) 47 yX8_undo cX8_undo 1 (some .int) rm_X8_undo 1 P_X8_undo CZ_X8_undo
theorem okz_X8_undo {l : Launch} {D : va_G} {cy : Nat → ClassId} {ad : Nat → Nat} {n : Nat} (hA : jA ad 47) (h : OK_X8_undo l D cy ad) : OKZ_X8_undo l D cy ad n := lift_Z hA h (fun as M x M1 hc => by
  unfold C_X8_undo at hc
  unfold CZ_X8_undo
  split at hc
  · exact ⟨fun σ hσ => ⟨(hc σ hσ).1, absX_glu (hc σ hσ).2⟩, fun b hb => glu_hi hb⟩
  · exact hc.elim)
theorem rvz_X8_undo : ∀ as M, P_X8_undo as M → ∃ a As q, as = .inr a :: As ∧ vwCl[kdZ a]? = some q ∧ q.1 = yX8_undo.cls := fun as M h => by
  obtain ⟨a, As, q, h1, h2, h3⟩ := rv_X8_undo as M h
  exact ⟨a, As, q, h1, (kdZ_of h2).symm ▸ h2, h3⟩
abbrev cz_X8_label (p : Nat) (t : Int) (M : Mem) (x : Int) (M' : Mem) : Prop := (∀ σ, absX M σ → x = F_label σ t ∧ absX M' σ) ∧ ∀ b, 46 ≤ b → M' b = M b
def CZ_X8_label (as : List AV) (M : Mem) (x : Int) (M' : Mem) : Prop := match as with
  | [.inr p, .inl t] => cz_X8_label p t M x M'
  | _ => False
abbrev OKZ_X8_label (l : Launch) (D : va_G) (cy : Nat → ClassId) (ad : Nat → Nat) (n : Nat) : Prop := MetA l D cy ad kdZ (lnZ n) 47 yX8_label cX8_label 2 (some .int) rm_X8_label 1 P_X8_label CZ_X8_label
theorem okz_X8_label {l : Launch} {D : va_G} {cy : Nat → ClassId} {ad : Nat → Nat} {n : Nat} (hA : jA ad 47) (h : OK_X8_label l D cy ad) : OKZ_X8_label l D cy ad n := lift_Z hA h (fun as M x M1 hc => by
  unfold C_X8_label at hc
  unfold CZ_X8_label
  split at hc
  · exact ⟨fun σ hσ => ⟨(hc σ hσ).1, absX_glu (hc σ hσ).2⟩, fun b hb => glu_hi hb⟩
  · exact hc.elim)
theorem rvz_X8_label : ∀ as M, P_X8_label as M → ∃ a As q, as = .inr a :: As ∧ vwCl[kdZ a]? = some q ∧ q.1 = yX8_label.cls := fun as M h => by
  obtain ⟨a, As, q, h1, h2, h3⟩ := rv_X8_label as M h
  exact ⟨a, As, q, h1, (kdZ_of h2).symm ▸ h2, h3⟩
abbrev cz_X8_part (p : Nat) (k : Int) (M : Mem) (x : Int) (M' : Mem) : Prop := (∀ σ, absX M σ → x = F_part σ k ∧ absX M' σ) ∧ ∀ b, 46 ≤ b → M' b = M b
def CZ_X8_part (as : List AV) (M : Mem) (x : Int) (M' : Mem) : Prop := match as with
  | [.inr p, .inl k] => cz_X8_part p k M x M'
  | _ => False
abbrev OKZ_X8_part (l : Launch) (D : va_G) (cy : Nat → ClassId) (ad : Nat → Nat) (n : Nat) : Prop := MetA l D cy ad kdZ (lnZ n) 47 yX8_part cX8_part 2 (some .int) rm_X8_part 1 P_X8_part CZ_X8_part
theorem okz_X8_part {l : Launch} {D : va_G} {cy : Nat → ClassId} {ad : Nat → Nat} {n : Nat} (hA : jA ad 47) (h : OK_X8_part l D cy ad) : OKZ_X8_part l D cy ad n := lift_Z hA h (fun as M x M1 hc => by
  unfold C_X8_part at hc
  unfold CZ_X8_part
  split at hc
  · exact ⟨fun σ hσ => ⟨(hc σ hσ).1, absX_glu (hc σ hσ).2⟩, fun b hb => glu_hi hb⟩
  · exact hc.elim)
theorem rvz_X8_part : ∀ as M, P_X8_part as M → ∃ a As q, as = .inr a :: As ∧ vwCl[kdZ a]? = some q ∧ q.1 = yX8_part.cls := fun as M h => by
  obtain ⟨a, As, q, h1, h2, h3⟩ := rv_X8_part as M h
  exact ⟨a, As, q, h1, (kdZ_of h2).symm ▸ h2, h3⟩
abbrev cz_X8_ofPart (p : Nat) (f : Int) (w : Int) (M : Mem) (x : Int) (M' : Mem) : Prop := (∀ σ, absX M σ → x = F_ofPart σ f w ∧ absX M' σ) ∧ ∀ b, 46 ≤ b → M' b = M b
def CZ_X8_ofPart (as : List AV) (M : Mem) (x : Int) (M' : Mem) : Prop := match as with
  | [.inr p, .inl f, .inl w] => cz_X8_ofPart p f w M x M'
  | _ => False
abbrev OKZ_X8_ofPart (l : Launch) (D : va_G) (cy : Nat → ClassId) (ad : Nat → Nat) (n : Nat) : Prop := MetA l D cy ad kdZ (lnZ n) 47 yX8_ofPart cX8_ofPart 3 (some .int) rm_X8_ofPart 1 P_X8_ofPart CZ_X8_ofPart
theorem okz_X8_ofPart {l : Launch} {D : va_G} {cy : Nat → ClassId} {ad : Nat → Nat} {n : Nat} (hA : jA ad 47) (h : OK_X8_ofPart l D cy ad) : OKZ_X8_ofPart l D cy ad n := lift_Z hA h (fun as M x M1 hc => by
  unfold C_X8_ofPart at hc
  unfold CZ_X8_ofPart
  split at hc
  · exact ⟨fun σ hσ => ⟨(hc σ hσ).1, absX_glu (hc σ hσ).2⟩, fun b hb => glu_hi hb⟩
  · exact hc.elim)
theorem rvz_X8_ofPart : ∀ as M, P_X8_ofPart as M → ∃ a As q, as = .inr a :: As ∧ vwCl[kdZ a]? = some q ∧ q.1 = yX8_ofPart.cls := fun as M h => by
  obtain ⟨a, As, q, h1, h2, h3⟩ := rv_X8_ofPart as M h
  exact ⟨a, As, q, h1, (kdZ_of h2).symm ▸ h2, h3⟩
abbrev cz_X8_greatestPart (p : Nat) (k : Int) (M : Mem) (x : Int) (M' : Mem) : Prop := (∀ σ, absX M σ → x = F_greatestPart σ k ∧ absX M' σ) ∧ ∀ b, 46 ≤ b → M' b = M b
def CZ_X8_greatestPart (as : List AV) (M : Mem) (x : Int) (M' : Mem) : Prop := match as with
  | [.inr p, .inl k] => cz_X8_greatestPart p k M x M'
  | _ => False
abbrev OKZ_X8_greatestPart (l : Launch) (D : va_G) (cy : Nat → ClassId) (ad : Nat → Nat) (n : Nat) : Prop := MetA l D cy ad kdZ (lnZ n) 47 yX8_greatestPart cX8_greatestPart 2 (some .int) rm_X8_greatestPart 1 P_X8_greatestPart CZ_X8_greatestPart
theorem okz_X8_greatestPart {l : Launch} {D : va_G} {cy : Nat → ClassId} {ad : Nat → Nat} {n : Nat} (hA : jA ad 47) (h : OK_X8_greatestPart l D cy ad) : OKZ_X8_greatestPart l D cy ad n := lift_Z hA h (fun as M x M1 hc => by
  unfold C_X8_greatestPart at hc
  unfold CZ_X8_greatestPart
  split at hc
  · exact ⟨fun σ hσ => ⟨(hc σ hσ).1, absX_glu (hc σ hσ).2⟩, fun b hb => glu_hi hb⟩
  · exact hc.elim)
theorem rvz_X8_greatestPart : ∀ as M, P_X8_greatestPart as M → ∃ a As q, as = .inr a :: As ∧ vwCl[kdZ a]? = some q ∧ q.1 = yX8_greatestPart.cls := fun as M h => by
  obtain ⟨a, As, q, h1, h2, h3⟩ := rv_X8_greatestPart as M h
  exact ⟨a, As, q, h1, (kdZ_of h2).symm ▸ h2, h3⟩
abbrev cz_X8_partsIf (p : Nat) (t : Int) (k : Int) (M : Mem) (x : Int) (M' : Mem) : Prop := (∀ σ, absX M σ → x = F_partsIf σ t k ∧ absX M' σ) ∧ ∀ b, 46 ≤ b → M' b = M b
def CZ_X8_partsIf (as : List AV) (M : Mem) (x : Int) (M' : Mem) : Prop := match as with
  | [.inr p, .inl t, .inl k] => cz_X8_partsIf p t k M x M'
  | _ => False
abbrev OKZ_X8_partsIf (l : Launch) (D : va_G) (cy : Nat → ClassId) (ad : Nat → Nat) (n : Nat) : Prop := MetA l D cy ad kdZ (lnZ n) 47 yX8_partsIf cX8_partsIf 4 (some .int) rm_X8_partsIf 1 P_X8_partsIf CZ_X8_partsIf
theorem okz_X8_partsIf {l : Launch} {D : va_G} {cy : Nat → ClassId} {ad : Nat → Nat} {n : Nat} (hA : jA ad 47) (h : OK_X8_partsIf l D cy ad) : OKZ_X8_partsIf l D cy ad n := lift_Z hA h (fun as M x M1 hc => by
  unfold C_X8_partsIf at hc
  unfold CZ_X8_partsIf
  split at hc
  · exact ⟨fun σ hσ => ⟨(hc σ hσ).1, absX_glu (hc σ hσ).2⟩, fun b hb => glu_hi hb⟩
  · exact hc.elim)
theorem rvz_X8_partsIf : ∀ as M, P_X8_partsIf as M → ∃ a As q, as = .inr a :: As ∧ vwCl[kdZ a]? = some q ∧ q.1 = yX8_partsIf.cls := fun as M h => by
  obtain ⟨a, As, q, h1, h2, h3⟩ := rv_X8_partsIf as M h
  exact ⟨a, As, q, h1, (kdZ_of h2).symm ▸ h2, h3⟩
abbrev cz_X8_setWeight (p : Nat) (k : Int) (v : Int) (M : Mem) (x : Int) (M' : Mem) : Prop := (∀ σ, absX M σ → x = F_setWeight σ k v ∧ absX M' (G_setWeight σ k v)) ∧ ∀ b, 46 ≤ b → M' b = M b
def CZ_X8_setWeight (as : List AV) (M : Mem) (x : Int) (M' : Mem) : Prop := match as with
  | [.inr p, .inl k, .inl v] => cz_X8_setWeight p k v M x M'
  | _ => False
abbrev OKZ_X8_setWeight (l : Launch) (D : va_G) (cy : Nat → ClassId) (ad : Nat → Nat) (n : Nat) : Prop := MetA l D cy ad kdZ (lnZ n) 47 yX8_setWeight cX8_setWeight 3 (some .int) rm_X8_setWeight 1 P_X8_setWeight CZ_X8_setWeight
theorem okz_X8_setWeight {l : Launch} {D : va_G} {cy : Nat → ClassId} {ad : Nat → Nat} {n : Nat} (hA : jA ad 47) (h : OK_X8_setWeight l D cy ad) : OKZ_X8_setWeight l D cy ad n := lift_Z hA h (fun as M x M1 hc => by
  unfold C_X8_setWeight at hc
  unfold CZ_X8_setWeight
  split at hc
  · exact ⟨fun σ hσ => ⟨(hc σ hσ).1, absX_glu (hc σ hσ).2⟩, fun b hb => glu_hi hb⟩
  · exact hc.elim)
theorem rvz_X8_setWeight : ∀ as M, P_X8_setWeight as M → ∃ a As q, as = .inr a :: As ∧ vwCl[kdZ a]? = some q ∧ q.1 = yX8_setWeight.cls := fun as M h => by
  obtain ⟨a, As, q, h1, h2, h3⟩ := rv_X8_setWeight as M h
  exact ⟨a, As, q, h1, (kdZ_of h2).symm ▸ h2, h3⟩
abbrev cz_X8_distance (p : Nat) (t : Int) (o : Int) (M : Mem) (x : Int) (M' : Mem) : Prop := (∀ σ, absX M σ → x = F_distance σ t o ∧ absX M' σ) ∧ ∀ b, 46 ≤ b → M' b = M b
def CZ_X8_distance (as : List AV) (M : Mem) (x : Int) (M' : Mem) : Prop := match as with
  | [.inr p, .inl t, .inl o] => cz_X8_distance p t o M x M'
  | _ => False
abbrev OKZ_X8_distance (l : Launch) (D : va_G) (cy : Nat → ClassId) (ad : Nat → Nat) (n : Nat) : Prop := MetA l D cy ad kdZ (lnZ n) 47 yX8_distance cX8_distance 3 (some .int) rm_X8_distance 1 P_X8_distance CZ_X8_distance
theorem okz_X8_distance {l : Launch} {D : va_G} {cy : Nat → ClassId} {ad : Nat → Nat} {n : Nat} (hA : jA ad 47) (h : OK_X8_distance l D cy ad) : OKZ_X8_distance l D cy ad n := lift_Z hA h (fun as M x M1 hc => by
  unfold C_X8_distance at hc
  unfold CZ_X8_distance
  split at hc
  · exact ⟨fun σ hσ => ⟨(hc σ hσ).1, absX_glu (hc σ hσ).2⟩, fun b hb => glu_hi hb⟩
  · exact hc.elim)
theorem rvz_X8_distance : ∀ as M, P_X8_distance as M → ∃ a As q, as = .inr a :: As ∧ vwCl[kdZ a]? = some q ∧ q.1 = yX8_distance.cls := fun as M h => by
  obtain ⟨a, As, q, h1, h2, h3⟩ := rv_X8_distance as M h
  exact ⟨a, As, q, h1, (kdZ_of h2).symm ▸ h2, h3⟩
abbrev cz_X8_route (p : Nat) (t : Int) (o : Int) (k : Int) (M : Mem) (x : Int) (M' : Mem) : Prop := (∀ σ, absX M σ → x = F_route σ t o k ∧ absX M' σ) ∧ ∀ b, 46 ≤ b → M' b = M b
def CZ_X8_route (as : List AV) (M : Mem) (x : Int) (M' : Mem) : Prop := match as with
  | [.inr p, .inl t, .inl o, .inl k] => cz_X8_route p t o k M x M'
  | _ => False
abbrev OKZ_X8_route (l : Launch) (D : va_G) (cy : Nat → ClassId) (ad : Nat → Nat) (n : Nat) : Prop := MetA l D cy ad kdZ (lnZ n) 47 yX8_route cX8_route 4 (some .int) rm_X8_route 1 P_X8_route CZ_X8_route
theorem okz_X8_route {l : Launch} {D : va_G} {cy : Nat → ClassId} {ad : Nat → Nat} {n : Nat} (hA : jA ad 47) (h : OK_X8_route l D cy ad) : OKZ_X8_route l D cy ad n := lift_Z hA h (fun as M x M1 hc => by
  unfold C_X8_route at hc
  unfold CZ_X8_route
  split at hc
  · exact ⟨fun σ hσ => ⟨(hc σ hσ).1, absX_glu (hc σ hσ).2⟩, fun b hb => glu_hi hb⟩
  · exact hc.elim)
theorem rvz_X8_route : ∀ as M, P_X8_route as M → ∃ a As q, as = .inr a :: As ∧ vwCl[kdZ a]? = some q ∧ q.1 = yX8_route.cls := fun as M h => by
  obtain ⟨a, As, q, h1, h2, h3⟩ := rv_X8_route as M h
  exact ⟨a, As, q, h1, (kdZ_of h2).symm ▸ h2, h3⟩
abbrev cz_X8_farthest (p : Nat) (t : Int) (M : Mem) (x : Int) (M' : Mem) : Prop := (∀ σ, absX M σ → x = F_farthest σ t ∧ absX M' σ) ∧ ∀ b, 46 ≤ b → M' b = M b
def CZ_X8_farthest (as : List AV) (M : Mem) (x : Int) (M' : Mem) : Prop := match as with
  | [.inr p, .inl t] => cz_X8_farthest p t M x M'
  | _ => False
abbrev OKZ_X8_farthest (l : Launch) (D : va_G) (cy : Nat → ClassId) (ad : Nat → Nat) (n : Nat) : Prop := MetA l D cy ad kdZ (lnZ n) 47 yX8_farthest cX8_farthest 2 (some .int) rm_X8_farthest 1 P_X8_farthest CZ_X8_farthest
theorem okz_X8_farthest {l : Launch} {D : va_G} {cy : Nat → ClassId} {ad : Nat → Nat} {n : Nat} (hA : jA ad 47) (h : OK_X8_farthest l D cy ad) : OKZ_X8_farthest l D cy ad n := lift_Z hA h (fun as M x M1 hc => by
  unfold C_X8_farthest at hc
  unfold CZ_X8_farthest
  split at hc
  · exact ⟨fun σ hσ => ⟨(hc σ hσ).1, absX_glu (hc σ hσ).2⟩, fun b hb => glu_hi hb⟩
  · exact hc.elim)
theorem rvz_X8_farthest : ∀ as M, P_X8_farthest as M → ∃ a As q, as = .inr a :: As ∧ vwCl[kdZ a]? = some q ∧ q.1 = yX8_farthest.cls := fun as M h => by
  obtain ⟨a, As, q, h1, h2, h3⟩ := rv_X8_farthest as M h
  exact ⟨a, As, q, h1, (kdZ_of h2).symm ▸ h2, h3⟩
abbrev cz_X8_within (p : Nat) (t : Int) (v : Int) (M : Mem) (x : Int) (M' : Mem) : Prop := (∀ σ, absX M σ → x = F_within σ t v ∧ absX M' σ) ∧ ∀ b, 46 ≤ b → M' b = M b
def CZ_X8_within (as : List AV) (M : Mem) (x : Int) (M' : Mem) : Prop := match as with
  | [.inr p, .inl t, .inl v] => cz_X8_within p t v M x M'
  | _ => False
abbrev OKZ_X8_within (l : Launch) (D : va_G) (cy : Nat → ClassId) (ad : Nat → Nat) (n : Nat) : Prop := MetA l D cy ad kdZ (lnZ n) 47 yX8_within cX8_within 3 (some .int) rm_X8_within 1 P_X8_within CZ_X8_within
theorem okz_X8_within {l : Launch} {D : va_G} {cy : Nat → ClassId} {ad : Nat → Nat} {n : Nat} (hA : jA ad 47) (h : OK_X8_within l D cy ad) : OKZ_X8_within l D cy ad n := lift_Z hA h (fun as M x M1 hc => by
  unfold C_X8_within at hc
  unfold CZ_X8_within
  split at hc
  · exact ⟨fun σ hσ => ⟨(hc σ hσ).1, absX_glu (hc σ hσ).2⟩, fun b hb => glu_hi hb⟩
  · exact hc.elim)
theorem rvz_X8_within : ∀ as M, P_X8_within as M → ∃ a As q, as = .inr a :: As ∧ vwCl[kdZ a]? = some q ∧ q.1 = yX8_within.cls := fun as M h => by
  obtain ⟨a, As, q, h1, h2, h3⟩ := rv_X8_within as M h
  exact ⟨a, As, q, h1, (kdZ_of h2).symm ▸ h2, h3⟩
abbrev cz_X8_nearest (p : Nat) (t : Int) (k : Int) (M : Mem) (x : Int) (M' : Mem) : Prop := (∀ σ, absX M σ → x = F_nearest σ t k ∧ absX M' σ) ∧ ∀ b, 46 ≤ b → M' b = M b
def CZ_X8_nearest (as : List AV) (M : Mem) (x : Int) (M' : Mem) : Prop := match as with
  | [.inr p, .inl t, .inl k] => cz_X8_nearest p t k M x M'
  | _ => False
abbrev OKZ_X8_nearest (l : Launch) (D : va_G) (cy : Nat → ClassId) (ad : Nat → Nat) (n : Nat) : Prop := MetA l D cy ad kdZ (lnZ n) 47 yX8_nearest cX8_nearest 3 (some .int) rm_X8_nearest 1 P_X8_nearest CZ_X8_nearest
theorem okz_X8_nearest {l : Launch} {D : va_G} {cy : Nat → ClassId} {ad : Nat → Nat} {n : Nat} (hA : jA ad 47) (h : OK_X8_nearest l D cy ad) : OKZ_X8_nearest l D cy ad n := lift_Z hA h (fun as M x M1 hc => by
  unfold C_X8_nearest at hc
  unfold CZ_X8_nearest
  split at hc
  · exact ⟨fun σ hσ => ⟨(hc σ hσ).1, absX_glu (hc σ hσ).2⟩, fun b hb => glu_hi hb⟩
  · exact hc.elim)
theorem rvz_X8_nearest : ∀ as M, P_X8_nearest as M → ∃ a As q, as = .inr a :: As ∧ vwCl[kdZ a]? = some q ∧ q.1 = yX8_nearest.cls := fun as M h => by
  obtain ⟨a, As, q, h1, h2, h3⟩ := rv_X8_nearest as M h
  exact ⟨a, As, q, h1, (kdZ_of h2).symm ▸ h2, h3⟩

