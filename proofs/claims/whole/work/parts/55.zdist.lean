/-! least ways, as numbers: what a row of costs is, when it is the least one -/
def cntF (C : Nat → Int) : Nat → Nat
  | 0 => 0
  | n + 1 => cntF C n + (if C n < 1000000 then 1 else 0)
theorem cntF_le (C : Nat → Int) : ∀ n, cntF C n ≤ n
  | 0 => Nat.le_refl 0
  | n + 1 => by have := cntF_le C n; rw [cntF]; split <;> omega
theorem cntF_pos {C : Nat → Int} {x : Nat} (hx : C x < 1000000) : ∀ n, x < n → 1 ≤ cntF C n
  | 0, h => by omega
  | n + 1, h => by
    rw [cntF]
    by_cases q : x = n
    · subst q; rw [if_pos hx]; omega
    · have := cntF_pos hx n (by omega); omega
def updZ (C : Nat → Int) (v : Nat) (z : Int) : Nat → Int := fun x => if x = v then z else C x
theorem updZ_s (C : Nat → Int) (v : Nat) (z : Int) : updZ C v z v = z := if_pos rfl
theorem updZ_n (C : Nat → Int) {v x : Nat} (z : Int) (h : x ≠ v) : updZ C v z x = C x := if_neg h
theorem cntF_upd {C : Nat → Int} {v : Nat} {z : Int} (hz : z < 1000000) : ∀ n, cntF (updZ C v z) n = cntF C n + (if v < n ∧ ¬ C v < 1000000 then 1 else 0)
  | 0 => by rw [if_neg (by omega)]; rfl
  | n + 1 => by
    rw [cntF, cntF, cntF_upd hz n]
    by_cases q : n = v
    · subst q
      rw [updZ_s, if_pos hz, if_neg (by omega)]
      by_cases w : C n < 1000000
      · rw [if_pos w, if_neg (by omega)]
      · rw [if_neg w, if_pos ⟨by omega, w⟩]
    · rw [updZ_n C z q]
      have e : (v < n + 1 ∧ ¬ C v < 1000000) ↔ (v < n ∧ ¬ C v < 1000000) := by omega
      simp only [e]
      omega
def dInv (E : Nat → Nat → Prop) (w : Nat → Nat → Int) (s : Nat) (C : Nat → Int) : Prop :=
  C s = 0 ∧ (∀ v, v < 64 → 0 ≤ C v ∧ C v ≤ 1000000) ∧ (∀ v, v < 64 → C v < 1000000 → C v + 217 ≤ 217 * (cntF C 64 : Int)) ∧ (∀ v, v < 64 → v ≠ s → C v < 1000000 → ∃ u, u < 64 ∧ E u v ∧ C u < 1000000 ∧ C u + w u v ≤ C v)
def dFix (E : Nat → Nat → Prop) (w : Nat → Nat → Int) (C : Nat → Int) : Prop := ∀ u v, u < 64 → v < 64 → E u v → C u < 1000000 → C v ≤ C u + w u v
def dW (E : Nat → Nat → Prop) (w : Nat → Nat → Int) : Prop := ∀ u v, u < 64 → v < 64 → E u v → 1 ≤ w u v ∧ w u v ≤ 217
section DD
variable {E : Nat → Nat → Prop} {w : Nat → Nat → Int} {s : Nat}
theorem dInv_top {C : Nat → Int} (h : dInv E w s C) {v : Nat} (hv : v < 64) (hf : C v < 1000000) : C v ≤ 13671 := by
  have := h.2.2.1 v hv hf
  have := cntF_le C 64
  omega
theorem d_le (hw : dW E w) (hs : s < 64) {C C' : Nat → Int} (hI : dInv E w s C) (hF : dFix E w C') (h0 : C' s = 0) : ∀ (n : Nat) (v : Nat), v < 64 → C v < 1000000 → (C v).toNat ≤ n → C' v ≤ C v := by
  intro n
  induction n with
  | zero =>
    intro v hv hf hn
    by_cases e : v = s
    · subst e; have := (hI.2.1 v hv).1; omega
    · obtain ⟨u, hu, hE, hfu, hle⟩ := hI.2.2.2 v hv e hf
      have := hw u v hu hv hE
      have := (hI.2.1 u hu).1
      omega
  | succ n ih =>
    intro v hv hf hn
    by_cases e : v = s
    · subst e; have := (hI.2.1 v hv).1; omega
    · obtain ⟨u, hu, hE, hfu, hle⟩ := hI.2.2.2 v hv e hf
      have h1 := hw u v hu hv hE
      have h2 := (hI.2.1 u hu).1
      have h3 := ih u hu hfu (by omega)
      have := hF u v hu hv hE (by omega)
      omega
theorem d_low (hw : dW E w) (hs : s < 64) {C C' : Nat → Int} (hI : dInv E w s C) (hI' : dInv E w s C') (hF : dFix E w C') : ∀ v, v < 64 → C' v ≤ C v := by
  intro v hv
  by_cases hf : C v < 1000000
  · exact d_le hw hs hI hF hI'.1 _ v hv hf (Nat.le_refl _)
  · have := (hI'.2.1 v hv).2; omega
theorem d_uniq (hw : dW E w) (hs : s < 64) {C C' : Nat → Int} (hI : dInv E w s C) (hF : dFix E w C) (hI' : dInv E w s C') (hF' : dFix E w C') : ∀ v, v < 64 → C v = C' v := fun v hv => Int.le_antisymm (d_low hw hs hI' hI hF v hv) (d_low hw hs hI hI' hF' v hv)
theorem d_rel (hw : dW E w) {C : Nat → Int} (hI : dInv E w s C) {u v : Nat} (hu : u < 64) (hv : v < 64) (hE : E u v) (hf : C u < 1000000) (hlt : C u + w u v < C v) : dInv E w s (updZ C v (C u + w u v)) := by
  obtain ⟨h1, h2, h3, h4⟩ := hI
  have hw1 := hw u v hu hv hE
  have bu := h2 u hu; have bv := h2 v hv
  have hvs : s ≠ v := fun e => by rw [e] at h1; omega
  have huv : u ≠ v := fun e => by rw [e] at hlt hw1; omega
  have tu := h3 u hu hf
  have hz : C u + w u v < 1000000 := by omega
  have ec := cntF_upd (C := C) (v := v) hz 64
  refine ⟨?_, fun x hx => ?_, fun x hx hxf => ?_, fun x hx hxs hxf => ?_⟩
  · rw [updZ_n C _ hvs]; exact h1
  · by_cases e : x = v
    · subst e; rw [updZ_s]; omega
    · rw [updZ_n C _ e]; exact h2 x hx
  · rw [ec]
    by_cases e : x = v
    · subst e; rw [updZ_s]
      by_cases q : C x < 1000000
      · rw [if_neg (fun h => h.2 q)]
        have := h3 x hx q
        omega
      · rw [if_pos ⟨hx, q⟩]; omega
    · rw [updZ_n C _ e] at hxf ⊢
      have := h3 x hx hxf
      split <;> omega
  · by_cases e : x = v
    · subst e
      refine ⟨u, hu, hE, ?_, ?_⟩
      · rw [updZ_n C _ huv]; exact hf
      · rw [updZ_n C _ huv, updZ_s]; exact Int.le_refl _
    · rw [updZ_n C _ e] at hxf ⊢
      obtain ⟨u', hu', hE', hf', hle'⟩ := h4 x hx hxs hxf
      by_cases e' : u' = v
      · subst e'
        refine ⟨u', hu', hE', ?_, ?_⟩
        · rw [updZ_s]; exact hz
        · rw [updZ_s]; omega
      · exact ⟨u', hu', hE', by rw [updZ_n C _ e']; exact hf', by rw [updZ_n C _ e']; exact hle'⟩
/-- a look at one step, from u to v -/
def relS (E : Nat → Nat → Prop) (w : Nat → Nat → Int) (u v : Nat) (b : Bool) (C : Nat → Int) (b' : Bool) (C' : Nat → Int) : Prop :=
  (b' = b ∧ C' = C ∧ (v < 64 → E u v → C u < 1000000 → C v ≤ C u + w u v)) ∨ (b' = true ∧ v < 64 ∧ E u v ∧ C u < 1000000 ∧ C u + w u v < C v ∧ C' = updZ C v (C u + w u v))
/-- all along a round -/
def pInv (E : Nat → Nat → Prop) (w : Nat → Nat → Int) (s : Nat) (C0 : Nat → Int) (dn : Nat → Nat → Prop) (b : Bool) (C : Nat → Int) : Prop :=
  dInv E w s C ∧ (∀ x, x < 64 → C x ≤ C0 x) ∧ (∀ u v, u < 64 → v < 64 → dn u v → E u v → C0 u < 1000000 → C v ≤ C0 u + w u v) ∧ (b = false → ∀ x, x < 64 → C x = C0 x)
theorem p_mono {C0 C : Nat → Int} {dn dn' : Nat → Nat → Prop} {b : Bool} (h : pInv E w s C0 dn b C) (hd : ∀ u v, u < 64 → v < 64 → dn' u v → E u v → C0 u < 1000000 → dn u v) : pInv E w s C0 dn' b C :=
  ⟨h.1, h.2.1, fun u v hu hv hd' hE hf => h.2.2.1 u v hu hv (hd u v hu hv hd' hE hf) hE hf, h.2.2.2⟩
theorem p_step (hw : dW E w) {C0 C C' : Nat → Int} {dn : Nat → Nat → Prop} {b b' : Bool} {u v : Nat} (hu : u < 64) (h : pInv E w s C0 dn b C) (hr : relS E w u v b C b' C') : pInv E w s C0 (fun x y => dn x y ∨ (x = u ∧ y = v)) b' C' := by
  obtain ⟨h1, h2, h3, h4⟩ := h
  rcases hr with ⟨rfl, rfl, hn⟩ | ⟨rfl, hv, hE, hf, hlt, rfl⟩
  · refine ⟨h1, h2, fun x y hx hy hd hE hf => ?_, h4⟩
    rcases hd with hd | ⟨rfl, rfl⟩
    · exact h3 x y hx hy hd hE hf
    · have a := h2 x hx
      have := hn hy hE (by omega)
      omega
  · refine ⟨d_rel hw h1 hu hv hE hf hlt, fun x hx => ?_, fun x y hx hy hd hE' hf' => ?_, fun q => (by cases q)⟩
    · by_cases e : x = v
      · subst e; rw [updZ_s]; have := h2 x hx; omega
      · rw [updZ_n C _ e]; exact h2 x hx
    · by_cases e : y = v
      · subst e; rw [updZ_s]
        rcases hd with hd | ⟨rfl, -⟩
        · have := h3 x y hx hy hd hE' hf'; omega
        · have := h2 x hx; omega
      · rw [updZ_n C _ e]
        rcases hd with hd | ⟨-, e2⟩
        · exact h3 x y hx hy hd hE' hf'
        · exact absurd e2 e
theorem p_start {C : Nat → Int} (h : dInv E w s C) : pInv E w s C (fun _ _ => False) false C := ⟨h, fun _ _ => Int.le_refl _, fun _ _ _ _ q => q.elim, fun _ _ _ => rfl⟩
theorem p_fix {C0 C : Nat → Int} {b : Bool} (h : pInv E w s C0 (fun _ _ => True) b C) (hb : b = false) : dFix E w C := fun u v hu hv hE hf => by
  have e := h.2.2.2 hb
  have := h.2.2.1 u v hu hv trivial hE (by rw [← e u hu]; exact hf)
  rw [← e u hu] at this
  exact this
end DD
/-! the map's neighbours -/
def nbN (c d : Nat) : Nat := if m_X0_neighbour (nI c) (nI d) = -1 then 64 else (m_X0_neighbour (nI c) (nI d)).toNatClampNeg
theorem nbN_tab : ∀ c, c < 64 → ∀ d, d < 4 → (m_X0_neighbour (nI c) (nI d) = -1 ∧ m_X8_next (nI c) (nI d) = -4 ∧ nbN c d = 64) ∨ (nbN c d < 64 ∧ m_X0_neighbour (nI c) (nI d) = nI (nbN c d) ∧ m_X8_next (nI c) (nI d) = nI (nbN c d) ∧ nbN (nbN c d) ((d + 2) % 4) = c) := by decide +kernel
def eF (op : Nat → Bool) (u v : Nat) : Prop := (∃ d, d < 4 ∧ nbN u d = v) ∧ op v = true
def eT (op : Nat → Bool) (u v : Nat) : Prop := (∃ d, d < 4 ∧ nbN v d = u) ∧ op u = true
def wF (lt : Nat → Int) (_u v : Nat) : Int := 1 + lt v
def wT (lt : Nat → Int) (u _v : Nat) : Int := 1 + lt u
theorem dW_F {op : Nat → Bool} {lt : Nat → Int} (h : ∀ v, v < 64 → 0 ≤ lt v ∧ lt v ≤ 216) : dW (eF op) (wF lt) := fun u v _ hv _ => by
  have := h v hv; unfold wF; omega
theorem dW_T {op : Nat → Bool} {lt : Nat → Int} (h : ∀ v, v < 64 → 0 ≤ lt v ∧ lt v ≤ 216) : dW (eT op) (wT lt) := fun u v hu _ _ => by
  have := h u hu; unfold wT; omega
theorem d_init {E : Nat → Nat → Prop} {w : Nat → Nat → Int} {s : Nat} (hs : s < 64) {C : Nat → Int} (h : ∀ v, v < 64 → C v = if v = s then 0 else 1000000) : dInv E w s C := by
  have h0 : C s = 0 := by rw [h s hs, if_pos rfl]
  refine ⟨h0, fun v hv => ?_, fun v hv hf => ?_, fun v hv hne hf => ?_⟩
  · rw [h v hv]; split <;> omega
  · have := cntF_pos (C := C) (x := s) (by omega) 64 hs
    rw [h v hv] at hf ⊢
    split at hf
    · rename_i e; rw [if_pos e]; omega
    · omega
  · rw [h v hv, if_neg hne] at hf; omega
