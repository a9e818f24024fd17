def zD (RO : Nat → Int32) (p : Int) : Bool := m_X8_isDark (RO p.toNat)
theorem darkAt_z (RO : Nat → Int32) {a b : Int} (ha : -10 ≤ a ∧ a ≤ 10) (hb : -10 ≤ b ∧ b ≤ 10) : m_X8_isDarkAt RO (oI a) (oI b) = zD RO (8 * a + b) := by
  unfold m_X8_isDarkAt zD
  rw [oI_l0, oI_l8]
  simp only [oI_mul, oI_add]
  rw [oI_cl (zsm_of (by omega) (by omega))]
  congr 3; omega
theorem least_z {a b : Int} (ha : zsm a) (hb : zsm b) : m_X8_least (oI a) (oI b) = oI (if b ≤ a then b else a) := by
  unfold m_X8_least
  simp only [oI_le hb ha]
  split <;> rfl
theorem most_z {a b : Int} (ha : zsm a) (hb : zsm b) : m_X8_most (oI a) (oI b) = oI (if a ≤ b then b else a) := by
  unfold m_X8_most
  simp only [oI_le ha hb]
  split <;> rfl
theorem in_z {a b z : Int} (ha : zsm a) (hb : zsm b) (hz : zsm z) : m_X8_in (oI a) (oI b) (oI z) = (decide (b ≤ a) && decide (a ≤ z)) := by
  unfold m_X8_in
  simp only [oI_lt ha hb, oI_lt hz ha]
  by_cases h1 : a < b
  · have : ¬ b ≤ a := by omega
    simp [h1, this]
  · by_cases h2 : z < a
    · have : ¬ a ≤ z := by omega
      simp [h1, h2, this]
    · have q1 : b ≤ a := by omega
      have q2 : a ≤ z := by omega
      simp [h1, h2, q1, q2]
theorem bI_inj (a b : Bool) : bI a = bI b ↔ a = b := by cases a <;> cases b <;> decide
theorem sq_z (RO : Nat → Int32) {f t c : Nat} (hf : f < 64) (ht : t < 64) (hc : c < 64) :
    m_X8_isSqueezed RO (nI f) (nI t) (nI c / 8) (nI c - nI c / 8 * 8) = (sqZ (zRw t - zRw f) (zCl t - zCl f) (zRw c - zRw f) (zCl c - zCl f) && (zD RO (f + (sqPr (zRw t - zRw f) (zCl t - zCl f) (zRw c - zRw f) (zCl c - zCl f)).1) && zD RO (f + (sqPr (zRw t - zRw f) (zCl t - zCl f) (zRw c - zRw f) (zCl c - zCl f)).2))) := by
  have bf := zRw_b hf; have bt := zRw_b ht; have bc := zRw_b hc
  have df := zCl_b f; have dt := zCl_b t; have ec := zCl_b c
  have rf := zRC f; have rc := zRC c
  have sl : ∀ {z : Int}, 0 ≤ z ∧ z ≤ 7 → zsm z := fun h => zsm_of (by omega) (by omega)
  have sd := zside_sm (dr := zRw t - zRw f) (dc := zCl t - zCl f) (x := zRw c - zRw f) (y := zCl c - zCl f) (by omega) (by omega) (by omega) (by omega)
  have s1 : m_X8_side (nI f) (nI t) (2 * (nI c / 8)) (2 * (nI c - nI c / 8 * 8)) = oI (zside (zRw t - zRw f) (zCl t - zCl f) (zRw c - zRw f) (zCl c - zCl f)) := by
    rw [← side_z hf ht, zcl hc, zrw hc, oI_l2, oI_mul, oI_mul]
    congr 2 <;> omega
  unfold m_X8_isSqueezed
  rw [s1]
  rw [zcl hc, zcl hf, zcl ht, zrw hc, zrw hf, zrw ht]
  rw [least_z (sl bf) (sl bt), most_z (sl bf) (sl bt), least_z (sl df) (sl dt), most_z (sl df) (sl dt), oI_l1]
  simp only [oI_add, oI_sub]
  have i1 : (if zRw t ≤ zRw f then zRw t else zRw f) = zRw f + (if zRw t - zRw f ≤ 0 then zRw t - zRw f else 0) := by split <;> split <;> omega
  have i2 : (if zRw f ≤ zRw t then zRw t else zRw f) = zRw f + (if zRw t - zRw f ≤ 0 then 0 else zRw t - zRw f) := by split <;> split <;> omega
  have i3 : (if zCl t ≤ zCl f then zCl t else zCl f) = zCl f + (if zCl t - zCl f ≤ 0 then zCl t - zCl f else 0) := by split <;> split <;> omega
  have i4 : (if zCl f ≤ zCl t then zCl t else zCl f) = zCl f + (if zCl t - zCl f ≤ 0 then 0 else zCl t - zCl f) := by split <;> split <;> omega
  rw [i1, i2, i3, i4]
  generalize hdr : zRw t - zRw f = dr at *
  generalize hdc : zCl t - zCl f = dc at *
  have j1 : -7 ≤ (if dr ≤ 0 then dr else 0) ∧ (if dr ≤ 0 then dr else 0) ≤ 7 := by split <;> omega
  have j2 : -7 ≤ (if dr ≤ 0 then 0 else dr) ∧ (if dr ≤ 0 then 0 else dr) ≤ 7 := by split <;> omega
  have j3 : -7 ≤ (if dc ≤ 0 then dc else 0) ∧ (if dc ≤ 0 then dc else 0) ≤ 7 := by split <;> omega
  have j4 : -7 ≤ (if dc ≤ 0 then 0 else dc) ∧ (if dc ≤ 0 then 0 else dc) ≤ 7 := by split <;> omega
  rw [in_z (sl bc) (zsm_of (by omega) (by omega)) (zsm_of (by omega) (by omega)), in_z (sl ec) (zsm_of (by omega) (by omega)) (zsm_of (by omega) (by omega))]
  simp only [oI_eq0 sd, oI_le0 (zsm_of (z := dr) (by omega) (by omega)), oI_le0 (zsm_of (z := dc) (by omega) (by omega)), bI_inj]
  rw [darkAt_z RO (a := zRw c - 1) (b := zCl c - 1) (by omega) (by omega), darkAt_z RO (a := zRw c) (b := zCl c) (by omega) (by omega), darkAt_z RO (a := zRw c - 1) (b := zCl c) (by omega) (by omega), darkAt_z RO (a := zRw c) (b := zCl c - 1) (by omega) (by omega)]
  unfold sqZ sqPr zfall
  rw [show 8 * (zRw c - 1) + (zCl c - 1) = (f : Int) + (8 * (zRw c - zRw f) + (zCl c - zCl f) - 9) by omega, show 8 * zRw c + zCl c = (f : Int) + (8 * (zRw c - zRw f) + (zCl c - zCl f)) by omega, show 8 * (zRw c - 1) + zCl c = (f : Int) + (8 * (zRw c - zRw f) + (zCl c - zCl f) - 8) by omega, show 8 * zRw c + (zCl c - 1) = (f : Int) + (8 * (zRw c - zRw f) + (zCl c - zCl f) - 1) by omega]
  have k1 : (zRw f + (if dr ≤ 0 then dr else 0) + 1 ≤ zRw c) ↔ ((if dr ≤ 0 then dr else 0) + 1 ≤ zRw c - zRw f) := by omega
  have k2 : (zRw c ≤ zRw f + (if dr ≤ 0 then 0 else dr)) ↔ (zRw c - zRw f ≤ (if dr ≤ 0 then 0 else dr)) := by omega
  have k3 : (zCl f + (if dc ≤ 0 then dc else 0) + 1 ≤ zCl c) ↔ ((if dc ≤ 0 then dc else 0) + 1 ≤ zCl c - zCl f) := by omega
  have k4 : (zCl c ≤ zCl f + (if dc ≤ 0 then 0 else dc)) ↔ (zCl c - zCl f ≤ (if dc ≤ 0 then 0 else dc)) := by omega
  simp only [k1, k2, k3, k4]
  generalize decide ((if dr ≤ 0 then dr else 0) + 1 ≤ zRw c - zRw f) = A1
  generalize decide (zRw c - zRw f ≤ (if dr ≤ 0 then 0 else dr)) = A2
  generalize decide ((if dc ≤ 0 then dc else 0) + 1 ≤ zCl c - zCl f) = A3
  generalize decide (zCl c - zCl f ≤ (if dc ≤ 0 then 0 else dc)) = A4
  generalize (if dr ≤ 0 then false else true : Bool) = F1
  generalize (if dc ≤ 0 then false else true : Bool) = F2
  by_cases hz : zside dr dc (zRw c - zRw f) (zCl c - zCl f) = 0
  · cases A1 <;> cases A2 <;> cases A3 <;> cases A4 <;> cases F1 <;> cases F2 <;> simp [hz] <;> (try (split <;> simp_all))
  · cases A1 <;> cases A2 <;> cases A3 <;> cases A4 <;> simp [hz]
/-- a loop that looks whether all is well -/
theorem allLoop {ok : Nat → Bool} {f : Nat → Bool → (Bool ⊕ Bool) ⊕ Bool} (N : Nat) (h0 : ∀ k, f k false = .inl (.inr false)) (h1 : ∀ k, k < N → f k true = .inr (ok k)) : ∀ n i0, i0 + n ≤ N → (lpr (lpx f n i0 true) id (fun t => t) = true ↔ ∀ k, i0 ≤ k → k < i0 + n → ok k = true) := by
  intro n
  induction n with
  | zero => intro i0 _; exact ⟨fun _ k h1 h2 => by omega, fun _ => rfl⟩
  | succ n ih =>
    intro i0 hN
    rw [lpx, h1 i0 (by omega)]
    cases ho : ok i0 with
    | true =>
      refine (ih (i0 + 1) (by omega)).trans ⟨fun h k q1 q2 => ?_, fun h k q1 q2 => h k (by omega) (by omega)⟩
      by_cases e : k = i0
      · rw [e]; exact ho
      · exact h k (by omega) (by omega)
    | false =>
      have e : lpr (lpx f n (i0 + 1) false) id (fun t => t) = false := by
        cases n with
        | zero => rfl
        | succ n => rw [lpx, h0]; rfl
      constructor
      · intro h
        exact absurd (e.symm.trans h) (by decide)
      · intro h
        have := h i0 (Nat.le_refl _) (by omega)
        rw [ho] at this; exact absurd this (by decide)
theorem free_m (RO : Nat → Int32) {f t : Nat} (hf : f < 64) (ht : t < 64) : m_X8_isFree RO (nI f) (nI t) = true ↔ ∀ c : Nat, c < 64 → ¬ (m_X8_isDark (RO c) = true ∧ gT (zRw t - zRw f) (zCl t - zCl f) (zRw c - zRw f) (zCl c - zCl f) = true) ∧ ¬ (sqZ (zRw t - zRw f) (zCl t - zCl f) (zRw c - zRw f) (zCl c - zCl f) = true ∧ zD RO (f + (sqPr (zRw t - zRw f) (zCl t - zCl f) (zRw c - zRw f) (zCl c - zCl f)).1) = true ∧ zD RO (f + (sqPr (zRw t - zRw f) (zCl t - zCl f) (zRw c - zRw f) (zCl c - zCl f)).2) = true) := by
  have key := allLoop (f := f_X8_isFree_5 RO (nI f) (nI t)) (ok := fun c => (!(m_X8_isDark (RO c) && gT (zRw t - zRw f) (zCl t - zCl f) (zRw c - zRw f) (zCl c - zCl f))) && !(sqZ (zRw t - zRw f) (zCl t - zCl f) (zRw c - zRw f) (zCl c - zCl f) && (zD RO (f + (sqPr (zRw t - zRw f) (zCl t - zCl f) (zRw c - zRw f) (zCl c - zCl f)).1) && zD RO (f + (sqPr (zRw t - zRw f) (zCl t - zCl f) (zRw c - zRw f) (zCl c - zCl f)).2)))) 64 (fun k => rfl) (fun c hc => by
    simp only [f_X8_isFree_5, o0 c hc, gT_z hf ht hc, sq_z RO hf ht hc]
    cases m_X8_isDark (RO c) <;> cases gT (zRw t - zRw f) (zCl t - zCl f) (zRw c - zRw f) (zCl c - zCl f) <;> cases (sqZ (zRw t - zRw f) (zCl t - zCl f) (zRw c - zRw f) (zCl c - zCl f) && (zD RO (f + (sqPr (zRw t - zRw f) (zCl t - zCl f) (zRw c - zRw f) (zCl c - zCl f)).1) && zD RO (f + (sqPr (zRw t - zRw f) (zCl t - zCl f) (zRw c - zRw f) (zCl c - zCl f)).2))) <;> rfl) 64 0 (Nat.le_refl _)
  unfold m_X8_isFree
  refine key.trans ⟨fun h c hc => ?_, fun h c _ hc => ?_⟩
  · have := h c (Nat.zero_le _) (by omega)
    simp only [Bool.and_eq_true, Bool.not_eq_true'] at this
    refine ⟨fun q => ?_, fun q => ?_⟩
    · rw [q.1, q.2] at this; exact absurd this.1 (by decide)
    · rw [q.1, q.2.1, q.2.2] at this; exact absurd this.2 (by decide)
  · have := h c (by omega)
    obtain ⟨q1, q2⟩ := this
    simp only [Bool.and_eq_true, Bool.not_eq_true']
    constructor
    · cases h1 : m_X8_isDark (RO c) with
      | false => rfl
      | true =>
        cases h2 : gT (zRw t - zRw f) (zCl t - zCl f) (zRw c - zRw f) (zCl c - zCl f) with
        | false => rfl
        | true => exact absurd ⟨h1, h2⟩ q1
    · cases h1 : sqZ (zRw t - zRw f) (zCl t - zCl f) (zRw c - zRw f) (zCl c - zCl f) with
      | false => rfl
      | true =>
        cases h2 : zD RO (f + (sqPr (zRw t - zRw f) (zCl t - zCl f) (zRw c - zRw f) (zCl c - zCl f)).1) with
        | false => rfl
        | true =>
          cases h3 : zD RO (f + (sqPr (zRw t - zRw f) (zCl t - zCl f) (zRw c - zRw f) (zCl c - zCl f)).2) with
          | false => rfl
          | true => exact absurd ⟨h1, h2, h3⟩ q2
/-! the way of the line from cell to cell -/
def advZ (p s8 sc RR CC l : Int) : Int × Int :=
  let v2 := if 0 < l then p else p + s8
  let v3 := if 0 < l then l else l + 2 * CC
  if l < 0 then (v2, v3) else (v2 + sc, v3 - 2 * RR)
theorem adv_z (f p s8 sc RR CC : Int) {l : Int} (hl : zsm l) : m_X3_advance (oI (f + p)) (oI s8) (oI sc) (oI RR) (oI CC) (oI l) = (oI (f + (advZ p s8 sc RR CC l).1), oI (advZ p s8 sc RR CC l).2) := by
  unfold m_X3_advance advZ
  simp only [oI_0lt hl, oI_lt0 hl, oI_l2, oI_mul, oI_add, oI_sub]
  by_cases h1 : 0 < l <;> by_cases h2 : l < 0 <;> simp only [h1, h2, if_true, if_false, oI_add, oI_sub, Int.add_assoc]
theorem advZ_b {p s8 sc RR CC l : Int} (h8 : -8 ≤ s8 ∧ s8 ≤ 8) (hc : -1 ≤ sc ∧ sc ≤ 1) (hR : 0 ≤ RR ∧ RR ≤ 7) (hC : 0 ≤ CC ∧ CC ≤ 7) : p - 10 ≤ (advZ p s8 sc RR CC l).1 ∧ (advZ p s8 sc RR CC l).1 ≤ p + 10 ∧ l - 30 ≤ (advZ p s8 sc RR CC l).2 ∧ (advZ p s8 sc RR CC l).2 ≤ l + 30 := by
  unfold advZ
  dsimp only
  by_cases h1 : 0 < l <;> by_cases h2 : l < 0 <;> simp only [h1, h2, if_true, if_false] <;> omega
def evZ (s8 sc RR CC g : Int) : Nat → Int → Int → List (Int × Int)
  | 0, _, _ => []
  | n + 1, p, l => if p = g then [] else (if l = 0 then [(p + s8, p + sc)] else []) ++ ((if (advZ p s8 sc RR CC l).1 = g then [] else [((advZ p s8 sc RR CC l).1, (advZ p s8 sc RR CC l).1)]) ++ evZ s8 sc RR CC g n (advZ p s8 sc RR CC l).1 (advZ p s8 sc RR CC l).2)
def zS (K : Nat → Int32) (f p : Int) : Bool := m_X3_isStopped K (oI (f + p))
theorem pathZ (K : Nat → Int32) {f g s8 sc RR CC : Int} (fr l0 : Int32) (hf : 0 ≤ f ∧ f ≤ 63) (hg : -100 ≤ g ∧ g ≤ 100) (h8 : -8 ≤ s8 ∧ s8 ≤ 8) (hc : -1 ≤ sc ∧ sc ≤ 1) (hR : 0 ≤ RR ∧ RR ≤ 7) (hC : 0 ≤ CC ∧ CC ≤ 7) : ∀ (n k : Nat) (p l : Int), -1000 + 10 * (n : Int) ≤ p → p ≤ 1000 - 10 * (n : Int) → -1000 + 30 * (n : Int) ≤ l → l ≤ 1000 - 30 * (n : Int) →
    (lpr (lpx (f_X3_isFreeAlong_9 K (fr, oI (f + g), oI s8, oI sc, oI RR, oI CC, l0)) n k (oI (f + p), oI l)) id (fun _ => true) = true ↔ ∀ e ∈ evZ s8 sc RR CC g n p l, ¬ (zS K f e.1 = true ∧ zS K f e.2 = true)) := by
  intro n
  induction n with
  | zero => intro k p l _ _ _ _; exact ⟨fun _ e he => (by cases he), fun _ => rfl⟩
  | succ n ih =>
    intro k p l h1 h2 h3 h4
    have ep : (oI (f + p) = oI (f + g)) ↔ p = g := by rw [oI_eq (zsm_of (by omega) (by omega)) (zsm_of (by omega) (by omega))]; omega
    have hl : zsm l := zsm_of (by omega) (by omega)
    obtain ⟨b1, b2, b3, b4⟩ := advZ_b (p := p) (l := l) h8 hc hR hC
    have hA := adv_z f p s8 sc RR CC hl
    rw [lpx, evZ]
    generalize hp' : (advZ p s8 sc RR CC l).1 = p' at *
    generalize hl' : (advZ p s8 sc RR CC l).2 = l' at *
    have ep' : (oI (f + p') = oI (f + g)) ↔ p' = g := by rw [oI_eq (zsm_of (by omega) (by omega)) (zsm_of (by omega) (by omega))]; omega
    have ih' := ih (k + 1) p' l' (by omega) (by omega) (by omega) (by omega)
    by_cases hp : p = g
    · have e : f_X3_isFreeAlong_9 K (fr, oI (f + g), oI s8, oI sc, oI RR, oI CC, l0) k (oI (f + p), oI l) = .inl (.inr (oI (f + p), oI l)) := by
        simp only [f_X3_isFreeAlong_9]; rw [if_pos (ep.mpr hp)]
      rw [e, if_pos hp]
      exact ⟨fun _ e he => (by cases he), fun _ => rfl⟩
    · have e : f_X3_isFreeAlong_9 K (fr, oI (f + g), oI s8, oI sc, oI RR, oI CC, l0) k (oI (f + p), oI l) = if l = 0 ∧ zS K f (p + s8) = true ∧ zS K f (p + sc) = true then .inl (.inl false) else (if p' ≠ g ∧ zS K f p' = true then .inl (.inl false) else .inr (oI (f + p'), oI l')) := by
        simp only [f_X3_isFreeAlong_9]
        rw [if_neg (fun q => hp (ep.mp q))]
        have zs : ∀ q : Int, m_X3_isStopped K (oI (f + q)) = zS K f q := fun _ => rfl
        simp only [oI_eq0 hl, hA, oI_add, Int.add_assoc, ep', zs]
        by_cases c0 : l = 0 <;> by_cases c1 : p' = g <;> cases c2 : zS K f (p + s8) <;> cases c3 : zS K f (p + sc) <;> cases c4 : zS K f p' <;> simp [c0, c1]
      rw [e, if_neg hp]
      by_cases q1 : l = 0 ∧ zS K f (p + s8) = true ∧ zS K f (p + sc) = true
      · rw [if_pos q1]
        constructor
        · intro h; exact absurd (show (false : Bool) = true from h) (by decide)
        · intro h
          exact absurd q1.2 (h (p + s8, p + sc) (List.mem_append_left _ (by rw [if_pos q1.1]; exact List.mem_singleton.mpr rfl)))
      · rw [if_neg q1]
        by_cases q2 : p' ≠ g ∧ zS K f p' = true
        · rw [if_pos q2]
          constructor
          · intro h; exact absurd (show (false : Bool) = true from h) (by decide)
          · intro h
            exact absurd ⟨q2.2, q2.2⟩ (h (p', p') (List.mem_append_right _ (List.mem_append_left _ (by rw [if_neg q2.1]; exact List.mem_singleton.mpr rfl))))
        · rw [if_neg q2]
          refine ih'.trans ⟨fun h e he => ?_, fun h e he => h e (List.mem_append_right _ (List.mem_append_right _ he))⟩
          rcases List.mem_append.mp he with he | he
          · by_cases c0 : l = 0
            · rw [if_pos c0] at he
              rw [List.mem_singleton.mp he]
              exact fun w => q1 ⟨c0, w⟩
            · rw [if_neg c0] at he; cases he
          · rcases List.mem_append.mp he with he | he
            · by_cases c1 : p' = g
              · rw [if_pos c1] at he; cases he
              · rw [if_neg c1] at he
                rw [List.mem_singleton.mp he]
                exact fun w => q2 ⟨c1, w.1⟩
            · exact h e he
def zab (d : Int) : Int := if 0 ≤ d then d else 0 - d
def z8 (d : Int) : Int := if 0 ≤ d then 8 else -8
def z1 (d : Int) : Int := if 0 ≤ d then 1 else -1
def evD (dr dc : Int) : List (Int × Int) := evZ (z8 dr) (z1 dc) (zab dr) (zab dc) (8 * dr + dc) 16 0 (zab dc - zab dr)
theorem oI_neg (z : Int) : -(oI z) = oI (0 - z) := by
  rw [Int.zero_sub]; exact (Int32.ofInt_neg z).symm
theorem iab2_z {z : Int} (h : zsm z) : (if 0 ≤ oI z then oI z else -(oI z)) = oI (zab z) := by
  unfold zab
  by_cases q : 0 ≤ z
  · rw [if_pos ((oI_0le h).mpr q), if_pos q]
  · rw [if_neg (fun w => q ((oI_0le h).mp w)), if_neg q, oI_neg]
theorem start_z {f t : Nat} (hf : f < 64) (ht : t < 64) : m_X3_start (nI f) (nI t) = (nI f, oI (f + (8 * (zRw t - zRw f) + (zCl t - zCl f))), oI (z8 (zRw t - zRw f)), oI (z1 (zCl t - zCl f)), oI (zab (zRw t - zRw f)), oI (zab (zCl t - zCl f)), oI (zab (zCl t - zCl f) - zab (zRw t - zRw f))) := by
  have bf := zRw_b hf; have bt := zRw_b ht
  have df := zCl_b f; have dt := zCl_b t
  have s1 : zsm (zRw t - zRw f) := zsm_of (by omega) (by omega)
  have s2 : zsm (zCl t - zCl f) := zsm_of (by omega) (by omega)
  unfold m_X3_start
  rw [zcl hf, zcl ht, zrw hf, zrw ht, oI_sub, oI_sub, iab2_z s1, iab2_z s2]
  simp only [oI_sub, oI_0le s1, oI_0le s2, oI_l1, oI_l8, oI_m1, oI_m8]
  rw [nI_oI t, show (t : Int) = f + (8 * (zRw t - zRw f) + (zCl t - zCl f)) by have := zRC f; have := zRC t; omega]
  unfold z8 z1
  congr 3
  · split <;> rfl
  · congr 1; split <;> rfl
theorem zab_b {d : Int} (h : -7 ≤ d ∧ d ≤ 7) : 0 ≤ zab d ∧ zab d ≤ 7 := by unfold zab; split <;> omega
theorem z8_b (d : Int) : -8 ≤ z8 d ∧ z8 d ≤ 8 := by unfold z8; split <;> omega
theorem z1_b (d : Int) : -1 ≤ z1 d ∧ z1 d ≤ 1 := by unfold z1; split <;> omega
theorem free_c (K : Nat → Int32) {f t : Nat} (hf : f < 64) (ht : t < 64) : m_X3_isFreeAlong K (nI f) (nI t) = true ↔ ∀ e ∈ evD (zRw t - zRw f) (zCl t - zCl f), ¬ (zS K f e.1 = true ∧ zS K f e.2 = true) := by
  have bf := zRw_b hf; have bt := zRw_b ht
  have df := zCl_b f; have dt := zCl_b t
  unfold m_X3_isFreeAlong
  rw [start_z hf ht]
  have a1 := zab_b (d := zRw t - zRw f) (by omega)
  have a2 := zab_b (d := zCl t - zCl f) (by omega)
  have := pathZ K (f := f) (g := 8 * (zRw t - zRw f) + (zCl t - zCl f)) (nI f) (oI (zab (zCl t - zCl f) - zab (zRw t - zRw f))) (by omega) (by omega) (z8_b (zRw t - zRw f)) (z1_b (zCl t - zCl f)) a1 a2 16 0 0 (zab (zCl t - zCl f) - zab (zRw t - zRw f)) (by omega) (by omega) (by omega) (by omega)
  rw [Int.add_zero, ← nI_oI] at this
  exact this
