/-! what stops a line -/
def insZ (s8 sc RR CC g : Int) : Nat → Int → Int → List Int
  | 0, _, _ => []
  | n + 1, p, l => if p = g then [] else ((if (advZ p s8 sc RR CC l).1 = g then [] else [(advZ p s8 sc RR CC l).1]) ++ insZ s8 sc RR CC g n (advZ p s8 sc RR CC l).1 (advZ p s8 sc RR CC l).2)
def insD (dr dc : Int) : List Int := insZ (z8 dr) (z1 dc) (zab dr) (zab dc) (8 * dr + dc) 16 0 (zab dc - zab dr)
def fndZ (f : Int) (o : Option Int) : Int32 := match o with
  | none => -4
  | some p => oI (f + p)
theorem firstZ (K : Nat → Int32) {f g s8 sc RR CC : Int} (fr l0 : Int32) (hf : 0 ≤ f ∧ f ≤ 63) (hg : -100 ≤ g ∧ g ≤ 100) (h8 : -8 ≤ s8 ∧ s8 ≤ 8) (hc : -1 ≤ sc ∧ sc ≤ 1) (hR : 0 ≤ RR ∧ RR ≤ 7) (hC : 0 ≤ CC ∧ CC ≤ 7) : ∀ (n k : Nat) (p l : Int), -1000 + 10 * (n : Int) ≤ p → p ≤ 1000 - 10 * (n : Int) → -1000 + 30 * (n : Int) ≤ l → l ≤ 1000 - 30 * (n : Int) →
    lpr (lpx (f_X3_firstStop_9 K (fr, oI (f + g), oI s8, oI sc, oI RR, oI CC, l0)) n k (oI (f + p), oI l)) id (fun _ => (-4 : Int32)) = fndZ f ((insZ s8 sc RR CC g n p l).find? (fun p => zS K f p)) := by
  intro n
  induction n with
  | zero => intro k p l _ _ _ _; rfl
  | succ n ih =>
    intro k p l h1 h2 h3 h4
    have ep : (oI (f + p) = oI (f + g)) ↔ p = g := by rw [oI_eq (zsm_of (by omega) (by omega)) (zsm_of (by omega) (by omega))]; omega
    have hl : zsm l := zsm_of (by omega) (by omega)
    obtain ⟨b1, b2, b3, b4⟩ := advZ_b (p := p) (l := l) h8 hc hR hC
    have hA := adv_z f p s8 sc RR CC hl
    rw [lpx, insZ]
    generalize hp' : (advZ p s8 sc RR CC l).1 = p' at *
    generalize hl' : (advZ p s8 sc RR CC l).2 = l' at *
    have ep' : (oI (f + p') = oI (f + g)) ↔ p' = g := by rw [oI_eq (zsm_of (by omega) (by omega)) (zsm_of (by omega) (by omega))]; omega
    have ih' := ih (k + 1) p' l' (by omega) (by omega) (by omega) (by omega)
    by_cases hp : p = g
    · have e : f_X3_firstStop_9 K (fr, oI (f + g), oI s8, oI sc, oI RR, oI CC, l0) k (oI (f + p), oI l) = .inl (.inr (oI (f + p), oI l)) := by
        simp only [f_X3_firstStop_9]; rw [if_pos (ep.mpr hp)]
      rw [e, if_pos hp]
      rfl
    · have e : f_X3_firstStop_9 K (fr, oI (f + g), oI s8, oI sc, oI RR, oI CC, l0) k (oI (f + p), oI l) = if p' ≠ g ∧ zS K f p' = true then .inl (.inl (oI (f + p'))) else .inr (oI (f + p'), oI l') := by
        simp only [f_X3_firstStop_9]
        rw [if_neg (fun q => hp (ep.mp q))]
        have zs : ∀ q : Int, m_X3_isStopped K (oI (f + q)) = zS K f q := fun _ => rfl
        simp only [hA, ep', zs]
        by_cases c1 : p' = g <;> cases c4 : zS K f p' <;> simp [c1]
      rw [e, if_neg hp]
      by_cases q2 : p' ≠ g ∧ zS K f p' = true
      · rw [if_pos q2, if_neg q2.1, List.singleton_append, List.find?_cons, q2.2]
        rfl
      · rw [if_neg q2]
        refine ih'.trans ?_
        by_cases c1 : p' = g
        · rw [if_pos c1, List.nil_append]
        · have : zS K f p' = false := by
            cases w : zS K f p' with
            | false => rfl
            | true => exact absurd ⟨c1, w⟩ q2
          rw [if_neg c1, List.singleton_append, List.find?_cons, this]
theorem first_c (K : Nat → Int32) {f t : Nat} (hf : f < 64) (ht : t < 64) : m_X3_firstStop K (nI f) (nI t) = fndZ f ((insD (zRw t - zRw f) (zCl t - zCl f)).find? (fun p => zS K f p)) := by
  have bf := zRw_b hf; have bt := zRw_b ht
  have df := zCl_b f; have dt := zCl_b t
  unfold m_X3_firstStop
  rw [start_z hf ht]
  have a1 := zab_b (d := zRw t - zRw f) (by omega)
  have a2 := zab_b (d := zCl t - zCl f) (by omega)
  have := firstZ K (f := f) (g := 8 * (zRw t - zRw f) + (zCl t - zCl f)) (nI f) (oI (zab (zCl t - zCl f) - zab (zRw t - zRw f))) (by omega) (by omega) (z8_b (zRw t - zRw f)) (z1_b (zCl t - zCl f)) a1 a2 16 0 0 (zab (zCl t - zCl f) - zab (zRw t - zRw f)) (by omega) (by omega) (by omega) (by omega)
  rw [Int.add_zero, ← nI_oI] at this
  exact this
def crx (dc p : Int) : Int := if 0 ≤ dc then p / 8 else 0 - ((0 - p) / 8)
def cry (dc p : Int) : Int := if 0 ≤ dc then p % 8 else 0 - ((0 - p) % 8)
def zstZ (dc p : Int) : Int := zab (crx dc p) + zab (cry dc p)
def chkE (dr dc : Int) : Bool := ((zrg dr).all fun x => (zrg dc).all fun y => !gT dr dc x y || ((insD dr dc).contains (8 * x + y) && decide (crx dc (8 * x + y) = x ∧ cry dc (8 * x + y) = y))) && ((insD dr dc).all fun p => gT dr dc (crx dc p) (cry dc p) && decide (8 * crx dc p + cry dc p = p)) && decide ((insD dr dc).Pairwise (fun p q => zstZ dc p < zstZ dc q))
theorem chkEE : ∀ a : Nat, a < 15 → ∀ b : Nat, b < 15 → chkE ((a : Int) - 7) ((b : Int) - 7) = true := by decide +kernel
def zstN (f c : Nat) : Int := zab (zRw f - zRw c) + zab (zCl f - zCl c)
theorem size_z {z : Int} (h : zsm z) : m_X8_size (oI z) = oI (zab z) := by
  unfold m_X8_size zab
  by_cases q : 0 ≤ z
  · rw [if_pos ((oI_0le h).mpr q), if_pos q]
  · rw [if_neg (fun w => q ((oI_0le h).mp w)), if_neg q, Int.zero_sub]
    exact (Int32.ofInt_neg z).symm
theorem steps_z {f c : Nat} (hf : f < 64) (hc : c < 64) : m_X8_steps (nI f) (nI c) = oI (zstN f c) := by
  have bf := zRw_b hf; have bc := zRw_b hc
  have df := zCl_b f; have dc := zCl_b c
  unfold m_X8_steps zstN
  rw [zcl hf, zcl hc, zrw hf, zrw hc, oI_sub, oI_sub, size_z (zsm_of (by omega) (by omega)), size_z (zsm_of (by omega) (by omega)), oI_add]
theorem zstN_sm {f c : Nat} (hf : f < 64) (hc : c < 64) : zsm (zstN f c) := by
  have bf := zRw_b hf; have bc := zRw_b hc
  have df := zCl_b f; have dc := zCl_b c
  have a1 := zab_b (d := zRw f - zRw c) (by omega)
  have a2 := zab_b (d := zCl f - zCl c) (by omega)
  unfold zstN
  exact zsm_of (by omega) (by omega)
theorem n4_ne {c : Nat} (h : c < 64) : nI c ≠ -4 := by
  intro q
  have := congrArg Int32.toInt q
  rw [nI_toInt (by omega), show (-4 : Int32).toInt = -4 by decide] at this
  omega
theorem n1_ne {c : Nat} (h : c < 64) : nI c ≠ -1 := by
  intro q
  have := congrArg Int32.toInt q
  rw [nI_toInt (by omega), show (-1 : Int32).toInt = -1 by decide] at this
  omega
theorem stops_char (RO : Nat → Int32) {f t : Nat} (hf : f < 64) (ht : t < 64) : ∀ n, n ≤ 64 → (itr (f_X8_stops_22 RO (nI f) (nI t)) n (-4) = -4 ∧ ∀ c, c < n → ¬ (m_X8_isDark (RO c) = true ∧ m_X8_goesThrough (nI f) (nI t) (nI c) = true)) ∨ ∃ c, c < n ∧ itr (f_X8_stops_22 RO (nI f) (nI t)) n (-4) = nI c ∧ (m_X8_isDark (RO c) = true ∧ m_X8_goesThrough (nI f) (nI t) (nI c) = true) ∧ ∀ c', c' < n → (m_X8_isDark (RO c') = true ∧ m_X8_goesThrough (nI f) (nI t) (nI c') = true) → zstN f c ≤ zstN f c' := by
  intro n
  induction n with
  | zero => intro _; exact Or.inl ⟨rfl, fun c h => by omega⟩
  | succ n ih =>
    intro hn
    have key : ∀ r : Int32, f_X8_stops_22 RO (nI f) (nI t) n r = if m_X8_isDark (RO n) = true ∧ m_X8_goesThrough (nI f) (nI t) (nI n) = true then (if r = (-4) then nI n else (if (m_X8_steps (nI f) r) ≤ (m_X8_steps (nI f) (nI n)) then r else nI n)) else r := by
      intro r
      simp only [f_X8_stops_22, o0 n (by omega)]
      cases m_X8_isDark (RO n) <;> cases m_X8_goesThrough (nI f) (nI t) (nI n) <;> simp
    rw [show itr (f_X8_stops_22 RO (nI f) (nI t)) (n + 1) (-4) = f_X8_stops_22 RO (nI f) (nI t) n (itr (f_X8_stops_22 RO (nI f) (nI t)) n (-4)) from rfl]
    rcases ih (by omega) with ⟨e, h⟩ | ⟨c, hc, e, hS, hm⟩
    · rw [e, key]
      by_cases q : m_X8_isDark (RO n) = true ∧ m_X8_goesThrough (nI f) (nI t) (nI n) = true
      · rw [if_pos q, if_pos rfl]
        refine Or.inr ⟨n, by omega, rfl, q, fun c' h1 h2 => ?_⟩
        by_cases w : c' = n
        · rw [w]; exact Int.le_refl _
        · exact absurd h2 (h c' (by omega))
      · rw [if_neg q]
        refine Or.inl ⟨rfl, fun c' h1 => ?_⟩
        by_cases w : c' = n
        · rw [w]; exact q
        · exact h c' (by omega)
    · rw [e, key]
      by_cases q : m_X8_isDark (RO n) = true ∧ m_X8_goesThrough (nI f) (nI t) (nI n) = true
      · rw [if_pos q, if_neg (n4_ne (by omega)), steps_z hf (by omega), steps_z hf (by omega)]
        simp only [oI_le (zstN_sm hf (show c < 64 by omega)) (zstN_sm hf (show n < 64 by omega))]
        by_cases w : zstN f c ≤ zstN f n
        · rw [if_pos w]
          refine Or.inr ⟨c, by omega, rfl, hS, fun c' h1 h2 => ?_⟩
          by_cases w2 : c' = n
          · rw [w2]; exact w
          · exact hm c' (by omega) h2
        · rw [if_neg w]
          refine Or.inr ⟨n, by omega, rfl, q, fun c' h1 h2 => ?_⟩
          by_cases w2 : c' = n
          · rw [w2]; exact Int.le_refl _
          · have := hm c' (by omega) h2; omega
      · rw [if_neg q]
        refine Or.inr ⟨c, by omega, rfl, hS, fun c' h1 h2 => ?_⟩
        by_cases w2 : c' = n
        · rw [w2] at h2; exact absurd h2 q
        · exact hm c' (by omega) h2
theorem zab_swap (a b : Int) : zab (a - b) = zab (b - a) := by unfold zab; split <;> split <;> omega
theorem stops_eq {RO K : Nat → Int32} (hK : ∀ i : Nat, i < 64 → RO i = K i) {f t : Nat} (hf : f < 64) (ht : t < 64) : itr (f_X8_stops_22 RO (nI f) (nI t)) 64 (-4) = m_X3_firstStop K (nI f) (nI t) := by
  rw [first_c K hf ht]
  have cE := of15 (P := fun dr dc => chkE dr dc = true) chkEE (dr_b hf ht) (dc_b f t)
  obtain ⟨cE, cP⟩ := (Bool.and_eq_true _ _).mp cE
  obtain ⟨cA, cB⟩ := (Bool.and_eq_true _ _).mp cE
  have cP := of_decide_eq_true cP
  -- a cell that stops the line lies on the way
  have up : ∀ c : Nat, c < 64 → (m_X8_isDark (RO c) = true ∧ m_X8_goesThrough (nI f) (nI t) (nI c) = true) → (8 * (zRw c - zRw f) + (zCl c - zCl f)) ∈ insD (zRw t - zRw f) (zCl t - zCl f) ∧ zS K f (8 * (zRw c - zRw f) + (zCl c - zCl f)) = true ∧ zstZ (zCl t - zCl f) (8 * (zRw c - zRw f) + (zCl c - zCl f)) = zstN f c ∧ (f : Int) + (8 * (zRw c - zRw f) + (zCl c - zCl f)) = c := by
    intro c hc hS
    have e3 : (f : Int) + (8 * (zRw c - zRw f) + (zCl c - zCl f)) = c := by have := zRC f; have := zRC c; omega
    have hg := hS.2
    rw [gT_z hf ht hc] at hg
    obtain ⟨x1, y1⟩ := gT_box hg
    have := List.all_eq_true.mp (List.all_eq_true.mp cA _ (zrg_of x1)) _ (zrg_of y1)
    rw [hg] at this
    obtain ⟨q1, q2⟩ := (Bool.and_eq_true _ _).mp ((Bool.or_eq_true _ _).mp this |>.resolve_left (by decide))
    have q2 := of_decide_eq_true q2
    refine ⟨List.contains_iff_mem.mp q1, ?_, ?_, e3⟩
    · rw [zS_c K hc e3, ← hK c hc]; exact hS.1
    · unfold zstZ zstN
      rw [q2.1, q2.2, zab_swap (zRw c), zab_swap (zCl c)]
  -- and what stops the way is such a cell
  have dn : ∀ p, p ∈ insD (zRw t - zRw f) (zCl t - zCl f) → zS K f p = true → ∃ c : Nat, c < 64 ∧ (f : Int) + p = c ∧ (m_X8_isDark (RO c) = true ∧ m_X8_goesThrough (nI f) (nI t) (nI c) = true) ∧ p = 8 * (zRw c - zRw f) + (zCl c - zCl f) := by
    intro p hp hs
    have := List.all_eq_true.mp cB p hp
    obtain ⟨q1, q2⟩ := (Bool.and_eq_true _ _).mp this
    have q2 := of_decide_eq_true q2
    obtain ⟨x1, y1⟩ := gT_box q1
    obtain ⟨c, hc, e1, e2, e3⟩ := zbox hf ht (zrg_of x1) (zrg_of y1)
    rw [q2] at e3
    refine ⟨c, hc, e3, ⟨?_, ?_⟩, ?_⟩
    · rw [zS_c K hc e3] at hs; rw [hK c hc]; exact hs
    · rw [gT_z hf ht hc, e1, e2]; exact q1
    · rw [e1, e2]; exact q2.symm
  cases hq : (insD (zRw t - zRw f) (zCl t - zCl f)).find? (fun p => zS K f p) with
  | none =>
    have hn := List.find?_eq_none.mp hq
    rcases stops_char RO hf ht 64 (Nat.le_refl _) with ⟨e, -⟩ | ⟨c, hc, e, hS, -⟩
    · exact e
    · obtain ⟨u1, u2, -, -⟩ := up c hc hS
      exact absurd u2 (hn _ u1)
  | some p =>
    obtain ⟨hs, as, bs, hl, ha⟩ := List.find?_eq_some_iff_append.mp hq
    have hp : p ∈ insD (zRw t - zRw f) (zCl t - zCl f) := by rw [hl]; exact List.mem_append_right _ (List.mem_cons_self ..)
    obtain ⟨c, hc, e3, hS, ep⟩ := dn p hp hs
    have v1 : fndZ f (some p) = nI c := by show oI (f + p) = nI c; rw [e3, ← nI_oI]
    rw [v1]
    rcases stops_char RO hf ht 64 (Nat.le_refl _) with ⟨-, h⟩ | ⟨c', hc', e, hS', hm⟩
    · exact absurd hS (h c hc)
    · rw [e]
      obtain ⟨u1, u2, u3, u4⟩ := up c' hc' hS'
      obtain ⟨w1, w2, w3, w4⟩ := up c hc hS
      rw [hl] at u1 cP
      have := (List.pairwise_append.mp cP).2.1
      rw [List.pairwise_cons] at this
      rcases List.mem_append.mp u1 with u1 | u1
      · have := ha _ u1
        rw [u2] at this; exact absurd this (by decide)
      · rcases List.mem_cons.mp u1 with u1 | u1
        · have : (c' : Int) = c := by rw [← u4, ← e3, u1]
          rw [Int.ofNat_inj.mp this]
        · have q := this.1 _ u1
          rw [u3, ep, w3] at q
          have := hm c hc hS
          omega
