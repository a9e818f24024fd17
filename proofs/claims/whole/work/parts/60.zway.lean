/-! the way of least exposure, told from the goal -/
section WAY
variable {op : Nat → Bool} {lt : Nat → Int} {g : Nat}
theorem nb_sym {u v d : Nat} (hu : u < 64) (hd : d < 4) (hv : v < 64) (h : nbN u d = v) : ∃ e, e < 4 ∧ nbN v e = u := by
  rcases nbN_tab u hu d hd with ⟨-, -, h3⟩ | ⟨-, -, -, h4⟩
  · omega
  · rw [h] at h4; exact ⟨(d + 2) % 4, by omega, h4⟩
theorem fF_open (hg : op g = true) {L : Nat → Int} (hI : dInv (eF op) (wF lt) g L) {v : Nat} (hv : v < 64) (hf : L v < 1000000) : op v = true := by
  by_cases e : v = g
  · rw [e]; exact hg
  · obtain ⟨u, hu, hE, -, -⟩ := hI.2.2.2 v hv e hf
    exact hE.2
theorem way_up (hlt : ∀ v, v < 64 → 0 ≤ lt v ∧ lt v ≤ 216) (hgl : g < 64) {L E : Nat → Int} (hL : dInv (eF op) (wF lt) g L) (hLF : dFix (eF op) (wF lt) L) (hE : dInv (eT op) (wT lt) g E) : ∀ (n v : Nat), v < 64 → op v = true → E v < 1000000 → (E v).toNat ≤ n → L v ≤ E v + lt v - lt g ∧ L v < 1000000 := by
  intro n
  induction n with
  | zero =>
    intro v hv ho hf hn
    have bv := hE.2.1 v hv
    by_cases e : v = g
    · subst e; have := hL.1; have := hE.1; omega
    · obtain ⟨u, hu, hE', hfu, hle⟩ := hE.2.2.2 v hv e hf
      have := dW_T (op := op) hlt u v hu hv hE'
      have := (hE.2.1 u hu).1
      omega
  | succ n ih =>
    intro v hv ho hf hn
    have bv := hE.2.1 v hv
    by_cases e : v = g
    · subst e; have := hL.1; have := hE.1; omega
    · obtain ⟨u, hu, hE', hfu, hle⟩ := hE.2.2.2 v hv e hf
      have h1 : wT lt u v = 1 + lt u := rfl
      have h2 := hlt u hu
      have h3 := hlt v hv
      have h4 := hlt g hgl
      have h5 := (hE.2.1 u hu).1
      obtain ⟨⟨d, hd, hn'⟩, hou⟩ := hE'
      obtain ⟨i1, i2⟩ := ih u hu hou hfu (by omega)
      obtain ⟨e', he', hs⟩ := nb_sym hv hd hu hn'
      have hEF : eF op u v := ⟨⟨e', he', hs⟩, ho⟩
      have k1 := hLF u v hu hv hEF i2
      have k2 := fin_cl (dW_F hlt) hL hLF u v hu hv hEF i2
      have k3 : wF lt u v = 1 + lt v := rfl
      exact ⟨by omega, k2⟩
theorem way_dn (hlt : ∀ v, v < 64 → 0 ≤ lt v ∧ lt v ≤ 216) (hgl : g < 64) (hg : op g = true) {L E : Nat → Int} (hL : dInv (eF op) (wF lt) g L) (hE : dInv (eT op) (wT lt) g E) (hEF : dFix (eT op) (wT lt) E) : ∀ (n v : Nat), v < 64 → L v < 1000000 → (L v).toNat ≤ n → E v ≤ L v - lt v + lt g ∧ E v < 1000000 := by
  intro n
  induction n with
  | zero =>
    intro v hv hf hn
    have bv := hL.2.1 v hv
    by_cases e : v = g
    · subst e; have := hL.1; have := hE.1; omega
    · obtain ⟨u, hu, hE', hfu, hle⟩ := hL.2.2.2 v hv e hf
      have := dW_F (op := op) hlt u v hu hv hE'
      have := (hL.2.1 u hu).1
      omega
  | succ n ih =>
    intro v hv hf hn
    have bv := hL.2.1 v hv
    by_cases e : v = g
    · subst e; have := hL.1; have := hE.1; omega
    · obtain ⟨u, hu, hE', hfu, hle⟩ := hL.2.2.2 v hv e hf
      have h1 : wF lt u v = 1 + lt v := rfl
      have h2 := hlt u hu
      have h3 := hlt v hv
      have h4 := hlt g hgl
      have h5 := (hL.2.1 u hu).1
      have hou := fF_open hg hL hu hfu
      obtain ⟨⟨d, hd, hn'⟩, -⟩ := hE'
      obtain ⟨i1, i2⟩ := ih u hu hfu (by omega)
      obtain ⟨e', he', hs⟩ := nb_sym hu hd hv hn'
      have hET : eT op u v := ⟨⟨e', he', hs⟩, hou⟩
      have k1 := hEF u v hu hv hET i2
      have k2 := fin_cl (dW_T hlt) hE hEF u v hu hv hET i2
      have k3 : wT lt u v = 1 + lt u := rfl
      exact ⟨by omega, k2⟩
/-- the two rows of costs -/
theorem way_eq (hlt : ∀ v, v < 64 → 0 ≤ lt v ∧ lt v ≤ 216) (hgl : g < 64) (hg : op g = true) {L E : Nat → Int} (hL : dInv (eF op) (wF lt) g L) (hLF : dFix (eF op) (wF lt) L) (hE : dInv (eT op) (wT lt) g E) (hEF : dFix (eT op) (wT lt) E) {v : Nat} (hv : v < 64) (ho : op v = true) : (L v < 1000000 ↔ E v < 1000000) ∧ (L v < 1000000 → L v = E v + lt v - lt g) := by
  refine ⟨⟨fun h => (way_dn hlt hgl hg hL hE hEF _ v hv h (Nat.le_refl _)).2, fun h => (way_up hlt hgl hL hLF hE _ v hv ho h (Nat.le_refl _)).2⟩, fun h => ?_⟩
  have a := way_dn hlt hgl hg hL hE hEF _ v hv h (Nat.le_refl _)
  have b := way_up hlt hgl hL hLF hE _ v hv ho a.2 (Nat.le_refl _)
  omega
end WAY
/-- the first direction that is right -/
def fstD (p : Nat → Bool) (r : Nat → Int32) : Nat → Nat → Option Int32
  | 0, _ => none
  | n + 1, d => if p d = true then some (r d) else fstD p r n (d + 1)
theorem fst_lp {p : Nat → Bool} {r : Nat → Int32} {f : Nat → Unit → (Int32 ⊕ Unit) ⊕ Unit} {z : Int32} (N : Nat) (h : ∀ d, d < N → f d () = if p d = true then .inl (.inl (r d)) else .inr ()) : ∀ n d, d + n = N → lpr (lpx f n d ()) id (fun _ => z) = (fstD p r n d).getD z := by
  intro n
  induction n with
  | zero => intro d _; rfl
  | succ n ih =>
    intro d hd
    rw [lpx, fstD, h d (by omega)]
    by_cases c : p d = true
    · rw [if_pos c, if_pos c]; rfl
    · rw [if_neg c, if_neg c]; exact ih (d + 1) (by omega)
theorem fst_ex {p : Nat → Bool} {r : Nat → Int32} : ∀ n d, (∃ e, d ≤ e ∧ e < d + n ∧ p e = true) → ∃ e, d ≤ e ∧ e < d + n ∧ p e = true ∧ fstD p r n d = some (r e) := by
  intro n
  induction n with
  | zero => rintro d ⟨e, h1, h2, -⟩; omega
  | succ n ih =>
    rintro d ⟨e, h1, h2, h3⟩
    rw [fstD]
    by_cases c : p d = true
    · rw [if_pos c]; exact ⟨d, Nat.le_refl _, by omega, c, rfl⟩
    · rw [if_neg c]
      obtain ⟨e', g1, g2, g3, g4⟩ := ih (d + 1) ⟨e, by
        by_cases w : e = d
        · rw [w] at h3; exact absurd h3 c
        · omega, by omega, h3⟩
      exact ⟨e', by omega, by omega, g3, g4⟩
section WAY2
variable {RO LE C PR SH : Nat → Int32} {g : Nat}
/-- the step onward, told in both ways -/
theorem next_both (hlt : ∀ v, v < 64 → 0 ≤ cC SH v ∧ cC SH v ≤ 216) (hgl : g < 64) (hg : opM RO g = true) (hPR : prOK (opM RO) (cC SH) PR) (hO : mOK C) (hL : dInv (eF (opM RO)) (wF (cC SH)) g (cC LE)) (hLF : dFix (eF (opM RO)) (wF (cC SH)) (cC LE)) (hE : dInv (eT (opM RO)) (wT (cC SH)) g (mC C)) (hEF : dFix (eT (opM RO)) (wT (cC SH)) (mC C)) {x : Nat} (hx : x < 64) (ho : opM RO x = true) (hf : mC C x < 1000000) (hne : x ≠ g) :
    ∃ y, y < 64 ∧ opM RO y = true ∧ mC C y < mC C x ∧ m_X8_onward RO SH C (nI x) = nI y ∧ m_X6_nextOnWay PR LE (nI x) = nI y := by
  have weq := fun {v : Nat} (hv : v < 64) (ho : opM RO v = true) => way_eq hlt hgl hg hL hLF hE hEF hv ho
  obtain ⟨wx1, wx2⟩ := weq hx ho
  have fx := wx1.mpr hf
  have wx := wx2 fx
  have bx := hlt x hx
  have bg := hlt g hgl
  have tx := dInv_top hE hx hf
  have lx := dInv_top hL hx fx
  have cx : C x ≠ -4 := fun q => by
    have : mC C x = 1000000 := by unfold mC; rw [if_pos q]
    omega
  have mx := (mC_fin hO hx cx).1
  have okx := (hE.2.1 x hx).1
  let p : Nat → Bool := fun d => decide (nbN x d < 64) && (opM RO (nbN x d) && (decide (mC C (nbN x d) < 1000000) && decide (mC C (nbN x d) + 1 + cC SH (nbN x d) = mC C x)))
  have hp : ∀ d, p d = true ↔ (nbN x d < 64 ∧ opM RO (nbN x d) = true ∧ mC C (nbN x d) < 1000000 ∧ mC C (nbN x d) + 1 + cC SH (nbN x d) = mC C x) := fun d => by
    show (decide (nbN x d < 64) && (opM RO (nbN x d) && (decide (mC C (nbN x d) < 1000000) && decide (mC C (nbN x d) + 1 + cC SH (nbN x d) = mC C x)))) = true ↔ _
    simp only [Bool.and_eq_true, decide_eq_true_eq]
  have cxn := nI_clamp (show x < 2 ^ 31 by omega)
  have model : ∀ d, d < 4 → f_X8_onward_2 RO SH C (nI x) d () = if p d = true then .inl (.inl (nI (nbN x d))) else .inr () := by
    intro d hd
    rcases nbN_tab x hx d hd with ⟨-, h2, h3⟩ | ⟨h1, -, h3, -⟩
    · rw [if_neg (fun q => by have := ((hp d).mp q).1; omega)]
      simp only [f_X8_onward_2, canGo_nb RO hx hd, h3]; rfl
    · by_cases c1 : opM RO (nbN x d) = true
      · have cn := nI_clamp (show nbN x d < 2 ^ 31 by omega)
        by_cases c2 : C (nbN x d) = -4
        · rw [if_neg (fun q => by
            have := ((hp d).mp q).2.2.1
            have m : mC C (nbN x d) = 1000000 := by unfold mC; rw [if_pos c2]
            omega)]
          simp only [f_X8_onward_2, canGo_nb RO hx hd, h3, c1, decide_eq_true h1, cn, c2, if_neg (n4_ne h1)]; rfl
        · obtain ⟨my, fy⟩ := mC_fin hO h1 c2
          have ty := dInv_top hE h1 fy
          have by0 := (hE.2.1 _ h1).1
          have bl := hlt _ h1
          have cmp : (((C (nbN x d)) + 1) + (SH (nbN x d))) = C x ↔ mC C (nbN x d) + 1 + cC SH (nbN x d) = mC C x := by
            have e1 : ((C (nbN x d)) + 1) + (SH (nbN x d)) = oI (mC C (nbN x d) + 1 + cC SH (nbN x d)) := by
              rw [oI_of (C (nbN x d)), oI_of (SH (nbN x d)), oI_l1, oI_add, oI_add, my]; rfl
            have e2 : C x = oI (mC C x) := by rw [mx]; exact oI_of _
            rw [e1, e2, oI_eq (zsm_of (by omega) (by omega)) (zsm_of (by omega) (by omega))]
          by_cases c3 : mC C (nbN x d) + 1 + cC SH (nbN x d) = mC C x
          · rw [if_pos ((hp d).mpr ⟨h1, c1, fy, c3⟩)]
            simp only [f_X8_onward_2, canGo_nb RO hx hd, h3, c1, decide_eq_true h1, cn, cxn, if_neg c2, if_neg (n4_ne h1), if_pos (cmp.mpr c3)]; rfl
          · rw [if_neg (fun q => c3 ((hp d).mp q).2.2.2)]
            simp only [f_X8_onward_2, canGo_nb RO hx hd, h3, c1, decide_eq_true h1, cn, cxn, if_neg c2, if_neg (n4_ne h1), if_neg (fun q => c3 (cmp.mp q))]; rfl
      · have c1' : opM RO (nbN x d) = false := by cases q : opM RO (nbN x d) with
          | false => rfl
          | true => exact absurd q c1
        rw [if_neg (fun q => c1 ((hp d).mp q).2.1)]
        simp only [f_X8_onward_2, canGo_nb RO hx hd, c1', Bool.and_false]; rfl
  have prx : PR x = oI (1 + cC SH x) := by rw [hPR x hx, if_pos ho]
  have clas : ∀ d, d < 4 → f_X6_nextOnWay_2 PR LE (nI x) d () = if p d = true then .inl (.inl (nI (nbN x d))) else .inr () := by
    intro d hd
    rcases nbN_tab x hx d hd with ⟨h2, -, h3⟩ | ⟨h1, h3, -, -⟩
    · rw [if_neg (fun q => by have := ((hp d).mp q).1; omega)]
      simp only [f_X6_nextOnWay_2, if_pos h2]
    · have cn := nI_clamp (show nbN x d < 2 ^ 31 by omega)
      have bl := hlt _ h1
      have bL := hL.2.1 _ h1
      have cmp : (LE (nbN x d) + PR x) = LE x ↔ cC LE (nbN x d) + (1 + cC SH x) = cC LE x := by
        rw [show LE (nbN x d) = oI (cC LE (nbN x d)) from oI_of _, prx, show LE x = oI (cC LE x) from oI_of _, oI_add, oI_eq ⟨by omega, by omega⟩ ⟨by omega, by omega⟩]
      have eqv : (cC LE (nbN x d) + (1 + cC SH x) = cC LE x) ↔ p d = true := by
        rw [hp d]
        constructor
        · intro q
          have fy : cC LE (nbN x d) < 1000000 := by omega
          have oy := fF_open hg hL h1 fy
          obtain ⟨w1, w2⟩ := weq h1 oy
          have := w2 fy
          exact ⟨h1, oy, w1.mp fy, by omega⟩
        · rintro ⟨-, oy, fy, q⟩
          obtain ⟨w1, w2⟩ := weq h1 oy
          have := w2 (w1.mpr fy)
          omega
      by_cases c : p d = true
      · rw [if_pos c]
        simp only [f_X6_nextOnWay_2, h3, cn, cxn, if_neg (n1_ne h1), if_pos (cmp.mpr (eqv.mpr c))]
      · rw [if_neg c]
        simp only [f_X6_nextOnWay_2, h3, cn, cxn, if_neg (n1_ne h1), if_neg (fun q => c (eqv.mp (cmp.mp q)))]
  -- there is such a step
  obtain ⟨u, hu, hEe, hfu, hle⟩ := hE.2.2.2 x hx hne hf
  have hEe' := hEe
  obtain ⟨⟨d, hd, hn⟩, hou⟩ := hEe'
  have lo := hEF u x hu hx hEe hfu
  have wu : wT (cC SH) u x = 1 + cC SH u := rfl
  have pd : p d = true := (hp d).mpr ⟨by rw [hn]; exact hu, by rw [hn]; exact hou, by rw [hn]; exact hfu, by rw [hn]; omega⟩
  obtain ⟨e, -, he, hpe, hfs⟩ := fst_ex (p := p) (r := fun d => nI (nbN x d)) 4 0 ⟨d, Nat.zero_le _, by omega, pd⟩
  obtain ⟨q1, q2, q3, q4⟩ := (hp e).mp hpe
  have bl := hlt _ q1
  refine ⟨nbN x e, q1, q2, by omega, ?_, ?_⟩
  · unfold m_X8_onward
    have := fst_lp (p := p) (r := fun d => nI (nbN x d)) (z := -4) 4 model 4 0 rfl
    rw [hfs] at this
    exact this
  · unfold m_X6_nextOnWay
    have := fst_lp (p := p) (r := fun d => nI (nbN x d)) (z := nI x) 4 clas 4 0 rfl
    rw [hfs] at this
    exact this
end WAY2
/-- steps along a way up to a goal -/
def wlk (ν : Nat → Nat) (g : Nat) : Nat → Nat → Option Nat
  | 0, x => some x
  | n + 1, x => if x = g then none else wlk ν g n (ν x)
def zoN (o : Option Nat) : Int32 := match o with
  | none => -4
  | some c => nI c
theorem wlk_m {RO SH C : Nat → Int32} {g : Nat} (hg : g < 64) {ν : Nat → Nat} {good : Nat → Prop} (hν : ∀ x, good x → x ≠ g → good (ν x) ∧ m_X8_onward RO SH C (nI x) = nI (ν x)) (hgd : ∀ x, good x → x < 64) : ∀ n k x, good x → lpr (lpx (f_X8_way_53 RO (nI g) (SH, C)) n k (nI x)) id (fun t => t) = zoN (wlk ν g n x) := by
  intro n
  induction n with
  | zero => intro k x _; rfl
  | succ n ih =>
    intro k x h
    have hx := hgd x h
    rw [lpx, wlk]
    have e : f_X8_way_53 RO (nI g) (SH, C) k (nI x) = if x = g then .inr (-4) else .inr (m_X8_onward RO SH C (nI x)) := by
      simp only [f_X8_way_53, if_neg (n4_ne hx), nI_eq (show x < 2 ^ 31 by omega) (show g < 2 ^ 31 by omega)]
    rw [e]
    by_cases c : x = g
    · rw [if_pos c, if_pos c]
      cases n with
      | zero => rfl
      | succ n =>
        show lpr (lpx (f_X8_way_53 RO (nI g) (SH, C)) (n + 1) (k + 1) (-4)) id (fun t => t) = -4
        rw [lpx, show f_X8_way_53 RO (nI g) (SH, C) (k + 1) (-4) = .inl (.inr (-4)) by simp only [f_X8_way_53, if_true]]
        rfl
    · obtain ⟨h1, h2⟩ := hν x h c
      rw [if_neg c, if_neg c, h2]
      exact ih (k + 1) (ν x) h1
theorem wlk_c {PR LE : Nat → Int32} {g i : Nat} (hg : g < 64) (hi : i < 64) {ν : Nat → Nat} {good : Nat → Prop} (hν : ∀ x, good x → x ≠ g → good (ν x) ∧ m_X6_nextOnWay PR LE (nI x) = nI (ν x)) (hgd : ∀ x, good x → x < 64) : ∀ n k x, k + n = 64 → k ≤ i → good x → lpr (lpx (f_X6_cellOnWay_20 PR LE (nI g) (nI i)) n k (nI x)) id (fun t => t) = zoN (wlk ν g (i - k) x) := by
  intro n
  induction n with
  | zero => intro k x h1 h2 _; omega
  | succ n ih =>
    intro k x h1 h2 h
    have hx := hgd x h
    rw [lpx]
    by_cases c0 : i ≤ k
    · have e : f_X6_cellOnWay_20 PR LE (nI g) (nI i) k (nI x) = .inl (.inr (nI x)) := by
        simp only [f_X6_cellOnWay_20]; rw [if_pos ((nI_leI (by omega) (by omega)).mpr c0)]
      rw [e, show i - k = 0 by omega]
      rfl
    · obtain ⟨j, hj⟩ : ∃ j, i - k = j + 1 := ⟨i - k - 1, by omega⟩
      rw [hj, wlk]
      have e : f_X6_cellOnWay_20 PR LE (nI g) (nI i) k (nI x) = if x = g then .inl (.inl (-4)) else .inr (m_X6_nextOnWay PR LE (nI x)) := by
        simp only [f_X6_cellOnWay_20, nI_leI (show i < 2 ^ 31 by omega) (show k < 2 ^ 31 by omega), if_neg c0, nI_eq (show x < 2 ^ 31 by omega) (show g < 2 ^ 31 by omega)]
      rw [e]
      by_cases c : x = g
      · rw [if_pos c, if_pos c]; rfl
      · obtain ⟨g1, g2⟩ := hν x h c
        rw [if_neg c, if_neg c, g2]
        have := ih (k + 1) (ν x) (by omega) (by omega) g1
        rw [show i - (k + 1) = j by omega] at this
        exact this
/-- a way has at most 64 cells -/
theorem wlk_end {ν : Nat → Nat} {g : Nat} {cost : Nat → Int} {good : Nat → Prop} (hν : ∀ x, good x → x ≠ g → good (ν x) ∧ cost (ν x) < cost x) (hgd : ∀ x, good x → x < 64) : ∀ n x, good x → cntB (fun v => decide (cost v ≤ cost x)) 64 ≤ n → wlk ν g n x = none := by
  intro n
  induction n with
  | zero =>
    intro x h hc
    have := cntB_pos (p := fun v => decide (cost v ≤ cost x)) (x := x) (decide_eq_true (Int.le_refl _)) 64 (hgd x h)
    omega
  | succ n ih =>
    intro x h hc
    rw [wlk]
    by_cases c : x = g
    · rw [if_pos c]
    · rw [if_neg c]
      obtain ⟨h1, h2⟩ := hν x h c
      refine ih (ν x) h1 ?_
      have := cntB_more (p := fun v => decide (cost v ≤ cost (ν x))) (q := fun v => decide (cost v ≤ cost x)) (x := x) (by simp only [decide_eq_true_eq]; omega) (decide_eq_true (Int.le_refl _)) 64 (hgd x h) (fun v _ hp => by
        have := of_decide_eq_true hp
        exact decide_eq_true (by omega))
      omega
theorem wlk_more {ν : Nat → Nat} {g : Nat} : ∀ n m x, wlk ν g n x = none → n ≤ m → wlk ν g m x = none := by
  intro n
  induction n with
  | zero => intro m x h; cases h
  | succ n ih =>
    intro m x h hm
    obtain ⟨m', rfl⟩ : ∃ m', m = m' + 1 := ⟨m - 1, by omega⟩
    rw [wlk] at h ⊢
    by_cases c : x = g
    · rw [if_pos c]
    · rw [if_neg c] at h ⊢
      exact ih m' (ν x) h (by omega)
