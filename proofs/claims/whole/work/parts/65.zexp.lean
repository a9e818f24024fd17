section EXPO
variable {n w d t : Nat} {K LC LS LF RO : Nat → Int32}
theorem weigh_ok (h : zRT n w d t K LC LS LF RO) (PR LG : Nat → Int32) : prOK (opM RO) (cC (m_X8_shine RO LG)) (m_X6_weigh PR (nI n) K LC LS LF) := by
  obtain ⟨hK, hL, h1, -⟩ := h
  intro v hv
  have key := sh_out (f := f_X6_weigh_2 (nI n) K LC LS LF) (v := fun k => if (m_X0_stopsFeet (K k)) = false then 1 + (m_X2_at (nI n) K LC LS LF (nI k)) else (0 : Int32)) (fun k s x hk => by
    simp only [f_X6_weigh_2, nI_clamp (show k < 2 ^ 31 by omega)]) PR 64 (Nat.le_refl _) v
  rw [if_pos hv] at key
  have b := smN_216 (K := K) hL (sp := 0) hv
  refine key.trans ?_
  unfold opM cC
  rw [hK v hv, shine8_z hK hL h1 LG hv, at_z hL hv, nI_toInt (by omega)]
  show (if m_X0_stopsFeet (K v) = false then _ else _) = if (!(m_X0_stopsFeet (K v))) = true then _ else _
  cases m_X0_stopsFeet (K v)
  · rw [if_pos rfl, if_pos (show (!false) = true from rfl), nI_oI, oI_l1, oI_add]
  · rfl
theorem lt_ok (h : zRT n w d t K LC LS LF RO) (LG : Nat → Int32) : ∀ v, v < 64 → 0 ≤ cC (m_X8_shine RO LG) v ∧ cC (m_X8_shine RO LG) v ≤ 216 := by
  obtain ⟨hK, hL, h1, -⟩ := h
  exact shine8_b hK hL h1 LG
theorem exposure_eq (h : zRT n w d t K LC LS LF RO) (PR LE SE LG CO : Nat → Int32) (v1 v2 : Int32) : m_X7_exposure (nI n) (nI w) K LC LS LF PR LE SE v1 v2 = m_X8_exposure RO LG CO v1 v2 := by
  have pr := weigh_ok h PR LG
  have lt := lt_ok h LG
  obtain ⟨hK, hL, h1, ⟨hw, h2, -⟩, -, -⟩ := h
  by_cases q1 : m_X0_isCell v1 = false
  · unfold m_X7_exposure m_X8_exposure
    rw [isCell_eq, if_pos q1, if_pos q1]
  · by_cases q2 : m_X7_isWithin v2 0 1 = false
    · unfold m_X7_exposure m_X8_exposure
      rw [isCell_eq, in_eq7, if_neg q1, if_neg q1, if_pos q2, if_pos q2]
    · have e7 : m_X7_exposure (nI n) (nI w) K LC LS LF PR LE SE v1 v2 = m_X6_leastTo (if v2 = 0 then (m_X6_settleFrom (m_X6_weigh PR (nI n) K LC LS LF) LE SE (nI w)).1 else (m_X6_lessenFrom (m_X6_weigh PR (nI n) K LC LS LF) LE SE (nI w)).1) v1 := by
        simp only [m_X7_exposure]; rw [if_neg q1, if_neg q2]
      have e8 : m_X8_exposure RO LG CO v1 v2 = (m_X8_lookFrom RO LG CO (RO 147)).2 v1.toNatClampNeg := by
        simp only [m_X8_exposure]; rw [isCell_eq, in_eq7, if_neg q1, if_neg q2]
      obtain ⟨c, hc, rfl⟩ := isCell_of q1
      obtain ⟨C, e, hO, hI, hF⟩ := lookFrom_spec (RO := RO) (LG := LG) (CO := CO) hw lt
      rw [e7, e8, h2, e, nI_clamp (show c < 2 ^ 31 by omega)]
      by_cases q3 : v2 = 0
      · rw [if_pos q3]
        obtain ⟨g1, g2⟩ := settle_spec lt pr hw LE SE
        exact least_eq (dW_F lt) hw hO hI hF g1 g2 hc
      · rw [if_neg q3]
        obtain ⟨g1, g2⟩ := lessen_spec lt pr hw LE SE
        exact least_eq (dW_F lt) hw hO hI hF g1 g2 hc
theorem way_m4 (RO SH C : Nat → Int32) (g : Int32) : ∀ n k, lpr (lpx (f_X8_way_53 RO g (SH, C)) n k (-4)) id (fun t => t) = -4
  | 0, _ => rfl
  | n + 1, k => by
    rw [lpx, show f_X8_way_53 RO g (SH, C) k (-4) = .inl (.inr (-4)) by simp only [f_X8_way_53, if_true]]
    rfl
/-- nothing comes to a goal that stops feet -/
theorem closed_inf {op : Nat → Bool} {lt : Nat → Int} {g : Nat} (hlt : ∀ v, v < 64 → 0 ≤ lt v ∧ lt v ≤ 216) (hg : ¬ op g = true) {E : Nat → Int} (hE : dInv (eT op) (wT lt) g E) : ∀ (n v : Nat), v < 64 → v ≠ g → (E v).toNat ≤ n → ¬ E v < 1000000 := by
  intro n
  induction n with
  | zero =>
    intro v hv hne hn hf
    obtain ⟨u, hu, hE', hfu, hle⟩ := hE.2.2.2 v hv hne hf
    have := dW_T (op := op) hlt u v hu hv hE'
    have := (hE.2.1 u hu).1
    have := (hE.2.1 v hv).1
    omega
  | succ n ih =>
    intro v hv hne hn hf
    obtain ⟨u, hu, hE', hfu, hle⟩ := hE.2.2.2 v hv hne hf
    have h1 := dW_T (op := op) hlt u v hu hv hE'
    have h2 := (hE.2.1 u hu).1
    have ne : u ≠ g := fun e => hg (by rw [← e]; exact hE'.2)
    exact ih u hu ne (by omega) hfu
theorem wayA_eq (h : zRT n w d t K LC LS LF RO) (PR LE SE LG CO : Nat → Int32) (v1 v2 : Int32) : m_X7_way (nI n) (nI w) K LC LS LF PR LE SE v1 v2 = m_X8_way RO LG CO v1 v2 := by
  have pr := weigh_ok h PR LG
  have lt := lt_ok h LG
  obtain ⟨hK, hL, h1, ⟨hw, h2, hwo⟩, -, -⟩ := h
  have hop := op_eq hK
  by_cases q1 : m_X0_isCell v1 = false
  · unfold m_X7_way m_X8_way
    rw [isCell_eq, if_pos q1, if_pos q1]
  by_cases q2 : 0 ≤ v2
  case neg =>
    unfold m_X7_way m_X8_way
    rw [isCell_eq, if_neg q1, if_neg q1, if_neg q2, if_neg q2]
  obtain ⟨g, hg, rfl⟩ := isCell_of q1
  have v0 : 0 ≤ v2.toInt := by rw [Int32.le_iff_toInt_le, Int32.toInt_zero] at q2; exact q2
  obtain ⟨i, hi⟩ : ∃ i, v2.toNatClampNeg = i := ⟨_, rfl⟩
  have hv2 : v2 = nI i := by rw [← hi]; exact cl_nI v0
  have i31 : i < 2 ^ 31 := by have := cl_toInt v0; have := fb_hi v2; omega
  obtain ⟨C, eL, hO, hI, hF⟩ := lookTo_spec (RO := RO) (LG := LG) (CO := CO) hg lt
  have e8 : m_X8_way RO LG CO (nI g) v2 = lpr (lpx (f_X8_way_53 RO (nI g) (m_X8_shine RO LG, C)) i 0 (if C w = -4 then (-4 : Int32) else nI w)) id (fun t19 => t19) := by
    simp only [m_X8_way]
    rw [isCell_eq, if_neg q1, if_pos q2, eL, hi, h2, nI_clamp (show w < 2 ^ 31 by omega)]
  have e7 : m_X7_way (nI n) (nI w) K LC LS LF PR LE SE (nI g) v2 = if i < 64 ∧ opC K g = true then m_X6_cellOnWay (m_X6_weigh PR (nI n) K LC LS LF) (m_X6_settleFrom (m_X6_weigh PR (nI n) K LC LS LF) LE SE (nI g)).1 (nI w) (nI g) (nI i) else -4 := by
    simp only [m_X7_way]
    rw [if_neg q1, if_pos q2, nI_clamp (show g < 2 ^ 31 by omega)]
    have e64 : (64 : Int32) ≤ v2 ↔ ¬ i < 64 := by
      rw [hv2, show (64 : Int32) = nI 64 from rfl, nI_leI (by decide) (by omega)]; omega
    simp only [e64]
    unfold opC
    by_cases c1 : i < 64
    · cases c2 : m_X0_stopsFeet (K g)
      · simp [c1, ← hv2]
      · simp [c1]
    · simp [c1]
  rw [e7, e8]
  by_cases cg : opC K g = true
  case neg =>
    rw [if_neg (fun q => cg q.2)]
    have inf := closed_inf lt (by rw [hop g hg]; exact cg) hI _ w hw (fun e => cg (by rw [← e]; exact hwo)) (Nat.le_refl _)
    have cw : C w = -4 := by
      by_cases q : C w = -4
      · exact q
      · exact absurd (mC_fin hO hw q).2 inf
    rw [if_pos cw, way_m4]
  have cg' : opM RO g = true := by rw [hop g hg]; exact cg
  obtain ⟨s1, s2⟩ := settle_spec lt pr hg LE SE
  generalize (m_X6_settleFrom (m_X6_weigh PR (nI n) K LC LS LF) LE SE (nI g)).1 = LL at s1 s2 ⊢
  have wo : opM RO w = true := by rw [hop w hw]; exact hwo
  obtain ⟨w1, w2⟩ := way_eq lt hg cg' s1 s2 hI hF hw wo
  have cb : LL w < 1000000 ↔ cC LL w < 1000000 := by rw [oI_mil, Int32.lt_iff_toInt_lt, oI_toInt (zsm_of (by omega) (by omega))]; rfl
  by_cases cw : C w = -4
  · rw [if_pos cw, way_m4]
    have m : mC C w = 1000000 := by unfold mC; rw [if_pos cw]
    by_cases c1 : i < 64
    · rw [if_pos ⟨c1, cg⟩]
      unfold m_X6_cellOnWay
      rw [nI_clamp (show w < 2 ^ 31 by omega), if_neg (fun q => by have := w1.mp (cb.mp q); omega)]
    · rw [if_neg (fun q => c1 q.1)]
  · rw [if_neg cw]
    have fw := (mC_fin hO hw cw).2
    have step := fun (x : Nat) (hx : x < 64 ∧ opM RO x = true ∧ mC C x < 1000000) (hne : x ≠ g) => next_both lt hg cg' pr hO s1 s2 hI hF hx.1 hx.2.1 hx.2.2 hne
    have st : ∀ x, (x < 64 ∧ opM RO x = true ∧ mC C x < 1000000) → x ≠ g → ((m_X8_onward RO (m_X8_shine RO LG) C (nI x)).toNatClampNeg < 64 ∧ opM RO (m_X8_onward RO (m_X8_shine RO LG) C (nI x)).toNatClampNeg = true ∧ mC C (m_X8_onward RO (m_X8_shine RO LG) C (nI x)).toNatClampNeg < 1000000) ∧ mC C (m_X8_onward RO (m_X8_shine RO LG) C (nI x)).toNatClampNeg < mC C x ∧ m_X8_onward RO (m_X8_shine RO LG) C (nI x) = nI (m_X8_onward RO (m_X8_shine RO LG) C (nI x)).toNatClampNeg ∧ m_X6_nextOnWay (m_X6_weigh PR (nI n) K LC LS LF) LL (nI x) = nI (m_X8_onward RO (m_X8_shine RO LG) C (nI x)).toNatClampNeg := by
      intro x hx hne
      obtain ⟨y, hy, g1, g2, g3, g4⟩ := step x hx hne
      rw [g3, g4, nI_clamp (show y < 2 ^ 31 by omega)]
      exact ⟨⟨hy, g1, by have := hx.2.2; omega⟩, g2, rfl, rfl⟩
    have gw : w < 64 ∧ opM RO w = true ∧ mC C w < 1000000 := ⟨hw, wo, fw⟩
    rw [wlk_m (RO := RO) (SH := m_X8_shine RO LG) (C := C) hg (ν := fun x => (m_X8_onward RO (m_X8_shine RO LG) C (nI x)).toNatClampNeg) (good := fun x => x < 64 ∧ opM RO x = true ∧ mC C x < 1000000) (fun x hx hne => ⟨(st x hx hne).1, (st x hx hne).2.2.1⟩) (fun x hx => hx.1) i 0 w gw]
    by_cases c1 : i < 64
    · rw [if_pos ⟨c1, cg⟩]
      unfold m_X6_cellOnWay
      rw [nI_clamp (show w < 2 ^ 31 by omega), if_pos (cb.mpr (w1.mpr fw))]
      exact wlk_c (PR := m_X6_weigh PR (nI n) K LC LS LF) (LE := LL) hg c1 (ν := fun x => (m_X8_onward RO (m_X8_shine RO LG) C (nI x)).toNatClampNeg) (good := fun x => x < 64 ∧ opM RO x = true ∧ mC C x < 1000000) (fun x hx hne => ⟨(st x hx hne).1, (st x hx hne).2.2.2⟩) (fun x hx => hx.1) 64 0 w rfl (Nat.zero_le _) gw
    · rw [if_neg (fun q => c1 q.1)]
      have := wlk_end (ν := fun x => (m_X8_onward RO (m_X8_shine RO LG) C (nI x)).toNatClampNeg) (g := g) (cost := mC C) (good := fun x => x < 64 ∧ opM RO x = true ∧ mC C x < 1000000) (fun x hx hne => ⟨(st x hx hne).1, (st x hx hne).2.1⟩) (fun x hx => hx.1) 64 w gw (cntB_le _ 64)
      rw [wlk_more 64 i w this (by omega)]
      rfl
end EXPO
