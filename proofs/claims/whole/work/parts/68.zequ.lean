def zPad (pl ml : Int32) (SG PD : Nat → Int32) : Prop := ∃ p : Nat, p ≤ 80 ∧ pl = nI p ∧ ml = nI p ∧ ∀ i, i < p → SG i = PD i
def zSnap (sv sv2 : Bool) (n : SC) (SN : Nat → Int32) : Prop := sv = sv2 ∧ (∃ k : Nat, k ≤ 6 ∧ n.lm = nI k ∧ ∀ i, i < k → ∃ a : Nat, a < 64 ∧ n.LC i = nI a) ∧ (sv = true → zRS n SN)
def zRl : RelT := fun c n hc hz pl SG sv RO HI SN PD ms ml sv2 => zRS c RO ∧ zH hz ms hc HI ∧ zPad pl ml SG PD ∧ zSnap sv sv2 n SN
theorem MI_of {n w d t : Nat} {K LC LS LF RO : Nat → Int32} (h : zRT n w d t K LC LS LF RO) : MI RO := by
  obtain ⟨hK, hL, h1, ⟨hw, h2, ho⟩, -, -⟩ := h
  have hn := hL.1
  refine ⟨?_, fun i hi => ?_, ?_⟩
  · rw [h1, nI_toInt (by omega)]; omega
  · rw [h1, nI_clamp (by omega)] at hi
    obtain ⟨r1, -, -, ⟨a, ha, ea⟩, -⟩ := hL.2.1 i hi
    rw [o129 i (by omega), r1, ea]; exact vp_in_nI ha (by decide)
  · rw [h2]; exact vp_in_nI hw (by decide)
theorem MI_ofS {c : SC} {RO : Nat → Int32} (h : zRS c RO) : MI RO := by
  obtain ⟨⟨n, w, d, t, e1, e2, e3, e4, e5, hT, hm⟩, hs⟩ := h
  exact MI_of hT
theorem z_hyp : E_hyp zRl := by
  intro c n hc hz pl SG sv RO HI SN PD ms ml sv2 hR
  obtain ⟨⟨⟨k, w, d, t, e1, e2, e3, e4, e5, hT, hm⟩, hs⟩, ⟨m, hm4, rfl, rfl, hj⟩, ⟨p, hp, rfl, rfl, hpS⟩, ⟨hsv, ⟨k2, hk2, f1, f2⟩, hsn⟩⟩ := hR
  have hMI := MI_of hT
  obtain ⟨hK, hL, h1, ⟨hw, h2, ho⟩, ⟨hd1, hd, h3⟩, ⟨ht, h4⟩⟩ := hT
  have hn := hL.1
  refine ⟨?_, ?_, ?_, ?_, ?_, ?_, ?_, hMI, ?_, ?_, ?_, ?_, ?_, ?_, ?_⟩
  · rw [e1, nI_toInt (by omega)]; omega
  · rw [e1, nI_clamp (by omega)]
    intro i hi
    obtain ⟨-, -, -, ⟨a, ha, ea⟩, -⟩ := hL.2.1 i hi
    rw [nI_clamp (by omega), ea]; exact vp_in_nI ha (by decide)
  · rw [nI_toInt (by omega)]; omega
  · rw [e2]; exact vp_in_nI hw (by decide)
  · rw [nI_toInt (by omega)]; omega
  · rw [f1, nI_toInt (by omega)]; omega
  · rw [f1, nI_clamp (by omega)]
    intro i hi
    obtain ⟨a, ha, ea⟩ := f2 i hi
    rw [nI_clamp (by omega), ea]; exact vp_in_nI ha (by decide)
  · rw [nI_toInt (by omega)]; omega
  · rw [nI_toInt (by omega)]; omega
  · exact fun LG => shine8_b hK hL h1 LG
  · intro ce kd hce LG
    obtain ⟨cc, hcc, rfl⟩ := vp_in_of hce (by decide)
    obtain ⟨m', A, B, C, -, r1, r2, r3, -⟩ := lay_z hL h1 hK hcc kd
    exact shine8_b r3 r1 r2 LG
  · rw [h1, nI_clamp (by omega)]
    intro i hi
    obtain ⟨-, -, r3, -, -, ⟨f, hf, ef⟩⟩ := hL.2.1 i hi
    rw [o141 i (by omega), r3, ef, nI_toInt (by omega)]; omega
  · rw [h3, nI_toInt (by omega)]; omega
  · intro q
    exact MI_ofS (hsn (hsv.trans q))
theorem z_init : E_init zRl := by
  have z : ∀ i : Nat, (upd (upd (fun _ => (0 : Int32)) 149 3) 150 1) i = if i = 150 then 1 else (if i = 149 then 3 else 0) := fun i => by
    by_cases q : i = 150
    · subst q; rw [pk_us, if_pos rfl]
    · rw [pk_un q, if_neg q]
      by_cases q2 : i = 149
      · subst q2; rw [pk_us, if_pos rfl]
      · rw [pk_un q2, if_neg q2]
  have hT : zRT 0 0 3 1 (fun _ => 0) (fun _ => 0) (fun _ => 0) (fun _ => 0) (upd (upd (fun _ => (0 : Int32)) 149 3) 150 1) := by
    refine ⟨fun i hi => ?_, ⟨by decide, fun i hi => absurd hi (Nat.not_lt_zero _), fun i j hi => absurd hi (Nat.not_lt_zero _)⟩, ?_, ⟨by decide, ?_, by decide⟩, ⟨by decide, by decide, ?_⟩, ⟨by decide, ?_⟩⟩
    · rw [z, if_neg (by omega), if_neg (by omega)]
    · rw [z, if_neg (by omega), if_neg (by omega)]; rfl
    · rw [z, if_neg (by omega), if_neg (by omega)]; rfl
    · rw [z, if_neg (by omega), if_pos rfl]; rfl
    · rw [z, if_pos rfl]; rfl
  have h0 := rem_RS (n := 0) (w := 0) (d := 3) (t := 1) (lm := 0) (wk := 0) (st := 0) (dm := 3) (tc := 1) (rm := 0) rfl rfl rfl rfl hT (by rw [z, if_neg (by omega), if_neg (by omega)]) (fun i hi => by rw [z, if_neg (by omega), if_neg (by omega), bit_0]; rfl)
  have e0 : m_X7_rememberSeen 0 0 3 1 0 (fun _ => 0) (fun _ => 0) (fun _ => 0) (fun _ => 0) = m_X2_seenCells 0 0 3 1 (fun _ => 0) (fun _ => 0) (fun _ => 0) (fun _ => 0) al0 := by
    unfold m_X7_rememberSeen; exact Int64.zero_or
  rw [e0] at h0
  exact ⟨h0, ⟨0, by decide, rfl, rfl, fun j hj => absurd hj (Nat.not_lt_zero _)⟩, ⟨0, by decide, rfl, rfl, fun j hj => absurd hj (Nat.not_lt_zero _)⟩, ⟨rfl, ⟨0, by decide, rfl, fun j hj => absurd hj (Nat.not_lt_zero _)⟩, fun q => absurd q (by decide)⟩⟩
/-! what only looks -/
theorem z_cell : E_cell zRl := by
  intro c n hc hz pl SG sv RO HI SN PD ms ml sv2 hR v1 v2
  obtain ⟨⟨⟨k, w, d, t, e1, e2, e3, e4, e5, hT, hm⟩, hs⟩, hH, hP, hS⟩ := hR
  rw [e1, e2, e3, e4]; exact cell_eq hT hm v1 v2
theorem z_sees : E_sees zRl := by
  intro c n hc hz pl SG sv RO HI SN PD ms ml sv2 hR v1 v2 v3
  obtain ⟨⟨⟨k, w, d, t, e1, e2, e3, e4, e5, hT, hm⟩, hs⟩, hH, hP, hS⟩ := hR
  exact seesA_eq hT.1 v1 v2 v3
theorem z_stops : E_stops zRl := by
  intro c n hc hz pl SG sv RO HI SN PD ms ml sv2 hR v1 v2
  obtain ⟨⟨⟨k, w, d, t, e1, e2, e3, e4, e5, hT, hm⟩, hs⟩, hH, hP, hS⟩ := hR
  exact stopsA_eq hT.1 v1 v2
theorem z_lampOf : E_lampOf zRl := by
  intro c n hc hz pl SG sv RO HI SN PD ms ml sv2 hR v1 v2
  obtain ⟨⟨⟨k, w, d, t, e1, e2, e3, e4, e5, hT, hm⟩, hs⟩, hH, hP, hS⟩ := hR
  rw [e1, e3]; exact lampOf_eq hT v1 v2
theorem z_count : E_count zRl := by
  intro c n hc hz pl SG sv RO HI SN PD ms ml sv2 hR RE LG CO v1
  obtain ⟨⟨⟨k, w, d, t, e1, e2, e3, e4, e5, hT, hm⟩, hs⟩, ⟨m, hm4, rfl, rfl, hj⟩, ⟨p, hp, rfl, rfl, hpS⟩, hS⟩ := hR
  rw [e1, e2, e3, e4]; exact count_eq hT hm e5 RE LG CO v1
theorem z_litShare : E_litShare zRl := by
  intro c n hc hz pl SG sv RO HI SN PD ms ml sv2 hR LG
  obtain ⟨⟨⟨k, w, d, t, e1, e2, e3, e4, e5, hT, hm⟩, hs⟩, hH, hP, hS⟩ := hR
  rw [e1, e3]; exact share_eq hT LG
theorem z_exposure : E_exposure zRl := by
  intro c n hc hz pl SG sv RO HI SN PD ms ml sv2 hR PR LE SE LG CO v1 v2
  obtain ⟨⟨⟨k, w, d, t, e1, e2, e3, e4, e5, hT, hm⟩, hs⟩, hH, hP, hS⟩ := hR
  rw [e1, e2]; exact exposure_eq hT PR LE SE LG CO v1 v2
theorem z_way : E_way zRl := by
  intro c n hc hz pl SG sv RO HI SN PD ms ml sv2 hR PR LE SE LG CO v1 v2
  obtain ⟨⟨⟨k, w, d, t, e1, e2, e3, e4, e5, hT, hm⟩, hs⟩, hH, hP, hS⟩ := hR
  rw [e1, e2]; exact wayA_eq hT PR LE SE LG CO v1 v2
theorem z_bestLamp : E_bestLamp zRl := by
  intro c n hc hz pl SG sv RO HI SN PD ms ml sv2 hR LG v1
  obtain ⟨⟨⟨k, w, d, t, e1, e2, e3, e4, e5, hT, hm⟩, hs⟩, hH, hP, hS⟩ := hR
  obtain ⟨hK, hL, h1, -, ⟨hd1, hd, h3⟩, -⟩ := hT
  rw [e1, e3]; exact (best_eq hK hL h1 hd h3 LG v1).symm
theorem z_darkIn : E_darkIn zRl := by
  intro c n hc hz pl SG sv RO HI SN PD ms ml sv2 hR EA
  obtain ⟨⟨⟨k, w, d, t, e1, e2, e3, e4, e5, hT, hm⟩, hs⟩, hH, hP, hS⟩ := hR
  rw [e1, e3]; exact dark_eq hT EA
theorem z_fault : E_fault zRl := by
  intro c n hc hz pl SG sv RO HI SN PD ms ml sv2 hR v1
  obtain ⟨⟨⟨k, w, d, t, e1, e2, e3, e4, e5, hT, hm⟩, hs⟩, hH, ⟨p, hp, rfl, rfl, hpS⟩, hS⟩ := hR
  unfold m_X7_fault m_X8_fault
  rw [e2, mapFault_eq hT.2.2.2.1.2.1 hp hpS, walkFault_eq hp hpS]
/-! the pad -/
theorem z_append : E_append zRl := by
  intro c n hc hz pl SG sv RO HI SN PD ms ml sv2 hR v1
  have hR0 := hR
  obtain ⟨hV, hH, ⟨p, hp, rfl, rfl, hpS⟩, hS⟩ := hR
  unfold m_X7_append m_X8_append
  rw [in_eq7]
  by_cases q1 : m_X7_isWithin v1 33 126 = false
  · rw [if_pos q1, if_pos q1]; exact ⟨rfl, hR0⟩
  · rw [if_neg q1, if_neg q1]
    obtain ⟨cd, h1, h2, rfl⟩ := zwithin_of (lo := 33) (hi := 126) (by decide) (by decide) q1
    have i1 : nI p < 80 ↔ p < 80 := nI_ltI (b := 80) (by omega) (by decide)
    have i2 : nI p = 80 ↔ p = 80 := nI_eq (b := 80) (by omega) (by decide)
    by_cases q2 : p < 80
    · have i3 : ¬ (80 : Int32) ≤ nI p := nI_ge q2 (by decide)
      rw [if_pos (i1.mpr q2), if_neg (fun w => by have := i2.mp w; omega)]
      have ea : m_X4_add (nI p) SG (i2c (nI cd)) = (nI (p + 1), upd SG p (nI cd)) := by
        unfold m_X4_add
        rw [if_neg i3, nI_1, nI_clamp (show p < 2 ^ 31 by omega)]
        have : vp_nar .char (i2c (nI cd)) = nI cd := by
          unfold i2c
          rw [pk_vc, pk_char, pk_tn (by omega)]
          congr 1; omega
        rw [this]
      simp only [ea, nI_1, nI_clamp (show p < 2 ^ 31 by omega)]
      refine ⟨trivial, hV, hH, ⟨p + 1, by omega, rfl, rfl, fun i hi => ?_⟩, hS⟩
      by_cases q : i = p
      · subst q; rw [pk_us, pk_us]
      · rw [pk_un q, pk_un q]; exact hpS i (by omega)
    · rw [if_neg (fun w => q2 (i1.mp w)), if_pos (i2.mpr (by omega))]; exact ⟨rfl, hR0⟩
theorem z_clear : E_clear zRl := by
  intro c n hc hz pl SG sv RO HI SN PD ms ml sv2 hR _
  obtain ⟨hV, hH, ⟨p, hp, rfl, rfl, hpS⟩, hS⟩ := hR
  exact ⟨rfl, hV, hH, ⟨0, by decide, rfl, rfl, fun i hi => absurd hi (Nat.not_lt_zero _)⟩, hS⟩
