/-! the changes -/
theorem zchg {c c' n : SC} {hc : Nat → SC} {hz pl ms ml : Int32} {SG RO RO' HI SN PD : Nat → Int32} {sv sv2 : Bool} (hR : zRl c n hc hz pl SG sv RO HI SN PD ms ml sv2) (h : zRS c' RO') : zRl c' n (recC hz hc c) (recZ hz) pl SG sv RO' (m_X8_record ms RO HI).2 SN PD (m_X8_record ms RO HI).1 ml sv2 := ⟨h, rec_z hR.2.1 hR.1, hR.2.2.1, hR.2.2.2⟩
theorem trap_eq {RO : Nat → Int32} {wk : Int32} (h : RO 147 = wk) (ce kd : Int32) : m_X8_mayPut RO ce kd = !(m_X5_wouldTrapWalker wk ce kd) := by
  unfold m_X8_mayPut m_X5_wouldTrapWalker
  rw [h]
  by_cases q : ce = wk
  · rw [if_pos q, if_pos q]
    show (if m_X0_stopsFeet kd = false then true else false) = _
    cases m_X0_stopsFeet kd <;> rfl
  · rw [if_neg q, if_neg q]; rfl
theorem zRT_lay {n w d t c : Nat} {K LC LS LF RO : Nat → Int32} (hT : zRT n w d t K LC LS LF RO) (hc : c < 64) {kd : Int32} (htr : m_X5_wouldTrapWalker (nI w) (nI c) kd = false) : ∃ m A B C, m_X5_changeKind (nI n) K LC LS LF (nI c) kd = (nI m, upd K c kd, A, B, C) ∧ zRT m w d t (upd K c kd) A B C (m_X8_lay RO (nI c) kd) ∧ ∀ x, (64 ≤ x ∧ x < 128) ∨ 147 ≤ x → m_X8_lay RO (nI c) kd x = RO x := by
  obtain ⟨hK, hL, h1, ⟨hw, h2, ho⟩, ⟨hd1, hd, h3⟩, ⟨ht, h4⟩⟩ := hT
  obtain ⟨m, A, B, C, e, r1, r2, r3, r4⟩ := lay_z hL h1 hK hc kd
  refine ⟨m, A, B, C, e, ⟨r3, r1, r2, ⟨hw, (r4 147 (by omega)).trans h2, ?_⟩, ⟨hd1, hd, (r4 149 (by omega)).trans h3⟩, ⟨ht, (r4 150 (by omega)).trans h4⟩⟩, r4⟩
  unfold opC
  by_cases q : w = c
  · subst q
    rw [pk_us]
    unfold m_X5_wouldTrapWalker at htr
    rw [if_pos rfl] at htr
    cases hk : m_X0_stopsFeet kd with
    | false => rfl
    | true => rw [hk] at htr; exact absurd htr (by decide)
  · rw [pk_un q]; exact ho
theorem z_put : E_put zRl := by
  intro c n hc hz pl SG sv RO HI SN PD ms ml sv2 hR hAd v1 v2
  have hR0 := hR
  obtain ⟨⟨⟨k, w, d, t, e1, e2, e3, e4, e5, hT, hm⟩, hs⟩, hH, hP, hS⟩ := hR
  unfold m_X7_put m_X8_put
  rw [isCell_eq, kind_eq7]
  by_cases q1 : m_X0_isCell v1 = false
  · rw [if_pos q1, if_pos q1]; exact ⟨rfl, hR0⟩
  rw [if_neg q1, if_neg q1]
  by_cases q2 : m_X0_isKind v2 = false
  · rw [if_pos q2, if_pos q2]; exact ⟨rfl, hR0⟩
  rw [if_neg q2, if_neg q2]
  obtain ⟨g, hg, rfl⟩ := isCell_of q1
  have hw2 : RO 147 = c.wk := by rw [e2]; exact hT.2.2.2.1.2.1
  rw [trap_eq hw2]
  by_cases q3 : m_X5_wouldTrapWalker c.wk (nI g) v2 = false
  · rw [if_pos q3, q3, if_neg (show ¬ (!false) = false by decide)]
    rw [e2] at q3
    obtain ⟨m, A, B, C, ec, hT', r4⟩ := zRT_lay hT hg q3
    rw [← e1] at ec
    rw [ec]
    refine ⟨?_, zchg hR0 (rem_RS (n := m) (K := upd c.K g v2) (LC := A) (LS := B) (LF := C) rfl e2 e3 e4 hT' ((r4 148 (by omega)).trans e5) (fun i hi => (r4 (64 + i) (by omega)).trans (hm i hi)))⟩
    show c.K (nI g).toNatClampNeg = RO (0 + nI g).toNatClampNeg
    rw [nI_clamp (by omega), o0 g hg, hT.1 g hg]
  · have q3' := of_b q3
    rw [if_neg q3, q3', if_pos (show (!true) = false from rfl)]; exact ⟨rfl, hR0⟩
theorem add_z {n w d t g s f : Nat} {K LC LS LF RO : Nat → Int32} (hT : zRT n w d t K LC LS LF RO) (hn : n < 6) (hg : g < 64) (hs : 1 ≤ s ∧ s ≤ 9) (hf : f ≤ 99) (hfree : ∀ j, j < n → LC j ≠ nI g) : zRT (n + 1) w d t K (upd LC n (nI g)) (upd LS n (nI s)) (upd LF n (nI f)) (upd (upd (upd (upd RO (129 + n) (nI g)) (135 + n) (nI s)) (141 + n) (nI f)) 128 (nI (n + 1))) := by
  obtain ⟨hK, hL, h1, ⟨hw, h2, ho⟩, ⟨hd1, hd, h3⟩, ⟨ht, h4⟩⟩ := hT
  have out : ∀ x, x ≠ 128 → x ≠ 129 + n → x ≠ 135 + n → x ≠ 141 + n → (upd (upd (upd (upd RO (129 + n) (nI g)) (135 + n) (nI s)) (141 + n) (nI f)) 128 (nI (n + 1))) x = RO x := fun x h1 h2 h3 h4 => by rw [pk_un h1, pk_un h4, pk_un h3, pk_un h2]
  refine ⟨fun i hi => (out i (by omega) (by omega) (by omega) (by omega)).trans (hK i hi), ⟨by omega, fun i hi => ?_, fun i j hi hj hij => ?_⟩, pk_us, ⟨hw, (out 147 (by omega) (by omega) (by omega) (by omega)).trans h2, ho⟩, ⟨hd1, hd, (out 149 (by omega) (by omega) (by omega) (by omega)).trans h3⟩, ⟨ht, (out 150 (by omega) (by omega) (by omega) (by omega)).trans h4⟩⟩
  · by_cases q : i = n
    · subst q
      refine ⟨?_, ?_, ?_, ⟨g, hg, pk_us⟩, ⟨s, hs.1, hs.2, pk_us⟩, ⟨f, hf, pk_us⟩⟩
      · rw [pk_un (by omega), pk_un (by omega), pk_un (by omega), pk_us, pk_us]
      · rw [pk_un (by omega), pk_un (by omega), pk_us, pk_us]
      · rw [pk_un (by omega), pk_us, pk_us]
    · rw [pk_un q, pk_un q, pk_un q, out _ (by omega) (by omega) (by omega) (by omega), out _ (by omega) (by omega) (by omega) (by omega), out _ (by omega) (by omega) (by omega) (by omega)]
      exact hL.2.1 i (by omega)
  · by_cases q : i = n
    · by_cases q2 : j = n
      · omega
      · rw [q, pk_us, pk_un q2] at hij; exact absurd hij.symm (hfree j (by omega))
    · by_cases q2 : j = n
      · rw [q2, pk_us, pk_un q] at hij; exact absurd hij (hfree i (by omega))
      · rw [pk_un q, pk_un q2] at hij; exact hL.2.2 i j (by omega) (by omega) hij
theorem z_lamp : E_lamp zRl := by
  intro c n hc hz pl SG sv RO HI SN PD ms ml sv2 hR hAd v1 v2 v3
  have hR0 := hR
  obtain ⟨⟨⟨k, w, d, t, e1, e2, e3, e4, e5, hT, hm⟩, hs⟩, hH, hP, hS⟩ := hR
  have hk := hT.2.1.1
  unfold m_X7_lamp m_X8_lamp
  rw [isCell_eq, in_eq7, in_eq7]
  by_cases q1 : m_X0_isCell v1 = false
  · rw [if_pos q1, if_pos q1]; exact ⟨rfl, hR0⟩
  rw [if_neg q1, if_neg q1]
  by_cases q2 : m_X7_isWithin v2 1 9 = false
  · rw [if_pos q2, if_pos q2]; exact ⟨rfl, hR0⟩
  rw [if_neg q2, if_neg q2]
  by_cases q3 : m_X7_isWithin v3 1 99 = false
  · rw [if_pos q3, if_pos q3]; exact ⟨rfl, hR0⟩
  rw [if_neg q3, if_neg q3]
  obtain ⟨g, hg, rfl⟩ := isCell_of q1
  obtain ⟨s, s1, s2, rfl⟩ := zwithin_of (lo := 1) (hi := 9) (by decide) (by decide) q2
  obtain ⟨f, f1, f2, rfl⟩ := zwithin_of (lo := 1) (hi := 99) (by decide) (by decide) q3
  have hr := room_eq hT.1 hT.2.1 hT.2.2.1 hg
  rw [← e1] at hr
  rw [hr]
  by_cases q4 : m_X5_hasRoomForLamp c.lm c.K c.LC (nI g) = false
  · rw [if_pos q4, if_pos q4]; exact ⟨rfl, hR0⟩
  rw [if_neg q4, if_neg q4]
  have h128 := hT.2.2.1
  have i1 : c.lm < 6 ↔ k < 6 := by rw [e1]; exact nI_ltI (b := 6) (by omega) (by decide)
  have i2 : RO 128 = 6 ↔ k = 6 := by rw [h128]; exact nI_eq (b := 6) (by omega) (by decide)
  by_cases q5 : k < 6
  · rw [if_pos (i1.mpr q5), if_neg (fun x => by have := i2.mp x; omega)]
    have free : ∀ j, j < k → c.LC j ≠ nI g := by
      have q4' := of_b q4
      unfold m_X5_hasRoomForLamp at q4'
      rw [e1] at q4'
      rcases lampIn2 (LC := c.LC) hk (c := g) with ⟨-, g2⟩ | ⟨j, g1, g2, -⟩
      · exact g2
      · rw [g2, if_neg (n4_ne (by omega))] at q4'
        split at q4' <;> exact absurd q4' (by decide)
    have ea : m_X5_addLamp c.lm c.LC c.LS c.LF (nI g) (nI s) (nI f) = (nI (k + 1), upd c.LC k (nI g), upd c.LS k (nI s), upd c.LF k (nI f)) := by
      unfold m_X5_addLamp
      rw [if_pos (i1.mpr q5), e1, nI_1, nI_clamp (by omega)]
    rw [ea, h128, o129 k q5, o135 k q5, o141 k q5]
    have e9 : (upd (upd (upd RO (129 + k) (nI g)) (135 + k) (nI s)) (141 + k) (nI f)) 128 + 1 = nI (k + 1) := by
      rw [pk_un (by omega), pk_un (by omega), pk_un (by omega), h128, nI_1]
    rw [e9]
    have hT' := add_z hT q5 hg ⟨s1, s2⟩ f2 free
    have out : ∀ x, x ≠ 128 → x ≠ 129 + k → x ≠ 135 + k → x ≠ 141 + k → (upd (upd (upd (upd RO (129 + k) (nI g)) (135 + k) (nI s)) (141 + k) (nI f)) 128 (nI (k + 1))) x = RO x := fun x h1 h2 h3 h4 => by rw [pk_un h1, pk_un h4, pk_un h3, pk_un h2]
    refine ⟨?_, zchg hR0 (rem_RS (n := k + 1) (K := c.K) (LC := upd c.LC k (nI g)) (LS := upd c.LS k (nI s)) (LF := upd c.LF k (nI f)) rfl e2 e3 e4 hT' ((out 148 (by omega) (by omega) (by omega) (by omega)).trans e5) (fun i hi => (out (64 + i) (by omega) (by omega) (by omega) (by omega)).trans (hm i hi)))⟩
    show nI (k + 1) - 1 = nI k
    exact nI_pred k
  · rw [if_neg (fun x => q5 (i1.mp x)), if_pos (i2.mpr (by omega))]; exact ⟨rfl, hR0⟩
theorem z_takeLamp : E_takeLamp zRl := by
  intro c n hc hz pl SG sv RO HI SN PD ms ml sv2 hR hAd v1
  have hR0 := hR
  obtain ⟨⟨⟨k, w, d, t, e1, e2, e3, e4, e5, hT, hm⟩, hs⟩, hH, hP, hS⟩ := hR
  have hk := hT.2.1.1
  have il := isLamp_eq hk hT.2.2.1 v1
  rw [← e1] at il
  unfold m_X7_takeLamp m_X8_takeLamp
  rw [il]
  by_cases q1 : m_X5_isLamp c.lm v1 = false
  · rw [if_pos q1, if_pos q1]; exact ⟨rfl, hR0⟩
  rw [if_neg q1, if_neg q1]
  rw [e1] at q1
  obtain ⟨j, hj, rfl⟩ := isLamp_of hk q1
  obtain ⟨m, rfl⟩ : ∃ m, k = m + 1 := ⟨k - 1, by omega⟩
  obtain ⟨hK, hL, h1, ⟨hw, h2, ho⟩, ⟨hd1, hd, h3⟩, ⟨ht, h4⟩⟩ := hT
  obtain ⟨A, B, C, e, r1, r2, r3⟩ := rmv_z hL h1 (show j ≤ m by omega)
  rw [← e1] at e
  rw [e]
  refine ⟨?_, zchg hR0 (rem_RS (n := m) (K := c.K) (LC := A) (LS := B) (LF := C) rfl e2 e3 e4 ⟨fun i hi => (r3 i (by omega)).trans (hK i hi), r1, r2, ⟨hw, (r3 147 (by omega)).trans h2, ho⟩, ⟨hd1, hd, (r3 149 (by omega)).trans h3⟩, ⟨ht, (r3 150 (by omega)).trans h4⟩⟩ ((r3 148 (by omega)).trans e5) (fun i hi => (r3 (64 + i) (by omega)).trans (hm i hi)))⟩
  show c.LC (nI j).toNatClampNeg = RO (129 + nI j).toNatClampNeg
  rw [nI_clamp (by omega), o129 j (by omega), (hL.2.1 j hj).1]
theorem fuel_z {n w d t j f : Nat} {K LC LS LF RO : Nat → Int32} (hT : zRT n w d t K LC LS LF RO) (hj : j < n) (hf : f ≤ 99) : zRT n w d t K LC LS (upd LF j (nI f)) (upd RO (141 + j) (nI f)) := by
  obtain ⟨hK, hL, h1, ⟨hw, h2, ho⟩, ⟨hd1, hd, h3⟩, ⟨ht, h4⟩⟩ := hT
  have hn := hL.1
  refine ⟨fun i hi => (pk_un (by omega)).trans (hK i hi), ⟨hn, fun i hi => ?_, hL.2.2⟩, (pk_un (by omega)).trans h1, ⟨hw, (pk_un (by omega)).trans h2, ho⟩, ⟨hd1, hd, (pk_un (by omega)).trans h3⟩, ⟨ht, (pk_un (by omega)).trans h4⟩⟩
  obtain ⟨g1, g2, g3, g4, g5, g6⟩ := hL.2.1 i hi
  rw [pk_un (show 129 + i ≠ 141 + j by omega), pk_un (show 135 + i ≠ 141 + j by omega)]
  by_cases q : i = j
  · subst q; rw [pk_us, pk_us]; exact ⟨g1, g2, rfl, g4, g5, ⟨f, hf, rfl⟩⟩
  · rw [pk_un (show 141 + i ≠ 141 + j by omega), pk_un q]; exact ⟨g1, g2, g3, g4, g5, g6⟩
theorem z_fill : E_fill zRl := by
  intro c n hc hz pl SG sv RO HI SN PD ms ml sv2 hR hAd v1 v2
  have hR0 := hR
  obtain ⟨⟨⟨k, w, d, t, e1, e2, e3, e4, e5, hT, hm⟩, hs⟩, hH, hP, hS⟩ := hR
  have hk := hT.2.1.1
  have il := isLamp_eq hk hT.2.2.1 v1
  rw [← e1] at il
  unfold m_X7_fill m_X8_fill
  rw [il, in_eq7]
  by_cases q1 : m_X5_isLamp c.lm v1 = false
  · rw [if_pos q1, if_pos q1]; exact ⟨rfl, hR0⟩
  rw [if_neg q1, if_neg q1]
  by_cases q2 : m_X7_isWithin v2 0 99 = false
  · rw [if_pos q2, if_pos q2]; exact ⟨rfl, hR0⟩
  rw [if_neg q2, if_neg q2]
  rw [e1] at q1
  obtain ⟨j, hj, rfl⟩ := isLamp_of hk q1
  obtain ⟨f, f1, f2, rfl⟩ := zwithin_of (lo := 0) (hi := 99) (by decide) (by decide) q2
  rw [o141 j (by omega), nI_clamp (show j < 2 ^ 31 by omega)]
  refine ⟨?_, zchg hR0 (rem_RS (n := k) (K := c.K) (LC := c.LC) (LS := c.LS) (LF := upd c.LF j (nI f)) e1 e2 e3 e4 (fuel_z hT hj f2) ((pk_un (by omega)).trans e5) (fun i hi => (pk_un (by omega)).trans (hm i hi)))⟩
  exact (hT.2.1.2.1 j hj).2.2.1.symm
theorem z_set : E_set zRl := by
  intro c n hc hz pl SG sv RO HI SN PD ms ml sv2 hR hAd v1 v2
  have hR0 := hR
  obtain ⟨⟨⟨k, w, d, t, e1, e2, e3, e4, e5, hT, hm⟩, hs⟩, hH, hP, hS⟩ := hR
  unfold m_X7_set m_X8_set
  rw [in_eq7, in_eq7]
  have hT0 := hT
  obtain ⟨hK, hL, h1, ⟨hw, h2, ho⟩, ⟨hd1, hd, h3⟩, ⟨ht, h4⟩⟩ := hT
  by_cases q1 : v1 = 0
  · subst q1
    rw [if_pos rfl, if_pos rfl]
    by_cases q2 : m_X7_isWithin v2 1 20 = false
    · rw [if_pos q2, if_pos q2, if_neg (show ¬ (0 : Int32) = 1 by decide)]; exact ⟨rfl, hR0⟩
    · rw [if_neg q2, if_neg q2]
      obtain ⟨d', f1, f2, rfl⟩ := zwithin_of (lo := 1) (hi := 20) (by decide) (by decide) q2
      rw [show ((149 : Int32) + 0).toNatClampNeg = 149 by decide]
      refine ⟨by show c.dm = RO 149; rw [e3, h3], zchg hR0 (rem_RS (n := k) (d := d') (K := c.K) (LC := c.LC) (LS := c.LS) (LF := c.LF) e1 e2 rfl e4 ⟨fun i hi => (pk_un (by omega)).trans (hK i hi), zLR_agree hL (fun x _ _ => pk_un (by omega)), (pk_un (by omega)).trans h1, ⟨hw, (pk_un (by omega)).trans h2, ho⟩, ⟨f1, f2, pk_us⟩, ⟨ht, (pk_un (by omega)).trans h4⟩⟩ ((pk_un (by omega)).trans e5) (fun i hi => (pk_un (by omega)).trans (hm i hi)))⟩
  · rw [if_neg q1, if_neg q1]
    by_cases q3 : v1 = 1
    · subst q3
      rw [if_pos rfl, if_pos rfl]
      by_cases q2 : m_X7_isWithin v2 0 4 = false
      · rw [if_pos q2, if_pos q2]; exact ⟨rfl, hR0⟩
      · rw [if_neg q2, if_neg q2]
        obtain ⟨t', f1, f2, rfl⟩ := zwithin_of (lo := 0) (hi := 4) (by decide) (by decide) q2
        rw [show ((149 : Int32) + 1).toNatClampNeg = 150 by decide]
        refine ⟨by show c.tc = RO 150; rw [e4, h4], zchg hR0 (rem_RS (n := k) (t := t') (K := c.K) (LC := c.LC) (LS := c.LS) (LF := c.LF) e1 e2 e3 rfl ⟨fun i hi => (pk_un (by omega)).trans (hK i hi), zLR_agree hL (fun x _ _ => pk_un (by omega)), (pk_un (by omega)).trans h1, ⟨hw, (pk_un (by omega)).trans h2, ho⟩, ⟨hd1, hd, (pk_un (by omega)).trans h3⟩, ⟨f2, pk_us⟩⟩ ((pk_un (by omega)).trans e5) (fun i hi => (pk_un (by omega)).trans (hm i hi)))⟩
    · rw [if_neg q3, if_neg q3]; exact ⟨rfl, hR0⟩
theorem z_forget : E_forget zRl := by
  intro c n hc hz pl SG sv RO HI SN PD ms ml sv2 hR hAd
  have hR0 := hR
  obtain ⟨⟨⟨k, w, d, t, e1, e2, e3, e4, e5, hT, hm⟩, hs⟩, hH, hP, hS⟩ := hR
  obtain ⟨T, eT, hI⟩ := lpx_all (f := f_X8_forget_11) (fun k T => k ≤ 64 → ∀ x, T x = if 64 ≤ x ∧ x < 64 + k then 0 else RO x) (fun k T h => ⟨_, rfl, fun hk x => by
    rw [o64 k (by omega)]
    by_cases q : x = 64 + k
    · subst q; rw [pk_us, if_pos (by omega)]
    · rw [pk_un q, h (by omega) x]
      by_cases c1 : 64 ≤ x ∧ x < 64 + k
      · rw [if_pos c1, if_pos (by omega)]
      · rw [if_neg c1, if_neg (by omega)]⟩) 64 0 RO (fun _ x => by rw [if_neg (by omega)])
  have hI := hI (by omega)
  have e8 : m_X8_forget ms RO HI = (m_X8_knownCells RO, (m_X8_record ms RO HI).1, m_X8_remember T, (m_X8_record ms RO HI).2) := by
    simp only [m_X8_forget]; rw [eT]; rfl
  unfold m_X7_forget
  rw [e8]
  refine ⟨(known_eq hm).symm, zchg hR0 (rem_RS (n := k) (K := c.K) (LC := c.LC) (LS := c.LS) (LF := c.LF) (rm := 0) e1 e2 e3 e4 (zRT_agree hT (fun x hx => by rw [hI, if_neg (by omega)])) (by rw [hI, if_neg (by omega)]; exact e5) (fun i hi => by rw [hI, if_pos (by omega), bit_0]; rfl))⟩
/-! history and snapshot -/
theorem undoI (m : Nat) (hm : m < 4) (HI RO : Nat → Int32) {g : Nat → (Nat → Int32) → (Nat → Int32)} (hg : ∀ k T, k < 151 → g k T = upd T k (HI (151 * m + k))) : ∀ N, N ≤ 151 → ∀ x, x < N → itr g N RO x = HI (151 * m + x) := by
  intro N
  induction N with
  | zero => intro _ x h; omega
  | succ N ih =>
    intro hN x hx
    show g N (itr g N RO) x = _
    rw [hg N _ (by omega)]
    by_cases q : x = N
    · subst q; rw [pk_us]
    · rw [pk_un q]; exact ih (by omega) x (by omega)
theorem z_undo : E_undo zRl := by
  intro c n hc hz pl SG sv RO HI SN PD ms ml sv2 hR _
  have hR0 := hR
  obtain ⟨hV, ⟨m, hm4, rfl, rfl, hj⟩, hP, hS⟩ := hR
  have i0 : nI m = 0 ↔ m = 0 := by rw [← nI_0]; exact nI_eq (by omega) (by decide)
  unfold m_X7_undo
  by_cases q : m = 0
  · have e8 : m_X8_undo (nI m) RO HI = (-2, nI m, RO) := by simp only [m_X8_undo]; rw [if_pos (i0.mpr q)]
    rw [if_pos (i0.mpr q), e8]; exact ⟨rfl, hR0⟩
  · obtain ⟨j, rfl⟩ : ∃ j, m = j + 1 := ⟨m - 1, by omega⟩
    have e8 : m_X8_undo (nI (j + 1)) RO HI = (nI j, nI j, itr (f_X8_undo_22 (nI (j + 1)) HI) 151 RO) := by
      simp only [m_X8_undo]; rw [if_neg (fun x => q (i0.mp x)), nI_pred]
    rw [if_neg (fun x => q (i0.mp x)), e8, nI_pred, nI_clamp (show j < 2 ^ 31 by omega)]
    have u := undoI j (by omega) HI RO (g := f_X8_undo_22 (nI (j + 1)) HI) (fun k T hk => by
      simp only [f_X8_undo_22, nI_clamp (show k < 2 ^ 31 by omega), nI_pred, hidx (show j < 4 by omega) hk]) 151 (Nat.le_refl _)
    exact ⟨rfl, zRS_agree (hj j (by omega)) u, ⟨j, by omega, rfl, rfl, fun i hi => hj i (by omega)⟩, hP, hS⟩
theorem copyI (A B : Nat → Int32) {g : Nat → (Nat → Int32) → (Nat → Int32)} (hg : ∀ k T, k < 151 → g k T = upd T k (A k)) : ∀ N, N ≤ 151 → ∀ x, x < N → itr g N B x = A x := by
  intro N
  induction N with
  | zero => intro _ x h; omega
  | succ N ih =>
    intro hN x hx
    show g N (itr g N B) x = _
    rw [hg N _ (by omega)]
    by_cases q : x = N
    · subst q; rw [pk_us]
    · rw [pk_un q]; exact ih (by omega) x (by omega)
theorem z_save : E_save zRl := by
  intro c n hc hz pl SG sv RO HI SN PD ms ml sv2 hR _
  obtain ⟨hV, hH, hP, hS⟩ := hR
  have hV0 := hV
  obtain ⟨⟨k, w, d, t, e1, e2, e3, e4, e5, hT, hm⟩, hs⟩ := hV
  have u := copyI RO SN (g := f_X8_save_2 RO) (fun k T hk => by simp only [f_X8_save_2, nI_clamp (show k < 2 ^ 31 by omega)]) 151 (Nat.le_refl _)
  have e8 : m_X8_save RO SN = (RO 147, true, itr (f_X8_save_2 RO) 151 SN) := by simp only [m_X8_save]
  rw [e8]
  unfold m_X7_save
  refine ⟨?_, hV0, hH, hP, ⟨rfl, ⟨k, hT.2.1.1, e1, fun i hi => (hT.2.1.2.1 i hi).2.2.2.1⟩, fun _ => zRS_agree hV0 u⟩⟩
  show c.wk = RO 147
  rw [e2, hT.2.2.2.1.2.1]
set_option maxRecDepth 100000 in
theorem z_restore : E_restore zRl := by
  intro c n hc hz pl SG sv RO HI SN PD ms ml sv2 hR hAd
  have hR0 := hR
  obtain ⟨hV, hH, hP, ⟨hsv, hS2, hsn⟩⟩ := hR
  subst hsv
  unfold m_X7_restore
  cases sv with
  | false =>
    have e8 : m_X8_restore ms false RO HI SN = (-2, ms, RO, HI) := by simp only [m_X8_restore, if_true]
    rw [if_pos rfl, e8]; exact ⟨rfl, hR0⟩
  | true =>
    have hN := hsn rfl
    have u := copyI SN RO (g := f_X8_restore_16 SN) (fun k T hk => by simp only [f_X8_restore_16, nI_clamp (show k < 2 ^ 31 by omega)]) 151 (Nat.le_refl _)
    have e8 : m_X8_restore ms true RO HI SN = ((m_X8_remember (itr (f_X8_restore_16 SN) 151 RO)) 147, (m_X8_record ms RO HI).1, m_X8_remember (itr (f_X8_restore_16 SN) 151 RO), (m_X8_record ms RO HI).2) := by
      simp only [m_X8_restore]; rw [if_neg (by decide)]
    rw [if_neg (by decide), e8]
    clear e8
    generalize itr (f_X8_restore_16 SN) 151 RO = T at u ⊢
    have hN2 := zRS_agree hN u
    obtain ⟨⟨k, w, d, t, e1, e2, e3, e4, e5, hT, hm⟩, hs⟩ := hN2
    have first : n.wk = m_X8_remember T 147 := by
      rw [rem_keep _ 147 (by omega), e2, hT.2.2.2.1.2.1]
    exact ⟨first, zchg hR0 (rem_RS (n := k) (K := n.K) (LC := n.LC) (LS := n.LS) (LF := n.LF) e1 e2 e3 e4 hT e5 hm)⟩
theorem z_ifPut : E_ifPut zRl := by
  intro c n hc hz pl SG sv RO HI SN PD ms ml sv2 hR RE AS LG CO v1 v2 v3
  have hR0 := hR
  obtain ⟨⟨⟨k, w, d, t, e1, e2, e3, e4, e5, hT, hm⟩, hs⟩, hH, hP, hS⟩ := hR
  have hV0 := hR0.1
  unfold m_X7_ifPut m_X8_ifPut
  rw [isCell_eq, kind_eq7, in_eq7]
  by_cases q1 : m_X0_isCell v1 = false
  · rw [if_pos q1, if_pos q1]; exact ⟨rfl, hR0⟩
  rw [if_neg q1, if_neg q1]
  by_cases q2 : m_X0_isKind v2 = false
  · rw [if_pos q2, if_pos q2]; exact ⟨rfl, hR0⟩
  rw [if_neg q2, if_neg q2]
  by_cases q4 : m_X7_isWithin v3 0 2 = false
  · rw [if_pos q4, if_pos q4]; exact ⟨rfl, hR0⟩
  rw [if_neg q4, if_neg q4]
  obtain ⟨g, hg, rfl⟩ := isCell_of q1
  have hw2 : RO 147 = c.wk := by rw [e2]; exact hT.2.2.2.1.2.1
  rw [trap_eq hw2]
  by_cases q3 : m_X5_wouldTrapWalker c.wk (nI g) v2 = false
  · rw [if_pos q3, q3, if_neg (show ¬ (!false) = false by decide)]
    rw [e2] at q3
    obtain ⟨m, A, B, C, ec, hT', r4⟩ := zRT_lay hT hg q3
    rw [← e1] at ec
    rw [ec]
    have ua := copyI RO AS (g := f_X8_putAside_2 RO) (fun k T hk => by simp only [f_X8_putAside_2, nI_clamp (show k < 2 ^ 31 by omega)]) 151 (Nat.le_refl _)
    have ub := copyI (m_X8_putAside RO AS) (m_X8_lay RO (nI g) v2) (g := f_X8_putBack_2 (m_X8_putAside RO AS)) (fun k T hk => by simp only [f_X8_putBack_2, nI_clamp (show k < 2 ^ 31 by omega)]) 151 (Nat.le_refl _)
    have ag : ∀ x, x < 151 → m_X8_putBack (m_X8_lay RO (nI g) v2) (m_X8_putAside RO AS) x = RO x := fun x hx => (ub x hx).trans (ua x hx)
    refine ⟨?_, zRS_agree hV0 ag, hH, hP, hS⟩
    show (if v3 = 0 then m_X2_litCells (nI m) c.dm (upd c.K g v2) A B C al0 0 else if v3 = 1 then m_J13_bitCount_95d88 (m_X2_seenCells (nI m) c.wk c.dm c.tc (upd c.K g v2) A B C al0) else m_X6_reachedCells RE c.wk (upd c.K g v2)) = (if v3 = 0 then m_X8_litCells (m_X8_lay RO (nI g) v2) LG else if v3 = 1 then m_X8_seenCells (m_X8_lay RO (nI g) v2) else m_X8_reached (m_X8_lay RO (nI g) v2) LG CO)
    rw [e2, e3, e4, litA_eq hT' LG, seenC_eq hT', reachA_eq hT' RE LG CO]
  · have q3' := of_b q3
    rw [if_neg q3, q3', if_pos (show (!true) = false from rfl)]; exact ⟨rfl, hR0⟩
