def decF (z : Int32) : Int32 := if z ≤ 0 then z else z - 1
theorem mw_z {LF : Nat → Int32} : ∀ N, N ≤ 6 → ∀ x, itr f_X5_moveWalker_17 N LF x = if x < N then decF (LF x) else LF x := by
  intro N
  induction N with
  | zero => intro _ x; rw [if_neg (by omega)]; rfl
  | succ N ih =>
    intro hN x
    have eN := ih (by omega) N
    rw [if_neg (Nat.lt_irrefl _)] at eN
    show f_X5_moveWalker_17 N (itr f_X5_moveWalker_17 N LF) x = _
    simp only [f_X5_moveWalker_17, nI_clamp (show N < 2 ^ 31 by omega), eN]
    by_cases q : x = N
    · subst q
      rw [if_pos (Nat.lt_succ_self _)]
      unfold decF
      by_cases c1 : LF x ≤ 0
      · rw [if_pos c1, if_pos c1, eN]
      · rw [if_neg c1, if_neg c1, pk_us]
    · have e2 := ih (by omega) x
      have e3 : (x < N + 1) ↔ x < N := by omega
      simp only [e3]
      rw [← e2]
      by_cases c1 : LF N ≤ 0
      · rw [if_pos c1]
      · rw [if_neg c1, pk_un q]
theorem go_z {n w d t dd v : Nat} {K LC LS LF RO : Nat → Int32} (hT : zRT n w d t K LC LS LF RO) (hv : v < 64) (hnx : m_X8_next (nI w) (nI dd) = nI v) (ho : opC K v = true) : ∃ T, m_X8_go RO (nI dd) = m_X8_remember T ∧ zRT n v d t K LC LS (itr f_X5_moveWalker_17 n LF) T ∧ T 148 = RO 148 + 1 ∧ ∀ i, i < 64 → T (64 + i) = RO (64 + i) := by
  obtain ⟨hK, hL, h1, ⟨hw, h2, hwo⟩, ⟨hd1, hd, h3⟩, ⟨ht, h4⟩⟩ := hT
  have hn := hL.1
  obtain ⟨S0, hS0⟩ : ∃ S, S = upd (upd RO 147 (nI v)) 148 (RO 148 + 1) := ⟨_, rfl⟩
  have s147 : S0 147 = nI v := by rw [hS0, pk_un (by omega), pk_us]
  have s148 : S0 148 = RO 148 + 1 := by rw [hS0, pk_us]
  have sx : ∀ x, x ≠ 147 → x ≠ 148 → S0 x = RO x := fun x a b => by rw [hS0, pk_un b, pk_un a]
  obtain ⟨T, eT, hI⟩ := lpx_all (f := f_X8_go_34) (fun k T => k ≤ 6 → ∀ x, T x = if 141 ≤ x ∧ x < 141 + k then decF (S0 x) else S0 x) (fun k T h => ⟨_, rfl, fun hk x => by
    have ek := h (by omega) (141 + k)
    rw [if_neg (by omega)] at ek
    rw [o141 k (by omega), ek]
    by_cases q : x = 141 + k
    · subst q
      rw [pk_us, if_pos (show 141 ≤ 141 + k ∧ 141 + k < 141 + (k + 1) by omega)]
      unfold decF
      by_cases c1 : S0 (141 + k) ≤ 0
      · rw [if_pos c1, if_pos c1]; exact Int32.sub_zero _
      · rw [if_neg c1, if_neg c1]; rfl
    · rw [pk_un q, h (by omega) x]
      by_cases c1 : 141 ≤ x ∧ x < 141 + k
      · rw [if_pos c1, if_pos (by omega)]
      · rw [if_neg c1, if_neg (by omega)]⟩) n 0 S0 (fun _ x => by rw [if_neg (by omega)])
  have hI := hI (by omega)
  have e : m_X8_go RO (nI dd) = m_X8_remember T := by
    unfold m_X8_go
    rw [h1, nI_clamp (show n < 2 ^ 31 by omega), h2, hnx, show (upd RO 147 (nI v)) 148 = RO 148 from pk_un (by omega), ← hS0, eT]
    rfl
  have out : ∀ x, x < 141 ∨ 147 ≤ x → T x = S0 x := fun x hx => by rw [hI, if_neg (by omega)]
  refine ⟨T, e, ⟨fun i hi => ?_, ⟨hn, fun i hi => ?_, hL.2.2⟩, ?_, ⟨hv, ?_, ho⟩, ⟨hd1, hd, ?_⟩, ⟨ht, ?_⟩⟩, ?_, fun i hi => ?_⟩
  · rw [out i (by omega), sx i (by omega) (by omega)]; exact hK i hi
  · obtain ⟨g1, g2, g3, g4, g5, ⟨f, hf, ef⟩⟩ := hL.2.1 i hi
    rw [out _ (by omega), sx _ (by omega) (by omega), out _ (by omega), sx _ (by omega) (by omega), hI, if_pos (show 141 ≤ 141 + i ∧ 141 + i < 141 + (0 + n) by omega), sx _ (by omega) (by omega), mw_z n hn, if_pos hi, g3]
    refine ⟨g1, g2, rfl, g4, g5, ?_⟩
    rw [ef]
    unfold decF
    by_cases c1 : nI f ≤ 0
    · rw [if_pos c1]; exact ⟨f, hf, rfl⟩
    · rw [if_neg c1]
      cases f with
      | zero => exact absurd (show nI 0 ≤ 0 by decide) c1
      | succ f => exact ⟨f, by omega, nI_pred f⟩
  · rw [out 128 (by omega), sx 128 (by omega) (by omega)]; exact h1
  · rw [out 147 (by omega)]; exact s147
  · rw [out 149 (by omega), sx 149 (by omega) (by omega)]; exact h3
  · rw [out 150 (by omega), sx 150 (by omega) (by omega)]; exact h4
  · rw [out 148 (by omega)]; exact s148
  · rw [out (64 + i) (by omega), sx _ (by omega) (by omega)]
theorem mwalk_z {n : Nat} (hn : n ≤ 6) (st : Int32) (LF : Nat → Int32) (v : Int32) : m_X5_moveWalker (nI n) st LF v = (v, st + 1, itr f_X5_moveWalker_17 n LF) := by
  simp only [m_X5_moveWalker, nI_clamp (show n < 2 ^ 31 by omega)]
theorem foot_z {n w d t dd : Nat} {K LC LS LF RO : Nat → Int32} (hT : zRT n w d t K LC LS LF RO) (hd4 : dd < 4) : (m_X5_nextOnFoot K (nI w) (nI dd) = -1 ∧ m_X8_canGo RO (nI w) (nI dd) = false) ∨ ∃ v, v < 64 ∧ opC K v = true ∧ m_X5_nextOnFoot K (nI w) (nI dd) = nI v ∧ m_X8_canGo RO (nI w) (nI dd) = true ∧ m_X8_next (nI w) (nI dd) = nI v := by
  obtain ⟨hK, hL, h1, ⟨hw, h2, hwo⟩, -, -⟩ := hT
  rw [nof_nb K hw hd4, canGo_nb RO hw hd4]
  rcases nbN_tab w hw dd hd4 with ⟨-, -, h3⟩ | ⟨g1, -, g3, -⟩
  · refine Or.inl ⟨?_, ?_⟩
    · rw [if_neg (fun q => by omega)]
    · rw [h3]; rfl
  · rw [op_eq hK _ g1]
    by_cases q : opC K (nbN w dd) = true
    · refine Or.inr ⟨nbN w dd, g1, q, ?_, ?_, g3⟩
      · rw [if_pos ⟨g1, q⟩]
      · rw [q, decide_eq_true g1]; rfl
    · refine Or.inl ⟨?_, ?_⟩
      · rw [if_neg (fun x => q x.2)]
      · cases x : opC K (nbN w dd) with
        | false => exact Bool.and_false _
        | true => exact absurd x q
set_option maxRecDepth 100000 in
theorem z_step : E_step zRl := by
  intro c n hc hz pl SG sv RO HI SN PD ms ml sv2 hR hAd v1
  have hR0 := hR
  obtain ⟨⟨⟨k, w, d, t, e1, e2, e3, e4, e5, hT, hm⟩, hs⟩, hH, hP, hS⟩ := hR
  have hk := hT.2.1.1
  have h2 := hT.2.2.2.1.2.1
  unfold m_X7_step m_X8_step
  rw [in_eq7]
  by_cases q1 : m_X7_isWithin v1 0 3 = false
  · rw [if_pos q1, if_pos q1]; exact ⟨rfl, hR0⟩
  rw [if_neg q1, if_neg q1]
  obtain ⟨dd, -, hd3, rfl⟩ := zwithin_of (lo := 0) (hi := 3) (by decide) (by decide) q1
  rw [h2]
  rcases foot_z hT (show dd < 4 by omega) with ⟨f1, f2⟩ | ⟨v, hv, ho, f1, f2, f3⟩
  · rw [← e2] at f1
    rw [if_pos f1, if_pos f2]; exact ⟨rfl, hR0⟩
  · rw [← e2] at f1
    rw [f1, if_neg (n1_ne hv), if_neg (by rw [f2]; decide)]
    obtain ⟨T, g1, g2, g3, g4⟩ := go_z hT hv f3 ho
    have mwe := mwalk_z hk c.st c.LF (nI v)
    rw [← e1] at mwe
    rw [mwe, g1]
    have first : nI v = m_X8_remember T 147 := by rw [rem_keep _ 147 (by omega)]; exact g2.2.2.2.1.2.1.symm
    have second := zchg hR0 (rem_RS (n := k) (w := v) (st := c.st + 1) (K := c.K) (LC := c.LC) (LS := c.LS) (LF := itr f_X5_moveWalker_17 k c.LF) (rm := c.rm) e1 rfl e3 e4 g2 (by rw [g3, e5]) (fun i hi => (g4 i hi).trans (hm i hi)))
    exact ⟨first, second⟩
/-! walks -/
theorem wf_ok {p : Nat} {SG : Nat → Int32} (hp : p ≤ 80) (h : m_X4_faultAsWalk (nI p) SG = -4) : ∀ k, k < p → ∃ dd, dd < 4 ∧ SG k - 48 = nI dd := by
  have e4 : m_X4_faultAsWalk (nI p) SG = (fstD (fun k => !(m_X7_isWithin (SG k) 48 51)) nI p 0).getD (if nI p = 0 then (0 : Int32) else (-4 : Int32)) := by
    unfold m_X4_faultAsWalk
    rw [nI_clamp (show p < 2 ^ 31 by omega)]
    exact fst_lp (p := fun k => !(m_X7_isWithin (SG k) 48 51)) (r := nI) p (fun k hk => by
      have e1 : (51 : Int32) < SG k ↔ ¬ SG k ≤ 51 := by rw [Int32.lt_iff_toInt_lt, Int32.le_iff_toInt_le]; omega
      simp only [f_X4_faultAsWalk_2, nI_clamp (show k < 2 ^ 31 by omega), m_X7_isWithin, e1]
      by_cases c1 : SG k < 48
      · simp [c1]
      · by_cases c2 : SG k ≤ 51
        · simp [c1, c2]
        · simp [c1, c2]) p 0 (Nat.zero_add p)
  intro k hk
  by_cases q : m_X7_isWithin (SG k) 48 51 = false
  · obtain ⟨e, -, h2, -, he⟩ := fst_ex (p := fun k => !(m_X7_isWithin (SG k) 48 51)) (r := nI) p 0 ⟨k, Nat.zero_le _, by omega, by simp only [q]; rfl⟩
    rw [h, he] at e4
    have e4 : (-4 : Int32) = nI e := e4
    have := congrArg Int32.toInt e4
    rw [nI_toInt (by omega), show (-4 : Int32).toInt = -4 by decide] at this
    omega
  · obtain ⟨s, h1, h2, es⟩ := zwithin_of (lo := 48) (hi := 51) (by decide) (by decide) q
    refine ⟨s - 48, by omega, ?_⟩
    rw [es]; exact pk_sub h1
theorem walk_l {p : Nat} (hp : p ≤ 80) {SG PD K LC LS : Nat → Int32} {lm dm tc : Int32} (hS : ∀ i, i < p → SG i = PD i) (hdir : ∀ k, k < p → ∃ dd, dd < 4 ∧ SG k - 48 = nI dd) (F7 : Int32 × Int32 × Int32 × Int64 × (Nat → Int32) → Int32 × Int32 × Int32 × (Nat → Int32) × Int64 × Int32 × Int32 × HA × (Nat → SC)) (F8 : Int32 × (Nat → Int32) → Int32 × Int32 × Int32 × (Nat → Int32) × (Nat → Int32)) : ∀ m k wk st rm (LF RO : Nat → Int32), k + m = p → zRS (mkSC K LC LS LF lm wk st dm tc rm) RO →
    ∃ r wk2 st2 rm2 LF2 RO2, lpr (lpx (f_X7_walk_30 lm dm tc K LC LS SG) m k (nI k, wk, st, rm, LF)) id F7 = F7 (r, wk2, st2, rm2, LF2) ∧ lpr (lpx (f_X8_walk_18 PD) m k (nI k, RO)) id F8 = F8 (r, RO2) ∧ zRS (mkSC K LC LS LF2 lm wk2 st2 dm tc rm2) RO2 := by
  intro m
  induction m with
  | zero => intro k wk st rm LF RO _ h; exact ⟨nI k, wk, st, rm, LF, RO, rfl, rfl, h⟩
  | succ m ih =>
    intro k wk st rm LF RO hkm h
    have h0 := h
    obtain ⟨⟨n, w, d, t, e1, e2, e3, e4, e5, hT, hm⟩, hs⟩ := h
    have e1 : lm = nI n := e1
    have e2 : wk = nI w := e2
    have e3 : dm = nI d := e3
    have e4 : tc = nI t := e4
    have e5 : RO 148 = st := e5
    have hT : zRT n w d t K LC LS LF RO := hT
    have hm : ∀ i, i < 64 → RO (64 + i) = bI (bitN rm i) := hm
    have hn := hT.2.1.1
    have h2 := hT.2.2.2.1.2.1
    obtain ⟨dd, hd4, ed⟩ := hdir k (by omega)
    have ck := nI_clamp (show k < 2 ^ 31 by omega)
    have d7 : m_X4_directionAt SG (nI k) = nI dd := by unfold m_X4_directionAt; rw [ck, ed]
    have d8 : PD k - 48 = nI dd := by rw [← hS k (by omega)]; exact ed
    rw [lpx, lpx]
    rcases foot_z hT hd4 with ⟨f1, f2⟩ | ⟨v, hv, ho, f1, f2, f3⟩
    · have x7 : f_X7_walk_30 lm dm tc K LC LS SG k (nI k, wk, st, rm, LF) = .inl (.inr (nI k, wk, st, rm, LF)) := by
        simp only [f_X7_walk_30, d7, e2]; rw [if_pos f1]
      have x8 : f_X8_walk_18 PD k (nI k, RO) = .inl (.inr (nI k, RO)) := by
        simp only [f_X8_walk_18, ck, d8, h2]; rw [if_pos f2]
      rw [x7, x8]
      exact ⟨nI k, wk, st, rm, LF, RO, rfl, rfl, h0⟩
    · obtain ⟨T, g1, g2, g3, g4⟩ := go_z hT hv f3 ho
      have mwe := mwalk_z hn st LF (nI v)
      rw [← e1] at mwe
      have x7 : f_X7_walk_30 lm dm tc K LC LS SG k (nI k, wk, st, rm, LF) = .inr (nI (k + 1), nI v, st + 1, m_X7_rememberSeen lm (nI v) dm tc rm K LC LS (itr f_X5_moveWalker_17 n LF), itr f_X5_moveWalker_17 n LF) := by
        simp only [f_X7_walk_30, d7, e2]; rw [if_neg (by rw [f1]; exact n1_ne hv)]
        simp only [f1, mwe, nI_1]
      have x8 : f_X8_walk_18 PD k (nI k, RO) = .inr (nI (k + 1), m_X8_remember T) := by
        simp only [f_X8_walk_18, ck, d8, h2]; rw [if_neg (by rw [f2]; decide), g1, nI_1]
      rw [x7, x8]
      exact ih (k + 1) (nI v) (st + 1) _ _ _ (by omega) (rem_RS (n := n) (w := v) (K := K) (LC := LC) (LS := LS) (LF := itr f_X5_moveWalker_17 n LF) (rm := rm) e1 rfl e3 e4 g2 (by rw [g3, e5]) (fun i hi => (g4 i hi).trans (hm i hi)))
theorem z_walk : E_walk zRl := by
  intro c n hc hz pl SG sv RO HI SN PD ms ml sv2 hR hAd
  have hR0 := hR
  obtain ⟨hV, hH, ⟨p, hp, rfl, rfl, hpS⟩, hS⟩ := hR
  unfold m_X7_walk m_X8_walk
  rw [walkFault_eq hp hpS]
  by_cases q1 : m_X4_faultAsWalk (nI p) SG = -4
  · rw [if_pos q1, if_pos q1, nI_clamp (show p < 2 ^ 31 by omega)]
    obtain ⟨r, wk2, st2, rm2, LF2, RO2, g1, g2, g3⟩ := walk_l hp (lm := c.lm) (dm := c.dm) (tc := c.tc) (K := c.K) (LC := c.LC) (LS := c.LS) hpS (wf_ok hp q1) (fun t52 => (t52.1, t52.2.1, t52.2.2.1, t52.2.2.2.2, t52.2.2.2.1, (0 : Int32), recZ hz, recA hz hAd, recC hz hc (mkSC c.K c.LC c.LS c.LF c.lm c.wk c.st c.dm c.tc c.rm))) (fun t16 => (t16.1, (m_X8_record ms RO HI).1, (0 : Int32), (m_X8_remember t16.2), (m_X8_record ms RO HI).2)) p 0 c.wk c.st c.rm c.LF RO (Nat.zero_add p) hV
    have g1 : lpr (lpx (f_X7_walk_30 c.lm c.dm c.tc c.K c.LC c.LS SG) p 0 ((0 : Int32), c.wk, c.st, c.rm, c.LF)) id (fun t52 => (t52.1, t52.2.1, t52.2.2.1, t52.2.2.2.2, t52.2.2.2.1, (0 : Int32), recZ hz, recA hz hAd, recC hz hc (mkSC c.K c.LC c.LS c.LF c.lm c.wk c.st c.dm c.tc c.rm))) = (r, wk2, st2, LF2, rm2, (0 : Int32), recZ hz, recA hz hAd, recC hz hc (mkSC c.K c.LC c.LS c.LF c.lm c.wk c.st c.dm c.tc c.rm)) := g1
    have g2 : lpr (lpx (f_X8_walk_18 PD) p 0 ((0 : Int32), RO)) id (fun t16 => (t16.1, (m_X8_record ms RO HI).1, (0 : Int32), (m_X8_remember t16.2), (m_X8_record ms RO HI).2)) = (r, (m_X8_record ms RO HI).1, (0 : Int32), m_X8_remember RO2, (m_X8_record ms RO HI).2) := g2
    rw [g1, g2]
    have hr := zchg hR0 (rem_same g3)
    exact ⟨rfl, hr.1, hr.2.1, ⟨0, by decide, rfl, rfl, fun i hi => absurd hi (Nat.not_lt_zero _)⟩, hS⟩
  · rw [if_neg q1, if_neg q1]; exact ⟨rfl, hR0⟩
/-! maps from texts -/
theorem map_ok {p w : Nat} {SG : Nat → Int32} (hp : p ≤ 80) (h : m_X4_faultAsMap (nI p) SG (nI w) = -4) : 71 ≤ p ∧ ∀ k, k < p → m_X4_fitsMap SG (nI k) (nI w) = true := by
  have e4 : m_X4_faultAsMap (nI p) SG (nI w) = (fstD (fun k => !(m_X4_fitsMap SG (nI k) (nI w))) nI p 0).getD (if 71 ≤ nI p then (-4 : Int32) else nI p) := by
    unfold m_X4_faultAsMap
    rw [nI_clamp (show p < 2 ^ 31 by omega)]
    exact fst_lp (p := fun k => !(m_X4_fitsMap SG (nI k) (nI w))) (r := nI) p (fun k hk => by
      simp only [f_X4_faultAsMap_2]
      cases m_X4_fitsMap SG (nI k) (nI w) <;> rfl) p 0 (Nat.zero_add p)
  have ne : ∀ e : Nat, e ≤ 80 → (-4 : Int32) ≠ nI e := fun e he q => by
    have := congrArg Int32.toInt q
    rw [nI_toInt (by omega), show (-4 : Int32).toInt = -4 by decide] at this
    omega
  have all : ∀ k, k < p → m_X4_fitsMap SG (nI k) (nI w) = true := by
    intro k hk
    cases q : m_X4_fitsMap SG (nI k) (nI w) with
    | true => rfl
    | false =>
      obtain ⟨e, -, h2, -, he⟩ := fst_ex (p := fun k => !(m_X4_fitsMap SG (nI k) (nI w))) (r := nI) p 0 ⟨k, Nat.zero_le _, by omega, by simp only [q]; rfl⟩
      rw [h, he] at e4
      exact absurd e4 (ne e (by omega))
  refine ⟨?_, all⟩
  apply Classical.byContradiction
  intro q
  rw [fst_none (p := fun k => !(m_X4_fitsMap SG (nI k) (nI w))) p 0 (fun e _ h2 h3 => by simp only [all e (by omega)] at h3; exact absurd h3 (by decide))] at e4
  have i2 : (71 : Int32) ≤ nI p ↔ 71 ≤ p := nI_leI (a := 71) (by decide) (by omega)
  rw [h] at e4
  have e4 : (-4 : Int32) = if 71 ≤ nI p then (-4 : Int32) else nI p := e4
  rw [if_neg (fun x => q (i2.mp x))] at e4
  exact absurd e4 (ne p hp)
theorem kind_k {p w : Nat} {SG PD : Nat → Int32} (hp : p ≤ 80) (hw : w < 64) (h : m_X4_faultAsMap (nI p) SG (nI w) = -4) (hS : ∀ i, i < p → SG i = PD i) {k : Nat} (hk : k < 64) : m_X4_kindAt SG (nI k) = m_X8_kindOf (PD ((9 * ((nI k) / 8)) + ((nI k) - (nI k) / 8 * 8)).toNatClampNeg) ∧ m_X5_wouldTrapWalker (nI w) (nI k) (m_X4_kindAt SG (nI k)) = false := by
  obtain ⟨h71, hall⟩ := map_ok hp h
  have d1 : nI k / 8 = nI (k / 8) := pk_div (d := 8) (by omega) (by decide) (by decide)
  have d2 : nI k - nI k / 8 * 8 = nI (k % 8) := pk_rem (d := 8) (by omega) (by decide) (by decide)
  have a71 : 9 * (k / 8) + k % 8 < 71 := by omega
  have i8 : ((9 * ((nI k) / 8)) + ((nI k) - (nI k) / 8 * 8)).toNatClampNeg = 9 * (k / 8) + k % 8 := by
    rw [d2, d1, show (9 : Int32) * nI (k / 8) = nI (9 * (k / 8)) from pk_mul 9 _, nI_add, nI_clamp (by omega)]
  have i4 : (((m_X0_row (nI k)) * 9) + (m_X0_column (nI k))).toNatClampNeg = 9 * (k / 8) + k % 8 := by
    unfold m_X0_row m_X0_column
    rw [d2, d1, Int32.mul_comm, show (9 : Int32) * nI (k / 8) = nI (9 * (k / 8)) from pk_mul 9 _, nI_add, nI_clamp (by omega)]
  have hf := hall (9 * (k / 8) + k % 8) (by omega)
  have hps := hS (9 * (k / 8) + k % 8) (by omega)
  have e4 : m_X4_kindAt SG (nI k) = m_X4_kindOf (SG (9 * (k / 8) + k % 8)) := by
    simp only [m_X4_kindAt, i4]
  generalize ha : 9 * (k / 8) + k % 8 = a at *
  have c1 : nI a / 9 = nI (k / 8) := by
    rw [show nI a / 9 = nI (a / 9) from pk_div (d := 9) (by omega) (by decide) (by decide), show a / 9 = k / 8 by omega]
  have c2 : nI a - nI a / 9 * 9 = nI (k % 8) := by
    rw [show nI a - nI a / 9 * 9 = nI (a % 9) from pk_rem (d := 9) (by omega) (by decide) (by decide), show a % 9 = k % 8 by omega]
  have c3 : nI (k / 8) * 8 + nI (k % 8) = nI k := by
    rw [Int32.mul_comm, show (8 : Int32) * nI (k / 8) = nI (8 * (k / 8)) from pk_mul 8 _, nI_add]; congr 1; omega
  unfold m_X4_fitsMap at hf
  have lt71 : nI a < 71 := nI_lt a71 (by decide)
  have n8 : ¬ nI (k % 8) = 8 := fun q => by
    have := (nI_eq (b := 8) (by omega) (by decide)).mp q; omega
  rw [if_pos lt71, c2, c1, if_neg n8, nI_clamp (show a < 2 ^ 31 by omega), c3] at hf
  rw [e4, i8]
  rcases kindOf_eq (SG a) with ⟨g1, -⟩ | ⟨g1, -, g3, -⟩
  · rw [if_pos g1] at hf; exact absurd hf (by decide)
  · rw [if_neg g1] at hf
    refine ⟨by rw [← hps]; exact g3.symm, ?_⟩
    unfold m_X5_wouldTrapWalker
    by_cases q : nI k = nI w
    · rw [if_pos q] at hf ⊢
      cases x : m_X0_stopsFeet (m_X4_kindOf (SG a)) with
      | false => rfl
      | true => simp only [x] at hf; exact absurd hf (by decide)
    · rw [if_neg q]
theorem load_l {p w d t : Nat} {SG PD RO0 : Nat → Int32} (hp : p ≤ 80) (h : m_X4_faultAsMap (nI p) SG (nI w) = -4) (hS : ∀ i, i < p → SG i = PD i) : ∀ m k ch n (K LC LS LF RO : Nat → Int32), k + m = 64 → zRT n w d t K LC LS LF RO → (∀ x, (64 ≤ x ∧ x < 128) ∨ 147 ≤ x → RO x = RO0 x) →
    ∃ ch2 n2 K2 LC2 LS2 LF2 RO2, lpx (f_X7_load_37 SG) m k (ch, nI n, K, LC, LS, LF) = .inr (ch2, nI n2, K2, LC2, LS2, LF2) ∧ lpx (f_X8_load_20 PD) m k (ch, RO) = .inr (ch2, RO2) ∧ zRT n2 w d t K2 LC2 LS2 LF2 RO2 ∧ ∀ x, (64 ≤ x ∧ x < 128) ∨ 147 ≤ x → RO2 x = RO0 x := by
  intro m
  induction m with
  | zero => intro k ch n K LC LS LF RO _ hT ha; exact ⟨ch, n, K, LC, LS, LF, RO, rfl, rfl, hT, ha⟩
  | succ m ih =>
    intro k ch n K LC LS LF RO hkm hT ha
    have hk : k < 64 := by omega
    obtain ⟨k1, k2⟩ := kind_k hp hT.2.2.2.1.1 h hS hk
    obtain ⟨m', A, B, C, ec, hT', r4⟩ := zRT_lay hT hk k2
    have x7 : f_X7_load_37 SG k (ch, nI n, K, LC, LS, LF) = .inr ((if m_X4_kindAt SG (nI k) = K k then ch else ch + 1), nI m', upd K k (m_X4_kindAt SG (nI k)), A, B, C) := by
      simp only [f_X7_load_37, ec, nI_clamp (show k < 2 ^ 31 by omega)]
    have x8 : f_X8_load_20 PD k (ch, RO) = .inr ((if m_X4_kindAt SG (nI k) = K k then ch else ch + 1), m_X8_lay RO (nI k) (m_X4_kindAt SG (nI k))) := by
      simp only [f_X8_load_20, ← k1, o0 k hk, hT.1 k hk]
      congr 2
      by_cases q : m_X4_kindAt SG (nI k) = K k
      · rw [if_pos q, if_pos q]; exact bI_f ch
      · rw [if_neg q, if_neg q]; exact bI_t ch
    rw [lpx, lpx, x7, x8]
    exact ih (k + 1) _ m' _ A B C _ (by omega) hT' (fun x hx => (r4 x hx).trans (ha x hx))
theorem z_load : E_load zRl := by
  intro c n hc hz pl SG sv RO HI SN PD ms ml sv2 hR hAd
  have hR0 := hR
  obtain ⟨⟨⟨k, w, d, t, e1, e2, e3, e4, e5, hT, hm⟩, hs⟩, hH, ⟨p, hp, rfl, rfl, hpS⟩, hS⟩ := hR
  have mf := mapFault_eq hT.2.2.2.1.2.1 hp hpS
  rw [← e2] at mf
  unfold m_X7_load m_X8_load
  rw [mf]
  by_cases q1 : m_X4_faultAsMap (nI p) SG c.wk = -4
  · rw [if_pos q1, if_pos q1]
    rw [e2] at q1
    obtain ⟨ch2, n2, K2, LC2, LS2, LF2, RO2, g1, g2, hT', ag⟩ := load_l hp q1 hpS 64 0 0 k c.K c.LC c.LS c.LF RO rfl hT (fun _ _ => rfl)
    rw [← e1] at g1
    rw [g1, g2]
    have hr := zchg hR0 (rem_RS (n := n2) (lm := nI n2) (K := K2) (LC := LC2) (LS := LS2) (LF := LF2) (rm := c.rm) rfl e2 e3 e4 hT' ((ag 148 (by omega)).trans e5) (fun i hi => (ag (64 + i) (by omega)).trans (hm i hi)))
    exact ⟨rfl, hr.1, hr.2.1, ⟨0, by decide, rfl, rfl, fun i hi => absurd hi (Nat.not_lt_zero _)⟩, hS⟩
  · rw [if_neg q1, if_neg q1]; exact ⟨rfl, hR0⟩
theorem z_all : EqAll zRl := ⟨z_hyp, z_init, z_put, z_lamp, z_takeLamp, z_fill, z_set, z_step, z_forget, z_append, z_clear, z_fault, z_load, z_walk, z_cell, z_sees, z_stops, z_lampOf, z_count, z_litShare, z_exposure, z_way, z_ifPut, z_bestLamp, z_darkIn, z_undo, z_save, z_restore⟩
