/-! the relation of the class's state and the model's row, whole -/
def zRV (c : SC) (RO : Nat → Int32) : Prop := ∃ n w d t : Nat, c.lm = nI n ∧ c.wk = nI w ∧ c.dm = nI d ∧ c.tc = nI t ∧ RO 148 = c.st ∧ zRT n w d t c.K c.LC c.LS c.LF RO ∧ ∀ i, i < 64 → RO (64 + i) = bI (bitN c.rm i)
def zSC (c : SC) : Prop := ∀ i, i < 64 → bitN (m_X2_seenCells c.lm c.wk c.dm c.tc c.K c.LC c.LS c.LF al0) i = true → bitN c.rm i = true
def zRS (c : SC) (RO : Nat → Int32) : Prop := zRV c RO ∧ zSC c
section REL
variable {n w d t : Nat} {K LC LS LF RO : Nat → Int32}
theorem zLR_agree {T : Nat → Int32} (h : zLR n LC LS LF RO) (e : ∀ x, 129 ≤ x → x < 147 → T x = RO x) : zLR n LC LS LF T := by
  have hn := h.1
  refine ⟨h.1, fun i hi => ?_, h.2.2⟩
  rw [e (129 + i) (by omega) (by omega), e (135 + i) (by omega) (by omega), e (141 + i) (by omega) (by omega)]
  exact h.2.1 i hi
theorem zRT_agree {T : Nat → Int32} (h : zRT n w d t K LC LS LF RO) (e : ∀ x, x < 64 ∨ (128 ≤ x ∧ x < 151) → T x = RO x) : zRT n w d t K LC LS LF T := by
  obtain ⟨hK, hL, h1, ⟨hw, h2, ho⟩, ⟨hd1, hd, h3⟩, ⟨ht, h4⟩⟩ := h
  exact ⟨fun i hi => (e i (by omega)).trans (hK i hi), zLR_agree hL (fun x h1 h2 => e x (by omega)), (e 128 (by omega)).trans h1, ⟨hw, (e 147 (by omega)).trans h2, ho⟩, ⟨hd1, hd, (e 149 (by omega)).trans h3⟩, ⟨ht, (e 150 (by omega)).trans h4⟩⟩
theorem zRV_agree {c : SC} {T : Nat → Int32} (h : zRV c RO) (e : ∀ x, x < 151 → T x = RO x) : zRV c T := by
  obtain ⟨n, w, d, t, e1, e2, e3, e4, e5, hT, hm⟩ := h
  exact ⟨n, w, d, t, e1, e2, e3, e4, (e 148 (by omega)).trans e5, zRT_agree hT (fun x hx => e x (by omega)), fun i hi => (e _ (by omega)).trans (hm i hi)⟩
theorem zRS_agree {c : SC} {T : Nat → Int32} (h : zRS c RO) (e : ∀ x, x < 151 → T x = RO x) : zRS c T := ⟨zRV_agree h.1 e, h.2⟩
theorem rem_z (h : zRT n w d t K LC LS LF RO) : ∀ x, m_X8_remember RO x = if 64 ≤ x ∧ x < 128 then bI (decide (RO x = 1) || bitN (m_X2_seenCells (nI n) (nI w) (nI d) (nI t) K LC LS LF al0) (x - 64)) else RO x := by
  obtain ⟨T, eT, hT⟩ := lpx_all (f := f_X8_remember_2) (fun k T => k ≤ 64 → ∀ x, T x = if 64 ≤ x ∧ x < 64 + k then bI (decide (RO x = 1) || bitN (m_X2_seenCells (nI n) (nI w) (nI d) (nI t) K LC LS LF al0) (x - 64)) else RO x) (fun k T hk => by
    refine ⟨_, rfl, fun hk1 x => ?_⟩
    have hk' := hk (by omega)
    have ag : zRT n w d t K LC LS LF T := zRT_agree h (fun x hx => by rw [hk' x, if_neg (by omega)])
    have eT : T (64 + k) = RO (64 + k) := by rw [hk', if_neg (by omega)]
    rw [o64 k (by omega), eT, zseen_eq ag (show k < 64 by omega)]
    by_cases q : x = 64 + k
    · subst q
      rw [pk_us, if_pos (show 64 ≤ 64 + k ∧ 64 + k < 64 + (k + 1) by omega), show 64 + k - 64 = k by omega]
      congr 1
      by_cases c1 : RO (64 + k) = 1
      · rw [if_pos c1, decide_eq_true c1]; rfl
      · rw [if_neg c1, decide_eq_false c1, Bool.false_or]
        cases bitN (m_X2_seenCells (nI n) (nI w) (nI d) (nI t) K LC LS LF al0) k <;> rfl
    · rw [pk_un q, hk' x]
      by_cases c1 : 64 ≤ x ∧ x < 64 + k
      · rw [if_pos c1, if_pos (by omega)]
      · rw [if_neg c1, if_neg (by omega)]) 64 0 RO (fun _ x => by rw [if_neg (by omega)])
  intro x
  have := hT (by omega) x
  unfold m_X8_remember
  rw [eT]
  exact this
theorem bI_1 (b : Bool) : bI b = 1 ↔ b = true := nbI_1
/-- behind a change -/
theorem rem_RS {lm wk st dm tc : Int32} {rm : Int64} (e1 : lm = nI n) (e2 : wk = nI w) (e3 : dm = nI d) (e4 : tc = nI t) (h : zRT n w d t K LC LS LF RO) (e5 : RO 148 = st) (hm : ∀ i, i < 64 → RO (64 + i) = bI (bitN rm i)) : zRS (mkSC K LC LS LF lm wk st dm tc (m_X7_rememberSeen lm wk dm tc rm K LC LS LF)) (m_X8_remember RO) := by
  subst e1 e2 e3 e4
  have hr := rem_z h
  refine ⟨⟨n, w, d, t, rfl, rfl, rfl, rfl, ?_, zRT_agree h (fun x hx => by rw [hr x, if_neg (by omega)]), fun i hi => ?_⟩, fun i hi hs => ?_⟩
  · rw [hr, if_neg (by omega)]; exact e5
  · rw [hr, if_pos (by omega), show 64 + i - 64 = i by omega, hm i hi]
    show _ = bI (bitN (rm ||| m_X2_seenCells (nI n) (nI w) (nI d) (nI t) K LC LS LF al0) i)
    rw [bit_or]
    congr 1
    cases bitN rm i <;> rfl
  · show bitN (rm ||| m_X2_seenCells (nI n) (nI w) (nI d) (nI t) K LC LS LF al0) i = true
    rw [bit_or]
    have hs : bitN (m_X2_seenCells (nI n) (nI w) (nI d) (nI t) K LC LS LF al0) i = true := hs
    rw [hs, Bool.or_true]
/-- what is seen is remembered already: to remember it changes nothing -/
theorem rem_same {c : SC} (h : zRS c RO) : zRS c (m_X8_remember RO) := by
  obtain ⟨⟨n, w, d, t, e1, e2, e3, e4, e5, hT, hm⟩, hs⟩ := h
  have hr := rem_z hT
  refine zRS_agree ⟨⟨n, w, d, t, e1, e2, e3, e4, e5, hT, hm⟩, hs⟩ (fun x hx => ?_)
  rw [hr x]
  by_cases c1 : 64 ≤ x ∧ x < 128
  · rw [if_pos c1]
    obtain ⟨i, rfl⟩ : ∃ i, x = 64 + i := ⟨x - 64, by omega⟩
    have hs := hs i (by omega)
    rw [e1, e2, e3, e4] at hs
    rw [show 64 + i - 64 = i by omega, hm i (by omega)]
    congr 1
    cases q : bitN (m_X2_seenCells (nI n) (nI w) (nI d) (nI t) c.K c.LC c.LS c.LF al0) i with
    | false => cases bitN c.rm i <;> rfl
    | true => rw [hs q]; rfl
  · rw [if_neg c1]
/-! the history -/
def zH (hz ms : Int32) (hc : Nat → SC) (HI : Nat → Int32) : Prop := ∃ m : Nat, m ≤ 4 ∧ hz = nI m ∧ ms = nI m ∧ ∀ j, j < m → zRS (hc j) (fun x => HI (151 * j + x))
theorem recI (m : Nat) (hm : m < 4) {g : Nat → (Nat → Int32) → (Nat → Int32)} (hg : ∀ k T, k < 151 → g k T = upd T (151 * m + k) (RO k)) (HI : Nat → Int32) : ∀ N, N ≤ 151 → ∀ x, itr g N HI x = if 151 * m ≤ x ∧ x < 151 * m + N then RO (x - 151 * m) else HI x := by
  intro N
  induction N with
  | zero => intro _ x; rw [if_neg (by omega)]; rfl
  | succ N ih =>
    intro hN x
    show g N (itr g N HI) x = _
    rw [hg N _ (by omega)]
    by_cases q : x = 151 * m + N
    · subst q; rw [pk_us, if_pos (by omega)]; congr 1; omega
    · rw [pk_un q, ih (by omega) x]
      by_cases c1 : 151 * m ≤ x ∧ x < 151 * m + N
      · rw [if_pos c1, if_pos (by omega)]
      · rw [if_neg c1, if_neg (by omega)]
theorem shfI {g : Nat → (Nat → Int32) → (Nat → Int32)} (hg : ∀ k T, k < 453 → g k T = upd T k (T (k + 151))) (HI : Nat → Int32) : ∀ N, N ≤ 453 → ∀ x, itr g N HI x = if x < N then HI (x + 151) else HI x := by
  intro N
  induction N with
  | zero => intro _ x; rw [if_neg (by omega)]; rfl
  | succ N ih =>
    intro hN x
    show g N (itr g N HI) x = _
    rw [hg N _ (by omega)]
    by_cases q : x = N
    · subst q; rw [pk_us, if_pos (by omega), ih (by omega), if_neg (by omega)]
    · rw [pk_un q, ih (by omega) x]
      by_cases c1 : x < N
      · rw [if_pos c1, if_pos (by omega)]
      · rw [if_neg c1, if_neg (by omega)]
theorem hidx {m k : Nat} (hm : m < 4) (hk : k < 151) : (((151 : Int32) * nI m) + nI k).toNatClampNeg = 151 * m + k := by
  rw [show (151 : Int32) * nI m = nI (151 * m) from pk_mul 151 m, nI_add, nI_clamp (by omega)]
theorem rec_z {hz ms : Int32} {hc : Nat → SC} {HI : Nat → Int32} {c : SC} (h : zH hz ms hc HI) (hr : zRS c RO) : zH (recZ hz) (m_X8_record ms RO HI).1 (recC hz hc c) (m_X8_record ms RO HI).2 := by
  obtain ⟨m, hm, rfl, rfl, hj⟩ := h
  by_cases c4 : m = 4
  · subst c4
    have e : m_X8_record (nI 4) RO HI = (nI 4, itr (f_X8_record_51_17 (nI 4) RO) 151 (itr f_X8_record_10 453 HI)) := by
      simp only [m_X8_record]; rw [if_pos (show nI 4 = 4 from rfl)]; rfl
    have s1 := shfI (g := f_X8_record_10) (fun k T hk => by
      simp only [f_X8_record_10, nI_clamp (show k < 2 ^ 31 by omega), show nI k + 151 = nI (k + 151) from nI_add k 151, nI_clamp (show k + 151 < 2 ^ 31 by omega)]) HI 453 (Nat.le_refl _)
    have s2 := recI (RO := RO) 3 (by decide) (g := f_X8_record_51_17 (nI 4) RO) (fun k T hk => by
      simp only [f_X8_record_51_17, nI_clamp (show k < 2 ^ 31 by omega), show nI 4 - 1 = nI 3 from nI_pred 3, hidx (show 3 < 4 by decide) hk]) (itr f_X8_record_10 453 HI) 151 (Nat.le_refl _)
    rw [e]
    refine ⟨4, Nat.le_refl _, ?_, rfl, fun j hj4 => ?_⟩
    · unfold recZ; rw [if_pos (show nI 4 = 4 from rfl)]; rfl
    · unfold recC
      rw [if_pos (show nI 4 = 4 from rfl)]
      by_cases q : j = 3
      · subst q
        show zRS (updC (rotN hc) 3 c 3) _
        rw [show updC (rotN hc) 3 c 3 = c from if_pos rfl]
        refine zRS_agree hr (fun x hx => ?_)
        have := s2 (151 * 3 + x)
        rw [if_pos (by omega), show 151 * 3 + x - 151 * 3 = x by omega] at this
        exact this
      · rw [show updC (rotN hc) 3 c j = rotN hc j from if_neg q, show rotN hc j = hc (j + 1) by
          rcases (by omega : j = 0 ∨ j = 1 ∨ j = 2) with h | h | h <;> subst h <;> rfl]
        refine zRS_agree (hj (j + 1) (by omega)) (fun x hx => ?_)
        have := s2 (151 * j + x)
        rw [if_neg (by omega), s1, if_pos (by omega), show 151 * j + x + 151 = 151 * (j + 1) + x by omega] at this
        exact this
  · have ne : ¬ nI m = 4 := fun q => c4 ((nI_eq (b := 4) (by omega) (by decide)).mp q)
    have e : m_X8_record (nI m) RO HI = (nI (m + 1), itr (f_X8_record_51 (nI m) RO) 151 HI) := by
      simp only [m_X8_record]; rw [if_neg ne, nI_1]
    have s2 := recI (RO := RO) m (by omega) (g := f_X8_record_51 (nI m) RO) (fun k T hk => by
      simp only [f_X8_record_51, nI_clamp (show k < 2 ^ 31 by omega), hidx (show m < 4 by omega) hk]) HI 151 (Nat.le_refl _)
    rw [e]
    refine ⟨m + 1, by omega, ?_, rfl, fun j hjm => ?_⟩
    · unfold recZ; rw [if_neg ne, nI_1]
    · unfold recC
      rw [if_neg ne, nI_clamp (show m < 2 ^ 31 by omega)]
      by_cases q : j = m
      · subst q
        rw [show updC hc j c j = c from if_pos rfl]
        refine zRS_agree hr (fun x hx => ?_)
        have := s2 (151 * j + x)
        rw [if_pos (by omega), show 151 * j + x - 151 * j = x by omega] at this
        exact this
      · rw [show updC hc m c j = hc j from if_neg q]
        refine zRS_agree (hj j (by omega)) (fun x hx => ?_)
        show itr (f_X8_record_51 (nI m) RO) 151 HI (151 * j + x) = HI (151 * j + x)
        rw [s2, if_neg (by omega)]
/-! a lamp taken away, a kind laid -/
theorem rmv_z {m i : Nat} (h : zLR (m + 1) LC LS LF RO) (h1 : RO 128 = nI (m + 1)) (hi : i ≤ m) : ∃ A B C, m_X5_removeLamp (nI (m + 1)) LC LS LF (nI i) = (nI m, A, B, C) ∧ zLR m A B C (m_X8_removeLamp RO (nI i)) ∧ m_X8_removeLamp RO (nI i) 128 = nI m ∧ ∀ x, x < 128 ∨ 147 ≤ x → m_X8_removeLamp RO (nI i) x = RO x := by
  have hm : m < 6 := by have := h.1; omega
  obtain ⟨A, B, C, e, eA, eB, eC⟩ := crm_eq LC LS LF hm hi
  have r := rm_eq hm hi h1
  have sh : ∀ (F : Nat → Int32) x, x < m → shL F i (m + 1) x = F (if i ≤ x then x + 1 else x) := by
    intro F x hx
    unfold shL
    by_cases q : i ≤ x
    · rw [if_pos ⟨q, by omega⟩, if_pos q]
    · rw [if_neg (fun w => q w.1), if_neg q]
  refine ⟨A, B, C, e, ⟨by omega, fun x hx => ?_, fun x y hx hy hxy => ?_⟩, ?_, fun x hx => ?_⟩
  · rw [eA, eB, eC, sh LC x hx, sh LS x hx, sh LF x hx, r, r, r]
    have g := h.2.1 (if i ≤ x then x + 1 else x) (by split <;> omega)
    have k1 : rmR RO i m (129 + x) = RO (129 + (if i ≤ x then x + 1 else x)) := by
      unfold rmR
      rw [if_neg (by omega)]
      by_cases q : i ≤ x
      · rw [if_pos (by omega), if_pos q]; congr 1
      · rw [if_neg (by omega), if_neg (by omega), if_neg q]
    have k2 : rmR RO i m (135 + x) = RO (135 + (if i ≤ x then x + 1 else x)) := by
      unfold rmR
      rw [if_neg (by omega)]
      by_cases q : i ≤ x
      · rw [if_pos (by omega), if_pos q]; congr 1
      · rw [if_neg (by omega), if_neg (by omega), if_neg q]
    have k3 : rmR RO i m (141 + x) = RO (141 + (if i ≤ x then x + 1 else x)) := by
      unfold rmR
      rw [if_neg (by omega)]
      by_cases q : i ≤ x
      · rw [if_pos (by omega), if_pos q]; congr 1
      · rw [if_neg (by omega), if_neg (by omega), if_neg q]
    rw [k1, k2, k3]
    exact g
  · rw [eA, eA, sh LC x hx, sh LC y hy] at hxy
    have := h.2.2 _ _ (by split <;> omega) (by split <;> omega) hxy
    split at this <;> split at this <;> omega
  · rw [r]; unfold rmR; rw [if_pos rfl]
  · rw [r]; unfold rmR; rw [if_neg (by omega), if_neg (by omega), if_neg (by omega)]
theorem lay_z (hL : zLR n LC LS LF RO) (h1 : RO 128 = nI n) (hK : ∀ i, i < 64 → RO i = K i) {c : Nat} (hc : c < 64) (kd : Int32) : ∃ m A B C, m_X5_changeKind (nI n) K LC LS LF (nI c) kd = (nI m, upd K c kd, A, B, C) ∧ zLR m A B C (m_X8_lay RO (nI c) kd) ∧ m_X8_lay RO (nI c) kd 128 = nI m ∧ (∀ i, i < 64 → m_X8_lay RO (nI c) kd i = upd K c kd i) ∧ ∀ x, (64 ≤ x ∧ x < 128) ∨ 147 ≤ x → m_X8_lay RO (nI c) kd x = RO x := by
  have hn := hL.1
  have cc := nI_clamp (show c < 2 ^ 31 by omega)
  have hL' : zLR n LC LS LF (upd RO c kd) := zLR_agree hL (fun x h1 h2 => pk_un (by omega))
  have h1' : (upd RO c kd) 128 = nI n := (pk_un (by omega)).trans h1
  have hK' : ∀ i, i < 64 → upd RO c kd i = upd K c kd i := fun i hi => by
    by_cases q : i = c
    · subst q; rw [pk_us, pk_us]
    · rw [pk_un q, pk_un q]; exact hK i hi
  have hx' : ∀ x, (64 ≤ x ∧ x < 128) ∨ 147 ≤ x → upd RO c kd x = RO x := fun x hx => pk_un (by omega)
  have sd : m_X0_stopsLight kd = m_X8_isDark kd := rfl
  unfold m_X5_changeKind m_X8_lay
  rw [o0 c hc, cc, sd, lampIn_eq hL' h1']
  by_cases q : m_X8_isDark kd = false
  · rw [if_pos q, if_pos q]
    exact ⟨n, LC, LS, LF, rfl, hL', h1', hK', hx'⟩
  · rw [if_neg q, if_neg q]
    rcases lampIn2 (LC := LC) hn (c := c) with ⟨g1, -⟩ | ⟨i, g1, g2, -⟩
    · rw [if_pos g1, g1]
      refine ⟨n, LC, LS, LF, ?_, hL', h1', hK', hx'⟩
      have : m_X5_removeLamp (nI n) LC LS LF (-4) = (nI n, LC, LS, LF) := by
        unfold m_X5_removeLamp; rw [if_pos (show m_X5_isLamp (nI n) (-4) = false by unfold m_X5_isLamp; rw [if_pos (by decide)])]
      simp only [this]
    · obtain ⟨m, rfl⟩ : ∃ m, n = m + 1 := ⟨n - 1, by omega⟩
      rw [g2, if_neg (n4_ne (by omega))]
      obtain ⟨A, B, C, e, r1, r2, r3⟩ := rmv_z hL' h1' (show i ≤ m by omega)
      refine ⟨m, A, B, C, ?_, r1, r2, fun x hx => ?_, fun x hx => ?_⟩
      · simp only [e]
      · rw [r3 x (by omega)]; exact hK' x hx
      · rw [r3 x (by omega)]; exact hx' x hx
end REL
