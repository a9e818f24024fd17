/-- a loop that never leaves early -/
theorem lpx_all {σ ρ : Type} {f : Nat → σ → ρ ⊕ σ} (I : Nat → σ → Prop) (hs : ∀ k s, I k s → ∃ s', f k s = .inr s' ∧ I (k + 1) s') : ∀ (n i0 : Nat) (s0 : σ), I i0 s0 → ∃ t, lpx f n i0 s0 = .inr t ∧ I (i0 + n) t := by
  intro n
  induction n with
  | zero => intro i0 s0 h0; exact ⟨s0, rfl, h0⟩
  | succ n ih =>
    intro i0 s0 h0
    obtain ⟨s', e, h1⟩ := hs i0 s0 h0
    obtain ⟨t, e2, h2⟩ := ih (i0 + 1) s' h1
    refine ⟨t, by rw [lpx, e]; exact e2, ?_⟩
    rw [show i0 + (n + 1) = i0 + 1 + n by omega]; exact h2
/-- the model's row without the lamp number j, of m + 1 lamps -/
def rmR (RO : Nat → Int32) (j m : Nat) (x : Nat) : Int32 :=
  if x = 128 then nI m
  else if (129 + j ≤ x ∧ x < 129 + m) ∨ (135 + j ≤ x ∧ x < 135 + m) ∨ (141 + j ≤ x ∧ x < 141 + m) then RO (x + 1)
  else if x = 129 + m ∨ x = 135 + m ∨ x = 141 + m then 0 else RO x
def rmL (RO : Nat → Int32) (j m k : Nat) (x : Nat) : Int32 :=
  if x = 128 then nI m
  else if (129 + j ≤ x ∧ x < 129 + k) ∨ (135 + j ≤ x ∧ x < 135 + k) ∨ (141 + j ≤ x ∧ x < 141 + k) then RO (x + 1)
  else RO x
theorem o130a : ∀ k : Nat, k < 6 → (((129 : Int32) + nI k) + 1).toNatClampNeg = 130 + k ∧ (((135 : Int32) + nI k) + 1).toNatClampNeg = 136 + k ∧ (((141 : Int32) + nI k) + 1).toNatClampNeg = 142 + k := by decide +kernel
theorem rm_step {RO t : Nat → Int32} {j m k : Nat} (hm : m < 6) (hjk : j ≤ k) (hkm : k < m) (h : ∀ x, t x = rmL RO j m k x) :
    ∀ x, (upd (upd (upd t (129 + k) (t (130 + k))) (135 + k) ((upd t (129 + k) (t (130 + k))) (136 + k))) (141 + k) ((upd (upd t (129 + k) (t (130 + k))) (135 + k) ((upd t (129 + k) (t (130 + k))) (136 + k))) (142 + k))) x = rmL RO j m (k + 1) x := by
  intro x
  have a1 : (upd t (129 + k) (t (130 + k))) (136 + k) = RO (136 + k) := by rw [pk_un (by omega), h]; unfold rmL; rw [if_neg (by omega), if_neg (by omega)]
  have a2 : (upd (upd t (129 + k) (t (130 + k))) (135 + k) ((upd t (129 + k) (t (130 + k))) (136 + k))) (142 + k) = RO (142 + k) := by rw [pk_un (by omega), pk_un (by omega), h]; unfold rmL; rw [if_neg (by omega), if_neg (by omega)]
  have a0 : t (130 + k) = RO (130 + k) := by rw [h]; unfold rmL; rw [if_neg (by omega), if_neg (by omega)]
  rw [a2, a1, a0]
  by_cases e1 : x = 141 + k
  · subst e1; rw [pk_us]; unfold rmL; rw [if_neg (by omega), if_pos (by omega)]; congr 1; omega
  rw [pk_un e1]
  by_cases e2 : x = 135 + k
  · subst e2; rw [pk_us]; unfold rmL; rw [if_neg (by omega), if_pos (by omega)]; congr 1; omega
  rw [pk_un e2]
  by_cases e3 : x = 129 + k
  · subst e3; rw [pk_us]; unfold rmL; rw [if_neg (by omega), if_pos (by omega)]; congr 1; omega
  rw [pk_un e3, h]
  unfold rmL
  by_cases e4 : x = 128
  · rw [if_pos e4, if_pos e4]
  rw [if_neg e4, if_neg e4]
  by_cases e5 : (129 + j ≤ x ∧ x < 129 + k) ∨ (135 + j ≤ x ∧ x < 135 + k) ∨ (141 + j ≤ x ∧ x < 141 + k)
  · rw [if_pos e5, if_pos (by omega)]
  · rw [if_neg e5, if_neg (by omega)]
theorem rm_eq {RO : Nat → Int32} {j m : Nat} (hm : m < 6) (hj : j ≤ m) (h128 : RO 128 = nI (m + 1)) : ∀ x, m_X8_removeLamp RO (nI j) x = rmR RO j m x := by
  have hb : RO 128 - 1 = nI m := by rw [h128]; exact nI_pred m
  have hcm : (RO 128 - 1).toNatClampNeg = m := by rw [hb]; exact nI_clamp (by omega)
  have hcj : (nI j).toNatClampNeg = j := nI_clamp (by omega)
  obtain ⟨t, e, hi⟩ := lpx_all (f := f_X8_removeLamp_14) (fun k t => j ≤ k ∧ (k ≤ m → ∀ x, t x = rmL RO j m k x)) (fun k s hs => by
    refine ⟨_, rfl, by omega, fun hk => ?_⟩
    have h6 : k < 6 := by omega
    have e129 := o129 k h6
    have e135 := o135 k h6
    have e141 := o141 k h6
    have e130 := o130a k h6
    rw [e129, e135, e141, e130.1, e130.2.1, e130.2.2]
    exact rm_step hm hs.1 (by omega) (hs.2 (by omega))) (m - j) j (upd RO 128 (nI m)) ⟨Nat.le_refl _, fun _ x => by
      unfold rmL
      by_cases e4 : x = 128
      · subst e4; rw [pk_us, if_pos rfl]
      · rw [pk_un e4, if_neg e4, if_neg (by omega)]⟩
  have ht := hi.2 (by omega)
  rw [show j + (m - j) = m by omega] at ht
  intro x
  unfold m_X8_removeLamp
  rw [hb, nI_clamp (by omega), hcj, e]
  show (upd (upd (upd t (129 + (t 128)).toNatClampNeg 0) (135 + ((upd t (129 + (t 128)).toNatClampNeg 0) 128)).toNatClampNeg 0) (141 + ((upd (upd t (129 + (t 128)).toNatClampNeg 0) (135 + ((upd t (129 + (t 128)).toNatClampNeg 0) 128)).toNatClampNeg 0) 128)).toNatClampNeg 0) x = _
  have e0 : t 128 = nI m := by rw [ht]; unfold rmL; rw [if_pos rfl]
  have e1 : (upd t (129 + m) 0) 128 = nI m := by rw [pk_un (by omega)]; exact e0
  have e2 : (upd (upd t (129 + m) 0) (135 + m) 0) 128 = nI m := by rw [pk_un (by omega)]; exact e1
  rw [e0, o129 m hm, e1, o135 m hm, e2, o141 m hm]
  unfold rmR
  by_cases q1 : x = 141 + m
  · subst q1; rw [pk_us, if_neg (by omega), if_neg (by omega), if_pos (by omega)]
  rw [pk_un q1]
  by_cases q2 : x = 135 + m
  · subst q2; rw [pk_us, if_neg (by omega), if_neg (by omega), if_pos (by omega)]
  rw [pk_un q2]
  by_cases q3 : x = 129 + m
  · subst q3; rw [pk_us, if_neg (by omega), if_neg (by omega), if_pos (by omega)]
  rw [pk_un q3, ht]
  unfold rmL
  by_cases e4 : x = 128
  · rw [if_pos e4, if_pos e4]
  rw [if_neg e4, if_neg e4]
  by_cases e5 : (129 + j ≤ x ∧ x < 129 + m) ∨ (135 + j ≤ x ∧ x < 135 + m) ∨ (141 + j ≤ x ∧ x < 141 + m)
  · rw [if_pos e5, if_pos e5]
  · rw [if_neg e5, if_neg e5, if_neg (by omega)]
theorem MI_rm {RO : Nat → Int32} (h : MI RO) {j : Int32} (hj : 0 ≤ j.toInt ∧ j.toInt < (RO 128).toInt) : MI (m_X8_removeLamp RO j) := by
  obtain ⟨h1, h2, h3⟩ := h
  have hn := cl_nI h1.1
  have hl := cl_lt h1
  have ht := cl_toInt h1.1
  have hjn := cl_nI hj.1
  have hjt := cl_toInt hj.1
  obtain ⟨m, em⟩ : ∃ m, (RO 128).toNatClampNeg = m + 1 := ⟨(RO 128).toNatClampNeg - 1, by omega⟩
  rw [em] at hn
  have key := rm_eq (RO := RO) (j := j.toNatClampNeg) (m := m) (by omega) (by omega) hn
  rw [← hjn] at key
  have e128 : m_X8_removeLamp RO j 128 = nI m := by rw [key]; unfold rmR; rw [if_pos rfl]
  have e147 : m_X8_removeLamp RO j 147 = RO 147 := by rw [key]; unfold rmR; rw [if_neg (by omega), if_neg (by omega), if_neg (by omega)]
  have ec : (nI m).toNatClampNeg = m := nI_clamp (by omega)
  refine ⟨by rw [e128, nI_toInt (by omega)]; omega, fun i hi => ?_, by rw [e147]; exact h3⟩
  rw [e128, ec] at hi
  rw [o129 i (by omega), key]
  unfold rmR
  rw [if_neg (by omega)]
  by_cases q : j.toNatClampNeg ≤ i
  · rw [if_pos (by omega)]
    have := h2 (i + 1) (by omega)
    rw [o129 (i + 1) (by omega)] at this
    rw [show 129 + i + 1 = 129 + (i + 1) by omega]
    exact this
  · rw [if_neg (by omega), if_neg (by omega)]
    have := h2 i (by omega)
    rw [o129 i (by omega)] at this
    exact this
theorem MI_lay {RO : Nat → Int32} (h : MI RO) {c kd : Int32} (hc : vp_in c 64) : MI (m_X8_lay RO c kd) := by
  have hk := MI_kind h (o0_lt hc) kd
  unfold m_X8_lay
  split
  · exact hk
  · split
    · exact hk
    · rename_i q
      exact MI_rm hk ((li_in hk c).resolve_left q)
theorem rem_keep (RO : Nat → Int32) : ∀ x : Nat, x < 64 ∨ 128 ≤ x → m_X8_remember RO x = RO x := by
  obtain ⟨t, e, hi⟩ := lpx_all (f := f_X8_remember_2) (fun k t => k ≤ 64 → ∀ x : Nat, x < 64 ∨ 128 ≤ x → t x = RO x) (fun k s hs => ⟨_, rfl, fun hk x hx => (pk_un (by rw [o64 _ (by omega)]; omega)).trans (hs (by omega) x hx)⟩) 64 0 RO (fun _ _ _ => rfl)
  unfold m_X8_remember
  rw [e]
  exact hi (by decide)
theorem MI_rem {RO : Nat → Int32} (h : MI RO) : MI (m_X8_remember RO) := MI_agree h (rem_keep RO)
theorem isCell8_in {a : Int32} (h : ¬ m_X8_isCell a = false) : vp_in a 64 := by
  unfold m_X8_isCell m_X8_in at h
  by_cases h1 : a < 0
  · simp [h1] at h
  by_cases h2 : (63 : Int32) < a
  · simp [h1, h2] at h
  · rw [vp_in_iff]
    rw [Int32.lt_iff_toInt_lt] at h1 h2
    have e0 : (0 : Int32).toInt = 0 := by decide
    have e1 : (63 : Int32).toInt = 63 := by decide
    omega
theorem hi_tab : ∀ m : Nat, m < 4 → ((151 : Int32) * nI m).toInt = 151 * (m : Int) := by decide +kernel
theorem hi_in {m k : Nat} (hm : m < 4) (hk : k < 151) : vp_in (((151 : Int32) * nI m) + nI k) 604 := by
  have h := hi_tab m hm
  exact off_in (vp_in_nI (N := 151) hk (by decide)) (by omega) (by omega) (by decide)
theorem ms_nI {ms : Int32} (h : 0 ≤ ms.toInt ∧ ms.toInt ≤ (4 : Nat)) : ∃ m : Nat, m ≤ 4 ∧ ms = nI m := ⟨ms.toNatClampNeg, cl_lt h, cl_nI h.1⟩
theorem hi_1 {ms : Int32} {k : Nat} (h : 0 ≤ ms.toInt ∧ ms.toInt ≤ (4 : Nat)) (h4 : ¬ ms = 4) (hk : k < 151) : vp_in (((151 : Int32) * ms) + nI k) 604 := by
  obtain ⟨m, hm, rfl⟩ := ms_nI h
  have : m ≠ 4 := fun e => h4 (by rw [e]; rfl)
  exact hi_in (by omega) hk
theorem hi_2 {ms : Int32} {k : Nat} (h4 : ms = 4) (hk : k < 151) : vp_in (((151 : Int32) * (ms - 1)) + nI k) 604 := by
  have e : ms - 1 = nI 3 := by rw [h4]; decide
  rw [e]; exact hi_in (by decide) hk
theorem hi_3 {ms : Int32} {k : Nat} (h : 0 ≤ ms.toInt ∧ ms.toInt ≤ (4 : Nat)) (h0 : ¬ ms = 0) (hk : k < 151) : vp_in (((151 : Int32) * (ms - 1)) + nI k) 604 := by
  obtain ⟨m, hm, rfl⟩ := ms_nI h
  obtain ⟨j, rfl⟩ : ∃ j, m = j + 1 := ⟨m - 1, by
    have : m ≠ 0 := fun e => h0 (by rw [e]; rfl)
    omega⟩
  rw [nI_pred]; exact hi_in (by omega) hk
theorem hi_s {k : Nat} (hk : k < 453) : vp_in (nI k + 151) 604 := by
  have e : (151 : Int32) = nI 151 := rfl
  rw [e, nI_add]; exact vp_in_nI (by omega) (by decide)

def f_X8_record_51 (ms : Int32) (RO : Nat → Int32) (k2 : Nat) (t3 : (Nat → Int32)) : (Nat → Int32) := upd t3 ((151 * ms) + (nI k2)).toNatClampNeg (RO (nI k2).toNatClampNeg)
def f_X8_record_10 (k8 : Nat) (t9 : (Nat → Int32)) : (Nat → Int32) := upd t9 (nI k8).toNatClampNeg (t9 ((nI k8) + 151).toNatClampNeg)
def f_X8_record_51_17 (ms : Int32) (RO : Nat → Int32) (k14 : Nat) (t15 : (Nat → Int32)) : (Nat → Int32) := upd t15 ((151 * (ms - 1)) + (nI k14)).toNatClampNeg (RO (nI k14).toNatClampNeg)
def m_X8_record (ms : Int32) (RO : Nat → Int32) (HI : Nat → Int32) : Int32 × (Nat → Int32) := (if ms = 4 then (let t12 : (Nat → Int32) := itr f_X8_record_10 453 HI; (let t18 : (Nat → Int32) := itr (f_X8_record_51_17 ms RO) 151 t12; ((ms - 1) + 1, t18))) else (let t6 : (Nat → Int32) := itr (f_X8_record_51 ms RO) 151 HI; (ms + 1, t6)))
set_option maxHeartbeats 4000000 in
set_option maxRecDepth 100000 in
theorem met_X8_record (l : Launch) (D : va_G) (y4 : vT) (aM aRo aHi aSn aAs aLg aPd aCo aEa : Nat) (sz : Nat) (ms : Int32) (sv : Bool) (ml : Int32) (RO : Nat → Int32) (HI : Nat → Int32) (hms : 0 ≤ ms.toInt ∧ ms.toInt ≤ (4 : Nat)) : Met l yX8_record wsX8_record ({ frames := 0, cells := 0, slots := 0, locals := 0 }) (va_Pc [.ref aM] (PreW D y4 [(aM, .inr (7, [.ref aRo, .ref aHi, .int ms, .ref aSn, .int (bI sv), .ref aAs, .ref aLg, .ref aPd, .int ml, .ref aCo, .ref aEa])), (aRo, .inl (y4.1, 151, .inl RO)), (aHi, .inl (y4.1, 604, .inl HI))] sz)) (va_Qv (fun (_ : Unit) => True) (fun _ t => PostW D (va_A [(aM, .inr (7, [.ref aRo, .ref aHi, .int ms, .ref aSn, .int (bI sv), .ref aAs, .ref aLg, .ref aPd, .int ml, .ref aCo, .ref aEa])), (aRo, .inl (y4.1, 151, .inl RO)), (aHi, .inl (y4.1, 604, .inl HI))] sz) [(aM, .inr (7, [.ref aRo, .ref aHi, .int ((m_X8_record ms RO HI).1), .ref aSn, .int (bI sv), .ref aAs, .ref aLg, .ref aPd, .int ml, .ref aCo, .ref aEa])), (aRo, .inl (y4.1, 151, .inl RO)), (aHi, .inl (y4.1, 604, .inl ((m_X8_record ms RO HI).2)))] t) (va_A [(aM, .inr (7, [.ref aRo, .ref aHi, .int ms, .ref aSn, .int (bI sv), .ref aAs, .ref aLg, .ref aPd, .int ml, .ref aCo, .ref aEa])), (aRo, .inl (y4.1, 151, .inl RO)), (aHi, .inl (y4.1, 604, .inl HI))] sz)) 0 0 (va_A [(aM, .inr (7, [.ref aRo, .ref aHi, .int ms, .ref aSn, .int (bI sv), .ref aAs, .ref aLg, .ref aPd, .int ml, .ref aCo, .ref aEa])), (aRo, .inl (y4.1, 151, .inl RO)), (aHi, .inl (y4.1, 604, .inl HI))] sz) := by
  refine Met.ofW (cc := cX8_record) (maxL := 2) (ret := none) (by decide) rfl ?_
  intro p e s m args below meth c s₁ B hml hv
  obtain ⟨rfl, hsz, hP, hK, hD0, hNW⟩ := hv
  have hx := B.exec
  have hb := B.bytes
  have hr := B.returns
  have hts := atoms_spec (ws := wsX8_record) B.pre
  have hown : s.vm.findClass RX8 = some m.cls := findClass_of_methodNamed B.named
  have hlocks := B.notSynchronized
  subst hsz
  have hD := hD0.self (sz := s.heap.size)
  generalize hAe : va_A [(aM, .inr (7, [.ref aRo, .ref aHi, .int ms, .ref aSn, .int (bI sv), .ref aAs, .ref aLg, .ref aPd, .int ml, .ref aCo, .ref aEa])), (aRo, .inl (y4.1, 151, .inl RO)), (aHi, .inl (y4.1, 604, .inl HI))] s.heap.size = A at hD ⊢
  have hA : ∀ q : Nat, s.heap.size ≤ q → A q := fun q h => by rw [← hAe]; exact Or.inr h
  have hS : va_S A s.heap s.heap [] := va_S.rf
  have hl := lv_entry ([.ref aM]) (n := 2) (Nat.le_of_ble_eq_true rfl)
  rw [lg_entry_eq]
  generalize (lg_sl ([.ref aM]) ++ List.replicate (2 - (lg_sl ([.ref aM])).length) Slot.unset).toArray = ls at hl ⊢
  have hl : lv_has ls 2 [(0, .ref aM)] := hl
  have f41 := hts (.fieldLink RX8 41 "PillarLightModel" "states" "I") (List.mem_of_getElem? (i := 1) rfl)
  have iX8 : ∀ w ∈ wsX80, w ∈ wsX8_record := fun _ h => List.mem_cons_of_mem _ (List.mem_append_right _ h)
  have f13 := hts (.fieldLink RX8 13 "PillarLightModel" "history" "[I") (List.mem_of_getElem? (i := 2) rfl)
  have f7 := hts (.fieldLink RX8 7 "PillarLightModel" "row" "[I") (List.mem_of_getElem? (i := 3) rfl)
  refine startW (fun H locs hP hS => ?_) hP hS
  refine lv_aload_n hx hb dX8_record_0 rfl (lv_at hl 0 rfl) ?_
  refine va_get (ci := 7) (v := .int ms) (C := RX8) (T := TX8) (N := 11) hx hb hts iX8 hown hK hP 0 rfl rfl 2 (by decide) f41 (fun _ h9 => h9) rfl dX8_record_1 ?_
  refine lv_iconst (v := 4) hx hb dX8_record_4 (by decide) ?_
  refine lv_icmp_ne (tgt := 49) hx hb dX8_record_5 (by decide) (fun c1 => ?_) (fun c1 => ?_)
  · refine lv_iconst (v := 0) hx hb dX8_record_49 (by decide) ?_
    refine lv_istore_n (lv' := [(1, .int 0), (0, .ref aM)]) hx hb dX8_record_50 rfl hl (by decide) rfl (fun ls hl => ?_)
    refine loopW (σ := (Nat → Int32)) 51 (f_X8_record_51 ms RO) 151 HI (fun k2 t3 H locs ls => va_P D vwCl [(aM, .inr (7, [.ref aRo, .ref aHi, .int ms, .ref aSn, .int (bI sv), .ref aAs, .ref aLg, .ref aPd, .int ml, .ref aCo, .ref aEa])), (aRo, .inl (y4.1, 151, .inl RO)), (aHi, .inl (y4.1, 604, .inl t3))] H ∧ va_D A [(aM, .inr (7, [.ref aRo, .ref aHi, .int ms, .ref aSn, .int (bI sv), .ref aAs, .ref aLg, .ref aPd, .int ml, .ref aCo, .ref aEa])), (aRo, .inl (y4.1, 151, .inl RO)), (aHi, .inl (y4.1, 604, .inl t3))] ∧ va_S A s.heap H locs ∧ lv_has ls 2 [(1, .int (nI k2)), (0, .ref aM)]) ⟨hP, hD, hS, lv_sub hl [0, 1] rfl⟩ (fun t6 H locs ls et6 hh => ?_) (fun k2 t3 hkk2 hek2 ihk2 H locs ls hh => ?_)
    · obtain ⟨hP, hD, hS, hl⟩ := hh
      have hP : va_P D vwCl [(aM, .inr (7, [.ref aRo, .ref aHi, .int ms, .ref aSn, .int (bI sv), .ref aAs, .ref aLg, .ref aPd, .int ml, .ref aCo, .ref aEa])), (aRo, .inl (y4.1, 151, .inl RO)), (aHi, .inl (y4.1, 604, .inl t6))] H := hP
      have hD : va_D A [(aM, .inr (7, [.ref aRo, .ref aHi, .int ms, .ref aSn, .int (bI sv), .ref aAs, .ref aLg, .ref aPd, .int ml, .ref aCo, .ref aEa])), (aRo, .inl (y4.1, 151, .inl RO)), (aHi, .inl (y4.1, 604, .inl t6))] := hD
      have hl : lv_has ls 2 [(1, .int (nI 151)), (0, .ref aM)] := hl
      refine lv_iload_n hx hb dX8_record_51 rfl (lv_at hl 0 rfl) ?_
      refine lv_sipush (v := 151) hx hb dX8_record_52 (by decide) ?_
      refine lv_icmp_ge (tgt := 85) hx hb dX8_record_55 (by decide) (fun c7 => ?_) (fun c7 => absurd (nI_le (a := 151) (by omega) (by omega)) c7)
      refine lv_aload_n hx hb dX8_record_85 rfl (lv_at hl 1 rfl) ?_
      refine lv_dup hx hb dX8_record_86 rfl ?_
      refine va_get (ci := 7) (v := .int ms) (C := RX8) (T := TX8) (N := 11) hx hb hts iX8 hown hK hP 0 rfl rfl 2 (by decide) f41 (fun _ h9 => h9) rfl dX8_record_87 ?_
      refine lv_iconst (v := 1) hx hb dX8_record_90 (by decide) ?_
      refine lv_iadd hx hb dX8_record_91 ?_
      refine va_put (ci := 7) (v := .int (ms + 1)) (ty := .int) (C := RX8) (T := TX8) (N := 11) hx hb hts iX8 tyX8 tyX8_ok nmX8 hown hK hP hD hS 0 rfl rfl 2 (by decide) f41 (fun _ h9 => h9) rfl (by decide +kernel) rfl rfl (Nat.le_of_ble_eq_true rfl) dX8_record_92 (fun H locs hP hD hS => ?_)
      have hP : va_P D vwCl [(aM, .inr (7, [.ref aRo, .ref aHi, .int (ms + 1), .ref aSn, .int (bI sv), .ref aAs, .ref aLg, .ref aPd, .int ml, .ref aCo, .ref aEa])), (aRo, .inl (y4.1, 151, .inl RO)), (aHi, .inl (y4.1, 604, .inl t6))] H := hP
      have hD : va_D A [(aM, .inr (7, [.ref aRo, .ref aHi, .int (ms + 1), .ref aSn, .int (bI sv), .ref aAs, .ref aLg, .ref aPd, .int ml, .ref aCo, .ref aEa])), (aRo, .inl (y4.1, 151, .inl RO)), (aHi, .inl (y4.1, 604, .inl t6))] := hD
      have em : m_X8_record ms RO HI = (ms + 1, t6) := (by subst et6; first | (simp only [m_X8_record, if_neg c1]; done) | (simp only [m_X8_record, if_neg c1]; rfl))
      exact W.vret hx hb hr (fun t ht hW => ⟨⟨(), rfl, trivial, ⟨by rw [ht, em]; exact hP, by rw [em]; exact hD⟩⟩, hS.F ht⟩) hS.2.2 dX8_record_95
    · obtain ⟨hP, hD, hS, hl⟩ := hh
      have hP : va_P D vwCl [(aM, .inr (7, [.ref aRo, .ref aHi, .int ms, .ref aSn, .int (bI sv), .ref aAs, .ref aLg, .ref aPd, .int ml, .ref aCo, .ref aEa])), (aRo, .inl (y4.1, 151, .inl RO)), (aHi, .inl (y4.1, 604, .inl t3))] H := hP
      have hD : va_D A [(aM, .inr (7, [.ref aRo, .ref aHi, .int ms, .ref aSn, .int (bI sv), .ref aAs, .ref aLg, .ref aPd, .int ml, .ref aCo, .ref aEa])), (aRo, .inl (y4.1, 151, .inl RO)), (aHi, .inl (y4.1, 604, .inl t3))] := hD
      have hl : lv_has ls 2 [(1, .int (nI k2)), (0, .ref aM)] := hl
      refine lv_iload_n hx hb dX8_record_51 rfl (lv_at hl 0 rfl) ?_
      refine lv_sipush (v := 151) hx hb dX8_record_52 (by decide) ?_
      refine lv_icmp_ge (tgt := 85) hx hb dX8_record_55 (by decide) (fun c5 => absurd c5 (nI_ge (b := 151) (by omega) (by omega))) (fun c5 => ?_)
      refine lv_aload_n hx hb dX8_record_58 rfl (lv_at hl 1 rfl) ?_
      refine va_get (ci := 7) (v := .ref aHi) (C := RX8) (T := TX8) (N := 11) hx hb hts iX8 hown hK hP 0 rfl rfl 1 (by decide) f13 (fun _ h9 => h9) rfl dX8_record_59 ?_
      refine lv_sipush (v := 151) hx hb dX8_record_62 (by decide) ?_
      refine lv_aload_n hx hb dX8_record_65 rfl (lv_at hl 1 rfl) ?_
      refine va_get (ci := 7) (v := .int ms) (C := RX8) (T := TX8) (N := 11) hx hb hts iX8 hown hK hP 0 rfl rfl 2 (by decide) f41 (fun _ h9 => h9) rfl dX8_record_66 ?_
      refine lv_imul hx hb dX8_record_69 ?_
      refine lv_iload_n hx hb dX8_record_70 rfl (lv_at hl 0 rfl) ?_
      refine lv_iadd hx hb dX8_record_71 ?_
      refine lv_aload_n hx hb dX8_record_72 rfl (lv_at hl 1 rfl) ?_
      refine va_get (ci := 7) (v := .ref aRo) (C := RX8) (T := TX8) (N := 11) hx hb hts iX8 hown hK hP 0 rfl rfl 0 (by decide) f7 (fun _ h9 => h9) rfl dX8_record_73 ?_
      refine lv_iload_n hx hb dX8_record_76 rfl (lv_at hl 0 rfl) ?_
      refine va_iald hx hb hK hP 1 0 rfl rfl (vp_in_nI (by omega) (by decide)) dX8_record_77 ?_
      refine va_iast hx hb hK hP hD hS 2 0 rfl rfl (by first | exact hi_1 hms (by assumption) (by omega) | exact hi_2 (by assumption) (by omega)) dX8_record_78 (fun H locs hP hD hS => ?_)
      have hP : va_P D vwCl [(aM, .inr (7, [.ref aRo, .ref aHi, .int ms, .ref aSn, .int (bI sv), .ref aAs, .ref aLg, .ref aPd, .int ml, .ref aCo, .ref aEa])), (aRo, .inl (y4.1, 151, .inl RO)), (aHi, .inl (y4.1, 604, .inl (upd t3 ((151 * ms) + (nI k2)).toNatClampNeg (RO (nI k2).toNatClampNeg))))] H := hP
      have hD : va_D A [(aM, .inr (7, [.ref aRo, .ref aHi, .int ms, .ref aSn, .int (bI sv), .ref aAs, .ref aLg, .ref aPd, .int ml, .ref aCo, .ref aEa])), (aRo, .inl (y4.1, 151, .inl RO)), (aHi, .inl (y4.1, 604, .inl (upd t3 ((151 * ms) + (nI k2)).toNatClampNeg (RO (nI k2).toNatClampNeg))))] := hD
      refine lv_iinc (v := nI (k2 + 1)) (lv' := [(1, .int (nI (k2 + 1))), (0, .ref aM)]) hx hb dX8_record_79 hl (k := 0) rfl (nI_1 _) (by decide) rfl (fun ls hl => ?_)
      refine lv_goto (tgt := 51) hx hb dX8_record_82 (by decide) ?_
      have ef : (f_X8_record_51 ms RO) k2 t3 = upd t3 ((151 * ms) + (nI k2)).toNatClampNeg (RO (nI k2).toNatClampNeg) := (by first | (simp only [f_X8_record_51]; done) | (unfold f_X8_record_51; rfl) | rfl)
      rw [ef] at ihk2
      exact ihk2 H locs ls ⟨hP, hD, hS, lv_sub hl [0, 1] rfl⟩
  · refine lv_iconst (v := 0) hx hb dX8_record_8 (by decide) ?_
    refine lv_istore_n (lv' := [(1, .int 0), (0, .ref aM)]) hx hb dX8_record_9 rfl hl (by decide) rfl (fun ls hl => ?_)
    refine loopW (σ := (Nat → Int32)) 10 f_X8_record_10 453 HI (fun k8 t9 H locs ls => va_P D vwCl [(aM, .inr (7, [.ref aRo, .ref aHi, .int ms, .ref aSn, .int (bI sv), .ref aAs, .ref aLg, .ref aPd, .int ml, .ref aCo, .ref aEa])), (aRo, .inl (y4.1, 151, .inl RO)), (aHi, .inl (y4.1, 604, .inl t9))] H ∧ va_D A [(aM, .inr (7, [.ref aRo, .ref aHi, .int ms, .ref aSn, .int (bI sv), .ref aAs, .ref aLg, .ref aPd, .int ml, .ref aCo, .ref aEa])), (aRo, .inl (y4.1, 151, .inl RO)), (aHi, .inl (y4.1, 604, .inl t9))] ∧ va_S A s.heap H locs ∧ lv_has ls 2 [(1, .int (nI k8)), (0, .ref aM)]) ⟨hP, hD, hS, lv_sub hl [0, 1] rfl⟩ (fun t12 H locs ls et12 hh => ?_) (fun k8 t9 hkk8 hek8 ihk8 H locs ls hh => ?_)
    · obtain ⟨hP, hD, hS, hl⟩ := hh
      have hP : va_P D vwCl [(aM, .inr (7, [.ref aRo, .ref aHi, .int ms, .ref aSn, .int (bI sv), .ref aAs, .ref aLg, .ref aPd, .int ml, .ref aCo, .ref aEa])), (aRo, .inl (y4.1, 151, .inl RO)), (aHi, .inl (y4.1, 604, .inl t12))] H := hP
      have hD : va_D A [(aM, .inr (7, [.ref aRo, .ref aHi, .int ms, .ref aSn, .int (bI sv), .ref aAs, .ref aLg, .ref aPd, .int ml, .ref aCo, .ref aEa])), (aRo, .inl (y4.1, 151, .inl RO)), (aHi, .inl (y4.1, 604, .inl t12))] := hD
      have hl : lv_has ls 2 [(1, .int (nI 453)), (0, .ref aM)] := hl
      refine lv_iload_n hx hb dX8_record_10 rfl (lv_at hl 0 rfl) ?_
      refine lv_sipush (v := 453) hx hb dX8_record_11 (by decide) ?_
      refine lv_icmp_ge (tgt := 39) hx hb dX8_record_14 (by decide) (fun c13 => ?_) (fun c13 => absurd (nI_le (a := 453) (by omega) (by omega)) c13)
      refine lv_aload_n hx hb dX8_record_39 rfl (lv_at hl 1 rfl) ?_
      refine lv_dup hx hb dX8_record_40 rfl ?_
      refine va_get (ci := 7) (v := .int ms) (C := RX8) (T := TX8) (N := 11) hx hb hts iX8 hown hK hP 0 rfl rfl 2 (by decide) f41 (fun _ h9 => h9) rfl dX8_record_41 ?_
      refine lv_iconst (v := 1) hx hb dX8_record_44 (by decide) ?_
      refine lv_isub hx hb dX8_record_45 ?_
      refine va_put (ci := 7) (v := .int (ms - 1)) (ty := .int) (C := RX8) (T := TX8) (N := 11) hx hb hts iX8 tyX8 tyX8_ok nmX8 hown hK hP hD hS 0 rfl rfl 2 (by decide) f41 (fun _ h9 => h9) rfl (by decide +kernel) rfl rfl (Nat.le_of_ble_eq_true rfl) dX8_record_46 (fun H locs hP hD hS => ?_)
      have hP : va_P D vwCl [(aM, .inr (7, [.ref aRo, .ref aHi, .int (ms - 1), .ref aSn, .int (bI sv), .ref aAs, .ref aLg, .ref aPd, .int ml, .ref aCo, .ref aEa])), (aRo, .inl (y4.1, 151, .inl RO)), (aHi, .inl (y4.1, 604, .inl t12))] H := hP
      have hD : va_D A [(aM, .inr (7, [.ref aRo, .ref aHi, .int (ms - 1), .ref aSn, .int (bI sv), .ref aAs, .ref aLg, .ref aPd, .int ml, .ref aCo, .ref aEa])), (aRo, .inl (y4.1, 151, .inl RO)), (aHi, .inl (y4.1, 604, .inl t12))] := hD
      refine lv_iconst (v := 0) hx hb dX8_record_49 (by decide) ?_
      refine lv_istore_n (lv' := [(1, .int 0), (0, .ref aM)]) hx hb dX8_record_50 rfl hl (by decide) rfl (fun ls hl => ?_)
      refine loopW (σ := (Nat → Int32)) 51 (f_X8_record_51_17 ms RO) 151 t12 (fun k14 t15 H locs ls => va_P D vwCl [(aM, .inr (7, [.ref aRo, .ref aHi, .int (ms - 1), .ref aSn, .int (bI sv), .ref aAs, .ref aLg, .ref aPd, .int ml, .ref aCo, .ref aEa])), (aRo, .inl (y4.1, 151, .inl RO)), (aHi, .inl (y4.1, 604, .inl t15))] H ∧ va_D A [(aM, .inr (7, [.ref aRo, .ref aHi, .int (ms - 1), .ref aSn, .int (bI sv), .ref aAs, .ref aLg, .ref aPd, .int ml, .ref aCo, .ref aEa])), (aRo, .inl (y4.1, 151, .inl RO)), (aHi, .inl (y4.1, 604, .inl t15))] ∧ va_S A s.heap H locs ∧ lv_has ls 2 [(1, .int (nI k14)), (0, .ref aM)]) ⟨hP, hD, hS, lv_sub hl [0, 1] rfl⟩ (fun t18 H locs ls et18 hh => ?_) (fun k14 t15 hkk14 hek14 ihk14 H locs ls hh => ?_)
      · obtain ⟨hP, hD, hS, hl⟩ := hh
        have hP : va_P D vwCl [(aM, .inr (7, [.ref aRo, .ref aHi, .int (ms - 1), .ref aSn, .int (bI sv), .ref aAs, .ref aLg, .ref aPd, .int ml, .ref aCo, .ref aEa])), (aRo, .inl (y4.1, 151, .inl RO)), (aHi, .inl (y4.1, 604, .inl t18))] H := hP
        have hD : va_D A [(aM, .inr (7, [.ref aRo, .ref aHi, .int (ms - 1), .ref aSn, .int (bI sv), .ref aAs, .ref aLg, .ref aPd, .int ml, .ref aCo, .ref aEa])), (aRo, .inl (y4.1, 151, .inl RO)), (aHi, .inl (y4.1, 604, .inl t18))] := hD
        have hl : lv_has ls 2 [(1, .int (nI 151)), (0, .ref aM)] := hl
        refine lv_iload_n hx hb dX8_record_51 rfl (lv_at hl 0 rfl) ?_
        refine lv_sipush (v := 151) hx hb dX8_record_52 (by decide) ?_
        refine lv_icmp_ge (tgt := 85) hx hb dX8_record_55 (by decide) (fun c19 => ?_) (fun c19 => absurd (nI_le (a := 151) (by omega) (by omega)) c19)
        refine lv_aload_n hx hb dX8_record_85 rfl (lv_at hl 1 rfl) ?_
        refine lv_dup hx hb dX8_record_86 rfl ?_
        refine va_get (ci := 7) (v := .int (ms - 1)) (C := RX8) (T := TX8) (N := 11) hx hb hts iX8 hown hK hP 0 rfl rfl 2 (by decide) f41 (fun _ h9 => h9) rfl dX8_record_87 ?_
        refine lv_iconst (v := 1) hx hb dX8_record_90 (by decide) ?_
        refine lv_iadd hx hb dX8_record_91 ?_
        refine va_put (ci := 7) (v := .int ((ms - 1) + 1)) (ty := .int) (C := RX8) (T := TX8) (N := 11) hx hb hts iX8 tyX8 tyX8_ok nmX8 hown hK hP hD hS 0 rfl rfl 2 (by decide) f41 (fun _ h9 => h9) rfl (by decide +kernel) rfl rfl (Nat.le_of_ble_eq_true rfl) dX8_record_92 (fun H locs hP hD hS => ?_)
        have hP : va_P D vwCl [(aM, .inr (7, [.ref aRo, .ref aHi, .int ((ms - 1) + 1), .ref aSn, .int (bI sv), .ref aAs, .ref aLg, .ref aPd, .int ml, .ref aCo, .ref aEa])), (aRo, .inl (y4.1, 151, .inl RO)), (aHi, .inl (y4.1, 604, .inl t18))] H := hP
        have hD : va_D A [(aM, .inr (7, [.ref aRo, .ref aHi, .int ((ms - 1) + 1), .ref aSn, .int (bI sv), .ref aAs, .ref aLg, .ref aPd, .int ml, .ref aCo, .ref aEa])), (aRo, .inl (y4.1, 151, .inl RO)), (aHi, .inl (y4.1, 604, .inl t18))] := hD
        have em : m_X8_record ms RO HI = ((ms - 1) + 1, t18) := (by subst et18 et12; first | (simp only [m_X8_record, if_pos c1]; done) | (simp only [m_X8_record, if_pos c1]; rfl))
        exact W.vret hx hb hr (fun t ht hW => ⟨⟨(), rfl, trivial, ⟨by rw [ht, em]; exact hP, by rw [em]; exact hD⟩⟩, hS.F ht⟩) hS.2.2 dX8_record_95
      · obtain ⟨hP, hD, hS, hl⟩ := hh
        have hP : va_P D vwCl [(aM, .inr (7, [.ref aRo, .ref aHi, .int (ms - 1), .ref aSn, .int (bI sv), .ref aAs, .ref aLg, .ref aPd, .int ml, .ref aCo, .ref aEa])), (aRo, .inl (y4.1, 151, .inl RO)), (aHi, .inl (y4.1, 604, .inl t15))] H := hP
        have hD : va_D A [(aM, .inr (7, [.ref aRo, .ref aHi, .int (ms - 1), .ref aSn, .int (bI sv), .ref aAs, .ref aLg, .ref aPd, .int ml, .ref aCo, .ref aEa])), (aRo, .inl (y4.1, 151, .inl RO)), (aHi, .inl (y4.1, 604, .inl t15))] := hD
        have hl : lv_has ls 2 [(1, .int (nI k14)), (0, .ref aM)] := hl
        refine lv_iload_n hx hb dX8_record_51 rfl (lv_at hl 0 rfl) ?_
        refine lv_sipush (v := 151) hx hb dX8_record_52 (by decide) ?_
        refine lv_icmp_ge (tgt := 85) hx hb dX8_record_55 (by decide) (fun c17 => absurd c17 (nI_ge (b := 151) (by omega) (by omega))) (fun c17 => ?_)
        refine lv_aload_n hx hb dX8_record_58 rfl (lv_at hl 1 rfl) ?_
        refine va_get (ci := 7) (v := .ref aHi) (C := RX8) (T := TX8) (N := 11) hx hb hts iX8 hown hK hP 0 rfl rfl 1 (by decide) f13 (fun _ h9 => h9) rfl dX8_record_59 ?_
        refine lv_sipush (v := 151) hx hb dX8_record_62 (by decide) ?_
        refine lv_aload_n hx hb dX8_record_65 rfl (lv_at hl 1 rfl) ?_
        refine va_get (ci := 7) (v := .int (ms - 1)) (C := RX8) (T := TX8) (N := 11) hx hb hts iX8 hown hK hP 0 rfl rfl 2 (by decide) f41 (fun _ h9 => h9) rfl dX8_record_66 ?_
        refine lv_imul hx hb dX8_record_69 ?_
        refine lv_iload_n hx hb dX8_record_70 rfl (lv_at hl 0 rfl) ?_
        refine lv_iadd hx hb dX8_record_71 ?_
        refine lv_aload_n hx hb dX8_record_72 rfl (lv_at hl 1 rfl) ?_
        refine va_get (ci := 7) (v := .ref aRo) (C := RX8) (T := TX8) (N := 11) hx hb hts iX8 hown hK hP 0 rfl rfl 0 (by decide) f7 (fun _ h9 => h9) rfl dX8_record_73 ?_
        refine lv_iload_n hx hb dX8_record_76 rfl (lv_at hl 0 rfl) ?_
        refine va_iald hx hb hK hP 1 0 rfl rfl (vp_in_nI (by omega) (by decide)) dX8_record_77 ?_
        refine va_iast hx hb hK hP hD hS 2 0 rfl rfl (by first | exact hi_1 hms (by assumption) (by omega) | exact hi_2 (by assumption) (by omega)) dX8_record_78 (fun H locs hP hD hS => ?_)
        have hP : va_P D vwCl [(aM, .inr (7, [.ref aRo, .ref aHi, .int (ms - 1), .ref aSn, .int (bI sv), .ref aAs, .ref aLg, .ref aPd, .int ml, .ref aCo, .ref aEa])), (aRo, .inl (y4.1, 151, .inl RO)), (aHi, .inl (y4.1, 604, .inl (upd t15 ((151 * (ms - 1)) + (nI k14)).toNatClampNeg (RO (nI k14).toNatClampNeg))))] H := hP
        have hD : va_D A [(aM, .inr (7, [.ref aRo, .ref aHi, .int (ms - 1), .ref aSn, .int (bI sv), .ref aAs, .ref aLg, .ref aPd, .int ml, .ref aCo, .ref aEa])), (aRo, .inl (y4.1, 151, .inl RO)), (aHi, .inl (y4.1, 604, .inl (upd t15 ((151 * (ms - 1)) + (nI k14)).toNatClampNeg (RO (nI k14).toNatClampNeg))))] := hD
        refine lv_iinc (v := nI (k14 + 1)) (lv' := [(1, .int (nI (k14 + 1))), (0, .ref aM)]) hx hb dX8_record_79 hl (k := 0) rfl (nI_1 _) (by decide) rfl (fun ls hl => ?_)
        refine lv_goto (tgt := 51) hx hb dX8_record_82 (by decide) ?_
        have ef : (f_X8_record_51_17 ms RO) k14 t15 = upd t15 ((151 * (ms - 1)) + (nI k14)).toNatClampNeg (RO (nI k14).toNatClampNeg) := (by first | (simp only [f_X8_record_51_17]; done) | (unfold f_X8_record_51_17; rfl) | rfl)
        rw [ef] at ihk14
        exact ihk14 H locs ls ⟨hP, hD, hS, lv_sub hl [0, 1] rfl⟩
    · obtain ⟨hP, hD, hS, hl⟩ := hh
      have hP : va_P D vwCl [(aM, .inr (7, [.ref aRo, .ref aHi, .int ms, .ref aSn, .int (bI sv), .ref aAs, .ref aLg, .ref aPd, .int ml, .ref aCo, .ref aEa])), (aRo, .inl (y4.1, 151, .inl RO)), (aHi, .inl (y4.1, 604, .inl t9))] H := hP
      have hD : va_D A [(aM, .inr (7, [.ref aRo, .ref aHi, .int ms, .ref aSn, .int (bI sv), .ref aAs, .ref aLg, .ref aPd, .int ml, .ref aCo, .ref aEa])), (aRo, .inl (y4.1, 151, .inl RO)), (aHi, .inl (y4.1, 604, .inl t9))] := hD
      have hl : lv_has ls 2 [(1, .int (nI k8)), (0, .ref aM)] := hl
      refine lv_iload_n hx hb dX8_record_10 rfl (lv_at hl 0 rfl) ?_
      refine lv_sipush (v := 453) hx hb dX8_record_11 (by decide) ?_
      refine lv_icmp_ge (tgt := 39) hx hb dX8_record_14 (by decide) (fun c11 => absurd c11 (nI_ge (b := 453) (by omega) (by omega))) (fun c11 => ?_)
      refine lv_aload_n hx hb dX8_record_17 rfl (lv_at hl 1 rfl) ?_
      refine va_get (ci := 7) (v := .ref aHi) (C := RX8) (T := TX8) (N := 11) hx hb hts iX8 hown hK hP 0 rfl rfl 1 (by decide) f13 (fun _ h9 => h9) rfl dX8_record_18 ?_
      refine lv_iload_n hx hb dX8_record_21 rfl (lv_at hl 0 rfl) ?_
      refine lv_aload_n hx hb dX8_record_22 rfl (lv_at hl 1 rfl) ?_
      refine va_get (ci := 7) (v := .ref aHi) (C := RX8) (T := TX8) (N := 11) hx hb hts iX8 hown hK hP 0 rfl rfl 1 (by decide) f13 (fun _ h9 => h9) rfl dX8_record_23 ?_
      refine lv_iload_n hx hb dX8_record_26 rfl (lv_at hl 0 rfl) ?_
      refine lv_sipush (v := 151) hx hb dX8_record_27 (by decide) ?_
      refine lv_iadd hx hb dX8_record_30 ?_
      refine va_iald hx hb hK hP 2 0 rfl rfl (hi_s (by omega)) dX8_record_31 ?_
      refine va_iast hx hb hK hP hD hS 2 0 rfl rfl (vp_in_nI (by omega) (by decide)) dX8_record_32 (fun H locs hP hD hS => ?_)
      have hP : va_P D vwCl [(aM, .inr (7, [.ref aRo, .ref aHi, .int ms, .ref aSn, .int (bI sv), .ref aAs, .ref aLg, .ref aPd, .int ml, .ref aCo, .ref aEa])), (aRo, .inl (y4.1, 151, .inl RO)), (aHi, .inl (y4.1, 604, .inl (upd t9 (nI k8).toNatClampNeg (t9 ((nI k8) + 151).toNatClampNeg))))] H := hP
      have hD : va_D A [(aM, .inr (7, [.ref aRo, .ref aHi, .int ms, .ref aSn, .int (bI sv), .ref aAs, .ref aLg, .ref aPd, .int ml, .ref aCo, .ref aEa])), (aRo, .inl (y4.1, 151, .inl RO)), (aHi, .inl (y4.1, 604, .inl (upd t9 (nI k8).toNatClampNeg (t9 ((nI k8) + 151).toNatClampNeg))))] := hD
      refine lv_iinc (v := nI (k8 + 1)) (lv' := [(1, .int (nI (k8 + 1))), (0, .ref aM)]) hx hb dX8_record_33 hl (k := 0) rfl (nI_1 _) (by decide) rfl (fun ls hl => ?_)
      refine lv_goto (tgt := 10) hx hb dX8_record_36 (by decide) ?_
      have ef : f_X8_record_10 k8 t9 = upd t9 (nI k8).toNatClampNeg (t9 ((nI k8) + 151).toNatClampNeg) := (by first | (simp only [f_X8_record_10]; done) | (unfold f_X8_record_10; rfl) | rfl)
      rw [ef] at ihk8
      exact ihk8 H locs ls ⟨hP, hD, hS, lv_sub hl [0, 1] rfl⟩
def f_X8_undo_22 (ms : Int32) (HI : Nat → Int32) (k2 : Nat) (t3 : (Nat → Int32)) : (Nat → Int32) := upd t3 (nI k2).toNatClampNeg (HI ((151 * (ms - 1)) + (nI k2)).toNatClampNeg)
def m_X8_undo (ms : Int32) (RO : Nat → Int32) (HI : Nat → Int32) : Int32 × Int32 × (Nat → Int32) := (if ms = 0 then ((-2 : Int32), ms, RO) else (let t6 : (Nat → Int32) := itr (f_X8_undo_22 ms HI) 151 RO; (ms - 1, ms - 1, t6)))
set_option maxHeartbeats 4000000 in
set_option maxRecDepth 100000 in
theorem met_X8_undo (l : Launch) (D : va_G) (y4 : vT) (aM aRo aHi aSn aAs aLg aPd aCo aEa : Nat) (sz : Nat) (ms : Int32) (sv : Bool) (ml : Int32) (RO : Nat → Int32) (HI : Nat → Int32) (hms : 0 ≤ ms.toInt ∧ ms.toInt ≤ (4 : Nat)) : Met l yX8_undo wsX8_undo ({ frames := 0, cells := 0, slots := 0, locals := 0 }) (va_Pc [.ref aM] (PreW D y4 [(aM, .inr (7, [.ref aRo, .ref aHi, .int ms, .ref aSn, .int (bI sv), .ref aAs, .ref aLg, .ref aPd, .int ml, .ref aCo, .ref aEa])), (aRo, .inl (y4.1, 151, .inl RO)), (aHi, .inl (y4.1, 604, .inl HI))] sz)) (va_Qi (fun (r : Int32) (_ : Unit) => r = (m_X8_undo ms RO HI).1) (fun _ t => PostW D (va_A [(aM, .inr (7, [.ref aRo, .ref aHi, .int ms, .ref aSn, .int (bI sv), .ref aAs, .ref aLg, .ref aPd, .int ml, .ref aCo, .ref aEa])), (aRo, .inl (y4.1, 151, .inl RO)), (aHi, .inl (y4.1, 604, .inl HI))] sz) [(aM, .inr (7, [.ref aRo, .ref aHi, .int ((m_X8_undo ms RO HI).2.1), .ref aSn, .int (bI sv), .ref aAs, .ref aLg, .ref aPd, .int ml, .ref aCo, .ref aEa])), (aRo, .inl (y4.1, 151, .inl ((m_X8_undo ms RO HI).2.2))), (aHi, .inl (y4.1, 604, .inl HI))] t) (va_A [(aM, .inr (7, [.ref aRo, .ref aHi, .int ms, .ref aSn, .int (bI sv), .ref aAs, .ref aLg, .ref aPd, .int ml, .ref aCo, .ref aEa])), (aRo, .inl (y4.1, 151, .inl RO)), (aHi, .inl (y4.1, 604, .inl HI))] sz)) 0 0 (va_A [(aM, .inr (7, [.ref aRo, .ref aHi, .int ms, .ref aSn, .int (bI sv), .ref aAs, .ref aLg, .ref aPd, .int ml, .ref aCo, .ref aEa])), (aRo, .inl (y4.1, 151, .inl RO)), (aHi, .inl (y4.1, 604, .inl HI))] sz) := by
  refine Met.ofW (cc := cX8_undo) (maxL := 2) (ret := (some .int)) (by decide) rfl ?_
  intro p e s m args below meth c s₁ B hml hv
  obtain ⟨rfl, hsz, hP, hK, hD0, hNW⟩ := hv
  have hx := B.exec
  have hb := B.bytes
  have hr := B.returns
  have hts := atoms_spec (ws := wsX8_undo) B.pre
  have hown : s.vm.findClass RX8 = some m.cls := findClass_of_methodNamed B.named
  have hlocks := B.notSynchronized
  subst hsz
  have hD := hD0.self (sz := s.heap.size)
  generalize hAe : va_A [(aM, .inr (7, [.ref aRo, .ref aHi, .int ms, .ref aSn, .int (bI sv), .ref aAs, .ref aLg, .ref aPd, .int ml, .ref aCo, .ref aEa])), (aRo, .inl (y4.1, 151, .inl RO)), (aHi, .inl (y4.1, 604, .inl HI))] s.heap.size = A at hD ⊢
  have hA : ∀ q : Nat, s.heap.size ≤ q → A q := fun q h => by rw [← hAe]; exact Or.inr h
  have hS : va_S A s.heap s.heap [] := va_S.rf
  have hl := lv_entry ([.ref aM]) (n := 2) (Nat.le_of_ble_eq_true rfl)
  rw [lg_entry_eq]
  generalize (lg_sl ([.ref aM]) ++ List.replicate (2 - (lg_sl ([.ref aM])).length) Slot.unset).toArray = ls at hl ⊢
  have hl : lv_has ls 2 [(0, .ref aM)] := hl
  have f41 := hts (.fieldLink RX8 41 "PillarLightModel" "states" "I") (List.mem_of_getElem? (i := 1) rfl)
  have iX8 : ∀ w ∈ wsX80, w ∈ wsX8_undo := fun _ h => List.mem_cons_of_mem _ (List.mem_append_right _ h)
  have f7 := hts (.fieldLink RX8 7 "PillarLightModel" "row" "[I") (List.mem_of_getElem? (i := 2) rfl)
  have f13 := hts (.fieldLink RX8 13 "PillarLightModel" "history" "[I") (List.mem_of_getElem? (i := 3) rfl)
  refine startW (fun H locs hP hS => ?_) hP hS
  refine lv_aload_n hx hb dX8_undo_0 rfl (lv_at hl 0 rfl) ?_
  refine va_get (ci := 7) (v := .int ms) (C := RX8) (T := TX8) (N := 11) hx hb hts iX8 hown hK hP 0 rfl rfl 2 (by decide) f41 (fun _ h9 => h9) rfl dX8_undo_1 ?_
  refine lv_if_ne (tgt := 10) hx hb dX8_undo_4 (by decide) (fun c1 => ?_) (fun c1 => ?_)
  · refine lv_aload_n hx hb dX8_undo_10 rfl (lv_at hl 0 rfl) ?_
    refine lv_dup hx hb dX8_undo_11 rfl ?_
    refine va_get (ci := 7) (v := .int ms) (C := RX8) (T := TX8) (N := 11) hx hb hts iX8 hown hK hP 0 rfl rfl 2 (by decide) f41 (fun _ h9 => h9) rfl dX8_undo_12 ?_
    refine lv_iconst (v := 1) hx hb dX8_undo_15 (by decide) ?_
    refine lv_isub hx hb dX8_undo_16 ?_
    refine va_put (ci := 7) (v := .int (ms - 1)) (ty := .int) (C := RX8) (T := TX8) (N := 11) hx hb hts iX8 tyX8 tyX8_ok nmX8 hown hK hP hD hS 0 rfl rfl 2 (by decide) f41 (fun _ h9 => h9) rfl (by decide +kernel) rfl rfl (Nat.le_of_ble_eq_true rfl) dX8_undo_17 (fun H locs hP hD hS => ?_)
    have hP : va_P D vwCl [(aM, .inr (7, [.ref aRo, .ref aHi, .int (ms - 1), .ref aSn, .int (bI sv), .ref aAs, .ref aLg, .ref aPd, .int ml, .ref aCo, .ref aEa])), (aRo, .inl (y4.1, 151, .inl RO)), (aHi, .inl (y4.1, 604, .inl HI))] H := hP
    have hD : va_D A [(aM, .inr (7, [.ref aRo, .ref aHi, .int (ms - 1), .ref aSn, .int (bI sv), .ref aAs, .ref aLg, .ref aPd, .int ml, .ref aCo, .ref aEa])), (aRo, .inl (y4.1, 151, .inl RO)), (aHi, .inl (y4.1, 604, .inl HI))] := hD
    refine lv_iconst (v := 0) hx hb dX8_undo_20 (by decide) ?_
    refine lv_istore_n (lv' := [(1, .int 0), (0, .ref aM)]) hx hb dX8_undo_21 rfl hl (by decide) rfl (fun ls hl => ?_)
    refine loopW (σ := (Nat → Int32)) 22 (f_X8_undo_22 ms HI) 151 RO (fun k2 t3 H locs ls => va_P D vwCl [(aM, .inr (7, [.ref aRo, .ref aHi, .int (ms - 1), .ref aSn, .int (bI sv), .ref aAs, .ref aLg, .ref aPd, .int ml, .ref aCo, .ref aEa])), (aRo, .inl (y4.1, 151, .inl t3)), (aHi, .inl (y4.1, 604, .inl HI))] H ∧ va_D A [(aM, .inr (7, [.ref aRo, .ref aHi, .int (ms - 1), .ref aSn, .int (bI sv), .ref aAs, .ref aLg, .ref aPd, .int ml, .ref aCo, .ref aEa])), (aRo, .inl (y4.1, 151, .inl t3)), (aHi, .inl (y4.1, 604, .inl HI))] ∧ va_S A s.heap H locs ∧ lv_has ls 2 [(1, .int (nI k2)), (0, .ref aM)]) ⟨hP, hD, hS, lv_sub hl [0, 1] rfl⟩ (fun t6 H locs ls et6 hh => ?_) (fun k2 t3 hkk2 hek2 ihk2 H locs ls hh => ?_)
    · obtain ⟨hP, hD, hS, hl⟩ := hh
      have hP : va_P D vwCl [(aM, .inr (7, [.ref aRo, .ref aHi, .int (ms - 1), .ref aSn, .int (bI sv), .ref aAs, .ref aLg, .ref aPd, .int ml, .ref aCo, .ref aEa])), (aRo, .inl (y4.1, 151, .inl t6)), (aHi, .inl (y4.1, 604, .inl HI))] H := hP
      have hD : va_D A [(aM, .inr (7, [.ref aRo, .ref aHi, .int (ms - 1), .ref aSn, .int (bI sv), .ref aAs, .ref aLg, .ref aPd, .int ml, .ref aCo, .ref aEa])), (aRo, .inl (y4.1, 151, .inl t6)), (aHi, .inl (y4.1, 604, .inl HI))] := hD
      have hl : lv_has ls 2 [(1, .int (nI 151)), (0, .ref aM)] := hl
      refine lv_iload_n hx hb dX8_undo_22 rfl (lv_at hl 0 rfl) ?_
      refine lv_sipush (v := 151) hx hb dX8_undo_23 (by decide) ?_
      refine lv_icmp_ge (tgt := 56) hx hb dX8_undo_26 (by decide) (fun c7 => ?_) (fun c7 => absurd (nI_le (a := 151) (by omega) (by omega)) c7)
      refine lv_aload_n hx hb dX8_undo_56 rfl (lv_at hl 1 rfl) ?_
      refine va_get (ci := 7) (v := .int (ms - 1)) (C := RX8) (T := TX8) (N := 11) hx hb hts iX8 hown hK hP 0 rfl rfl 2 (by decide) f41 (fun _ h9 => h9) rfl dX8_undo_57 ?_
      have em : m_X8_undo ms RO HI = (ms - 1, ms - 1, t6) := (by subst et6; first | (simp only [m_X8_undo, if_neg c1]; done) | (simp only [m_X8_undo, if_neg c1]; rfl))
      exact W.iret (v := ms - 1) hx hb hr (fun t ht hW => ⟨⟨ms - 1, (), rfl, (by rw [em]), ⟨by rw [ht, em]; exact hP, by rw [em]; exact hD⟩⟩, hS.F ht⟩) hS.2.2 dX8_undo_60
    · obtain ⟨hP, hD, hS, hl⟩ := hh
      have hP : va_P D vwCl [(aM, .inr (7, [.ref aRo, .ref aHi, .int (ms - 1), .ref aSn, .int (bI sv), .ref aAs, .ref aLg, .ref aPd, .int ml, .ref aCo, .ref aEa])), (aRo, .inl (y4.1, 151, .inl t3)), (aHi, .inl (y4.1, 604, .inl HI))] H := hP
      have hD : va_D A [(aM, .inr (7, [.ref aRo, .ref aHi, .int (ms - 1), .ref aSn, .int (bI sv), .ref aAs, .ref aLg, .ref aPd, .int ml, .ref aCo, .ref aEa])), (aRo, .inl (y4.1, 151, .inl t3)), (aHi, .inl (y4.1, 604, .inl HI))] := hD
      have hl : lv_has ls 2 [(1, .int (nI k2)), (0, .ref aM)] := hl
      refine lv_iload_n hx hb dX8_undo_22 rfl (lv_at hl 0 rfl) ?_
      refine lv_sipush (v := 151) hx hb dX8_undo_23 (by decide) ?_
      refine lv_icmp_ge (tgt := 56) hx hb dX8_undo_26 (by decide) (fun c5 => absurd c5 (nI_ge (b := 151) (by omega) (by omega))) (fun c5 => ?_)
      refine lv_aload_n hx hb dX8_undo_29 rfl (lv_at hl 1 rfl) ?_
      refine va_get (ci := 7) (v := .ref aRo) (C := RX8) (T := TX8) (N := 11) hx hb hts iX8 hown hK hP 0 rfl rfl 0 (by decide) f7 (fun _ h9 => h9) rfl dX8_undo_30 ?_
      refine lv_iload_n hx hb dX8_undo_33 rfl (lv_at hl 0 rfl) ?_
      refine lv_aload_n hx hb dX8_undo_34 rfl (lv_at hl 1 rfl) ?_
      refine va_get (ci := 7) (v := .ref aHi) (C := RX8) (T := TX8) (N := 11) hx hb hts iX8 hown hK hP 0 rfl rfl 1 (by decide) f13 (fun _ h9 => h9) rfl dX8_undo_35 ?_
      refine lv_sipush (v := 151) hx hb dX8_undo_38 (by decide) ?_
      refine lv_aload_n hx hb dX8_undo_41 rfl (lv_at hl 1 rfl) ?_
      refine va_get (ci := 7) (v := .int (ms - 1)) (C := RX8) (T := TX8) (N := 11) hx hb hts iX8 hown hK hP 0 rfl rfl 2 (by decide) f41 (fun _ h9 => h9) rfl dX8_undo_42 ?_
      refine lv_imul hx hb dX8_undo_45 ?_
      refine lv_iload_n hx hb dX8_undo_46 rfl (lv_at hl 0 rfl) ?_
      refine lv_iadd hx hb dX8_undo_47 ?_
      refine va_iald hx hb hK hP 2 0 rfl rfl (hi_3 hms (by assumption) (by omega)) dX8_undo_48 ?_
      refine va_iast hx hb hK hP hD hS 1 0 rfl rfl (vp_in_nI (by omega) (by decide)) dX8_undo_49 (fun H locs hP hD hS => ?_)
      have hP : va_P D vwCl [(aM, .inr (7, [.ref aRo, .ref aHi, .int (ms - 1), .ref aSn, .int (bI sv), .ref aAs, .ref aLg, .ref aPd, .int ml, .ref aCo, .ref aEa])), (aRo, .inl (y4.1, 151, .inl (upd t3 (nI k2).toNatClampNeg (HI ((151 * (ms - 1)) + (nI k2)).toNatClampNeg)))), (aHi, .inl (y4.1, 604, .inl HI))] H := hP
      have hD : va_D A [(aM, .inr (7, [.ref aRo, .ref aHi, .int (ms - 1), .ref aSn, .int (bI sv), .ref aAs, .ref aLg, .ref aPd, .int ml, .ref aCo, .ref aEa])), (aRo, .inl (y4.1, 151, .inl (upd t3 (nI k2).toNatClampNeg (HI ((151 * (ms - 1)) + (nI k2)).toNatClampNeg)))), (aHi, .inl (y4.1, 604, .inl HI))] := hD
      refine lv_iinc (v := nI (k2 + 1)) (lv' := [(1, .int (nI (k2 + 1))), (0, .ref aM)]) hx hb dX8_undo_50 hl (k := 0) rfl (nI_1 _) (by decide) rfl (fun ls hl => ?_)
      refine lv_goto (tgt := 22) hx hb dX8_undo_53 (by decide) ?_
      have ef : (f_X8_undo_22 ms HI) k2 t3 = upd t3 (nI k2).toNatClampNeg (HI ((151 * (ms - 1)) + (nI k2)).toNatClampNeg) := (by first | (simp only [f_X8_undo_22]; done) | (unfold f_X8_undo_22; rfl) | rfl)
      rw [ef] at ihk2
      exact ihk2 H locs ls ⟨hP, hD, hS, lv_sub hl [0, 1] rfl⟩
  · refine lv_bipush (v := (-2)) hx hb dX8_undo_7 (by decide) ?_
    have em : m_X8_undo ms RO HI = ((-2 : Int32), ms, RO) := (by first | (simp only [m_X8_undo, if_pos c1]; done) | (simp only [m_X8_undo, if_pos c1]; rfl))
    exact W.iret (v := (-2)) hx hb hr (fun t ht hW => ⟨⟨(-2), (), rfl, (by rw [em]), ⟨by rw [ht, em]; exact hP, by rw [em]; exact hD⟩⟩, hS.F ht⟩) hS.2.2 dX8_undo_9
