theorem MI_eq {t x : Nat → Int32} (e : t = x) (h : MI x) : MI t := by rw [e]; exact h
theorem cpy_itr (SN RO : Nat → Int32) : ∀ n : Nat, n < 2 ^ 31 → ∀ x, itr (fun k t => upd t (nI k).toNatClampNeg (SN (nI k).toNatClampNeg)) n RO x = if x < n then SN x else RO x := by
  intro n
  induction n with
  | zero => intro _ x; rw [if_neg (by omega)]; rfl
  | succ n ih =>
    intro hn x
    have e : itr (fun k t => upd t (nI k).toNatClampNeg (SN (nI k).toNatClampNeg)) (n + 1) RO = upd (itr (fun k t => upd t (nI k).toNatClampNeg (SN (nI k).toNatClampNeg)) n RO) (nI n).toNatClampNeg (SN (nI n).toNatClampNeg) := rfl
    rw [e, nI_clamp (by omega)]
    by_cases q : x = n
    · subst q; rw [pk_us, if_pos (by omega)]
    · rw [pk_un q, ih (by omega)]
      by_cases q2 : x < n
      · rw [if_pos q2, if_pos (by omega)]
      · rw [if_neg q2, if_neg (by omega)]
theorem MI_cpy {SN : Nat → Int32} (h : MI SN) (RO : Nat → Int32) : MI (itr (fun k t => upd t (nI k).toNatClampNeg (SN (nI k).toNatClampNeg)) 151 RO) :=
  MI_hi h (fun x hx => by rw [cpy_itr SN RO 151 (by decide), if_pos (by omega)])
theorem lamp_cell {RO : Nat → Int32} (h : MI RO) {j : Int32} (hj : ¬ m_X8_isLamp RO j = false) : vp_in (RO (129 + j).toNatClampNeg) 64 := by
  have h1 := isLamp8 h.1 hj
  have h2 := cl_nI h1.1
  have h3 := cl_toInt h1.1
  have h4 := cl_toInt h.1.1
  have := h.2.1 j.toNatClampNeg (by omega)
  rw [← h2] at this
  exact this
theorem ld_cells : ∀ k : Nat, k < 64 → 0 ≤ ((9 * (nI k / 8)) + (nI k - nI k / 8 * 8)).toInt ∧ ((9 * (nI k / 8)) + (nI k - nI k / 8 * 8)).toInt < (80 : Nat) := by decide +kernel
theorem ld_in {k : Nat} (h : k < 64) : vp_in ((9 * (nI k / 8)) + (nI k - nI k / 8 * 8)) 80 := vp_in_iff.mpr (ld_cells k h)
theorem h64 {b : Int32} (h : 0 ≤ b.toInt ∧ b.toInt ≤ (6 : Nat)) : 0 ≤ (64 * b).toInt ∧ (64 * b).toInt ≤ (384 : Nat) ∧ (64 * b).toInt = 64 * b.toInt := by
  have e1 : (64 : Int32).toInt = 64 := by decide
  have h2 := Int32.toInt_mul 64 b
  have h3 : ((64 : Int32).toInt * b.toInt).bmod (2 ^ 32) = 64 * b.toInt := by
    rw [e1]; apply Int.bmod_eq_of_le <;> omega
  rw [h2, h3]; omega
theorem h64' {b : Int32} (h : 0 ≤ b.toInt ∧ b.toInt ≤ (6 : Nat)) : 0 ≤ (64 * b).toInt ∧ (64 * b).toInt ≤ (384 : Nat) := ⟨(h64 h).1, (h64 h).2.1⟩
theorem dk_div : ∀ k : Nat, k < 384 → nI k / 64 = nI (k / 64) ∧ nI k - nI k / 64 * 64 = nI (k % 64) := fun k hk => ⟨pk_div (d := 64) (by omega) (by decide) (by decide), pk_rem (d := 64) (by omega) (by decide) (by decide)⟩
theorem dk_lt {b : Int32} (h : 0 ≤ b.toInt ∧ b.toInt ≤ (6 : Nat)) {k : Nat} (hk : k < (64 * b).toNatClampNeg) : k < 384 ∧ k / 64 < b.toNatClampNeg := by
  have h1 := h64 h
  have h2 := cl_toInt h1.1
  have h3 := cl_toInt h.1
  omega
theorem dk_1 {RO : Nat → Int32} (h : MI RO) {k : Nat} (hk : k < (64 * RO 128).toNatClampNeg) : vp_in (nI k / 64) 6 := by
  have := dk_lt h.1 hk
  have := cl_lt h.1
  rw [(dk_div k (by omega)).1]; exact vp_in_nI (by omega) (by decide)
theorem dk_2 {RO : Nat → Int32} (h : MI RO) {k : Nat} (hk : k < (64 * RO 128).toNatClampNeg) : vp_in (RO (129 + (nI k / 64)).toNatClampNeg) 64 := by
  have := dk_lt h.1 hk
  rw [(dk_div k (by omega)).1]; exact h.2.1 _ (by omega)
theorem dk_3 {RO : Nat → Int32} (h : MI RO) {k : Nat} (hk : k < (64 * RO 128).toNatClampNeg) : vp_in (nI k - nI k / 64 * 64) 64 := by
  have := dk_lt h.1 hk
  rw [(dk_div k (by omega)).2]; exact vp_in_nI (by omega) (by decide)
theorem ea_in {l c : Nat} (hl : l < 6) (hc : c < 64) : vp_in ((64 * nI l) + nI c) 384 := by
  have e : (64 : Int32) = nI 64 := rfl
  rw [e, pk_mul, nI_add]; exact vp_in_nI (by omega) (by decide)

def f_X8_restore_16 (SN : Nat → Int32) (k4 : Nat) (t5 : (Nat → Int32)) : (Nat → Int32) := upd t5 (nI k4).toNatClampNeg (SN (nI k4).toNatClampNeg)
def m_X8_restore (ms : Int32) (sv : Bool) (RO : Nat → Int32) (HI : Nat → Int32) (SN : Nat → Int32) : Int32 × Int32 × (Nat → Int32) × (Nat → Int32) := (if sv = false then ((-2 : Int32), ms, RO, HI) else (let q2 : Int32 × (Nat → Int32) := m_X8_record ms RO HI; (let t8 : (Nat → Int32) := itr (f_X8_restore_16 SN) 151 RO; ((m_X8_remember t8) 147, q2.1, (m_X8_remember t8), q2.2))))
set_option maxHeartbeats 4000000 in
set_option maxRecDepth 100000 in
theorem met_X8_restore (l : Launch) (D : va_G) (y4 : vT) (aM aRo aHi aSn aAs aLg aPd aCo aEa : Nat) (sz : Nat) (ms : Int32) (sv : Bool) (ml : Int32) (RO : Nat → Int32) (HI : Nat → Int32) (SN : Nat → Int32) (hM : MI RO) (hms : 0 ≤ ms.toInt ∧ ms.toInt ≤ (4 : Nat)) (hSN : sv = true → MI SN) : Met l yX8_restore wsX8_restore ({ frames := 8, cells := 0, slots := 0, locals := 186 }) (va_Pc [.ref aM] (PreW D y4 [(aM, .inr (7, [.ref aRo, .ref aHi, .int ms, .ref aSn, .int (bI sv), .ref aAs, .ref aLg, .ref aPd, .int ml, .ref aCo, .ref aEa])), (aRo, .inl (y4.1, 151, .inl RO)), (aHi, .inl (y4.1, 604, .inl HI)), (aSn, .inl (y4.1, 151, .inl SN))] sz)) (va_Qi (fun (r : Int32) (_ : Unit) => r = (m_X8_restore ms sv RO HI SN).1) (fun _ t => PostW D (va_A [(aM, .inr (7, [.ref aRo, .ref aHi, .int ms, .ref aSn, .int (bI sv), .ref aAs, .ref aLg, .ref aPd, .int ml, .ref aCo, .ref aEa])), (aRo, .inl (y4.1, 151, .inl RO)), (aHi, .inl (y4.1, 604, .inl HI)), (aSn, .inl (y4.1, 151, .inl SN))] sz) [(aM, .inr (7, [.ref aRo, .ref aHi, .int ((m_X8_restore ms sv RO HI SN).2.1), .ref aSn, .int (bI sv), .ref aAs, .ref aLg, .ref aPd, .int ml, .ref aCo, .ref aEa])), (aRo, .inl (y4.1, 151, .inl ((m_X8_restore ms sv RO HI SN).2.2.1))), (aHi, .inl (y4.1, 604, .inl ((m_X8_restore ms sv RO HI SN).2.2.2))), (aSn, .inl (y4.1, 151, .inl SN))] t) (va_A [(aM, .inr (7, [.ref aRo, .ref aHi, .int ms, .ref aSn, .int (bI sv), .ref aAs, .ref aLg, .ref aPd, .int ml, .ref aCo, .ref aEa])), (aRo, .inl (y4.1, 151, .inl RO)), (aHi, .inl (y4.1, 604, .inl HI)), (aSn, .inl (y4.1, 151, .inl SN))] sz)) 0 0 (va_A [(aM, .inr (7, [.ref aRo, .ref aHi, .int ms, .ref aSn, .int (bI sv), .ref aAs, .ref aLg, .ref aPd, .int ml, .ref aCo, .ref aEa])), (aRo, .inl (y4.1, 151, .inl RO)), (aHi, .inl (y4.1, 604, .inl HI)), (aSn, .inl (y4.1, 151, .inl SN))] sz) := by
  refine Met.ofW (cc := cX8_restore) (maxL := 2) (ret := (some .int)) (by decide) rfl ?_
  intro p e s m args below meth c s₁ B hml hv
  obtain ⟨rfl, hsz, hP, hK, hD0, hNW⟩ := hv
  have hx := B.exec
  have hb := B.bytes
  have hr := B.returns
  have hts := atoms_spec (ws := wsX8_restore) B.pre
  have hown : s.vm.findClass RX8 = some m.cls := findClass_of_methodNamed B.named
  have hlocks := B.notSynchronized
  subst hsz
  have hD := hD0.self (sz := s.heap.size)
  generalize hAe : va_A [(aM, .inr (7, [.ref aRo, .ref aHi, .int ms, .ref aSn, .int (bI sv), .ref aAs, .ref aLg, .ref aPd, .int ml, .ref aCo, .ref aEa])), (aRo, .inl (y4.1, 151, .inl RO)), (aHi, .inl (y4.1, 604, .inl HI)), (aSn, .inl (y4.1, 151, .inl SN))] s.heap.size = A at hD ⊢
  have hA : ∀ q : Nat, s.heap.size ≤ q → A q := fun q h => by rw [← hAe]; exact Or.inr h
  have hS : va_S A s.heap s.heap [] := va_S.rf
  have hl := lv_entry ([.ref aM]) (n := 2) (Nat.le_of_ble_eq_true rfl)
  rw [lg_entry_eq]
  generalize (lg_sl ([.ref aM]) ++ List.replicate (2 - (lg_sl ([.ref aM])).length) Slot.unset).toArray = ls at hl ⊢
  have hl : lv_has ls 2 [(0, .ref aM)] := hl
  have f45 := hts (.fieldLink RX8 45 "PillarLightModel" "isSaved" "Z") (List.mem_of_getElem? (i := 1) rfl)
  have iX8 : ∀ w ∈ wsX80, w ∈ wsX8_restore := fun _ h => List.mem_cons_of_mem _ (List.mem_append_right _ h)
  have f7 := hts (.fieldLink RX8 7 "PillarLightModel" "row" "[I") (List.mem_of_getElem? (i := 2) rfl)
  have f16 := hts (.fieldLink RX8 16 "PillarLightModel" "snapshot" "[I") (List.mem_of_getElem? (i := 3) rfl)
  refine startW (fun H locs hP hS => ?_) hP hS
  refine lv_aload_n hx hb dX8_restore_0 rfl (lv_at hl 0 rfl) ?_
  refine va_get (ci := 7) (v := .int (bI sv)) (C := RX8) (T := TX8) (N := 11) hx hb hts iX8 hown hK hP 0 rfl rfl 4 (by decide) f45 (fun _ h9 => h9) rfl dX8_restore_1 ?_
  refine lb_if_ne (tgt := 10) hx hb dX8_restore_4 (by decide) (fun c1 => ?_) (fun c1 => ?_)
  · refine lv_aload_n hx hb dX8_restore_10 rfl (lv_at hl 0 rfl) ?_
    refine callW_v (wr := [(aSn, .inl (y4.1, 151, .inl SN))]) (wn := fun u => [(aM, .inr (7, [.ref aRo, .ref aHi, .int ((m_X8_record ms RO HI).1), .ref aSn, .int (bI sv), .ref aAs, .ref aLg, .ref aPd, .int ml, .ref aCo, .ref aEa])), (aRo, .inl (y4.1, 151, .inl RO)), (aHi, .inl (y4.1, 604, .inl ((m_X8_record ms RO HI).2))), (aSn, .inl (y4.1, 151, .inl SN))]) (va_runV (As := []) (rest := []) ⟨hx, hb, hml, hown, hts⟩ (met_X8_record l D y4 aM aRo aHi aSn aAs aLg aPd aCo aEa H.size ms sv ml RO HI hms) (cwV 0 hts gX8_restore_X8_record rfl rfl rfl (by decide +kernel) ⟨Nat.le_of_ble_eq_true rfl, Nat.le_of_ble_eq_true rfl⟩) ⟨preW_blind, va_recv hK hP (ci := 7) (q0 := 0) rfl rfl, preW_at (hP.sub (ws' := [(aM, .inr (7, [.ref aRo, .ref aHi, .int ms, .ref aSn, .int (bI sv), .ref aAs, .ref aLg, .ref aPd, .int ml, .ref aCo, .ref aEa])), (aRo, .inl (y4.1, 151, .inl RO)), (aHi, .inl (y4.1, 604, .inl HI))]) [0, 1, 2] rfl) hK (hD.sub (ws' := [(aM, .inr (7, [.ref aRo, .ref aHi, .int ms, .ref aSn, .int (bI sv), .ref aAs, .ref aLg, .ref aPd, .int ml, .ref aCo, .ref aEa])), (aRo, .inl (y4.1, 151, .inl RO)), (aHi, .inl (y4.1, 604, .inl HI))]) [0, 1, 2] (by decide) rfl) hNW⟩ rfl rfl hl.1 rfl (lv_room (Nat.le_of_ble_eq_true rfl)) dX8_restore_11 ⟨Nat.zero_le _, Nat.zero_le _⟩) hP hD hS hA [0, 1, 2] [3] [1, 2, 3, 0] rfl rfl (by decide) (by decide) (fun _ => rfl) (by decide) (fun u3 H locs hw hP hD hS => ?_)
    obtain ⟨q2, eq2⟩ : ∃ z, z = m_X8_record ms RO HI := ⟨_, rfl⟩
    rw [← eq2] at hP hD
    have hP : va_P D vwCl [(aM, .inr (7, [.ref aRo, .ref aHi, .int q2.1, .ref aSn, .int (bI sv), .ref aAs, .ref aLg, .ref aPd, .int ml, .ref aCo, .ref aEa])), (aRo, .inl (y4.1, 151, .inl RO)), (aHi, .inl (y4.1, 604, .inl q2.2)), (aSn, .inl (y4.1, 151, .inl SN))] H := hP
    have hD : va_D A [(aM, .inr (7, [.ref aRo, .ref aHi, .int q2.1, .ref aSn, .int (bI sv), .ref aAs, .ref aLg, .ref aPd, .int ml, .ref aCo, .ref aEa])), (aRo, .inl (y4.1, 151, .inl RO)), (aHi, .inl (y4.1, 604, .inl q2.2)), (aSn, .inl (y4.1, 151, .inl SN))] := hD
    refine lv_iconst (v := 0) hx hb dX8_restore_14 (by decide) ?_
    refine lv_istore_n (lv' := [(1, .int 0), (0, .ref aM)]) hx hb dX8_restore_15 rfl hl (by decide) rfl (fun ls hl => ?_)
    refine loopW (σ := (Nat → Int32)) 16 (f_X8_restore_16 SN) 151 RO (fun k4 t5 H locs ls => va_P D vwCl [(aM, .inr (7, [.ref aRo, .ref aHi, .int q2.1, .ref aSn, .int (bI sv), .ref aAs, .ref aLg, .ref aPd, .int ml, .ref aCo, .ref aEa])), (aRo, .inl (y4.1, 151, .inl t5)), (aHi, .inl (y4.1, 604, .inl q2.2)), (aSn, .inl (y4.1, 151, .inl SN))] H ∧ va_D A [(aM, .inr (7, [.ref aRo, .ref aHi, .int q2.1, .ref aSn, .int (bI sv), .ref aAs, .ref aLg, .ref aPd, .int ml, .ref aCo, .ref aEa])), (aRo, .inl (y4.1, 151, .inl t5)), (aHi, .inl (y4.1, 604, .inl q2.2)), (aSn, .inl (y4.1, 151, .inl SN))] ∧ va_S A s.heap H locs ∧ lv_has ls 2 [(1, .int (nI k4)), (0, .ref aM)]) ⟨hP, hD, hS, lv_sub hl [0, 1] rfl⟩ (fun t8 H locs ls et8 hh => ?_) (fun k4 t5 hkk4 hek4 ihk4 H locs ls hh => ?_)
    · obtain ⟨hP, hD, hS, hl⟩ := hh
      have hP : va_P D vwCl [(aM, .inr (7, [.ref aRo, .ref aHi, .int q2.1, .ref aSn, .int (bI sv), .ref aAs, .ref aLg, .ref aPd, .int ml, .ref aCo, .ref aEa])), (aRo, .inl (y4.1, 151, .inl t8)), (aHi, .inl (y4.1, 604, .inl q2.2)), (aSn, .inl (y4.1, 151, .inl SN))] H := hP
      have hD : va_D A [(aM, .inr (7, [.ref aRo, .ref aHi, .int q2.1, .ref aSn, .int (bI sv), .ref aAs, .ref aLg, .ref aPd, .int ml, .ref aCo, .ref aEa])), (aRo, .inl (y4.1, 151, .inl t8)), (aHi, .inl (y4.1, 604, .inl q2.2)), (aSn, .inl (y4.1, 151, .inl SN))] := hD
      have hl : lv_has ls 2 [(1, .int (nI 151)), (0, .ref aM)] := hl
      refine lv_iload_n hx hb dX8_restore_16 rfl (lv_at hl 0 rfl) ?_
      refine lv_sipush (v := 151) hx hb dX8_restore_17 (by decide) ?_
      refine lv_icmp_ge (tgt := 41) hx hb dX8_restore_20 (by decide) (fun c9 => ?_) (fun c9 => absurd (nI_le (a := 151) (by omega) (by omega)) c9)
      refine lv_aload_n hx hb dX8_restore_41 rfl (lv_at hl 1 rfl) ?_
      refine callW_v (wr := [(aHi, .inl (y4.1, 604, .inl q2.2)), (aSn, .inl (y4.1, 151, .inl SN))]) (wn := fun u => [(aM, .inr (7, [.ref aRo, .ref aHi, .int q2.1, .ref aSn, .int (bI sv), .ref aAs, .ref aLg, .ref aPd, .int ml, .ref aCo, .ref aEa])), (aRo, .inl (y4.1, 151, .inl (m_X8_remember t8))), (aHi, .inl (y4.1, 604, .inl q2.2)), (aSn, .inl (y4.1, 151, .inl SN))]) (va_runV (As := []) (rest := []) ⟨hx, hb, hml, hown, hts⟩ (met_X8_remember l D y4 aM aRo aHi aSn aAs aLg aPd aCo aEa H.size q2.1 sv ml t8 (MI_eq (by assumption) (MI_cpy (hSN (of_b (by assumption))) RO))) (cwV 0 hts gX8_restore_X8_remember rfl rfl rfl (by decide +kernel) ⟨Nat.le_of_ble_eq_true rfl, Nat.le_of_ble_eq_true rfl⟩) ⟨preW_blind, va_recv hK hP (ci := 7) (q0 := 0) rfl rfl, preW_at (hP.sub (ws' := [(aM, .inr (7, [.ref aRo, .ref aHi, .int q2.1, .ref aSn, .int (bI sv), .ref aAs, .ref aLg, .ref aPd, .int ml, .ref aCo, .ref aEa])), (aRo, .inl (y4.1, 151, .inl t8))]) [0, 1] rfl) hK (hD.sub (ws' := [(aM, .inr (7, [.ref aRo, .ref aHi, .int q2.1, .ref aSn, .int (bI sv), .ref aAs, .ref aLg, .ref aPd, .int ml, .ref aCo, .ref aEa])), (aRo, .inl (y4.1, 151, .inl t8))]) [0, 1] (by decide) rfl) hNW⟩ rfl rfl hl.1 rfl (lv_room (Nat.le_of_ble_eq_true rfl)) dX8_restore_42 ⟨Nat.zero_le _, Nat.zero_le _⟩) hP hD hS hA [0, 1] [2, 3] [2, 3, 0, 1] rfl rfl (by decide) (by decide) (fun _ => rfl) (by decide) (fun u10 H locs hw hP hD hS => ?_)
      have hP : va_P D vwCl [(aM, .inr (7, [.ref aRo, .ref aHi, .int q2.1, .ref aSn, .int (bI sv), .ref aAs, .ref aLg, .ref aPd, .int ml, .ref aCo, .ref aEa])), (aRo, .inl (y4.1, 151, .inl (m_X8_remember t8))), (aHi, .inl (y4.1, 604, .inl q2.2)), (aSn, .inl (y4.1, 151, .inl SN))] H := hP
      have hD : va_D A [(aM, .inr (7, [.ref aRo, .ref aHi, .int q2.1, .ref aSn, .int (bI sv), .ref aAs, .ref aLg, .ref aPd, .int ml, .ref aCo, .ref aEa])), (aRo, .inl (y4.1, 151, .inl (m_X8_remember t8))), (aHi, .inl (y4.1, 604, .inl q2.2)), (aSn, .inl (y4.1, 151, .inl SN))] := hD
      refine lv_aload_n hx hb dX8_restore_45 rfl (lv_at hl 1 rfl) ?_
      refine va_get (ci := 7) (v := .ref aRo) (C := RX8) (T := TX8) (N := 11) hx hb hts iX8 hown hK hP 0 rfl rfl 0 (by decide) f7 (fun _ h9 => h9) rfl dX8_restore_46 ?_
      refine lv_sipush (v := 147) hx hb dX8_restore_49 (by decide) ?_
      refine va_iald hx hb hK hP 1 0 rfl rfl (vp_in_nI (n := 147) (by decide) (by decide)) dX8_restore_52 ?_
      refine W.ofeqi (y := (m_X8_remember t8) 147) (congrArg (m_X8_remember t8) (by decide : (147 : Int32).toNatClampNeg = 147)) ?_
      have em : m_X8_restore ms sv RO HI SN = ((m_X8_remember t8) 147, q2.1, (m_X8_remember t8), q2.2) := (by subst et8 eq2; first | (simp only [m_X8_restore, if_neg c1]; done) | (simp only [m_X8_restore, if_neg c1]; rfl))
      exact W.iret (v := (m_X8_remember t8) 147) hx hb hr (fun t ht hW => ⟨⟨(m_X8_remember t8) 147, (), rfl, (by rw [em]), ⟨by rw [ht, em]; exact hP, by rw [em]; exact hD⟩⟩, hS.F ht⟩) hS.2.2 dX8_restore_53
    · obtain ⟨hP, hD, hS, hl⟩ := hh
      have hP : va_P D vwCl [(aM, .inr (7, [.ref aRo, .ref aHi, .int q2.1, .ref aSn, .int (bI sv), .ref aAs, .ref aLg, .ref aPd, .int ml, .ref aCo, .ref aEa])), (aRo, .inl (y4.1, 151, .inl t5)), (aHi, .inl (y4.1, 604, .inl q2.2)), (aSn, .inl (y4.1, 151, .inl SN))] H := hP
      have hD : va_D A [(aM, .inr (7, [.ref aRo, .ref aHi, .int q2.1, .ref aSn, .int (bI sv), .ref aAs, .ref aLg, .ref aPd, .int ml, .ref aCo, .ref aEa])), (aRo, .inl (y4.1, 151, .inl t5)), (aHi, .inl (y4.1, 604, .inl q2.2)), (aSn, .inl (y4.1, 151, .inl SN))] := hD
      have hl : lv_has ls 2 [(1, .int (nI k4)), (0, .ref aM)] := hl
      refine lv_iload_n hx hb dX8_restore_16 rfl (lv_at hl 0 rfl) ?_
      refine lv_sipush (v := 151) hx hb dX8_restore_17 (by decide) ?_
      refine lv_icmp_ge (tgt := 41) hx hb dX8_restore_20 (by decide) (fun c7 => absurd c7 (nI_ge (b := 151) (by omega) (by omega))) (fun c7 => ?_)
      refine lv_aload_n hx hb dX8_restore_23 rfl (lv_at hl 1 rfl) ?_
      refine va_get (ci := 7) (v := .ref aRo) (C := RX8) (T := TX8) (N := 11) hx hb hts iX8 hown hK hP 0 rfl rfl 0 (by decide) f7 (fun _ h9 => h9) rfl dX8_restore_24 ?_
      refine lv_iload_n hx hb dX8_restore_27 rfl (lv_at hl 0 rfl) ?_
      refine lv_aload_n hx hb dX8_restore_28 rfl (lv_at hl 1 rfl) ?_
      refine va_get (ci := 7) (v := .ref aSn) (C := RX8) (T := TX8) (N := 11) hx hb hts iX8 hown hK hP 0 rfl rfl 3 (by decide) f16 (fun _ h9 => h9) rfl dX8_restore_29 ?_
      refine lv_iload_n hx hb dX8_restore_32 rfl (lv_at hl 0 rfl) ?_
      refine va_iald hx hb hK hP 3 0 rfl rfl (vp_in_nI (by omega) (by decide)) dX8_restore_33 ?_
      refine va_iast hx hb hK hP hD hS 1 0 rfl rfl (vp_in_nI (by omega) (by decide)) dX8_restore_34 (fun H locs hP hD hS => ?_)
      have hP : va_P D vwCl [(aM, .inr (7, [.ref aRo, .ref aHi, .int q2.1, .ref aSn, .int (bI sv), .ref aAs, .ref aLg, .ref aPd, .int ml, .ref aCo, .ref aEa])), (aRo, .inl (y4.1, 151, .inl (upd t5 (nI k4).toNatClampNeg (SN (nI k4).toNatClampNeg)))), (aHi, .inl (y4.1, 604, .inl q2.2)), (aSn, .inl (y4.1, 151, .inl SN))] H := hP
      have hD : va_D A [(aM, .inr (7, [.ref aRo, .ref aHi, .int q2.1, .ref aSn, .int (bI sv), .ref aAs, .ref aLg, .ref aPd, .int ml, .ref aCo, .ref aEa])), (aRo, .inl (y4.1, 151, .inl (upd t5 (nI k4).toNatClampNeg (SN (nI k4).toNatClampNeg)))), (aHi, .inl (y4.1, 604, .inl q2.2)), (aSn, .inl (y4.1, 151, .inl SN))] := hD
      refine lv_iinc (v := nI (k4 + 1)) (lv' := [(1, .int (nI (k4 + 1))), (0, .ref aM)]) hx hb dX8_restore_35 hl (k := 0) rfl (nI_1 _) (by decide) rfl (fun ls hl => ?_)
      refine lv_goto (tgt := 16) hx hb dX8_restore_38 (by decide) ?_
      have ef : (f_X8_restore_16 SN) k4 t5 = upd t5 (nI k4).toNatClampNeg (SN (nI k4).toNatClampNeg) := (by first | (simp only [f_X8_restore_16]; done) | (unfold f_X8_restore_16; rfl) | rfl)
      rw [ef] at ihk4
      exact ihk4 H locs ls ⟨hP, hD, hS, lv_sub hl [0, 1] rfl⟩
  · refine lv_bipush (v := (-2)) hx hb dX8_restore_7 (by decide) ?_
    have em : m_X8_restore ms sv RO HI SN = ((-2 : Int32), ms, RO, HI) := (by first | (simp only [m_X8_restore, if_pos c1]; done) | (simp only [m_X8_restore, if_pos c1]; rfl))
    exact W.iret (v := (-2)) hx hb hr (fun t ht hW => ⟨⟨(-2), (), rfl, (by rw [em]), ⟨by rw [ht, em]; exact hP, by rw [em]; exact hD⟩⟩, hS.F ht⟩) hS.2.2 dX8_restore_9
def f_X8_load_20 (PD : Nat → Int32) (k5 : Nat) (t6 : Int32 × (Nat → Int32)) : ((Int32 × Int32 × Int32 × (Nat → Int32) × (Nat → Int32)) ⊕ (Int32 × (Nat → Int32))) ⊕ (Int32 × (Nat → Int32)) := (let q13 : Int32 := m_X8_kindOf (PD ((9 * ((nI k5) / 8)) + ((nI k5) - (nI k5) / 8 * 8)).toNatClampNeg); (let v15 : Bool := (if q13 = (t6.2 (0 + (nI k5)).toNatClampNeg) then false else true); (.inr (t6.1 + (bI v15), (m_X8_lay t6.2 (nI k5) q13)))))
def m_X8_load (ms : Int32) (ml : Int32) (RO : Nat → Int32) (HI : Nat → Int32) (PD : Nat → Int32) : Int32 × Int32 × Int32 × (Nat → Int32) × (Nat → Int32) := (if (m_X8_mapFault ml RO PD) = (-4) then (let q3 : Int32 × (Nat → Int32) := m_X8_record ms RO HI; (lpr (lpx (f_X8_load_20 PD) 64 0 ((0 : Int32), RO)) id (fun t19 => (t19.1, q3.1, (0 : Int32), (m_X8_remember t19.2), q3.2)))) else ((-2 : Int32), ms, ml, RO, HI))
set_option maxHeartbeats 4000000 in
set_option maxRecDepth 100000 in
theorem met_X8_load (l : Launch) (D : va_G) (y4 : vT) (aM aRo aHi aSn aAs aLg aPd aCo aEa : Nat) (sz : Nat) (ms : Int32) (sv : Bool) (ml : Int32) (RO : Nat → Int32) (HI : Nat → Int32) (PD : Nat → Int32) (hM : MI RO) (hms : 0 ≤ ms.toInt ∧ ms.toInt ≤ (4 : Nat)) (hlen : 0 ≤ ml.toInt ∧ ml.toInt ≤ (80 : Nat)) : Met l yX8_load wsX8_load ({ frames := 8, cells := 0, slots := 0, locals := 186 }) (va_Pc [.ref aM] (PreW D y4 [(aM, .inr (7, [.ref aRo, .ref aHi, .int ms, .ref aSn, .int (bI sv), .ref aAs, .ref aLg, .ref aPd, .int ml, .ref aCo, .ref aEa])), (aRo, .inl (y4.1, 151, .inl RO)), (aHi, .inl (y4.1, 604, .inl HI)), (aPd, .inl (y4.1, 80, .inl PD))] sz)) (va_Qi (fun (r : Int32) (_ : Unit) => r = (m_X8_load ms ml RO HI PD).1) (fun _ t => PostW D (va_A [(aM, .inr (7, [.ref aRo, .ref aHi, .int ms, .ref aSn, .int (bI sv), .ref aAs, .ref aLg, .ref aPd, .int ml, .ref aCo, .ref aEa])), (aRo, .inl (y4.1, 151, .inl RO)), (aHi, .inl (y4.1, 604, .inl HI)), (aPd, .inl (y4.1, 80, .inl PD))] sz) [(aM, .inr (7, [.ref aRo, .ref aHi, .int ((m_X8_load ms ml RO HI PD).2.1), .ref aSn, .int (bI sv), .ref aAs, .ref aLg, .ref aPd, .int ((m_X8_load ms ml RO HI PD).2.2.1), .ref aCo, .ref aEa])), (aRo, .inl (y4.1, 151, .inl ((m_X8_load ms ml RO HI PD).2.2.2.1))), (aHi, .inl (y4.1, 604, .inl ((m_X8_load ms ml RO HI PD).2.2.2.2))), (aPd, .inl (y4.1, 80, .inl PD))] t) (va_A [(aM, .inr (7, [.ref aRo, .ref aHi, .int ms, .ref aSn, .int (bI sv), .ref aAs, .ref aLg, .ref aPd, .int ml, .ref aCo, .ref aEa])), (aRo, .inl (y4.1, 151, .inl RO)), (aHi, .inl (y4.1, 604, .inl HI)), (aPd, .inl (y4.1, 80, .inl PD))] sz)) 0 0 (va_A [(aM, .inr (7, [.ref aRo, .ref aHi, .int ms, .ref aSn, .int (bI sv), .ref aAs, .ref aLg, .ref aPd, .int ml, .ref aCo, .ref aEa])), (aRo, .inl (y4.1, 151, .inl RO)), (aHi, .inl (y4.1, 604, .inl HI)), (aPd, .inl (y4.1, 80, .inl PD))] sz) := by
  refine Met.ofW (cc := cX8_load) (maxL := 4) (ret := (some .int)) (by decide) rfl ?_
  intro p e s m args below meth c s₁ B hml hv
  obtain ⟨rfl, hsz, hP, hK, hD0, hNW⟩ := hv
  have hx := B.exec
  have hb := B.bytes
  have hr := B.returns
  have hts := atoms_spec (ws := wsX8_load) B.pre
  have hown : s.vm.findClass RX8 = some m.cls := findClass_of_methodNamed B.named
  have hlocks := B.notSynchronized
  subst hsz
  have hD := hD0.self (sz := s.heap.size)
  generalize hAe : va_A [(aM, .inr (7, [.ref aRo, .ref aHi, .int ms, .ref aSn, .int (bI sv), .ref aAs, .ref aLg, .ref aPd, .int ml, .ref aCo, .ref aEa])), (aRo, .inl (y4.1, 151, .inl RO)), (aHi, .inl (y4.1, 604, .inl HI)), (aPd, .inl (y4.1, 80, .inl PD))] s.heap.size = A at hD ⊢
  have hA : ∀ q : Nat, s.heap.size ≤ q → A q := fun q h => by rw [← hAe]; exact Or.inr h
  have hS : va_S A s.heap s.heap [] := va_S.rf
  have hl := lv_entry ([.ref aM]) (n := 4) (Nat.le_of_ble_eq_true rfl)
  rw [lg_entry_eq]
  generalize (lg_sl ([.ref aM]) ++ List.replicate (4 - (lg_sl ([.ref aM])).length) Slot.unset).toArray = ls at hl ⊢
  have hl : lv_has ls 4 [(0, .ref aM)] := hl
  have f25 := hts (.fieldLink RX8 25 "PillarLightModel" "pad" "[I") (List.mem_of_getElem? (i := 1) rfl)
  have iX8 : ∀ w ∈ wsX80, w ∈ wsX8_load := fun _ h => List.mem_cons_of_mem _ (List.mem_append_right _ h)
  have f7 := hts (.fieldLink RX8 7 "PillarLightModel" "row" "[I") (List.mem_of_getElem? (i := 2) rfl)
  have f146 := hts (.fieldLink RX8 146 "PillarLightModel" "length" "I") (List.mem_of_getElem? (i := 3) rfl)
  refine startW (fun H locs hP hS => ?_) hP hS
  refine lv_aload_n hx hb dX8_load_0 rfl (lv_at hl 0 rfl) ?_
  refine callW_i (wr := [(aHi, .inl (y4.1, 604, .inl HI))]) (wn := fun u => [(aM, .inr (7, [.ref aRo, .ref aHi, .int ms, .ref aSn, .int (bI sv), .ref aAs, .ref aLg, .ref aPd, .int ml, .ref aCo, .ref aEa])), (aRo, .inl (y4.1, 151, .inl RO)), (aHi, .inl (y4.1, 604, .inl HI)), (aPd, .inl (y4.1, 80, .inl PD))]) (va_runV (As := []) (rest := []) ⟨hx, hb, hml, hown, hts⟩ (met_X8_mapFault l D y4 aM aRo aHi aSn aAs aLg aPd aCo aEa H.size ms sv ml RO PD hlen) (cwV 0 hts gX8_load_X8_mapFault rfl rfl rfl (by decide +kernel) ⟨Nat.le_of_ble_eq_true rfl, Nat.le_of_ble_eq_true rfl⟩) ⟨preW_blind, va_recv hK hP (ci := 7) (q0 := 0) rfl rfl, preW_at (hP.sub (ws' := [(aM, .inr (7, [.ref aRo, .ref aHi, .int ms, .ref aSn, .int (bI sv), .ref aAs, .ref aLg, .ref aPd, .int ml, .ref aCo, .ref aEa])), (aRo, .inl (y4.1, 151, .inl RO)), (aPd, .inl (y4.1, 80, .inl PD))]) [0, 1, 3] rfl) hK (hD.sub (ws' := [(aM, .inr (7, [.ref aRo, .ref aHi, .int ms, .ref aSn, .int (bI sv), .ref aAs, .ref aLg, .ref aPd, .int ml, .ref aCo, .ref aEa])), (aRo, .inl (y4.1, 151, .inl RO)), (aPd, .inl (y4.1, 80, .inl PD))]) [0, 1, 3] (by decide) rfl) hNW⟩ rfl rfl hl.1 rfl (lv_room (Nat.le_of_ble_eq_true rfl)) dX8_load_1 ⟨Nat.zero_le _, Nat.zero_le _⟩) hP hD hS hA [0, 1, 3] [2] [1, 2, 0, 3] rfl rfl (by decide) (by decide) (fun _ => rfl) (by decide) (fun r u1 H locs hw hP hD hS => ?_)
  subst hw
  have hP : va_P D vwCl [(aM, .inr (7, [.ref aRo, .ref aHi, .int ms, .ref aSn, .int (bI sv), .ref aAs, .ref aLg, .ref aPd, .int ml, .ref aCo, .ref aEa])), (aRo, .inl (y4.1, 151, .inl RO)), (aHi, .inl (y4.1, 604, .inl HI)), (aPd, .inl (y4.1, 80, .inl PD))] H := hP
  have hD : va_D A [(aM, .inr (7, [.ref aRo, .ref aHi, .int ms, .ref aSn, .int (bI sv), .ref aAs, .ref aLg, .ref aPd, .int ml, .ref aCo, .ref aEa])), (aRo, .inl (y4.1, 151, .inl RO)), (aHi, .inl (y4.1, 604, .inl HI)), (aPd, .inl (y4.1, 80, .inl PD))] := hD
  refine lv_bipush (v := (-4)) hx hb dX8_load_4 (by decide) ?_
  refine lv_icmp_eq (tgt := 12) hx hb dX8_load_6 (by decide) (fun c2 => ?_) (fun c2 => ?_)
  · refine lv_aload_n hx hb dX8_load_12 rfl (lv_at hl 0 rfl) ?_
    refine callW_v (wr := [(aPd, .inl (y4.1, 80, .inl PD))]) (wn := fun u => [(aM, .inr (7, [.ref aRo, .ref aHi, .int ((m_X8_record ms RO HI).1), .ref aSn, .int (bI sv), .ref aAs, .ref aLg, .ref aPd, .int ml, .ref aCo, .ref aEa])), (aRo, .inl (y4.1, 151, .inl RO)), (aHi, .inl (y4.1, 604, .inl ((m_X8_record ms RO HI).2))), (aPd, .inl (y4.1, 80, .inl PD))]) (va_runV (As := []) (rest := []) ⟨hx, hb, hml, hown, hts⟩ (met_X8_record l D y4 aM aRo aHi aSn aAs aLg aPd aCo aEa H.size ms sv ml RO HI hms) (cwV 0 hts gX8_load_X8_record rfl rfl rfl (by decide +kernel) ⟨Nat.le_of_ble_eq_true rfl, Nat.le_of_ble_eq_true rfl⟩) ⟨preW_blind, va_recv hK hP (ci := 7) (q0 := 0) rfl rfl, preW_at (hP.sub (ws' := [(aM, .inr (7, [.ref aRo, .ref aHi, .int ms, .ref aSn, .int (bI sv), .ref aAs, .ref aLg, .ref aPd, .int ml, .ref aCo, .ref aEa])), (aRo, .inl (y4.1, 151, .inl RO)), (aHi, .inl (y4.1, 604, .inl HI))]) [0, 1, 2] rfl) hK (hD.sub (ws' := [(aM, .inr (7, [.ref aRo, .ref aHi, .int ms, .ref aSn, .int (bI sv), .ref aAs, .ref aLg, .ref aPd, .int ml, .ref aCo, .ref aEa])), (aRo, .inl (y4.1, 151, .inl RO)), (aHi, .inl (y4.1, 604, .inl HI))]) [0, 1, 2] (by decide) rfl) hNW⟩ rfl rfl hl.1 rfl (lv_room (Nat.le_of_ble_eq_true rfl)) dX8_load_13 ⟨Nat.zero_le _, Nat.zero_le _⟩) hP hD hS hA [0, 1, 2] [3] [1, 2, 3, 0] rfl rfl (by decide) (by decide) (fun _ => rfl) (by decide) (fun u4 H locs hw hP hD hS => ?_)
    obtain ⟨q3, eq3⟩ : ∃ z, z = m_X8_record ms RO HI := ⟨_, rfl⟩
    rw [← eq3] at hP hD
    have hP : va_P D vwCl [(aM, .inr (7, [.ref aRo, .ref aHi, .int q3.1, .ref aSn, .int (bI sv), .ref aAs, .ref aLg, .ref aPd, .int ml, .ref aCo, .ref aEa])), (aRo, .inl (y4.1, 151, .inl RO)), (aHi, .inl (y4.1, 604, .inl q3.2)), (aPd, .inl (y4.1, 80, .inl PD))] H := hP
    have hD : va_D A [(aM, .inr (7, [.ref aRo, .ref aHi, .int q3.1, .ref aSn, .int (bI sv), .ref aAs, .ref aLg, .ref aPd, .int ml, .ref aCo, .ref aEa])), (aRo, .inl (y4.1, 151, .inl RO)), (aHi, .inl (y4.1, 604, .inl q3.2)), (aPd, .inl (y4.1, 80, .inl PD))] := hD
    refine lv_iconst (v := 0) hx hb dX8_load_16 (by decide) ?_
    refine lv_istore_n (lv' := [(1, .int 0), (0, .ref aM)]) hx hb dX8_load_17 rfl hl (by decide) rfl (fun ls hl => ?_)
    refine lv_iconst (v := 0) hx hb dX8_load_18 (by decide) ?_
    refine lv_istore_n (lv' := [(2, .int 0), (1, .int 0), (0, .ref aM)]) hx hb dX8_load_19 rfl hl (by decide) rfl (fun ls hl => ?_)
    refine cutW (X := Int32 × (Nat → Int32)) 79 (fun x H locs ls => ((lpx (f_X8_load_20 PD) 64 0 ((0 : Int32), RO)) = .inl (.inr x) ∨ (lpx (f_X8_load_20 PD) 64 0 ((0 : Int32), RO)) = .inr x) ∧ (∃ kk : Nat, (fun _ t => MI t.2) kk x) ∧ va_P D vwCl [(aM, .inr (7, [.ref aRo, .ref aHi, .int q3.1, .ref aSn, .int (bI sv), .ref aAs, .ref aLg, .ref aPd, .int ml, .ref aCo, .ref aEa])), (aRo, .inl (y4.1, 151, .inl x.2)), (aHi, .inl (y4.1, 604, .inl q3.2)), (aPd, .inl (y4.1, 80, .inl PD))] H ∧ va_D A [(aM, .inr (7, [.ref aRo, .ref aHi, .int q3.1, .ref aSn, .int (bI sv), .ref aAs, .ref aLg, .ref aPd, .int ml, .ref aCo, .ref aEa])), (aRo, .inl (y4.1, 151, .inl x.2)), (aHi, .inl (y4.1, 604, .inl q3.2)), (aPd, .inl (y4.1, 80, .inl PD))] ∧ va_S A s.heap H locs ∧ lv_has ls 4 [(1, .int x.1), (0, .ref aM)]) (fun x => []) ?_ (fun K79 => ?_)
    · rintro t19 H locs ls ⟨et19, ⟨_, hIt19⟩, hP, hD, hS, hl⟩
      have hP : va_P D vwCl [(aM, .inr (7, [.ref aRo, .ref aHi, .int q3.1, .ref aSn, .int (bI sv), .ref aAs, .ref aLg, .ref aPd, .int ml, .ref aCo, .ref aEa])), (aRo, .inl (y4.1, 151, .inl t19.2)), (aHi, .inl (y4.1, 604, .inl q3.2)), (aPd, .inl (y4.1, 80, .inl PD))] H := hP
      have hD : va_D A [(aM, .inr (7, [.ref aRo, .ref aHi, .int q3.1, .ref aSn, .int (bI sv), .ref aAs, .ref aLg, .ref aPd, .int ml, .ref aCo, .ref aEa])), (aRo, .inl (y4.1, 151, .inl t19.2)), (aHi, .inl (y4.1, 604, .inl q3.2)), (aPd, .inl (y4.1, 80, .inl PD))] := hD
      have hl : lv_has ls 4 [(1, .int t19.1), (0, .ref aM)] := hl
      have hMt : MI t19.2 := hIt19
      refine lv_aload_n hx hb dX8_load_79 rfl (lv_at hl 1 rfl) ?_
      refine lv_iconst (v := 0) hx hb dX8_load_80 (by decide) ?_
      refine va_put (ci := 7) (v := .int 0) (ty := .int) (C := RX8) (T := TX8) (N := 11) hx hb hts iX8 tyX8 tyX8_ok nmX8 hown hK hP hD hS 0 rfl rfl 8 (by decide) f146 (fun _ h9 => h9) rfl (by decide +kernel) rfl rfl (Nat.le_of_ble_eq_true rfl) dX8_load_81 (fun H locs hP hD hS => ?_)
      have hP : va_P D vwCl [(aM, .inr (7, [.ref aRo, .ref aHi, .int q3.1, .ref aSn, .int (bI sv), .ref aAs, .ref aLg, .ref aPd, .int 0, .ref aCo, .ref aEa])), (aRo, .inl (y4.1, 151, .inl t19.2)), (aHi, .inl (y4.1, 604, .inl q3.2)), (aPd, .inl (y4.1, 80, .inl PD))] H := hP
      have hD : va_D A [(aM, .inr (7, [.ref aRo, .ref aHi, .int q3.1, .ref aSn, .int (bI sv), .ref aAs, .ref aLg, .ref aPd, .int 0, .ref aCo, .ref aEa])), (aRo, .inl (y4.1, 151, .inl t19.2)), (aHi, .inl (y4.1, 604, .inl q3.2)), (aPd, .inl (y4.1, 80, .inl PD))] := hD
      refine lv_aload_n hx hb dX8_load_84 rfl (lv_at hl 1 rfl) ?_
      refine callW_v (wr := [(aHi, .inl (y4.1, 604, .inl q3.2)), (aPd, .inl (y4.1, 80, .inl PD))]) (wn := fun u => [(aM, .inr (7, [.ref aRo, .ref aHi, .int q3.1, .ref aSn, .int (bI sv), .ref aAs, .ref aLg, .ref aPd, .int 0, .ref aCo, .ref aEa])), (aRo, .inl (y4.1, 151, .inl (m_X8_remember t19.2))), (aHi, .inl (y4.1, 604, .inl q3.2)), (aPd, .inl (y4.1, 80, .inl PD))]) (va_runV (As := []) (rest := []) ⟨hx, hb, hml, hown, hts⟩ (met_X8_remember l D y4 aM aRo aHi aSn aAs aLg aPd aCo aEa H.size q3.1 sv 0 t19.2 (by assumption)) (cwV 0 hts gX8_load_X8_remember rfl rfl rfl (by decide +kernel) ⟨Nat.le_of_ble_eq_true rfl, Nat.le_of_ble_eq_true rfl⟩) ⟨preW_blind, va_recv hK hP (ci := 7) (q0 := 0) rfl rfl, preW_at (hP.sub (ws' := [(aM, .inr (7, [.ref aRo, .ref aHi, .int q3.1, .ref aSn, .int (bI sv), .ref aAs, .ref aLg, .ref aPd, .int 0, .ref aCo, .ref aEa])), (aRo, .inl (y4.1, 151, .inl t19.2))]) [0, 1] rfl) hK (hD.sub (ws' := [(aM, .inr (7, [.ref aRo, .ref aHi, .int q3.1, .ref aSn, .int (bI sv), .ref aAs, .ref aLg, .ref aPd, .int 0, .ref aCo, .ref aEa])), (aRo, .inl (y4.1, 151, .inl t19.2))]) [0, 1] (by decide) rfl) hNW⟩ rfl rfl hl.1 rfl (lv_room (Nat.le_of_ble_eq_true rfl)) dX8_load_85 ⟨Nat.zero_le _, Nat.zero_le _⟩) hP hD hS hA [0, 1] [2, 3] [2, 3, 0, 1] rfl rfl (by decide) (by decide) (fun _ => rfl) (by decide) (fun u20 H locs hw hP hD hS => ?_)
      have hP : va_P D vwCl [(aM, .inr (7, [.ref aRo, .ref aHi, .int q3.1, .ref aSn, .int (bI sv), .ref aAs, .ref aLg, .ref aPd, .int 0, .ref aCo, .ref aEa])), (aRo, .inl (y4.1, 151, .inl (m_X8_remember t19.2))), (aHi, .inl (y4.1, 604, .inl q3.2)), (aPd, .inl (y4.1, 80, .inl PD))] H := hP
      have hD : va_D A [(aM, .inr (7, [.ref aRo, .ref aHi, .int q3.1, .ref aSn, .int (bI sv), .ref aAs, .ref aLg, .ref aPd, .int 0, .ref aCo, .ref aEa])), (aRo, .inl (y4.1, 151, .inl (m_X8_remember t19.2))), (aHi, .inl (y4.1, 604, .inl q3.2)), (aPd, .inl (y4.1, 80, .inl PD))] := hD
      refine lv_iload_n hx hb dX8_load_88 rfl (lv_at hl 0 rfl) ?_
      have em : m_X8_load ms ml RO HI PD = (t19.1, q3.1, (0 : Int32), (m_X8_remember t19.2), q3.2) := (by subst eq3; first | (simp only [m_X8_load, if_pos c2, lpr_k et19]; done) | (simp only [m_X8_load, if_pos c2, lpr_k et19]; rfl))
      exact W.iret (v := t19.1) hx hb hr (fun t ht hW => ⟨⟨t19.1, (), rfl, (by rw [em]), ⟨by rw [ht, em]; exact hP, by rw [em]; exact hD⟩⟩, hS.F ht⟩) hS.2.2 dX8_load_89
    · refine loopX (σ := Int32 × (Nat → Int32)) (ρ := (Int32 × Int32 × Int32 × (Nat → Int32) × (Nat → Int32)) ⊕ (Int32 × (Nat → Int32))) 20 (f_X8_load_20 PD) (fun _ t => MI t.2) 64 0 ((0 : Int32), RO) (fun k5 t6 H locs ls => va_P D vwCl [(aM, .inr (7, [.ref aRo, .ref aHi, .int q3.1, .ref aSn, .int (bI sv), .ref aAs, .ref aLg, .ref aPd, .int ml, .ref aCo, .ref aEa])), (aRo, .inl (y4.1, 151, .inl t6.2)), (aHi, .inl (y4.1, 604, .inl q3.2)), (aPd, .inl (y4.1, 80, .inl PD))] H ∧ va_D A [(aM, .inr (7, [.ref aRo, .ref aHi, .int q3.1, .ref aSn, .int (bI sv), .ref aAs, .ref aLg, .ref aPd, .int ml, .ref aCo, .ref aEa])), (aRo, .inl (y4.1, 151, .inl t6.2)), (aHi, .inl (y4.1, 604, .inl q3.2)), (aPd, .inl (y4.1, 80, .inl PD))] ∧ va_S A s.heap H locs ∧ lv_has ls 4 [(2, .int (nI k5)), (1, .int t6.1), (0, .ref aM)]) hM ⟨hP, hD, hS, lv_sub hl [0, 1, 2] rfl⟩ (fun t17 H locs ls et17 hit17 hh => ?_) (fun k5 t6 hkk5 hjk5 hik5 hretk5 ihk5 H locs ls hh => ?_)
      · obtain ⟨hP, hD, hS, hl⟩ := hh
        have hP : va_P D vwCl [(aM, .inr (7, [.ref aRo, .ref aHi, .int q3.1, .ref aSn, .int (bI sv), .ref aAs, .ref aLg, .ref aPd, .int ml, .ref aCo, .ref aEa])), (aRo, .inl (y4.1, 151, .inl t17.2)), (aHi, .inl (y4.1, 604, .inl q3.2)), (aPd, .inl (y4.1, 80, .inl PD))] H := hP
        have hD : va_D A [(aM, .inr (7, [.ref aRo, .ref aHi, .int q3.1, .ref aSn, .int (bI sv), .ref aAs, .ref aLg, .ref aPd, .int ml, .ref aCo, .ref aEa])), (aRo, .inl (y4.1, 151, .inl t17.2)), (aHi, .inl (y4.1, 604, .inl q3.2)), (aPd, .inl (y4.1, 80, .inl PD))] := hD
        have hl : lv_has ls 4 [(2, .int (nI 64)), (1, .int t17.1), (0, .ref aM)] := hl
        refine lv_iload_n hx hb dX8_load_20 rfl (lv_at hl 0 rfl) ?_
        refine lv_bipush (v := 64) hx hb dX8_load_21 (by decide) ?_
        refine lv_icmp_ge (tgt := 79) hx hb dX8_load_23 (by decide) (fun c18 => ?_) (fun c18 => absurd (nI_le (a := 64) (by omega) (by omega)) c18)
        exact K79 t17 H locs ls ⟨Or.inr et17, ⟨64, hit17⟩, hP, hD, hS, lv_sub hl [1, 2] rfl⟩
      · obtain ⟨hP, hD, hS, hl⟩ := hh
        have hP : va_P D vwCl [(aM, .inr (7, [.ref aRo, .ref aHi, .int q3.1, .ref aSn, .int (bI sv), .ref aAs, .ref aLg, .ref aPd, .int ml, .ref aCo, .ref aEa])), (aRo, .inl (y4.1, 151, .inl t6.2)), (aHi, .inl (y4.1, 604, .inl q3.2)), (aPd, .inl (y4.1, 80, .inl PD))] H := hP
        have hD : va_D A [(aM, .inr (7, [.ref aRo, .ref aHi, .int q3.1, .ref aSn, .int (bI sv), .ref aAs, .ref aLg, .ref aPd, .int ml, .ref aCo, .ref aEa])), (aRo, .inl (y4.1, 151, .inl t6.2)), (aHi, .inl (y4.1, 604, .inl q3.2)), (aPd, .inl (y4.1, 80, .inl PD))] := hD
        have hl : lv_has ls 4 [(2, .int (nI k5)), (1, .int t6.1), (0, .ref aM)] := hl
        have hin : MI t6.2 := hik5
        refine lv_iload_n hx hb dX8_load_20 rfl (lv_at hl 0 rfl) ?_
        refine lv_bipush (v := 64) hx hb dX8_load_21 (by decide) ?_
        refine lv_icmp_ge (tgt := 79) hx hb dX8_load_23 (by decide) (fun c12 => absurd c12 (nI_ge (b := 64) (by omega) (by omega))) (fun c12 => ?_)
        refine lv_aload_n hx hb dX8_load_26 rfl (lv_at hl 2 rfl) ?_
        refine va_get (ci := 7) (v := .ref aPd) (C := RX8) (T := TX8) (N := 11) hx hb hts iX8 hown hK hP 0 rfl rfl 7 (by decide) f25 (fun _ h9 => h9) rfl dX8_load_27 ?_
        refine lv_bipush (v := 9) hx hb dX8_load_30 (by decide) ?_
        refine lv_iload_n hx hb dX8_load_32 rfl (lv_at hl 0 rfl) ?_
        refine lv_bipush (v := 8) hx hb dX8_load_33 (by decide) ?_
        refine lv_idiv hx hb dX8_load_35 (by decide) ?_
        refine lv_imul hx hb dX8_load_36 ?_
        refine lv_iload_n hx hb dX8_load_37 rfl (lv_at hl 0 rfl) ?_
        refine lv_bipush (v := 8) hx hb dX8_load_38 (by decide) ?_
        refine lv_irem hx hb dX8_load_40 (by decide) ?_
        refine lv_iadd hx hb dX8_load_41 ?_
        refine va_iald hx hb hK hP 3 0 rfl rfl (ld_in (by omega)) dX8_load_42 ?_
        refine callK_i (va_runS (As := [.int (PD ((9 * ((nI k5) / 8)) + ((nI k5) - (nI k5) / 8 * 8)).toNatClampNeg)]) (rest := []) ⟨hx, hb, hml, hown, hts⟩ (met_X8_kindOf l  (PD ((9 * ((nI k5) / 8)) + ((nI k5) - (nI k5) / 8 * 8)).toNatClampNeg)) (va_cwS 1 hts gX8_load_X8_kindOf rfl rfl rfl (by decide +kernel) ⟨Nat.le_of_ble_eq_true rfl, Nat.le_of_ble_eq_true rfl⟩) ⟨preS_blind, fun U hU hW => ⟨rfl, trivial⟩⟩ rfl rfl hl.1 rfl (lv_room (Nat.le_of_ble_eq_true rfl)) dX8_load_43 ⟨Nat.zero_le _, Nat.zero_le _⟩) hP hS (fun r u H locs hw hP hS => ?_)
        obtain ⟨q13, eq13⟩ : ∃ z, z = m_X8_kindOf (PD ((9 * ((nI k5) / 8)) + ((nI k5) - (nI k5) / 8 * 8)).toNatClampNeg) := ⟨_, rfl⟩
        rw [← eq13] at hw
        replace hw := hw.symm
        subst hw
        refine lv_istore_n (lv' := [(3, .int q13), (2, .int (nI k5)), (1, .int t6.1), (0, .ref aM)]) hx hb dX8_load_46 rfl hl (by decide) rfl (fun ls hl => ?_)
        refine lv_iload_n hx hb dX8_load_47 rfl (lv_at hl 2 rfl) ?_
        refine lv_iload_n hx hb dX8_load_48 rfl (lv_at hl 0 rfl) ?_
        refine lv_aload_n hx hb dX8_load_49 rfl (lv_at hl 3 rfl) ?_
        refine va_get (ci := 7) (v := .ref aRo) (C := RX8) (T := TX8) (N := 11) hx hb hts iX8 hown hK hP 0 rfl rfl 0 (by decide) f7 (fun _ h9 => h9) rfl dX8_load_50 ?_
        refine lv_iconst (v := 0) hx hb dX8_load_53 (by decide) ?_
        refine lv_iload_n hx hb dX8_load_54 rfl (lv_at hl 1 rfl) ?_
        refine lv_iadd hx hb dX8_load_55 ?_
        refine va_iald hx hb hK hP 1 0 rfl rfl (off_in (vp_in_nI (n := k5) (N := 64) (by omega) (by decide)) (by decide) (by decide) (by decide)) dX8_load_56 ?_
        refine cutW (X := Bool) 65 (fun x H locs ls => x = (if q13 = (t6.2 (0 + (nI k5)).toNatClampNeg) then false else true) ∧ va_P D vwCl [(aM, .inr (7, [.ref aRo, .ref aHi, .int q3.1, .ref aSn, .int (bI sv), .ref aAs, .ref aLg, .ref aPd, .int ml, .ref aCo, .ref aEa])), (aRo, .inl (y4.1, 151, .inl t6.2)), (aHi, .inl (y4.1, 604, .inl q3.2)), (aPd, .inl (y4.1, 80, .inl PD))] H ∧ va_D A [(aM, .inr (7, [.ref aRo, .ref aHi, .int q3.1, .ref aSn, .int (bI sv), .ref aAs, .ref aLg, .ref aPd, .int ml, .ref aCo, .ref aEa])), (aRo, .inl (y4.1, 151, .inl t6.2)), (aHi, .inl (y4.1, 604, .inl q3.2)), (aPd, .inl (y4.1, 80, .inl PD))] ∧ va_S A s.heap H locs ∧ lv_has ls 4 [(3, .int q13), (2, .int (nI k5)), (0, .ref aM)]) (fun x => [.int (bI x), .int t6.1]) ?_ (fun K65 => ?_)
        · rintro v15 H locs ls ⟨ev15, hP, hD, hS, hl⟩
          have ev15 : v15 = (if q13 = (t6.2 (0 + (nI k5)).toNatClampNeg) then false else true) := ev15
          have hP : va_P D vwCl [(aM, .inr (7, [.ref aRo, .ref aHi, .int q3.1, .ref aSn, .int (bI sv), .ref aAs, .ref aLg, .ref aPd, .int ml, .ref aCo, .ref aEa])), (aRo, .inl (y4.1, 151, .inl t6.2)), (aHi, .inl (y4.1, 604, .inl q3.2)), (aPd, .inl (y4.1, 80, .inl PD))] H := hP
          have hD : va_D A [(aM, .inr (7, [.ref aRo, .ref aHi, .int q3.1, .ref aSn, .int (bI sv), .ref aAs, .ref aLg, .ref aPd, .int ml, .ref aCo, .ref aEa])), (aRo, .inl (y4.1, 151, .inl t6.2)), (aHi, .inl (y4.1, 604, .inl q3.2)), (aPd, .inl (y4.1, 80, .inl PD))] := hD
          have hl : lv_has ls 4 [(3, .int q13), (2, .int (nI k5)), (0, .ref aM)] := hl
          refine lv_iadd hx hb dX8_load_65 ?_
          refine lv_istore_n (lv' := [(1, .int (t6.1 + (bI v15))), (3, .int q13), (2, .int (nI k5)), (0, .ref aM)]) hx hb dX8_load_66 rfl hl (by decide) rfl (fun ls hl => ?_)
          refine lv_aload_n hx hb dX8_load_67 rfl (lv_at hl 3 rfl) ?_
          refine lv_iload_n hx hb dX8_load_68 rfl (lv_at hl 2 rfl) ?_
          refine lv_iload_n hx hb dX8_load_69 rfl (lv_at hl 1 rfl) ?_
          refine callW_v (wr := [(aHi, .inl (y4.1, 604, .inl q3.2)), (aPd, .inl (y4.1, 80, .inl PD))]) (wn := fun u => [(aM, .inr (7, [.ref aRo, .ref aHi, .int q3.1, .ref aSn, .int (bI sv), .ref aAs, .ref aLg, .ref aPd, .int ml, .ref aCo, .ref aEa])), (aRo, .inl (y4.1, 151, .inl (m_X8_lay t6.2 (nI k5) q13))), (aHi, .inl (y4.1, 604, .inl q3.2)), (aPd, .inl (y4.1, 80, .inl PD))]) (va_runV (As := [.int (nI k5), .int q13]) (rest := []) ⟨hx, hb, hml, hown, hts⟩ (met_X8_lay l D y4 aM aRo aHi aSn aAs aLg aPd aCo aEa H.size q3.1 sv ml t6.2 (nI k5) q13 (by assumption) (vp_in_nI (by omega) (by decide))) (cwV 2 hts gX8_load_X8_lay rfl rfl rfl (by decide +kernel) ⟨Nat.le_of_ble_eq_true rfl, Nat.le_of_ble_eq_true rfl⟩) ⟨preW_blind, va_recv hK hP (ci := 7) (q0 := 0) rfl rfl, preW_at (hP.sub (ws' := [(aM, .inr (7, [.ref aRo, .ref aHi, .int q3.1, .ref aSn, .int (bI sv), .ref aAs, .ref aLg, .ref aPd, .int ml, .ref aCo, .ref aEa])), (aRo, .inl (y4.1, 151, .inl t6.2))]) [0, 1] rfl) hK (hD.sub (ws' := [(aM, .inr (7, [.ref aRo, .ref aHi, .int q3.1, .ref aSn, .int (bI sv), .ref aAs, .ref aLg, .ref aPd, .int ml, .ref aCo, .ref aEa])), (aRo, .inl (y4.1, 151, .inl t6.2))]) [0, 1] (by decide) rfl) hNW⟩ rfl rfl hl.1 rfl (lv_room (Nat.le_of_ble_eq_true rfl)) dX8_load_70 ⟨Nat.zero_le _, Nat.zero_le _⟩) hP hD hS hA [0, 1] [2, 3] [2, 3, 0, 1] rfl rfl (by decide) (by decide) (fun _ => rfl) (by decide) (fun u16 H locs hw hP hD hS => ?_)
          have hP : va_P D vwCl [(aM, .inr (7, [.ref aRo, .ref aHi, .int q3.1, .ref aSn, .int (bI sv), .ref aAs, .ref aLg, .ref aPd, .int ml, .ref aCo, .ref aEa])), (aRo, .inl (y4.1, 151, .inl (m_X8_lay t6.2 (nI k5) q13))), (aHi, .inl (y4.1, 604, .inl q3.2)), (aPd, .inl (y4.1, 80, .inl PD))] H := hP
          have hD : va_D A [(aM, .inr (7, [.ref aRo, .ref aHi, .int q3.1, .ref aSn, .int (bI sv), .ref aAs, .ref aLg, .ref aPd, .int ml, .ref aCo, .ref aEa])), (aRo, .inl (y4.1, 151, .inl (m_X8_lay t6.2 (nI k5) q13))), (aHi, .inl (y4.1, 604, .inl q3.2)), (aPd, .inl (y4.1, 80, .inl PD))] := hD
          refine lv_iinc (v := nI (k5 + 1)) (lv' := [(2, .int (nI (k5 + 1))), (1, .int (t6.1 + (bI v15))), (3, .int q13), (0, .ref aM)]) hx hb dX8_load_73 hl (k := 2) rfl (nI_1 _) (by decide) rfl (fun ls hl => ?_)
          refine lv_goto (tgt := 20) hx hb dX8_load_76 (by decide) ?_
          have ef : (f_X8_load_20 PD) k5 t6 = .inr (t6.1 + (bI v15), (m_X8_lay t6.2 (nI k5) q13)) := (by subst ev15 eq13; first | (simp only [f_X8_load_20]; done) | (unfold f_X8_load_20; rfl) | rfl)
          exact ihk5 _ ef (MI_lay hin (vp_in_nI (by omega) (by decide))) H locs ls ⟨hP, hD, hS, lv_sub hl [0, 1, 3] rfl⟩
        · refine lv_icmp_eq (tgt := 64) hx hb dX8_load_57 (by decide) (fun c14 => ?_) (fun c14 => ?_)
          · refine lv_iconst (v := 0) hx hb dX8_load_64 (by decide) ?_
            exact K65 false H locs ls ⟨(by subst eq13 eq3; first | (simp only [if_pos c2, if_pos c14]; done) | (simp only [if_pos c2, if_pos c14]; rfl) | rfl), hP, hD, hS, lv_sub hl [0, 1, 3] rfl⟩
          · refine lv_iconst (v := 1) hx hb dX8_load_60 (by decide) ?_
            refine lv_goto (tgt := 65) hx hb dX8_load_61 (by decide) ?_
            exact K65 true H locs ls ⟨(by subst eq13 eq3; first | (simp only [if_pos c2, if_neg c14]; done) | (simp only [if_pos c2, if_neg c14]; rfl) | rfl), hP, hD, hS, lv_sub hl [0, 1, 3] rfl⟩
  · refine lv_bipush (v := (-2)) hx hb dX8_load_9 (by decide) ?_
    have em : m_X8_load ms ml RO HI PD = ((-2 : Int32), ms, ml, RO, HI) := (by first | (simp only [m_X8_load, if_neg c2]; done) | (simp only [m_X8_load, if_neg c2]; rfl))
    exact W.iret (v := (-2)) hx hb hr (fun t ht hW => ⟨⟨(-2), (), rfl, (by rw [em]), ⟨by rw [ht, em]; exact hP, by rw [em]; exact hD⟩⟩, hS.F ht⟩) hS.2.2 dX8_load_11
theorem MI_goo {RO : Nat → Int32} {di : Int32} (h : MI RO) (hn : vp_in (m_X8_next (RO 147) di) 64) : MI (m_X8_go RO di) := by
  obtain ⟨t, e, hi⟩ := lpx_all (f := f_X8_go_34) (fun k t => k ≤ 6 → goI RO di t) (fun k s hs => ⟨_, rfl, fun hk => go_step (hs (by omega)) (by omega) _⟩) (RO 128).toNatClampNeg 0 (goS RO di) (fun _ _ _ => rfl)
  have h6 := cl_lt h.1
  have h2 := MI_go h hn (hi (by omega))
  unfold m_X8_go
  show MI (lpr (lpx f_X8_go_34 ((RO 128).toNatClampNeg) 0 (goS RO di)) id (fun t11 => (m_X8_remember t11)))
  rw [e]
  exact MI_rem h2

def f_X8_walk_18 (PD : Nat → Int32) (k4 : Nat) (t5 : Int32 × (Nat → Int32)) : ((Int32 × Int32 × Int32 × (Nat → Int32) × (Nat → Int32)) ⊕ (Int32 × (Nat → Int32))) ⊕ (Int32 × (Nat → Int32)) := (if (m_X8_canGo t5.2 (t5.2 147) ((PD (t5.1).toNatClampNeg) - 48)) = false then (.inl (.inr (t5.1, t5.2))) else (.inr (t5.1 + 1, (m_X8_go t5.2 ((PD (t5.1).toNatClampNeg) - 48)))))
def m_X8_walk (ms : Int32) (ml : Int32) (RO : Nat → Int32) (HI : Nat → Int32) (PD : Nat → Int32) : Int32 × Int32 × Int32 × (Nat → Int32) × (Nat → Int32) := (if (m_X8_walkFault ml PD) = (-4) then (lpr (lpx (f_X8_walk_18 PD) ((ml).toNatClampNeg) 0 ((0 : Int32), RO)) id (fun t16 => (t16.1, (m_X8_record ms RO HI).1, (0 : Int32), (m_X8_remember t16.2), (m_X8_record ms RO HI).2))) else ((-2 : Int32), ms, ml, RO, HI))
set_option maxHeartbeats 4000000 in
set_option maxRecDepth 100000 in
theorem met_X8_walk (l : Launch) (D : va_G) (y4 : vT) (aM aRo aHi aSn aAs aLg aPd aCo aEa : Nat) (sz : Nat) (ms : Int32) (sv : Bool) (ml : Int32) (RO : Nat → Int32) (HI : Nat → Int32) (PD : Nat → Int32) (hM : MI RO) (hms : 0 ≤ ms.toInt ∧ ms.toInt ≤ (4 : Nat)) (hlen : 0 ≤ ml.toInt ∧ ml.toInt ≤ (80 : Nat)) : Met l yX8_walk wsX8_walk ({ frames := 9, cells := 0, slots := 0, locals := 208 }) (va_Pc [.ref aM] (PreW D y4 [(aM, .inr (7, [.ref aRo, .ref aHi, .int ms, .ref aSn, .int (bI sv), .ref aAs, .ref aLg, .ref aPd, .int ml, .ref aCo, .ref aEa])), (aRo, .inl (y4.1, 151, .inl RO)), (aHi, .inl (y4.1, 604, .inl HI)), (aPd, .inl (y4.1, 80, .inl PD))] sz)) (va_Qi (fun (r : Int32) (_ : Unit) => r = (m_X8_walk ms ml RO HI PD).1) (fun _ t => PostW D (va_A [(aM, .inr (7, [.ref aRo, .ref aHi, .int ms, .ref aSn, .int (bI sv), .ref aAs, .ref aLg, .ref aPd, .int ml, .ref aCo, .ref aEa])), (aRo, .inl (y4.1, 151, .inl RO)), (aHi, .inl (y4.1, 604, .inl HI)), (aPd, .inl (y4.1, 80, .inl PD))] sz) [(aM, .inr (7, [.ref aRo, .ref aHi, .int ((m_X8_walk ms ml RO HI PD).2.1), .ref aSn, .int (bI sv), .ref aAs, .ref aLg, .ref aPd, .int ((m_X8_walk ms ml RO HI PD).2.2.1), .ref aCo, .ref aEa])), (aRo, .inl (y4.1, 151, .inl ((m_X8_walk ms ml RO HI PD).2.2.2.1))), (aHi, .inl (y4.1, 604, .inl ((m_X8_walk ms ml RO HI PD).2.2.2.2))), (aPd, .inl (y4.1, 80, .inl PD))] t) (va_A [(aM, .inr (7, [.ref aRo, .ref aHi, .int ms, .ref aSn, .int (bI sv), .ref aAs, .ref aLg, .ref aPd, .int ml, .ref aCo, .ref aEa])), (aRo, .inl (y4.1, 151, .inl RO)), (aHi, .inl (y4.1, 604, .inl HI)), (aPd, .inl (y4.1, 80, .inl PD))] sz)) 0 0 (va_A [(aM, .inr (7, [.ref aRo, .ref aHi, .int ms, .ref aSn, .int (bI sv), .ref aAs, .ref aLg, .ref aPd, .int ml, .ref aCo, .ref aEa])), (aRo, .inl (y4.1, 151, .inl RO)), (aHi, .inl (y4.1, 604, .inl HI)), (aPd, .inl (y4.1, 80, .inl PD))] sz) := by
  refine Met.ofW (cc := cX8_walk) (maxL := 2) (ret := (some .int)) (by decide) rfl ?_
  intro p e s m args below meth c s₁ B hml hv
  obtain ⟨rfl, hsz, hP, hK, hD0, hNW⟩ := hv
  have hx := B.exec
  have hb := B.bytes
  have hr := B.returns
  have hts := atoms_spec (ws := wsX8_walk) B.pre
  have hown : s.vm.findClass RX8 = some m.cls := findClass_of_methodNamed B.named
  have hlocks := B.notSynchronized
  subst hsz
  have hD := hD0.self (sz := s.heap.size)
  generalize hAe : va_A [(aM, .inr (7, [.ref aRo, .ref aHi, .int ms, .ref aSn, .int (bI sv), .ref aAs, .ref aLg, .ref aPd, .int ml, .ref aCo, .ref aEa])), (aRo, .inl (y4.1, 151, .inl RO)), (aHi, .inl (y4.1, 604, .inl HI)), (aPd, .inl (y4.1, 80, .inl PD))] s.heap.size = A at hD ⊢
  have hA : ∀ q : Nat, s.heap.size ≤ q → A q := fun q h => by rw [← hAe]; exact Or.inr h
  have hS : va_S A s.heap s.heap [] := va_S.rf
  have hl := lv_entry ([.ref aM]) (n := 2) (Nat.le_of_ble_eq_true rfl)
  rw [lg_entry_eq]
  generalize (lg_sl ([.ref aM]) ++ List.replicate (2 - (lg_sl ([.ref aM])).length) Slot.unset).toArray = ls at hl ⊢
  have hl : lv_has ls 2 [(0, .ref aM)] := hl
  have f146 := hts (.fieldLink RX8 146 "PillarLightModel" "length" "I") (List.mem_of_getElem? (i := 1) rfl)
  have iX8 : ∀ w ∈ wsX80, w ∈ wsX8_walk := fun _ h => List.mem_cons_of_mem _ (List.mem_append_right _ h)
  have f7 := hts (.fieldLink RX8 7 "PillarLightModel" "row" "[I") (List.mem_of_getElem? (i := 2) rfl)
  have f25 := hts (.fieldLink RX8 25 "PillarLightModel" "pad" "[I") (List.mem_of_getElem? (i := 3) rfl)
  refine startW (fun H locs hP hS => ?_) hP hS
  refine lv_aload_n hx hb dX8_walk_0 rfl (lv_at hl 0 rfl) ?_
  refine callW_i (wr := [(aHi, .inl (y4.1, 604, .inl HI))]) (wn := fun u => [(aM, .inr (7, [.ref aRo, .ref aHi, .int ms, .ref aSn, .int (bI sv), .ref aAs, .ref aLg, .ref aPd, .int ml, .ref aCo, .ref aEa])), (aRo, .inl (y4.1, 151, .inl RO)), (aHi, .inl (y4.1, 604, .inl HI)), (aPd, .inl (y4.1, 80, .inl PD))]) (va_runV (As := []) (rest := []) ⟨hx, hb, hml, hown, hts⟩ (met_X8_walkFault l D y4 aM aRo aHi aSn aAs aLg aPd aCo aEa H.size ms sv ml RO PD hlen) (cwV 0 hts gX8_walk_X8_walkFault rfl rfl rfl (by decide +kernel) ⟨Nat.le_of_ble_eq_true rfl, Nat.le_of_ble_eq_true rfl⟩) ⟨preW_blind, va_recv hK hP (ci := 7) (q0 := 0) rfl rfl, preW_at (hP.sub (ws' := [(aM, .inr (7, [.ref aRo, .ref aHi, .int ms, .ref aSn, .int (bI sv), .ref aAs, .ref aLg, .ref aPd, .int ml, .ref aCo, .ref aEa])), (aRo, .inl (y4.1, 151, .inl RO)), (aPd, .inl (y4.1, 80, .inl PD))]) [0, 1, 3] rfl) hK (hD.sub (ws' := [(aM, .inr (7, [.ref aRo, .ref aHi, .int ms, .ref aSn, .int (bI sv), .ref aAs, .ref aLg, .ref aPd, .int ml, .ref aCo, .ref aEa])), (aRo, .inl (y4.1, 151, .inl RO)), (aPd, .inl (y4.1, 80, .inl PD))]) [0, 1, 3] (by decide) rfl) hNW⟩ rfl rfl hl.1 rfl (lv_room (Nat.le_of_ble_eq_true rfl)) dX8_walk_1 ⟨Nat.zero_le _, Nat.zero_le _⟩) hP hD hS hA [0, 1, 3] [2] [1, 2, 0, 3] rfl rfl (by decide) (by decide) (fun _ => rfl) (by decide) (fun r u1 H locs hw hP hD hS => ?_)
  subst hw
  have hP : va_P D vwCl [(aM, .inr (7, [.ref aRo, .ref aHi, .int ms, .ref aSn, .int (bI sv), .ref aAs, .ref aLg, .ref aPd, .int ml, .ref aCo, .ref aEa])), (aRo, .inl (y4.1, 151, .inl RO)), (aHi, .inl (y4.1, 604, .inl HI)), (aPd, .inl (y4.1, 80, .inl PD))] H := hP
  have hD : va_D A [(aM, .inr (7, [.ref aRo, .ref aHi, .int ms, .ref aSn, .int (bI sv), .ref aAs, .ref aLg, .ref aPd, .int ml, .ref aCo, .ref aEa])), (aRo, .inl (y4.1, 151, .inl RO)), (aHi, .inl (y4.1, 604, .inl HI)), (aPd, .inl (y4.1, 80, .inl PD))] := hD
  refine lv_bipush (v := (-4)) hx hb dX8_walk_4 (by decide) ?_
  refine lv_icmp_eq (tgt := 12) hx hb dX8_walk_6 (by decide) (fun c2 => ?_) (fun c2 => ?_)
  · refine lv_aload_n hx hb dX8_walk_12 rfl (lv_at hl 0 rfl) ?_
    refine callW_v (wr := [(aPd, .inl (y4.1, 80, .inl PD))]) (wn := fun u => [(aM, .inr (7, [.ref aRo, .ref aHi, .int ((m_X8_record ms RO HI).1), .ref aSn, .int (bI sv), .ref aAs, .ref aLg, .ref aPd, .int ml, .ref aCo, .ref aEa])), (aRo, .inl (y4.1, 151, .inl RO)), (aHi, .inl (y4.1, 604, .inl ((m_X8_record ms RO HI).2))), (aPd, .inl (y4.1, 80, .inl PD))]) (va_runV (As := []) (rest := []) ⟨hx, hb, hml, hown, hts⟩ (met_X8_record l D y4 aM aRo aHi aSn aAs aLg aPd aCo aEa H.size ms sv ml RO HI hms) (cwV 0 hts gX8_walk_X8_record rfl rfl rfl (by decide +kernel) ⟨Nat.le_of_ble_eq_true rfl, Nat.le_of_ble_eq_true rfl⟩) ⟨preW_blind, va_recv hK hP (ci := 7) (q0 := 0) rfl rfl, preW_at (hP.sub (ws' := [(aM, .inr (7, [.ref aRo, .ref aHi, .int ms, .ref aSn, .int (bI sv), .ref aAs, .ref aLg, .ref aPd, .int ml, .ref aCo, .ref aEa])), (aRo, .inl (y4.1, 151, .inl RO)), (aHi, .inl (y4.1, 604, .inl HI))]) [0, 1, 2] rfl) hK (hD.sub (ws' := [(aM, .inr (7, [.ref aRo, .ref aHi, .int ms, .ref aSn, .int (bI sv), .ref aAs, .ref aLg, .ref aPd, .int ml, .ref aCo, .ref aEa])), (aRo, .inl (y4.1, 151, .inl RO)), (aHi, .inl (y4.1, 604, .inl HI))]) [0, 1, 2] (by decide) rfl) hNW⟩ rfl rfl hl.1 rfl (lv_room (Nat.le_of_ble_eq_true rfl)) dX8_walk_13 ⟨Nat.zero_le _, Nat.zero_le _⟩) hP hD hS hA [0, 1, 2] [3] [1, 2, 3, 0] rfl rfl (by decide) (by decide) (fun _ => rfl) (by decide) (fun u3 H locs hw hP hD hS => ?_)
    have hP : va_P D vwCl [(aM, .inr (7, [.ref aRo, .ref aHi, .int ((m_X8_record ms RO HI).1), .ref aSn, .int (bI sv), .ref aAs, .ref aLg, .ref aPd, .int ml, .ref aCo, .ref aEa])), (aRo, .inl (y4.1, 151, .inl RO)), (aHi, .inl (y4.1, 604, .inl ((m_X8_record ms RO HI).2))), (aPd, .inl (y4.1, 80, .inl PD))] H := hP
    have hD : va_D A [(aM, .inr (7, [.ref aRo, .ref aHi, .int ((m_X8_record ms RO HI).1), .ref aSn, .int (bI sv), .ref aAs, .ref aLg, .ref aPd, .int ml, .ref aCo, .ref aEa])), (aRo, .inl (y4.1, 151, .inl RO)), (aHi, .inl (y4.1, 604, .inl ((m_X8_record ms RO HI).2))), (aPd, .inl (y4.1, 80, .inl PD))] := hD
    refine lv_iconst (v := 0) hx hb dX8_walk_16 (by decide) ?_
    refine lv_istore_n (lv' := [(1, .int 0), (0, .ref aM)]) hx hb dX8_walk_17 rfl hl (by decide) rfl (fun ls hl => ?_)
    refine cutW (X := Int32 × (Nat → Int32)) 69 (fun x H locs ls => ((lpx (f_X8_walk_18 PD) ((ml).toNatClampNeg) 0 ((0 : Int32), RO)) = .inl (.inr x) ∨ (lpx (f_X8_walk_18 PD) ((ml).toNatClampNeg) 0 ((0 : Int32), RO)) = .inr x) ∧ (∃ kk : Nat, (fun k t => t.1 = nI k ∧ MI t.2) kk x) ∧ va_P D vwCl [(aM, .inr (7, [.ref aRo, .ref aHi, .int ((m_X8_record ms RO HI).1), .ref aSn, .int (bI sv), .ref aAs, .ref aLg, .ref aPd, .int ml, .ref aCo, .ref aEa])), (aRo, .inl (y4.1, 151, .inl x.2)), (aHi, .inl (y4.1, 604, .inl ((m_X8_record ms RO HI).2))), (aPd, .inl (y4.1, 80, .inl PD))] H ∧ va_D A [(aM, .inr (7, [.ref aRo, .ref aHi, .int ((m_X8_record ms RO HI).1), .ref aSn, .int (bI sv), .ref aAs, .ref aLg, .ref aPd, .int ml, .ref aCo, .ref aEa])), (aRo, .inl (y4.1, 151, .inl x.2)), (aHi, .inl (y4.1, 604, .inl ((m_X8_record ms RO HI).2))), (aPd, .inl (y4.1, 80, .inl PD))] ∧ va_S A s.heap H locs ∧ lv_has ls 2 [(1, .int x.1), (0, .ref aM)]) (fun x => []) ?_ (fun K69 => ?_)
    · rintro t16 H locs ls ⟨et16, ⟨_, hIt16⟩, hP, hD, hS, hl⟩
      have hP : va_P D vwCl [(aM, .inr (7, [.ref aRo, .ref aHi, .int ((m_X8_record ms RO HI).1), .ref aSn, .int (bI sv), .ref aAs, .ref aLg, .ref aPd, .int ml, .ref aCo, .ref aEa])), (aRo, .inl (y4.1, 151, .inl t16.2)), (aHi, .inl (y4.1, 604, .inl ((m_X8_record ms RO HI).2))), (aPd, .inl (y4.1, 80, .inl PD))] H := hP
      have hD : va_D A [(aM, .inr (7, [.ref aRo, .ref aHi, .int ((m_X8_record ms RO HI).1), .ref aSn, .int (bI sv), .ref aAs, .ref aLg, .ref aPd, .int ml, .ref aCo, .ref aEa])), (aRo, .inl (y4.1, 151, .inl t16.2)), (aHi, .inl (y4.1, 604, .inl ((m_X8_record ms RO HI).2))), (aPd, .inl (y4.1, 80, .inl PD))] := hD
      have hl : lv_has ls 2 [(1, .int t16.1), (0, .ref aM)] := hl
      obtain ⟨kk, hkk, hMt⟩ : ∃ kk, t16.1 = nI kk ∧ MI t16.2 := ⟨_, hIt16⟩
      refine lv_aload_n hx hb dX8_walk_69 rfl (lv_at hl 1 rfl) ?_
      refine lv_iconst (v := 0) hx hb dX8_walk_70 (by decide) ?_
      refine va_put (ci := 7) (v := .int 0) (ty := .int) (C := RX8) (T := TX8) (N := 11) hx hb hts iX8 tyX8 tyX8_ok nmX8 hown hK hP hD hS 0 rfl rfl 8 (by decide) f146 (fun _ h9 => h9) rfl (by decide +kernel) rfl rfl (Nat.le_of_ble_eq_true rfl) dX8_walk_71 (fun H locs hP hD hS => ?_)
      have hP : va_P D vwCl [(aM, .inr (7, [.ref aRo, .ref aHi, .int ((m_X8_record ms RO HI).1), .ref aSn, .int (bI sv), .ref aAs, .ref aLg, .ref aPd, .int 0, .ref aCo, .ref aEa])), (aRo, .inl (y4.1, 151, .inl t16.2)), (aHi, .inl (y4.1, 604, .inl ((m_X8_record ms RO HI).2))), (aPd, .inl (y4.1, 80, .inl PD))] H := hP
      have hD : va_D A [(aM, .inr (7, [.ref aRo, .ref aHi, .int ((m_X8_record ms RO HI).1), .ref aSn, .int (bI sv), .ref aAs, .ref aLg, .ref aPd, .int 0, .ref aCo, .ref aEa])), (aRo, .inl (y4.1, 151, .inl t16.2)), (aHi, .inl (y4.1, 604, .inl ((m_X8_record ms RO HI).2))), (aPd, .inl (y4.1, 80, .inl PD))] := hD
      refine lv_aload_n hx hb dX8_walk_74 rfl (lv_at hl 1 rfl) ?_
      refine callW_v (wr := [(aHi, .inl (y4.1, 604, .inl ((m_X8_record ms RO HI).2))), (aPd, .inl (y4.1, 80, .inl PD))]) (wn := fun u => [(aM, .inr (7, [.ref aRo, .ref aHi, .int ((m_X8_record ms RO HI).1), .ref aSn, .int (bI sv), .ref aAs, .ref aLg, .ref aPd, .int 0, .ref aCo, .ref aEa])), (aRo, .inl (y4.1, 151, .inl (m_X8_remember t16.2))), (aHi, .inl (y4.1, 604, .inl ((m_X8_record ms RO HI).2))), (aPd, .inl (y4.1, 80, .inl PD))]) (va_runV (As := []) (rest := []) ⟨hx, hb, hml, hown, hts⟩ (met_X8_remember l D y4 aM aRo aHi aSn aAs aLg aPd aCo aEa H.size ((m_X8_record ms RO HI).1) sv 0 t16.2 (by assumption)) (cwV 0 hts gX8_walk_X8_remember rfl rfl rfl (by decide +kernel) ⟨Nat.le_of_ble_eq_true rfl, Nat.le_of_ble_eq_true rfl⟩) ⟨preW_blind, va_recv hK hP (ci := 7) (q0 := 0) rfl rfl, preW_at (hP.sub (ws' := [(aM, .inr (7, [.ref aRo, .ref aHi, .int ((m_X8_record ms RO HI).1), .ref aSn, .int (bI sv), .ref aAs, .ref aLg, .ref aPd, .int 0, .ref aCo, .ref aEa])), (aRo, .inl (y4.1, 151, .inl t16.2))]) [0, 1] rfl) hK (hD.sub (ws' := [(aM, .inr (7, [.ref aRo, .ref aHi, .int ((m_X8_record ms RO HI).1), .ref aSn, .int (bI sv), .ref aAs, .ref aLg, .ref aPd, .int 0, .ref aCo, .ref aEa])), (aRo, .inl (y4.1, 151, .inl t16.2))]) [0, 1] (by decide) rfl) hNW⟩ rfl rfl hl.1 rfl (lv_room (Nat.le_of_ble_eq_true rfl)) dX8_walk_75 ⟨Nat.zero_le _, Nat.zero_le _⟩) hP hD hS hA [0, 1] [2, 3] [2, 3, 0, 1] rfl rfl (by decide) (by decide) (fun _ => rfl) (by decide) (fun u17 H locs hw hP hD hS => ?_)
      have hP : va_P D vwCl [(aM, .inr (7, [.ref aRo, .ref aHi, .int ((m_X8_record ms RO HI).1), .ref aSn, .int (bI sv), .ref aAs, .ref aLg, .ref aPd, .int 0, .ref aCo, .ref aEa])), (aRo, .inl (y4.1, 151, .inl (m_X8_remember t16.2))), (aHi, .inl (y4.1, 604, .inl ((m_X8_record ms RO HI).2))), (aPd, .inl (y4.1, 80, .inl PD))] H := hP
      have hD : va_D A [(aM, .inr (7, [.ref aRo, .ref aHi, .int ((m_X8_record ms RO HI).1), .ref aSn, .int (bI sv), .ref aAs, .ref aLg, .ref aPd, .int 0, .ref aCo, .ref aEa])), (aRo, .inl (y4.1, 151, .inl (m_X8_remember t16.2))), (aHi, .inl (y4.1, 604, .inl ((m_X8_record ms RO HI).2))), (aPd, .inl (y4.1, 80, .inl PD))] := hD
      refine lv_iload_n hx hb dX8_walk_78 rfl (lv_at hl 0 rfl) ?_
      have em : m_X8_walk ms ml RO HI PD = (t16.1, (m_X8_record ms RO HI).1, (0 : Int32), (m_X8_remember t16.2), (m_X8_record ms RO HI).2) := (by first | (simp only [m_X8_walk, if_pos c2, lpr_k et16]; done) | (simp only [m_X8_walk, if_pos c2, lpr_k et16]; rfl))
      exact W.iret (v := t16.1) hx hb hr (fun t ht hW => ⟨⟨t16.1, (), rfl, (by rw [em]), ⟨by rw [ht, em]; exact hP, by rw [em]; exact hD⟩⟩, hS.F ht⟩) hS.2.2 dX8_walk_79
    · refine loopX (σ := Int32 × (Nat → Int32)) (ρ := (Int32 × Int32 × Int32 × (Nat → Int32) × (Nat → Int32)) ⊕ (Int32 × (Nat → Int32))) 18 (f_X8_walk_18 PD) (fun k t => t.1 = nI k ∧ MI t.2) ((ml).toNatClampNeg) 0 ((0 : Int32), RO) (fun k4 t5 H locs ls => va_P D vwCl [(aM, .inr (7, [.ref aRo, .ref aHi, .int ((m_X8_record ms RO HI).1), .ref aSn, .int (bI sv), .ref aAs, .ref aLg, .ref aPd, .int ml, .ref aCo, .ref aEa])), (aRo, .inl (y4.1, 151, .inl t5.2)), (aHi, .inl (y4.1, 604, .inl ((m_X8_record ms RO HI).2))), (aPd, .inl (y4.1, 80, .inl PD))] H ∧ va_D A [(aM, .inr (7, [.ref aRo, .ref aHi, .int ((m_X8_record ms RO HI).1), .ref aSn, .int (bI sv), .ref aAs, .ref aLg, .ref aPd, .int ml, .ref aCo, .ref aEa])), (aRo, .inl (y4.1, 151, .inl t5.2)), (aHi, .inl (y4.1, 604, .inl ((m_X8_record ms RO HI).2))), (aPd, .inl (y4.1, 80, .inl PD))] ∧ va_S A s.heap H locs ∧ lv_has ls 2 [(1, .int t5.1), (0, .ref aM)]) ⟨rfl, hM⟩ ⟨hP, hD, hS, lv_sub hl [0, 1] rfl⟩ (fun t14 H locs ls et14 hit14 hh => ?_) (fun k4 t5 hkk4 hjk4 hik4 hretk4 ihk4 H locs ls hh => ?_)
      · obtain ⟨hP, hD, hS, hl⟩ := hh
        have hP : va_P D vwCl [(aM, .inr (7, [.ref aRo, .ref aHi, .int ((m_X8_record ms RO HI).1), .ref aSn, .int (bI sv), .ref aAs, .ref aLg, .ref aPd, .int ml, .ref aCo, .ref aEa])), (aRo, .inl (y4.1, 151, .inl t14.2)), (aHi, .inl (y4.1, 604, .inl ((m_X8_record ms RO HI).2))), (aPd, .inl (y4.1, 80, .inl PD))] H := hP
        have hD : va_D A [(aM, .inr (7, [.ref aRo, .ref aHi, .int ((m_X8_record ms RO HI).1), .ref aSn, .int (bI sv), .ref aAs, .ref aLg, .ref aPd, .int ml, .ref aCo, .ref aEa])), (aRo, .inl (y4.1, 151, .inl t14.2)), (aHi, .inl (y4.1, 604, .inl ((m_X8_record ms RO HI).2))), (aPd, .inl (y4.1, 80, .inl PD))] := hD
        have hl : lv_has ls 2 [(1, .int t14.1), (0, .ref aM)] := hl
        have hin : t14.1 = nI (0 + (ml).toNatClampNeg) ∧ MI t14.2 := hit14
        refine lv_iload_n hx hb dX8_walk_18 rfl (lv_at hl 0 rfl) ?_
        refine lv_aload_n hx hb dX8_walk_19 rfl (lv_at hl 1 rfl) ?_
        refine va_get (ci := 7) (v := .int ml) (C := RX8) (T := TX8) (N := 11) hx hb hts iX8 hown hK hP 0 rfl rfl 8 (by decide) f146 (fun _ h9 => h9) rfl dX8_walk_20 ?_
        refine lv_icmp_ge (tgt := 69) hx hb dX8_walk_23 (by decide) (fun c15 => ?_) (fun c15 => absurd (by rw [hin.1]; exact cl_le hlen (by omega) (by have := cl_lt hlen; omega)) c15)
        exact K69 t14 H locs ls ⟨Or.inr et14, ⟨0 + (ml).toNatClampNeg, hit14⟩, hP, hD, hS, lv_sub hl [0, 1] rfl⟩
      · obtain ⟨hP, hD, hS, hl⟩ := hh
        have hP : va_P D vwCl [(aM, .inr (7, [.ref aRo, .ref aHi, .int ((m_X8_record ms RO HI).1), .ref aSn, .int (bI sv), .ref aAs, .ref aLg, .ref aPd, .int ml, .ref aCo, .ref aEa])), (aRo, .inl (y4.1, 151, .inl t5.2)), (aHi, .inl (y4.1, 604, .inl ((m_X8_record ms RO HI).2))), (aPd, .inl (y4.1, 80, .inl PD))] H := hP
        have hD : va_D A [(aM, .inr (7, [.ref aRo, .ref aHi, .int ((m_X8_record ms RO HI).1), .ref aSn, .int (bI sv), .ref aAs, .ref aLg, .ref aPd, .int ml, .ref aCo, .ref aEa])), (aRo, .inl (y4.1, 151, .inl t5.2)), (aHi, .inl (y4.1, 604, .inl ((m_X8_record ms RO HI).2))), (aPd, .inl (y4.1, 80, .inl PD))] := hD
        have hl : lv_has ls 2 [(1, .int t5.1), (0, .ref aM)] := hl
        have hin : t5.1 = nI k4 ∧ MI t5.2 := hik4
        refine lv_iload_n hx hb dX8_walk_18 rfl (lv_at hl 0 rfl) ?_
        refine lv_aload_n hx hb dX8_walk_19 rfl (lv_at hl 1 rfl) ?_
        refine va_get (ci := 7) (v := .int ml) (C := RX8) (T := TX8) (N := 11) hx hb hts iX8 hown hK hP 0 rfl rfl 8 (by decide) f146 (fun _ h9 => h9) rfl dX8_walk_20 ?_
        refine lv_icmp_ge (tgt := 69) hx hb dX8_walk_23 (by decide) (fun c10 => absurd c10 (by rw [hin.1]; exact cl_ge hlen (by omega))) (fun c10 => ?_)
        refine lv_aload_n hx hb dX8_walk_26 rfl (lv_at hl 1 rfl) ?_
        refine lv_aload_n hx hb dX8_walk_27 rfl (lv_at hl 1 rfl) ?_
        refine va_get (ci := 7) (v := .ref aRo) (C := RX8) (T := TX8) (N := 11) hx hb hts iX8 hown hK hP 0 rfl rfl 0 (by decide) f7 (fun _ h9 => h9) rfl dX8_walk_28 ?_
        refine lv_sipush (v := 147) hx hb dX8_walk_31 (by decide) ?_
        refine va_iald hx hb hK hP 1 0 rfl rfl (vp_in_nI (n := 147) (by decide) (by decide)) dX8_walk_34 ?_
        refine W.ofeqi (y := t5.2 147) (congrArg t5.2 (by decide : (147 : Int32).toNatClampNeg = 147)) ?_
        refine lv_aload_n hx hb dX8_walk_35 rfl (lv_at hl 1 rfl) ?_
        refine va_get (ci := 7) (v := .ref aPd) (C := RX8) (T := TX8) (N := 11) hx hb hts iX8 hown hK hP 0 rfl rfl 7 (by decide) f25 (fun _ h9 => h9) rfl dX8_walk_36 ?_
        refine lv_iload_n hx hb dX8_walk_39 rfl (lv_at hl 0 rfl) ?_
        refine va_iald hx hb hK hP 3 0 rfl rfl (by rw [hin.1]; exact cl_in hlen (by omega)) dX8_walk_40 ?_
        refine lv_bipush (v := 48) hx hb dX8_walk_41 (by decide) ?_
        refine lv_isub hx hb dX8_walk_43 ?_
        refine callW_i (wr := [(aHi, .inl (y4.1, 604, .inl ((m_X8_record ms RO HI).2))), (aPd, .inl (y4.1, 80, .inl PD))]) (wn := fun u => [(aM, .inr (7, [.ref aRo, .ref aHi, .int ((m_X8_record ms RO HI).1), .ref aSn, .int (bI sv), .ref aAs, .ref aLg, .ref aPd, .int ml, .ref aCo, .ref aEa])), (aRo, .inl (y4.1, 151, .inl t5.2)), (aHi, .inl (y4.1, 604, .inl ((m_X8_record ms RO HI).2))), (aPd, .inl (y4.1, 80, .inl PD))]) (va_runV (As := [.int (t5.2 147), .int ((PD (t5.1).toNatClampNeg) - 48)]) (rest := []) ⟨hx, hb, hml, hown, hts⟩ (met_X8_canGo l D y4 aM aRo aHi aSn aAs aLg aPd aCo aEa H.size ((m_X8_record ms RO HI).1) sv ml t5.2 (t5.2 147) ((PD (t5.1).toNatClampNeg) - 48) hin.2.2.2) (cwV 2 hts gX8_walk_X8_canGo rfl rfl rfl (by decide +kernel) ⟨Nat.le_of_ble_eq_true rfl, Nat.le_of_ble_eq_true rfl⟩) ⟨preW_blind, va_recv hK hP (ci := 7) (q0 := 0) rfl rfl, preW_at (hP.sub (ws' := [(aM, .inr (7, [.ref aRo, .ref aHi, .int ((m_X8_record ms RO HI).1), .ref aSn, .int (bI sv), .ref aAs, .ref aLg, .ref aPd, .int ml, .ref aCo, .ref aEa])), (aRo, .inl (y4.1, 151, .inl t5.2))]) [0, 1] rfl) hK (hD.sub (ws' := [(aM, .inr (7, [.ref aRo, .ref aHi, .int ((m_X8_record ms RO HI).1), .ref aSn, .int (bI sv), .ref aAs, .ref aLg, .ref aPd, .int ml, .ref aCo, .ref aEa])), (aRo, .inl (y4.1, 151, .inl t5.2))]) [0, 1] (by decide) rfl) hNW⟩ rfl rfl hl.1 rfl (lv_room (Nat.le_of_ble_eq_true rfl)) dX8_walk_44 ⟨Nat.zero_le _, Nat.zero_le _⟩) hP hD hS hA [0, 1] [2, 3] [2, 3, 0, 1] rfl rfl (by decide) (by decide) (fun _ => rfl) (by decide) (fun r u11 H locs hw hP hD hS => ?_)
        subst hw
        have hP : va_P D vwCl [(aM, .inr (7, [.ref aRo, .ref aHi, .int ((m_X8_record ms RO HI).1), .ref aSn, .int (bI sv), .ref aAs, .ref aLg, .ref aPd, .int ml, .ref aCo, .ref aEa])), (aRo, .inl (y4.1, 151, .inl t5.2)), (aHi, .inl (y4.1, 604, .inl ((m_X8_record ms RO HI).2))), (aPd, .inl (y4.1, 80, .inl PD))] H := hP
        have hD : va_D A [(aM, .inr (7, [.ref aRo, .ref aHi, .int ((m_X8_record ms RO HI).1), .ref aSn, .int (bI sv), .ref aAs, .ref aLg, .ref aPd, .int ml, .ref aCo, .ref aEa])), (aRo, .inl (y4.1, 151, .inl t5.2)), (aHi, .inl (y4.1, 604, .inl ((m_X8_record ms RO HI).2))), (aPd, .inl (y4.1, 80, .inl PD))] := hD
        refine lb_if_eq (tgt := 69) hx hb dX8_walk_47 (by decide) (fun c12 => ?_) (fun c12 => ?_)
        · have ef : (f_X8_walk_18 PD) k4 t5 = .inl (.inr (t5.1, t5.2)) := (by first | (simp only [f_X8_walk_18, if_pos c12]; done) | (simp only [f_X8_walk_18, if_pos c12]; rfl))
          exact K69 (t5.1, t5.2) H locs ls ⟨Or.inl (hretk4 _ ef), ⟨k4, hik4⟩, hP, hD, hS, lv_sub hl [0, 1] rfl⟩
        · refine lv_aload_n hx hb dX8_walk_50 rfl (lv_at hl 1 rfl) ?_
          refine lv_aload_n hx hb dX8_walk_51 rfl (lv_at hl 1 rfl) ?_
          refine va_get (ci := 7) (v := .ref aPd) (C := RX8) (T := TX8) (N := 11) hx hb hts iX8 hown hK hP 0 rfl rfl 7 (by decide) f25 (fun _ h9 => h9) rfl dX8_walk_52 ?_
          refine lv_iload_n hx hb dX8_walk_55 rfl (lv_at hl 0 rfl) ?_
          refine va_iald hx hb hK hP 3 0 rfl rfl (by rw [hin.1]; exact cl_in hlen (by omega)) dX8_walk_56 ?_
          refine lv_bipush (v := 48) hx hb dX8_walk_57 (by decide) ?_
          refine lv_isub hx hb dX8_walk_59 ?_
          refine callW_v (wr := [(aHi, .inl (y4.1, 604, .inl ((m_X8_record ms RO HI).2))), (aPd, .inl (y4.1, 80, .inl PD))]) (wn := fun u => [(aM, .inr (7, [.ref aRo, .ref aHi, .int ((m_X8_record ms RO HI).1), .ref aSn, .int (bI sv), .ref aAs, .ref aLg, .ref aPd, .int ml, .ref aCo, .ref aEa])), (aRo, .inl (y4.1, 151, .inl (m_X8_go t5.2 ((PD (t5.1).toNatClampNeg) - 48)))), (aHi, .inl (y4.1, 604, .inl ((m_X8_record ms RO HI).2))), (aPd, .inl (y4.1, 80, .inl PD))]) (va_runV (As := [.int ((PD (t5.1).toNatClampNeg) - 48)]) (rest := []) ⟨hx, hb, hml, hown, hts⟩ (met_X8_go l D y4 aM aRo aHi aSn aAs aLg aPd aCo aEa H.size ((m_X8_record ms RO HI).1) sv ml t5.2 ((PD (t5.1).toNatClampNeg) - 48) hin.2 (canGo_in hin.2.2.2 (by assumption))) (cwV 1 hts gX8_walk_X8_go rfl rfl rfl (by decide +kernel) ⟨Nat.le_of_ble_eq_true rfl, Nat.le_of_ble_eq_true rfl⟩) ⟨preW_blind, va_recv hK hP (ci := 7) (q0 := 0) rfl rfl, preW_at (hP.sub (ws' := [(aM, .inr (7, [.ref aRo, .ref aHi, .int ((m_X8_record ms RO HI).1), .ref aSn, .int (bI sv), .ref aAs, .ref aLg, .ref aPd, .int ml, .ref aCo, .ref aEa])), (aRo, .inl (y4.1, 151, .inl t5.2))]) [0, 1] rfl) hK (hD.sub (ws' := [(aM, .inr (7, [.ref aRo, .ref aHi, .int ((m_X8_record ms RO HI).1), .ref aSn, .int (bI sv), .ref aAs, .ref aLg, .ref aPd, .int ml, .ref aCo, .ref aEa])), (aRo, .inl (y4.1, 151, .inl t5.2))]) [0, 1] (by decide) rfl) hNW⟩ rfl rfl hl.1 rfl (lv_room (Nat.le_of_ble_eq_true rfl)) dX8_walk_60 ⟨Nat.zero_le _, Nat.zero_le _⟩) hP hD hS hA [0, 1] [2, 3] [2, 3, 0, 1] rfl rfl (by decide) (by decide) (fun _ => rfl) (by decide) (fun u13 H locs hw hP hD hS => ?_)
          have hP : va_P D vwCl [(aM, .inr (7, [.ref aRo, .ref aHi, .int ((m_X8_record ms RO HI).1), .ref aSn, .int (bI sv), .ref aAs, .ref aLg, .ref aPd, .int ml, .ref aCo, .ref aEa])), (aRo, .inl (y4.1, 151, .inl (m_X8_go t5.2 ((PD (t5.1).toNatClampNeg) - 48)))), (aHi, .inl (y4.1, 604, .inl ((m_X8_record ms RO HI).2))), (aPd, .inl (y4.1, 80, .inl PD))] H := hP
          have hD : va_D A [(aM, .inr (7, [.ref aRo, .ref aHi, .int ((m_X8_record ms RO HI).1), .ref aSn, .int (bI sv), .ref aAs, .ref aLg, .ref aPd, .int ml, .ref aCo, .ref aEa])), (aRo, .inl (y4.1, 151, .inl (m_X8_go t5.2 ((PD (t5.1).toNatClampNeg) - 48)))), (aHi, .inl (y4.1, 604, .inl ((m_X8_record ms RO HI).2))), (aPd, .inl (y4.1, 80, .inl PD))] := hD
          refine lv_iinc (v := t5.1 + 1) (lv' := [(1, .int (t5.1 + 1)), (0, .ref aM)]) hx hb dX8_walk_63 hl (k := 0) rfl rfl (by decide) rfl (fun ls hl => ?_)
          refine lv_goto (tgt := 18) hx hb dX8_walk_66 (by decide) ?_
          have ef : (f_X8_walk_18 PD) k4 t5 = .inr (t5.1 + 1, (m_X8_go t5.2 ((PD (t5.1).toNatClampNeg) - 48))) := (by first | (simp only [f_X8_walk_18, if_neg c12]; done) | (simp only [f_X8_walk_18, if_neg c12]; rfl))
          exact ihk4 _ ef ⟨by rw [hin.1]; exact nI_1 _, MI_goo hin.2 (canGo_in hin.2.2.2 (by assumption))⟩ H locs ls ⟨hP, hD, hS, lv_sub hl [0, 1] rfl⟩
  · refine lv_bipush (v := (-2)) hx hb dX8_walk_9 (by decide) ?_
    have em : m_X8_walk ms ml RO HI PD = ((-2 : Int32), ms, ml, RO, HI) := (by first | (simp only [m_X8_walk, if_neg c2]; done) | (simp only [m_X8_walk, if_neg c2]; rfl))
    exact W.iret (v := (-2)) hx hb hr (fun t ht hW => ⟨⟨(-2), (), rfl, (by rw [em]), ⟨by rw [ht, em]; exact hP, by rw [em]; exact hD⟩⟩, hS.F ht⟩) hS.2.2 dX8_walk_11
def m_X8_property (RO : Nat → Int32) (ce : Int32) (wh : Int32) : Int32 := (if wh = 0 then RO (0 + ce).toNatClampNeg else (if wh = 1 then (m_X8_lightAt RO ce) else (if wh = 2 then (if (m_X8_lightAt RO ce) < (RO 149) then (0 : Int32) else (1 : Int32)) else (if wh = 3 then (if (m_X8_isSeen RO ce) = false then (0 : Int32) else (1 : Int32)) else (if wh = 4 then RO (64 + ce).toNatClampNeg else (if wh = 5 then (m_X8_lampsFor RO ce) else (if wh = 6 then (m_X8_lampIn RO ce) else (m_X8_seesMany RO ce))))))))
set_option maxHeartbeats 4000000 in
set_option maxRecDepth 100000 in
theorem met_X8_property (l : Launch) (D : va_G) (y4 : vT) (aM aRo aHi aSn aAs aLg aPd aCo aEa : Nat) (sz : Nat) (ms : Int32) (sv : Bool) (ml : Int32) (RO : Nat → Int32) (ce : Int32) (wh : Int32) (hM : MI RO) (hce : vp_in ce 64) : Met l yX8_property wsX8_property ({ frames := 7, cells := 0, slots := 0, locals := 165 }) (va_Pc [.ref aM, .int ce, .int wh] (PreW D y4 [(aM, .inr (7, [.ref aRo, .ref aHi, .int ms, .ref aSn, .int (bI sv), .ref aAs, .ref aLg, .ref aPd, .int ml, .ref aCo, .ref aEa])), (aRo, .inl (y4.1, 151, .inl RO))] sz)) (va_Qi (fun (r : Int32) (_ : Unit) => r = (m_X8_property RO ce wh)) (fun _ t => PostW D (va_A [(aM, .inr (7, [.ref aRo, .ref aHi, .int ms, .ref aSn, .int (bI sv), .ref aAs, .ref aLg, .ref aPd, .int ml, .ref aCo, .ref aEa])), (aRo, .inl (y4.1, 151, .inl RO))] sz) [(aM, .inr (7, [.ref aRo, .ref aHi, .int ms, .ref aSn, .int (bI sv), .ref aAs, .ref aLg, .ref aPd, .int ml, .ref aCo, .ref aEa])), (aRo, .inl (y4.1, 151, .inl RO))] t) (va_A [(aM, .inr (7, [.ref aRo, .ref aHi, .int ms, .ref aSn, .int (bI sv), .ref aAs, .ref aLg, .ref aPd, .int ml, .ref aCo, .ref aEa])), (aRo, .inl (y4.1, 151, .inl RO))] sz)) 0 0 (va_A [(aM, .inr (7, [.ref aRo, .ref aHi, .int ms, .ref aSn, .int (bI sv), .ref aAs, .ref aLg, .ref aPd, .int ml, .ref aCo, .ref aEa])), (aRo, .inl (y4.1, 151, .inl RO))] sz) := by
  refine Met.ofW (cc := cX8_property) (maxL := 3) (ret := (some .int)) (by decide) rfl ?_
  intro p e s m args below meth c s₁ B hml hv
  obtain ⟨rfl, hsz, hP, hK, hD0, hNW⟩ := hv
  have hx := B.exec
  have hb := B.bytes
  have hr := B.returns
  have hts := atoms_spec (ws := wsX8_property) B.pre
  have hown : s.vm.findClass RX8 = some m.cls := findClass_of_methodNamed B.named
  have hlocks := B.notSynchronized
  subst hsz
  have hD := hD0.self (sz := s.heap.size)
  generalize hAe : va_A [(aM, .inr (7, [.ref aRo, .ref aHi, .int ms, .ref aSn, .int (bI sv), .ref aAs, .ref aLg, .ref aPd, .int ml, .ref aCo, .ref aEa])), (aRo, .inl (y4.1, 151, .inl RO))] s.heap.size = A at hD ⊢
  have hA : ∀ q : Nat, s.heap.size ≤ q → A q := fun q h => by rw [← hAe]; exact Or.inr h
  have hS : va_S A s.heap s.heap [] := va_S.rf
  have hl := lv_entry ([.ref aM, .int ce, .int wh]) (n := 3) (Nat.le_of_ble_eq_true rfl)
  rw [lg_entry_eq]
  generalize (lg_sl ([.ref aM, .int ce, .int wh]) ++ List.replicate (3 - (lg_sl ([.ref aM, .int ce, .int wh])).length) Slot.unset).toArray = ls at hl ⊢
  have hl : lv_has ls 3 [(0, .ref aM), (1, .int ce), (2, .int wh)] := hl
  have f7 := hts (.fieldLink RX8 7 "PillarLightModel" "row" "[I") (List.mem_of_getElem? (i := 1) rfl)
  have iX8 : ∀ w ∈ wsX80, w ∈ wsX8_property := fun _ h => List.mem_cons_of_mem _ (List.mem_append_right _ h)
  refine startW (fun H locs hP hS => ?_) hP hS
  refine lv_iload_n hx hb dX8_property_0 rfl (lv_at hl 2 rfl) ?_
  by_cases c1 : wh = 0
  · refine lv_tableIn (off := 43) (tgt := 44) hx hb dX8_property_1 (by rw [c1]; decide) (by rw [c1]; decide) (by rw [c1]; rfl) (by decide) ?_
    refine lv_aload_n hx hb dX8_property_44 rfl (lv_at hl 0 rfl) ?_
    refine va_get (ci := 7) (v := .ref aRo) (C := RX8) (T := TX8) (N := 11) hx hb hts iX8 hown hK hP 0 rfl rfl 0 (by decide) f7 (fun _ h9 => h9) rfl dX8_property_45 ?_
    refine lv_iconst (v := 0) hx hb dX8_property_48 (by decide) ?_
    refine lv_iload_n hx hb dX8_property_49 rfl (lv_at hl 1 rfl) ?_
    refine lv_iadd hx hb dX8_property_50 ?_
    refine va_iald hx hb hK hP 1 0 rfl rfl (off_in hce (by decide) (by decide) (by decide)) dX8_property_51 ?_
    have em : m_X8_property RO ce wh = RO (0 + ce).toNatClampNeg := (by first | (simp only [m_X8_property, if_pos c1]; done) | (simp only [m_X8_property, if_pos c1]; rfl))
    exact W.iret (v := RO (0 + ce).toNatClampNeg) hx hb hr (fun t ht hW => ⟨⟨RO (0 + ce).toNatClampNeg, (), rfl, (by rw [em]), ⟨by rw [ht]; exact hP, by exact hD⟩⟩, hS.F ht⟩) hS.2.2 dX8_property_52
  · by_cases c2 : wh = 1
    · refine lv_tableIn (off := 52) (tgt := 53) hx hb dX8_property_1 (by rw [c2]; decide) (by rw [c2]; decide) (by rw [c2]; rfl) (by decide) ?_
      refine lv_aload_n hx hb dX8_property_53 rfl (lv_at hl 0 rfl) ?_
      refine lv_iload_n hx hb dX8_property_54 rfl (lv_at hl 1 rfl) ?_
      refine callW_i (wr := []) (wn := fun u => [(aM, .inr (7, [.ref aRo, .ref aHi, .int ms, .ref aSn, .int (bI sv), .ref aAs, .ref aLg, .ref aPd, .int ml, .ref aCo, .ref aEa])), (aRo, .inl (y4.1, 151, .inl RO))]) (va_runV (As := [.int ce]) (rest := []) ⟨hx, hb, hml, hown, hts⟩ (met_X8_lightAt l D y4 aM aRo aHi aSn aAs aLg aPd aCo aEa H.size ms sv ml RO ce hM hce) (cwV 1 hts gX8_property_X8_lightAt rfl rfl rfl (by decide +kernel) ⟨Nat.le_of_ble_eq_true rfl, Nat.le_of_ble_eq_true rfl⟩) ⟨preW_blind, va_recv hK hP (ci := 7) (q0 := 0) rfl rfl, preW_at (hP.sub (ws' := [(aM, .inr (7, [.ref aRo, .ref aHi, .int ms, .ref aSn, .int (bI sv), .ref aAs, .ref aLg, .ref aPd, .int ml, .ref aCo, .ref aEa])), (aRo, .inl (y4.1, 151, .inl RO))]) [0, 1] rfl) hK (hD.sub (ws' := [(aM, .inr (7, [.ref aRo, .ref aHi, .int ms, .ref aSn, .int (bI sv), .ref aAs, .ref aLg, .ref aPd, .int ml, .ref aCo, .ref aEa])), (aRo, .inl (y4.1, 151, .inl RO))]) [0, 1] (by decide) rfl) hNW⟩ rfl rfl hl.1 rfl (lv_room (Nat.le_of_ble_eq_true rfl)) dX8_property_55 ⟨Nat.zero_le _, Nat.zero_le _⟩) hP hD hS hA [0, 1] [] [0, 1] rfl rfl (by decide) (by decide) (fun _ => rfl) (by decide) (fun r u3 H locs hw hP hD hS => ?_)
      subst hw
      have hP : va_P D vwCl [(aM, .inr (7, [.ref aRo, .ref aHi, .int ms, .ref aSn, .int (bI sv), .ref aAs, .ref aLg, .ref aPd, .int ml, .ref aCo, .ref aEa])), (aRo, .inl (y4.1, 151, .inl RO))] H := hP
      have hD : va_D A [(aM, .inr (7, [.ref aRo, .ref aHi, .int ms, .ref aSn, .int (bI sv), .ref aAs, .ref aLg, .ref aPd, .int ml, .ref aCo, .ref aEa])), (aRo, .inl (y4.1, 151, .inl RO))] := hD
      have em : m_X8_property RO ce wh = (m_X8_lightAt RO ce) := (by first | (simp only [m_X8_property, if_neg c1, if_pos c2]; done) | (simp only [m_X8_property, if_neg c1, if_pos c2]; rfl))
      exact W.iret (v := (m_X8_lightAt RO ce)) hx hb hr (fun t ht hW => ⟨⟨(m_X8_lightAt RO ce), (), rfl, (by rw [em]), ⟨by rw [ht]; exact hP, by exact hD⟩⟩, hS.F ht⟩) hS.2.2 dX8_property_58
    · by_cases c4 : wh = 2
      · refine lv_tableIn (off := 58) (tgt := 59) hx hb dX8_property_1 (by rw [c4]; decide) (by rw [c4]; decide) (by rw [c4]; rfl) (by decide) ?_
        refine lv_aload_n hx hb dX8_property_59 rfl (lv_at hl 0 rfl) ?_
        refine lv_iload_n hx hb dX8_property_60 rfl (lv_at hl 1 rfl) ?_
        refine callW_i (wr := []) (wn := fun u => [(aM, .inr (7, [.ref aRo, .ref aHi, .int ms, .ref aSn, .int (bI sv), .ref aAs, .ref aLg, .ref aPd, .int ml, .ref aCo, .ref aEa])), (aRo, .inl (y4.1, 151, .inl RO))]) (va_runV (As := [.int ce]) (rest := []) ⟨hx, hb, hml, hown, hts⟩ (met_X8_lightAt l D y4 aM aRo aHi aSn aAs aLg aPd aCo aEa H.size ms sv ml RO ce hM hce) (cwV 1 hts gX8_property_X8_lightAt rfl rfl rfl (by decide +kernel) ⟨Nat.le_of_ble_eq_true rfl, Nat.le_of_ble_eq_true rfl⟩) ⟨preW_blind, va_recv hK hP (ci := 7) (q0 := 0) rfl rfl, preW_at (hP.sub (ws' := [(aM, .inr (7, [.ref aRo, .ref aHi, .int ms, .ref aSn, .int (bI sv), .ref aAs, .ref aLg, .ref aPd, .int ml, .ref aCo, .ref aEa])), (aRo, .inl (y4.1, 151, .inl RO))]) [0, 1] rfl) hK (hD.sub (ws' := [(aM, .inr (7, [.ref aRo, .ref aHi, .int ms, .ref aSn, .int (bI sv), .ref aAs, .ref aLg, .ref aPd, .int ml, .ref aCo, .ref aEa])), (aRo, .inl (y4.1, 151, .inl RO))]) [0, 1] (by decide) rfl) hNW⟩ rfl rfl hl.1 rfl (lv_room (Nat.le_of_ble_eq_true rfl)) dX8_property_61 ⟨Nat.zero_le _, Nat.zero_le _⟩) hP hD hS hA [0, 1] [] [0, 1] rfl rfl (by decide) (by decide) (fun _ => rfl) (by decide) (fun r u5 H locs hw hP hD hS => ?_)
        subst hw
        have hP : va_P D vwCl [(aM, .inr (7, [.ref aRo, .ref aHi, .int ms, .ref aSn, .int (bI sv), .ref aAs, .ref aLg, .ref aPd, .int ml, .ref aCo, .ref aEa])), (aRo, .inl (y4.1, 151, .inl RO))] H := hP
        have hD : va_D A [(aM, .inr (7, [.ref aRo, .ref aHi, .int ms, .ref aSn, .int (bI sv), .ref aAs, .ref aLg, .ref aPd, .int ml, .ref aCo, .ref aEa])), (aRo, .inl (y4.1, 151, .inl RO))] := hD
        refine lv_aload_n hx hb dX8_property_64 rfl (lv_at hl 0 rfl) ?_
        refine va_get (ci := 7) (v := .ref aRo) (C := RX8) (T := TX8) (N := 11) hx hb hts iX8 hown hK hP 0 rfl rfl 0 (by decide) f7 (fun _ h9 => h9) rfl dX8_property_65 ?_
        refine lv_sipush (v := 149) hx hb dX8_property_68 (by decide) ?_
        refine va_iald hx hb hK hP 1 0 rfl rfl (vp_in_nI (n := 149) (by decide) (by decide)) dX8_property_71 ?_
        refine W.ofeqi (y := RO 149) (congrArg RO (by decide : (149 : Int32).toNatClampNeg = 149)) ?_
        refine lv_icmp_lt (tgt := 79) hx hb dX8_property_72 (by decide) (fun c6 => ?_) (fun c6 => ?_)
        · refine lv_iconst (v := 0) hx hb dX8_property_79 (by decide) ?_
          have em : m_X8_property RO ce wh = (0 : Int32) := (by first | (simp only [m_X8_property, if_neg c1, if_neg c2, if_pos c4, if_pos c6]; done) | (simp only [m_X8_property, if_neg c1, if_neg c2, if_pos c4, if_pos c6]; rfl))
          exact W.iret (v := 0) hx hb hr (fun t ht hW => ⟨⟨0, (), rfl, (by rw [em]), ⟨by rw [ht]; exact hP, by exact hD⟩⟩, hS.F ht⟩) hS.2.2 dX8_property_80
        · refine lv_iconst (v := 1) hx hb dX8_property_75 (by decide) ?_
          refine lv_goto (tgt := 80) hx hb dX8_property_76 (by decide) ?_
          have em : m_X8_property RO ce wh = (1 : Int32) := (by first | (simp only [m_X8_property, if_neg c1, if_neg c2, if_pos c4, if_neg c6]; done) | (simp only [m_X8_property, if_neg c1, if_neg c2, if_pos c4, if_neg c6]; rfl))
          exact W.iret (v := 1) hx hb hr (fun t ht hW => ⟨⟨1, (), rfl, (by rw [em]), ⟨by rw [ht]; exact hP, by exact hD⟩⟩, hS.F ht⟩) hS.2.2 dX8_property_80
      · by_cases c7 : wh = 3
        · refine lv_tableIn (off := 80) (tgt := 81) hx hb dX8_property_1 (by rw [c7]; decide) (by rw [c7]; decide) (by rw [c7]; rfl) (by decide) ?_
          refine lv_aload_n hx hb dX8_property_81 rfl (lv_at hl 0 rfl) ?_
          refine lv_iload_n hx hb dX8_property_82 rfl (lv_at hl 1 rfl) ?_
          refine callW_i (wr := []) (wn := fun u => [(aM, .inr (7, [.ref aRo, .ref aHi, .int ms, .ref aSn, .int (bI sv), .ref aAs, .ref aLg, .ref aPd, .int ml, .ref aCo, .ref aEa])), (aRo, .inl (y4.1, 151, .inl RO))]) (va_runV (As := [.int ce]) (rest := []) ⟨hx, hb, hml, hown, hts⟩ (met_X8_isSeen l D y4 aM aRo aHi aSn aAs aLg aPd aCo aEa H.size ms sv ml RO ce hM hce) (cwV 1 hts gX8_property_X8_isSeen rfl rfl rfl (by decide +kernel) ⟨Nat.le_of_ble_eq_true rfl, Nat.le_of_ble_eq_true rfl⟩) ⟨preW_blind, va_recv hK hP (ci := 7) (q0 := 0) rfl rfl, preW_at (hP.sub (ws' := [(aM, .inr (7, [.ref aRo, .ref aHi, .int ms, .ref aSn, .int (bI sv), .ref aAs, .ref aLg, .ref aPd, .int ml, .ref aCo, .ref aEa])), (aRo, .inl (y4.1, 151, .inl RO))]) [0, 1] rfl) hK (hD.sub (ws' := [(aM, .inr (7, [.ref aRo, .ref aHi, .int ms, .ref aSn, .int (bI sv), .ref aAs, .ref aLg, .ref aPd, .int ml, .ref aCo, .ref aEa])), (aRo, .inl (y4.1, 151, .inl RO))]) [0, 1] (by decide) rfl) hNW⟩ rfl rfl hl.1 rfl (lv_room (Nat.le_of_ble_eq_true rfl)) dX8_property_83 ⟨Nat.zero_le _, Nat.zero_le _⟩) hP hD hS hA [0, 1] [] [0, 1] rfl rfl (by decide) (by decide) (fun _ => rfl) (by decide) (fun r u8 H locs hw hP hD hS => ?_)
          subst hw
          have hP : va_P D vwCl [(aM, .inr (7, [.ref aRo, .ref aHi, .int ms, .ref aSn, .int (bI sv), .ref aAs, .ref aLg, .ref aPd, .int ml, .ref aCo, .ref aEa])), (aRo, .inl (y4.1, 151, .inl RO))] H := hP
          have hD : va_D A [(aM, .inr (7, [.ref aRo, .ref aHi, .int ms, .ref aSn, .int (bI sv), .ref aAs, .ref aLg, .ref aPd, .int ml, .ref aCo, .ref aEa])), (aRo, .inl (y4.1, 151, .inl RO))] := hD
          refine lb_if_eq (tgt := 93) hx hb dX8_property_86 (by decide) (fun c9 => ?_) (fun c9 => ?_)
          · refine lv_iconst (v := 0) hx hb dX8_property_93 (by decide) ?_
            have em : m_X8_property RO ce wh = (0 : Int32) := (by first | (simp only [m_X8_property, if_neg c1, if_neg c2, if_neg c4, if_pos c7, if_pos c9]; done) | (simp only [m_X8_property, if_neg c1, if_neg c2, if_neg c4, if_pos c7, if_pos c9]; rfl))
            exact W.iret (v := 0) hx hb hr (fun t ht hW => ⟨⟨0, (), rfl, (by rw [em]), ⟨by rw [ht]; exact hP, by exact hD⟩⟩, hS.F ht⟩) hS.2.2 dX8_property_94
          · refine lv_iconst (v := 1) hx hb dX8_property_89 (by decide) ?_
            refine lv_goto (tgt := 94) hx hb dX8_property_90 (by decide) ?_
            have em : m_X8_property RO ce wh = (1 : Int32) := (by first | (simp only [m_X8_property, if_neg c1, if_neg c2, if_neg c4, if_pos c7, if_neg c9]; done) | (simp only [m_X8_property, if_neg c1, if_neg c2, if_neg c4, if_pos c7, if_neg c9]; rfl))
            exact W.iret (v := 1) hx hb hr (fun t ht hW => ⟨⟨1, (), rfl, (by rw [em]), ⟨by rw [ht]; exact hP, by exact hD⟩⟩, hS.F ht⟩) hS.2.2 dX8_property_94
        · by_cases c10 : wh = 4
          · refine lv_tableIn (off := 94) (tgt := 95) hx hb dX8_property_1 (by rw [c10]; decide) (by rw [c10]; decide) (by rw [c10]; rfl) (by decide) ?_
            refine lv_aload_n hx hb dX8_property_95 rfl (lv_at hl 0 rfl) ?_
            refine va_get (ci := 7) (v := .ref aRo) (C := RX8) (T := TX8) (N := 11) hx hb hts iX8 hown hK hP 0 rfl rfl 0 (by decide) f7 (fun _ h9 => h9) rfl dX8_property_96 ?_
            refine lv_bipush (v := 64) hx hb dX8_property_99 (by decide) ?_
            refine lv_iload_n hx hb dX8_property_101 rfl (lv_at hl 1 rfl) ?_
            refine lv_iadd hx hb dX8_property_102 ?_
            refine va_iald hx hb hK hP 1 0 rfl rfl (off_in hce (by decide) (by decide) (by decide)) dX8_property_103 ?_
            have em : m_X8_property RO ce wh = RO (64 + ce).toNatClampNeg := (by first | (simp only [m_X8_property, if_neg c1, if_neg c2, if_neg c4, if_neg c7, if_pos c10]; done) | (simp only [m_X8_property, if_neg c1, if_neg c2, if_neg c4, if_neg c7, if_pos c10]; rfl))
            exact W.iret (v := RO (64 + ce).toNatClampNeg) hx hb hr (fun t ht hW => ⟨⟨RO (64 + ce).toNatClampNeg, (), rfl, (by rw [em]), ⟨by rw [ht]; exact hP, by exact hD⟩⟩, hS.F ht⟩) hS.2.2 dX8_property_104
          · by_cases c11 : wh = 5
            · refine lv_tableIn (off := 104) (tgt := 105) hx hb dX8_property_1 (by rw [c11]; decide) (by rw [c11]; decide) (by rw [c11]; rfl) (by decide) ?_
              refine lv_aload_n hx hb dX8_property_105 rfl (lv_at hl 0 rfl) ?_
              refine lv_iload_n hx hb dX8_property_106 rfl (lv_at hl 1 rfl) ?_
              refine callW_i (wr := []) (wn := fun u => [(aM, .inr (7, [.ref aRo, .ref aHi, .int ms, .ref aSn, .int (bI sv), .ref aAs, .ref aLg, .ref aPd, .int ml, .ref aCo, .ref aEa])), (aRo, .inl (y4.1, 151, .inl RO))]) (va_runV (As := [.int ce]) (rest := []) ⟨hx, hb, hml, hown, hts⟩ (met_X8_lampsFor l D y4 aM aRo aHi aSn aAs aLg aPd aCo aEa H.size ms sv ml RO ce hM hce) (cwV 1 hts gX8_property_X8_lampsFor rfl rfl rfl (by decide +kernel) ⟨Nat.le_of_ble_eq_true rfl, Nat.le_of_ble_eq_true rfl⟩) ⟨preW_blind, va_recv hK hP (ci := 7) (q0 := 0) rfl rfl, preW_at (hP.sub (ws' := [(aM, .inr (7, [.ref aRo, .ref aHi, .int ms, .ref aSn, .int (bI sv), .ref aAs, .ref aLg, .ref aPd, .int ml, .ref aCo, .ref aEa])), (aRo, .inl (y4.1, 151, .inl RO))]) [0, 1] rfl) hK (hD.sub (ws' := [(aM, .inr (7, [.ref aRo, .ref aHi, .int ms, .ref aSn, .int (bI sv), .ref aAs, .ref aLg, .ref aPd, .int ml, .ref aCo, .ref aEa])), (aRo, .inl (y4.1, 151, .inl RO))]) [0, 1] (by decide) rfl) hNW⟩ rfl rfl hl.1 rfl (lv_room (Nat.le_of_ble_eq_true rfl)) dX8_property_107 ⟨Nat.zero_le _, Nat.zero_le _⟩) hP hD hS hA [0, 1] [] [0, 1] rfl rfl (by decide) (by decide) (fun _ => rfl) (by decide) (fun r u12 H locs hw hP hD hS => ?_)
              subst hw
              have hP : va_P D vwCl [(aM, .inr (7, [.ref aRo, .ref aHi, .int ms, .ref aSn, .int (bI sv), .ref aAs, .ref aLg, .ref aPd, .int ml, .ref aCo, .ref aEa])), (aRo, .inl (y4.1, 151, .inl RO))] H := hP
              have hD : va_D A [(aM, .inr (7, [.ref aRo, .ref aHi, .int ms, .ref aSn, .int (bI sv), .ref aAs, .ref aLg, .ref aPd, .int ml, .ref aCo, .ref aEa])), (aRo, .inl (y4.1, 151, .inl RO))] := hD
              have em : m_X8_property RO ce wh = (m_X8_lampsFor RO ce) := (by first | (simp only [m_X8_property, if_neg c1, if_neg c2, if_neg c4, if_neg c7, if_neg c10, if_pos c11]; done) | (simp only [m_X8_property, if_neg c1, if_neg c2, if_neg c4, if_neg c7, if_neg c10, if_pos c11]; rfl))
              exact W.iret (v := (m_X8_lampsFor RO ce)) hx hb hr (fun t ht hW => ⟨⟨(m_X8_lampsFor RO ce), (), rfl, (by rw [em]), ⟨by rw [ht]; exact hP, by exact hD⟩⟩, hS.F ht⟩) hS.2.2 dX8_property_110
            · by_cases c13 : wh = 6
              · refine lv_tableIn (off := 110) (tgt := 111) hx hb dX8_property_1 (by rw [c13]; decide) (by rw [c13]; decide) (by rw [c13]; rfl) (by decide) ?_
                refine lv_aload_n hx hb dX8_property_111 rfl (lv_at hl 0 rfl) ?_
                refine lv_iload_n hx hb dX8_property_112 rfl (lv_at hl 1 rfl) ?_
                refine callW_i (wr := []) (wn := fun u => [(aM, .inr (7, [.ref aRo, .ref aHi, .int ms, .ref aSn, .int (bI sv), .ref aAs, .ref aLg, .ref aPd, .int ml, .ref aCo, .ref aEa])), (aRo, .inl (y4.1, 151, .inl RO))]) (va_runV (As := [.int ce]) (rest := []) ⟨hx, hb, hml, hown, hts⟩ (met_X8_lampIn l D y4 aM aRo aHi aSn aAs aLg aPd aCo aEa H.size ms sv ml RO ce hM) (cwV 1 hts gX8_property_X8_lampIn rfl rfl rfl (by decide +kernel) ⟨Nat.le_of_ble_eq_true rfl, Nat.le_of_ble_eq_true rfl⟩) ⟨preW_blind, va_recv hK hP (ci := 7) (q0 := 0) rfl rfl, preW_at (hP.sub (ws' := [(aM, .inr (7, [.ref aRo, .ref aHi, .int ms, .ref aSn, .int (bI sv), .ref aAs, .ref aLg, .ref aPd, .int ml, .ref aCo, .ref aEa])), (aRo, .inl (y4.1, 151, .inl RO))]) [0, 1] rfl) hK (hD.sub (ws' := [(aM, .inr (7, [.ref aRo, .ref aHi, .int ms, .ref aSn, .int (bI sv), .ref aAs, .ref aLg, .ref aPd, .int ml, .ref aCo, .ref aEa])), (aRo, .inl (y4.1, 151, .inl RO))]) [0, 1] (by decide) rfl) hNW⟩ rfl rfl hl.1 rfl (lv_room (Nat.le_of_ble_eq_true rfl)) dX8_property_113 ⟨Nat.zero_le _, Nat.zero_le _⟩) hP hD hS hA [0, 1] [] [0, 1] rfl rfl (by decide) (by decide) (fun _ => rfl) (by decide) (fun r u14 H locs hw hP hD hS => ?_)
                subst hw
                have hP : va_P D vwCl [(aM, .inr (7, [.ref aRo, .ref aHi, .int ms, .ref aSn, .int (bI sv), .ref aAs, .ref aLg, .ref aPd, .int ml, .ref aCo, .ref aEa])), (aRo, .inl (y4.1, 151, .inl RO))] H := hP
                have hD : va_D A [(aM, .inr (7, [.ref aRo, .ref aHi, .int ms, .ref aSn, .int (bI sv), .ref aAs, .ref aLg, .ref aPd, .int ml, .ref aCo, .ref aEa])), (aRo, .inl (y4.1, 151, .inl RO))] := hD
                have em : m_X8_property RO ce wh = (m_X8_lampIn RO ce) := (by first | (simp only [m_X8_property, if_neg c1, if_neg c2, if_neg c4, if_neg c7, if_neg c10, if_neg c11, if_pos c13]; done) | (simp only [m_X8_property, if_neg c1, if_neg c2, if_neg c4, if_neg c7, if_neg c10, if_neg c11, if_pos c13]; rfl))
                exact W.iret (v := (m_X8_lampIn RO ce)) hx hb hr (fun t ht hW => ⟨⟨(m_X8_lampIn RO ce), (), rfl, (by rw [em]), ⟨by rw [ht]; exact hP, by exact hD⟩⟩, hS.F ht⟩) hS.2.2 dX8_property_116
              · refine lv_tableOut (tgt := 117) hx hb dX8_property_1 (sw_out 0 6 [0, 1, 2, 3, 4, 5, 6] (by decide) (by simp only [List.mem_cons, List.not_mem_nil, or_false, forall_eq_or_imp, forall_eq]; exact ⟨c1, c2, c4, c7, c10, c11, c13⟩) (by decide)) (by decide) ?_
                refine lv_aload_n hx hb dX8_property_117 rfl (lv_at hl 0 rfl) ?_
                refine lv_iload_n hx hb dX8_property_118 rfl (lv_at hl 1 rfl) ?_
                refine callW_i (wr := []) (wn := fun u => [(aM, .inr (7, [.ref aRo, .ref aHi, .int ms, .ref aSn, .int (bI sv), .ref aAs, .ref aLg, .ref aPd, .int ml, .ref aCo, .ref aEa])), (aRo, .inl (y4.1, 151, .inl RO))]) (va_runV (As := [.int ce]) (rest := []) ⟨hx, hb, hml, hown, hts⟩ (met_X8_seesMany l D y4 aM aRo aHi aSn aAs aLg aPd aCo aEa H.size ms sv ml RO ce hce) (cwV 1 hts gX8_property_X8_seesMany rfl rfl rfl (by decide +kernel) ⟨Nat.le_of_ble_eq_true rfl, Nat.le_of_ble_eq_true rfl⟩) ⟨preW_blind, va_recv hK hP (ci := 7) (q0 := 0) rfl rfl, preW_at (hP.sub (ws' := [(aM, .inr (7, [.ref aRo, .ref aHi, .int ms, .ref aSn, .int (bI sv), .ref aAs, .ref aLg, .ref aPd, .int ml, .ref aCo, .ref aEa])), (aRo, .inl (y4.1, 151, .inl RO))]) [0, 1] rfl) hK (hD.sub (ws' := [(aM, .inr (7, [.ref aRo, .ref aHi, .int ms, .ref aSn, .int (bI sv), .ref aAs, .ref aLg, .ref aPd, .int ml, .ref aCo, .ref aEa])), (aRo, .inl (y4.1, 151, .inl RO))]) [0, 1] (by decide) rfl) hNW⟩ rfl rfl hl.1 rfl (lv_room (Nat.le_of_ble_eq_true rfl)) dX8_property_119 ⟨Nat.zero_le _, Nat.zero_le _⟩) hP hD hS hA [0, 1] [] [0, 1] rfl rfl (by decide) (by decide) (fun _ => rfl) (by decide) (fun r u15 H locs hw hP hD hS => ?_)
                subst hw
                have hP : va_P D vwCl [(aM, .inr (7, [.ref aRo, .ref aHi, .int ms, .ref aSn, .int (bI sv), .ref aAs, .ref aLg, .ref aPd, .int ml, .ref aCo, .ref aEa])), (aRo, .inl (y4.1, 151, .inl RO))] H := hP
                have hD : va_D A [(aM, .inr (7, [.ref aRo, .ref aHi, .int ms, .ref aSn, .int (bI sv), .ref aAs, .ref aLg, .ref aPd, .int ml, .ref aCo, .ref aEa])), (aRo, .inl (y4.1, 151, .inl RO))] := hD
                have em : m_X8_property RO ce wh = (m_X8_seesMany RO ce) := (by first | (simp only [m_X8_property, if_neg c1, if_neg c2, if_neg c4, if_neg c7, if_neg c10, if_neg c11, if_neg c13]; done) | (simp only [m_X8_property, if_neg c1, if_neg c2, if_neg c4, if_neg c7, if_neg c10, if_neg c11, if_neg c13]; rfl))
                exact W.iret (v := (m_X8_seesMany RO ce)) hx hb hr (fun t ht hW => ⟨⟨(m_X8_seesMany RO ce), (), rfl, (by rw [em]), ⟨by rw [ht]; exact hP, by exact hD⟩⟩, hS.F ht⟩) hS.2.2 dX8_property_122
def m_X8_cell (RO : Nat → Int32) (ce : Int32) (wh : Int32) : Int32 := (if (m_X8_isCell ce) = false then (-1 : Int32) else (if (m_X8_in wh 0 7) = false then (-1 : Int32) else (m_X8_property RO ce wh)))
set_option maxHeartbeats 4000000 in
set_option maxRecDepth 100000 in
theorem met_X8_cell (l : Launch) (D : va_G) (y4 : vT) (aM aRo aHi aSn aAs aLg aPd aCo aEa : Nat) (sz : Nat) (ms : Int32) (sv : Bool) (ml : Int32) (RO : Nat → Int32) (ce : Int32) (wh : Int32) (hM : MI RO) : Met l yX8_cell wsX8_cell ({ frames := 8, cells := 0, slots := 0, locals := 187 }) (va_Pc [.ref aM, .int ce, .int wh] (PreW D y4 [(aM, .inr (7, [.ref aRo, .ref aHi, .int ms, .ref aSn, .int (bI sv), .ref aAs, .ref aLg, .ref aPd, .int ml, .ref aCo, .ref aEa])), (aRo, .inl (y4.1, 151, .inl RO))] sz)) (va_Qi (fun (r : Int32) (_ : Unit) => r = (m_X8_cell RO ce wh)) (fun _ t => PostW D (va_A [(aM, .inr (7, [.ref aRo, .ref aHi, .int ms, .ref aSn, .int (bI sv), .ref aAs, .ref aLg, .ref aPd, .int ml, .ref aCo, .ref aEa])), (aRo, .inl (y4.1, 151, .inl RO))] sz) [(aM, .inr (7, [.ref aRo, .ref aHi, .int ms, .ref aSn, .int (bI sv), .ref aAs, .ref aLg, .ref aPd, .int ml, .ref aCo, .ref aEa])), (aRo, .inl (y4.1, 151, .inl RO))] t) (va_A [(aM, .inr (7, [.ref aRo, .ref aHi, .int ms, .ref aSn, .int (bI sv), .ref aAs, .ref aLg, .ref aPd, .int ml, .ref aCo, .ref aEa])), (aRo, .inl (y4.1, 151, .inl RO))] sz)) 0 0 (va_A [(aM, .inr (7, [.ref aRo, .ref aHi, .int ms, .ref aSn, .int (bI sv), .ref aAs, .ref aLg, .ref aPd, .int ml, .ref aCo, .ref aEa])), (aRo, .inl (y4.1, 151, .inl RO))] sz) := by
  refine Met.ofW (cc := cX8_cell) (maxL := 3) (ret := (some .int)) (by decide) rfl ?_
  intro p e s m args below meth c s₁ B hml hv
  obtain ⟨rfl, hsz, hP, hK, hD0, hNW⟩ := hv
  have hx := B.exec
  have hb := B.bytes
  have hr := B.returns
  have hts := atoms_spec (ws := wsX8_cell) B.pre
  have hown : s.vm.findClass RX8 = some m.cls := findClass_of_methodNamed B.named
  have hlocks := B.notSynchronized
  subst hsz
  have hD := hD0.self (sz := s.heap.size)
  generalize hAe : va_A [(aM, .inr (7, [.ref aRo, .ref aHi, .int ms, .ref aSn, .int (bI sv), .ref aAs, .ref aLg, .ref aPd, .int ml, .ref aCo, .ref aEa])), (aRo, .inl (y4.1, 151, .inl RO))] s.heap.size = A at hD ⊢
  have hA : ∀ q : Nat, s.heap.size ≤ q → A q := fun q h => by rw [← hAe]; exact Or.inr h
  have hS : va_S A s.heap s.heap [] := va_S.rf
  have hl := lv_entry ([.ref aM, .int ce, .int wh]) (n := 3) (Nat.le_of_ble_eq_true rfl)
  rw [lg_entry_eq]
  generalize (lg_sl ([.ref aM, .int ce, .int wh]) ++ List.replicate (3 - (lg_sl ([.ref aM, .int ce, .int wh])).length) Slot.unset).toArray = ls at hl ⊢
  have hl : lv_has ls 3 [(0, .ref aM), (1, .int ce), (2, .int wh)] := hl
  refine startW (fun H locs hP hS => ?_) hP hS
  refine lv_iload_n hx hb dX8_cell_0 rfl (lv_at hl 1 rfl) ?_
  refine callK_i (va_runS (As := [.int ce]) (rest := []) ⟨hx, hb, hml, hown, hts⟩ (met_X8_isCell l  ce) (va_cwS 1 hts gX8_cell_X8_isCell rfl rfl rfl (by decide +kernel) ⟨Nat.le_of_ble_eq_true rfl, Nat.le_of_ble_eq_true rfl⟩) ⟨preS_blind, fun U hU hW => ⟨rfl, trivial⟩⟩ rfl rfl hl.1 rfl (lv_room (Nat.le_of_ble_eq_true rfl)) dX8_cell_1 ⟨Nat.zero_le _, Nat.zero_le _⟩) hP hS (fun r u H locs hw hP hS => ?_)
  subst hw
  refine lb_if_eq (tgt := 26) hx hb dX8_cell_4 (by decide) (fun c1 => ?_) (fun c1 => ?_)
  · refine lv_iconst (v := (-1)) hx hb dX8_cell_26 (by decide) ?_
    have em : m_X8_cell RO ce wh = (-1 : Int32) := (by first | (simp only [m_X8_cell, if_pos c1]; done) | (simp only [m_X8_cell, if_pos c1]; rfl))
    exact W.iret (v := (-1)) hx hb hr (fun t ht hW => ⟨⟨(-1), (), rfl, (by rw [em]), ⟨by rw [ht]; exact hP, by exact hD⟩⟩, hS.F ht⟩) hS.2.2 dX8_cell_27
  · refine lv_iload_n hx hb dX8_cell_7 rfl (lv_at hl 2 rfl) ?_
    refine lv_iconst (v := 0) hx hb dX8_cell_8 (by decide) ?_
    refine lv_bipush (v := 7) hx hb dX8_cell_9 (by decide) ?_
    refine callK_i (va_runS (As := [.int wh, .int 0, .int 7]) (rest := []) ⟨hx, hb, hml, hown, hts⟩ (met_X8_in l  wh 0 7) (va_cwS 3 hts gX8_cell_X8_in rfl rfl rfl (by decide +kernel) ⟨Nat.le_of_ble_eq_true rfl, Nat.le_of_ble_eq_true rfl⟩) ⟨preS_blind, fun U hU hW => ⟨rfl, trivial⟩⟩ rfl rfl hl.1 rfl (lv_room (Nat.le_of_ble_eq_true rfl)) dX8_cell_11 ⟨Nat.zero_le _, Nat.zero_le _⟩) hP hS (fun r u H locs hw hP hS => ?_)
    subst hw
    refine lb_if_eq (tgt := 26) hx hb dX8_cell_14 (by decide) (fun c2 => ?_) (fun c2 => ?_)
    · refine lv_iconst (v := (-1)) hx hb dX8_cell_26 (by decide) ?_
      have em : m_X8_cell RO ce wh = (-1 : Int32) := (by first | (simp only [m_X8_cell, if_neg c1, if_pos c2]; done) | (simp only [m_X8_cell, if_neg c1, if_pos c2]; rfl))
      exact W.iret (v := (-1)) hx hb hr (fun t ht hW => ⟨⟨(-1), (), rfl, (by rw [em]), ⟨by rw [ht]; exact hP, by exact hD⟩⟩, hS.F ht⟩) hS.2.2 dX8_cell_27
    · refine lv_aload_n hx hb dX8_cell_17 rfl (lv_at hl 0 rfl) ?_
      refine lv_iload_n hx hb dX8_cell_18 rfl (lv_at hl 1 rfl) ?_
      refine lv_iload_n hx hb dX8_cell_19 rfl (lv_at hl 2 rfl) ?_
      refine callW_i (wr := []) (wn := fun u => [(aM, .inr (7, [.ref aRo, .ref aHi, .int ms, .ref aSn, .int (bI sv), .ref aAs, .ref aLg, .ref aPd, .int ml, .ref aCo, .ref aEa])), (aRo, .inl (y4.1, 151, .inl RO))]) (va_runV (As := [.int ce, .int wh]) (rest := []) ⟨hx, hb, hml, hown, hts⟩ (met_X8_property l D y4 aM aRo aHi aSn aAs aLg aPd aCo aEa H.size ms sv ml RO ce wh hM (isCell8_in (by assumption))) (cwV 2 hts gX8_cell_X8_property rfl rfl rfl (by decide +kernel) ⟨Nat.le_of_ble_eq_true rfl, Nat.le_of_ble_eq_true rfl⟩) ⟨preW_blind, va_recv hK hP (ci := 7) (q0 := 0) rfl rfl, preW_at (hP.sub (ws' := [(aM, .inr (7, [.ref aRo, .ref aHi, .int ms, .ref aSn, .int (bI sv), .ref aAs, .ref aLg, .ref aPd, .int ml, .ref aCo, .ref aEa])), (aRo, .inl (y4.1, 151, .inl RO))]) [0, 1] rfl) hK (hD.sub (ws' := [(aM, .inr (7, [.ref aRo, .ref aHi, .int ms, .ref aSn, .int (bI sv), .ref aAs, .ref aLg, .ref aPd, .int ml, .ref aCo, .ref aEa])), (aRo, .inl (y4.1, 151, .inl RO))]) [0, 1] (by decide) rfl) hNW⟩ rfl rfl hl.1 rfl (lv_room (Nat.le_of_ble_eq_true rfl)) dX8_cell_20 ⟨Nat.zero_le _, Nat.zero_le _⟩) hP hD hS hA [0, 1] [] [0, 1] rfl rfl (by decide) (by decide) (fun _ => rfl) (by decide) (fun r u3 H locs hw hP hD hS => ?_)
      subst hw
      have hP : va_P D vwCl [(aM, .inr (7, [.ref aRo, .ref aHi, .int ms, .ref aSn, .int (bI sv), .ref aAs, .ref aLg, .ref aPd, .int ml, .ref aCo, .ref aEa])), (aRo, .inl (y4.1, 151, .inl RO))] H := hP
      have hD : va_D A [(aM, .inr (7, [.ref aRo, .ref aHi, .int ms, .ref aSn, .int (bI sv), .ref aAs, .ref aLg, .ref aPd, .int ml, .ref aCo, .ref aEa])), (aRo, .inl (y4.1, 151, .inl RO))] := hD
      refine lv_goto (tgt := 27) hx hb dX8_cell_23 (by decide) ?_
      have em : m_X8_cell RO ce wh = (m_X8_property RO ce wh) := (by first | (simp only [m_X8_cell, if_neg c1, if_neg c2]; done) | (simp only [m_X8_cell, if_neg c1, if_neg c2]; rfl))
      exact W.iret (v := (m_X8_property RO ce wh)) hx hb hr (fun t ht hW => ⟨⟨(m_X8_property RO ce wh), (), rfl, (by rw [em]), ⟨by rw [ht]; exact hP, by exact hD⟩⟩, hS.F ht⟩) hS.2.2 dX8_cell_27
def m_X8_sees (RO : Nat → Int32) (fr : Int32) (to : Int32) (wy : Int32) : Int32 := (if (m_X8_isCell fr) = false then (-1 : Int32) else (if (m_X8_isCell to) = false then (-1 : Int32) else (if (m_X8_in wy 0 1) = false then (-1 : Int32) else (if (m_X8_isFree RO fr to) = false then (0 : Int32) else (1 : Int32)))))
set_option maxHeartbeats 4000000 in
set_option maxRecDepth 100000 in
theorem met_X8_sees (l : Launch) (D : va_G) (y4 : vT) (aM aRo aHi aSn aAs aLg aPd aCo aEa : Nat) (sz : Nat) (ms : Int32) (sv : Bool) (ml : Int32) (RO : Nat → Int32) (fr : Int32) (to : Int32) (wy : Int32) : Met l yX8_sees wsX8_sees ({ frames := 4, cells := 0, slots := 0, locals := 98 }) (va_Pc [.ref aM, .int fr, .int to, .int wy] (PreW D y4 [(aM, .inr (7, [.ref aRo, .ref aHi, .int ms, .ref aSn, .int (bI sv), .ref aAs, .ref aLg, .ref aPd, .int ml, .ref aCo, .ref aEa])), (aRo, .inl (y4.1, 151, .inl RO))] sz)) (va_Qi (fun (r : Int32) (_ : Unit) => r = (m_X8_sees RO fr to wy)) (fun _ t => PostW D (va_A [(aM, .inr (7, [.ref aRo, .ref aHi, .int ms, .ref aSn, .int (bI sv), .ref aAs, .ref aLg, .ref aPd, .int ml, .ref aCo, .ref aEa])), (aRo, .inl (y4.1, 151, .inl RO))] sz) [(aM, .inr (7, [.ref aRo, .ref aHi, .int ms, .ref aSn, .int (bI sv), .ref aAs, .ref aLg, .ref aPd, .int ml, .ref aCo, .ref aEa])), (aRo, .inl (y4.1, 151, .inl RO))] t) (va_A [(aM, .inr (7, [.ref aRo, .ref aHi, .int ms, .ref aSn, .int (bI sv), .ref aAs, .ref aLg, .ref aPd, .int ml, .ref aCo, .ref aEa])), (aRo, .inl (y4.1, 151, .inl RO))] sz)) 0 0 (va_A [(aM, .inr (7, [.ref aRo, .ref aHi, .int ms, .ref aSn, .int (bI sv), .ref aAs, .ref aLg, .ref aPd, .int ml, .ref aCo, .ref aEa])), (aRo, .inl (y4.1, 151, .inl RO))] sz) := by
  refine Met.ofW (cc := cX8_sees) (maxL := 4) (ret := (some .int)) (by decide) rfl ?_
  intro p e s m args below meth c s₁ B hml hv
  obtain ⟨rfl, hsz, hP, hK, hD0, hNW⟩ := hv
  have hx := B.exec
  have hb := B.bytes
  have hr := B.returns
  have hts := atoms_spec (ws := wsX8_sees) B.pre
  have hown : s.vm.findClass RX8 = some m.cls := findClass_of_methodNamed B.named
  have hlocks := B.notSynchronized
  subst hsz
  have hD := hD0.self (sz := s.heap.size)
  generalize hAe : va_A [(aM, .inr (7, [.ref aRo, .ref aHi, .int ms, .ref aSn, .int (bI sv), .ref aAs, .ref aLg, .ref aPd, .int ml, .ref aCo, .ref aEa])), (aRo, .inl (y4.1, 151, .inl RO))] s.heap.size = A at hD ⊢
  have hA : ∀ q : Nat, s.heap.size ≤ q → A q := fun q h => by rw [← hAe]; exact Or.inr h
  have hS : va_S A s.heap s.heap [] := va_S.rf
  have hl := lv_entry ([.ref aM, .int fr, .int to, .int wy]) (n := 4) (Nat.le_of_ble_eq_true rfl)
  rw [lg_entry_eq]
  generalize (lg_sl ([.ref aM, .int fr, .int to, .int wy]) ++ List.replicate (4 - (lg_sl ([.ref aM, .int fr, .int to, .int wy])).length) Slot.unset).toArray = ls at hl ⊢
  have hl : lv_has ls 4 [(0, .ref aM), (1, .int fr), (2, .int to), (3, .int wy)] := hl
  refine startW (fun H locs hP hS => ?_) hP hS
  refine lv_iload_n hx hb dX8_sees_0 rfl (lv_at hl 1 rfl) ?_
  refine callK_i (va_runS (As := [.int fr]) (rest := []) ⟨hx, hb, hml, hown, hts⟩ (met_X8_isCell l  fr) (va_cwS 1 hts gX8_sees_X8_isCell rfl rfl rfl (by decide +kernel) ⟨Nat.le_of_ble_eq_true rfl, Nat.le_of_ble_eq_true rfl⟩) ⟨preS_blind, fun U hU hW => ⟨rfl, trivial⟩⟩ rfl rfl hl.1 rfl (lv_room (Nat.le_of_ble_eq_true rfl)) dX8_sees_1 ⟨Nat.zero_le _, Nat.zero_le _⟩) hP hS (fun r u H locs hw hP hS => ?_)
  subst hw
  refine lb_if_eq (tgt := 23) hx hb dX8_sees_4 (by decide) (fun c1 => ?_) (fun c1 => ?_)
  · refine lv_iconst (v := (-1)) hx hb dX8_sees_23 (by decide) ?_
    have em : m_X8_sees RO fr to wy = (-1 : Int32) := (by first | (simp only [m_X8_sees, if_pos c1]; done) | (simp only [m_X8_sees, if_pos c1]; rfl))
    exact W.iret (v := (-1)) hx hb hr (fun t ht hW => ⟨⟨(-1), (), rfl, (by rw [em]), ⟨by rw [ht]; exact hP, by exact hD⟩⟩, hS.F ht⟩) hS.2.2 dX8_sees_24
  · refine lv_iload_n hx hb dX8_sees_7 rfl (lv_at hl 2 rfl) ?_
    refine callK_i (va_runS (As := [.int to]) (rest := []) ⟨hx, hb, hml, hown, hts⟩ (met_X8_isCell l  to) (va_cwS 1 hts gX8_sees_X8_isCell rfl rfl rfl (by decide +kernel) ⟨Nat.le_of_ble_eq_true rfl, Nat.le_of_ble_eq_true rfl⟩) ⟨preS_blind, fun U hU hW => ⟨rfl, trivial⟩⟩ rfl rfl hl.1 rfl (lv_room (Nat.le_of_ble_eq_true rfl)) dX8_sees_8 ⟨Nat.zero_le _, Nat.zero_le _⟩) hP hS (fun r u H locs hw hP hS => ?_)
    subst hw
    refine lb_if_eq (tgt := 23) hx hb dX8_sees_11 (by decide) (fun c2 => ?_) (fun c2 => ?_)
    · refine lv_iconst (v := (-1)) hx hb dX8_sees_23 (by decide) ?_
      have em : m_X8_sees RO fr to wy = (-1 : Int32) := (by first | (simp only [m_X8_sees, if_neg c1, if_pos c2]; done) | (simp only [m_X8_sees, if_neg c1, if_pos c2]; rfl))
      exact W.iret (v := (-1)) hx hb hr (fun t ht hW => ⟨⟨(-1), (), rfl, (by rw [em]), ⟨by rw [ht]; exact hP, by exact hD⟩⟩, hS.F ht⟩) hS.2.2 dX8_sees_24
    · refine lv_iload_n hx hb dX8_sees_14 rfl (lv_at hl 3 rfl) ?_
      refine lv_iconst (v := 0) hx hb dX8_sees_15 (by decide) ?_
      refine lv_iconst (v := 1) hx hb dX8_sees_16 (by decide) ?_
      refine callK_i (va_runS (As := [.int wy, .int 0, .int 1]) (rest := []) ⟨hx, hb, hml, hown, hts⟩ (met_X8_in l  wy 0 1) (va_cwS 3 hts gX8_sees_X8_in rfl rfl rfl (by decide +kernel) ⟨Nat.le_of_ble_eq_true rfl, Nat.le_of_ble_eq_true rfl⟩) ⟨preS_blind, fun U hU hW => ⟨rfl, trivial⟩⟩ rfl rfl hl.1 rfl (lv_room (Nat.le_of_ble_eq_true rfl)) dX8_sees_17 ⟨Nat.zero_le _, Nat.zero_le _⟩) hP hS (fun r u H locs hw hP hS => ?_)
      subst hw
      refine lb_if_ne (tgt := 25) hx hb dX8_sees_20 (by decide) (fun c3 => ?_) (fun c3 => ?_)
      · refine lv_aload_n hx hb dX8_sees_25 rfl (lv_at hl 0 rfl) ?_
        refine lv_iload_n hx hb dX8_sees_26 rfl (lv_at hl 1 rfl) ?_
        refine lv_iload_n hx hb dX8_sees_27 rfl (lv_at hl 2 rfl) ?_
        refine callW_i (wr := []) (wn := fun u => [(aM, .inr (7, [.ref aRo, .ref aHi, .int ms, .ref aSn, .int (bI sv), .ref aAs, .ref aLg, .ref aPd, .int ml, .ref aCo, .ref aEa])), (aRo, .inl (y4.1, 151, .inl RO))]) (va_runV (As := [.int fr, .int to]) (rest := []) ⟨hx, hb, hml, hown, hts⟩ (met_X8_isFree l D y4 aM aRo aHi aSn aAs aLg aPd aCo aEa H.size ms sv ml RO fr to (isCell8_in (by assumption)) (isCell8_in (by assumption))) (cwV 2 hts gX8_sees_X8_isFree rfl rfl rfl (by decide +kernel) ⟨Nat.le_of_ble_eq_true rfl, Nat.le_of_ble_eq_true rfl⟩) ⟨preW_blind, va_recv hK hP (ci := 7) (q0 := 0) rfl rfl, preW_at (hP.sub (ws' := [(aM, .inr (7, [.ref aRo, .ref aHi, .int ms, .ref aSn, .int (bI sv), .ref aAs, .ref aLg, .ref aPd, .int ml, .ref aCo, .ref aEa])), (aRo, .inl (y4.1, 151, .inl RO))]) [0, 1] rfl) hK (hD.sub (ws' := [(aM, .inr (7, [.ref aRo, .ref aHi, .int ms, .ref aSn, .int (bI sv), .ref aAs, .ref aLg, .ref aPd, .int ml, .ref aCo, .ref aEa])), (aRo, .inl (y4.1, 151, .inl RO))]) [0, 1] (by decide) rfl) hNW⟩ rfl rfl hl.1 rfl (lv_room (Nat.le_of_ble_eq_true rfl)) dX8_sees_28 ⟨Nat.zero_le _, Nat.zero_le _⟩) hP hD hS hA [0, 1] [] [0, 1] rfl rfl (by decide) (by decide) (fun _ => rfl) (by decide) (fun r u4 H locs hw hP hD hS => ?_)
        subst hw
        have hP : va_P D vwCl [(aM, .inr (7, [.ref aRo, .ref aHi, .int ms, .ref aSn, .int (bI sv), .ref aAs, .ref aLg, .ref aPd, .int ml, .ref aCo, .ref aEa])), (aRo, .inl (y4.1, 151, .inl RO))] H := hP
        have hD : va_D A [(aM, .inr (7, [.ref aRo, .ref aHi, .int ms, .ref aSn, .int (bI sv), .ref aAs, .ref aLg, .ref aPd, .int ml, .ref aCo, .ref aEa])), (aRo, .inl (y4.1, 151, .inl RO))] := hD
        refine lb_if_eq (tgt := 38) hx hb dX8_sees_31 (by decide) (fun c5 => ?_) (fun c5 => ?_)
        · refine lv_iconst (v := 0) hx hb dX8_sees_38 (by decide) ?_
          have em : m_X8_sees RO fr to wy = (0 : Int32) := (by first | (simp only [m_X8_sees, if_neg c1, if_neg c2, if_neg c3, if_pos c5]; done) | (simp only [m_X8_sees, if_neg c1, if_neg c2, if_neg c3, if_pos c5]; rfl))
          exact W.iret (v := 0) hx hb hr (fun t ht hW => ⟨⟨0, (), rfl, (by rw [em]), ⟨by rw [ht]; exact hP, by exact hD⟩⟩, hS.F ht⟩) hS.2.2 dX8_sees_39
        · refine lv_iconst (v := 1) hx hb dX8_sees_34 (by decide) ?_
          refine lv_goto (tgt := 39) hx hb dX8_sees_35 (by decide) ?_
          have em : m_X8_sees RO fr to wy = (1 : Int32) := (by first | (simp only [m_X8_sees, if_neg c1, if_neg c2, if_neg c3, if_neg c5]; done) | (simp only [m_X8_sees, if_neg c1, if_neg c2, if_neg c3, if_neg c5]; rfl))
          exact W.iret (v := 1) hx hb hr (fun t ht hW => ⟨⟨1, (), rfl, (by rw [em]), ⟨by rw [ht]; exact hP, by exact hD⟩⟩, hS.F ht⟩) hS.2.2 dX8_sees_39
      · refine lv_iconst (v := (-1)) hx hb dX8_sees_23 (by decide) ?_
        have em : m_X8_sees RO fr to wy = (-1 : Int32) := (by first | (simp only [m_X8_sees, if_neg c1, if_neg c2, if_pos c3]; done) | (simp only [m_X8_sees, if_neg c1, if_neg c2, if_pos c3]; rfl))
        exact W.iret (v := (-1)) hx hb hr (fun t ht hW => ⟨⟨(-1), (), rfl, (by rw [em]), ⟨by rw [ht]; exact hP, by exact hD⟩⟩, hS.F ht⟩) hS.2.2 dX8_sees_24
def m_X8_lampOf (RO : Nat → Int32) (j : Int32) (wh : Int32) : Int32 := (if (m_X8_isLamp RO j) = false then (-1 : Int32) else (if wh = 0 then RO (129 + j).toNatClampNeg else (if wh = 1 then RO (135 + j).toNatClampNeg else (if wh = 2 then (m_X8_cellsOf RO j) else (if wh = 3 then (m_X8_litOnlyBy RO j) else (if wh = 4 then RO (141 + j).toNatClampNeg else (-1 : Int32)))))))
set_option maxHeartbeats 4000000 in
set_option maxRecDepth 100000 in
theorem met_X8_lampOf (l : Launch) (D : va_G) (y4 : vT) (aM aRo aHi aSn aAs aLg aPd aCo aEa : Nat) (sz : Nat) (ms : Int32) (sv : Bool) (ml : Int32) (RO : Nat → Int32) (j : Int32) (wh : Int32) (hM : MI RO) : Met l yX8_lampOf wsX8_lampOf ({ frames := 7, cells := 0, slots := 0, locals := 168 }) (va_Pc [.ref aM, .int j, .int wh] (PreW D y4 [(aM, .inr (7, [.ref aRo, .ref aHi, .int ms, .ref aSn, .int (bI sv), .ref aAs, .ref aLg, .ref aPd, .int ml, .ref aCo, .ref aEa])), (aRo, .inl (y4.1, 151, .inl RO))] sz)) (va_Qi (fun (r : Int32) (_ : Unit) => r = (m_X8_lampOf RO j wh)) (fun _ t => PostW D (va_A [(aM, .inr (7, [.ref aRo, .ref aHi, .int ms, .ref aSn, .int (bI sv), .ref aAs, .ref aLg, .ref aPd, .int ml, .ref aCo, .ref aEa])), (aRo, .inl (y4.1, 151, .inl RO))] sz) [(aM, .inr (7, [.ref aRo, .ref aHi, .int ms, .ref aSn, .int (bI sv), .ref aAs, .ref aLg, .ref aPd, .int ml, .ref aCo, .ref aEa])), (aRo, .inl (y4.1, 151, .inl RO))] t) (va_A [(aM, .inr (7, [.ref aRo, .ref aHi, .int ms, .ref aSn, .int (bI sv), .ref aAs, .ref aLg, .ref aPd, .int ml, .ref aCo, .ref aEa])), (aRo, .inl (y4.1, 151, .inl RO))] sz)) 0 0 (va_A [(aM, .inr (7, [.ref aRo, .ref aHi, .int ms, .ref aSn, .int (bI sv), .ref aAs, .ref aLg, .ref aPd, .int ml, .ref aCo, .ref aEa])), (aRo, .inl (y4.1, 151, .inl RO))] sz) := by
  refine Met.ofW (cc := cX8_lampOf) (maxL := 3) (ret := (some .int)) (by decide) rfl ?_
  intro p e s m args below meth c s₁ B hml hv
  obtain ⟨rfl, hsz, hP, hK, hD0, hNW⟩ := hv
  have hx := B.exec
  have hb := B.bytes
  have hr := B.returns
  have hts := atoms_spec (ws := wsX8_lampOf) B.pre
  have hown : s.vm.findClass RX8 = some m.cls := findClass_of_methodNamed B.named
  have hlocks := B.notSynchronized
  subst hsz
  have hD := hD0.self (sz := s.heap.size)
  generalize hAe : va_A [(aM, .inr (7, [.ref aRo, .ref aHi, .int ms, .ref aSn, .int (bI sv), .ref aAs, .ref aLg, .ref aPd, .int ml, .ref aCo, .ref aEa])), (aRo, .inl (y4.1, 151, .inl RO))] s.heap.size = A at hD ⊢
  have hA : ∀ q : Nat, s.heap.size ≤ q → A q := fun q h => by rw [← hAe]; exact Or.inr h
  have hS : va_S A s.heap s.heap [] := va_S.rf
  have hl := lv_entry ([.ref aM, .int j, .int wh]) (n := 3) (Nat.le_of_ble_eq_true rfl)
  rw [lg_entry_eq]
  generalize (lg_sl ([.ref aM, .int j, .int wh]) ++ List.replicate (3 - (lg_sl ([.ref aM, .int j, .int wh])).length) Slot.unset).toArray = ls at hl ⊢
  have hl : lv_has ls 3 [(0, .ref aM), (1, .int j), (2, .int wh)] := hl
  have f7 := hts (.fieldLink RX8 7 "PillarLightModel" "row" "[I") (List.mem_of_getElem? (i := 1) rfl)
  have iX8 : ∀ w ∈ wsX80, w ∈ wsX8_lampOf := fun _ h => List.mem_cons_of_mem _ (List.mem_append_right _ h)
  refine startW (fun H locs hP hS => ?_) hP hS
  refine lv_aload_n hx hb dX8_lampOf_0 rfl (lv_at hl 0 rfl) ?_
  refine lv_iload_n hx hb dX8_lampOf_1 rfl (lv_at hl 1 rfl) ?_
  refine callW_i (wr := []) (wn := fun u => [(aM, .inr (7, [.ref aRo, .ref aHi, .int ms, .ref aSn, .int (bI sv), .ref aAs, .ref aLg, .ref aPd, .int ml, .ref aCo, .ref aEa])), (aRo, .inl (y4.1, 151, .inl RO))]) (va_runV (As := [.int j]) (rest := []) ⟨hx, hb, hml, hown, hts⟩ (met_X8_isLamp l D y4 aM aRo aHi aSn aAs aLg aPd aCo aEa H.size ms sv ml RO j) (cwV 1 hts gX8_lampOf_X8_isLamp rfl rfl rfl (by decide +kernel) ⟨Nat.le_of_ble_eq_true rfl, Nat.le_of_ble_eq_true rfl⟩) ⟨preW_blind, va_recv hK hP (ci := 7) (q0 := 0) rfl rfl, preW_at (hP.sub (ws' := [(aM, .inr (7, [.ref aRo, .ref aHi, .int ms, .ref aSn, .int (bI sv), .ref aAs, .ref aLg, .ref aPd, .int ml, .ref aCo, .ref aEa])), (aRo, .inl (y4.1, 151, .inl RO))]) [0, 1] rfl) hK (hD.sub (ws' := [(aM, .inr (7, [.ref aRo, .ref aHi, .int ms, .ref aSn, .int (bI sv), .ref aAs, .ref aLg, .ref aPd, .int ml, .ref aCo, .ref aEa])), (aRo, .inl (y4.1, 151, .inl RO))]) [0, 1] (by decide) rfl) hNW⟩ rfl rfl hl.1 rfl (lv_room (Nat.le_of_ble_eq_true rfl)) dX8_lampOf_2 ⟨Nat.zero_le _, Nat.zero_le _⟩) hP hD hS hA [0, 1] [] [0, 1] rfl rfl (by decide) (by decide) (fun _ => rfl) (by decide) (fun r u1 H locs hw hP hD hS => ?_)
  subst hw
  have hP : va_P D vwCl [(aM, .inr (7, [.ref aRo, .ref aHi, .int ms, .ref aSn, .int (bI sv), .ref aAs, .ref aLg, .ref aPd, .int ml, .ref aCo, .ref aEa])), (aRo, .inl (y4.1, 151, .inl RO))] H := hP
  have hD : va_D A [(aM, .inr (7, [.ref aRo, .ref aHi, .int ms, .ref aSn, .int (bI sv), .ref aAs, .ref aLg, .ref aPd, .int ml, .ref aCo, .ref aEa])), (aRo, .inl (y4.1, 151, .inl RO))] := hD
  refine lb_if_ne (tgt := 10) hx hb dX8_lampOf_5 (by decide) (fun c2 => ?_) (fun c2 => ?_)
  · refine lv_iload_n hx hb dX8_lampOf_10 rfl (lv_at hl 2 rfl) ?_
    by_cases c3 : wh = 0
    · refine lv_tableIn (off := 33) (tgt := 44) hx hb dX8_lampOf_11 (by rw [c3]; decide) (by rw [c3]; decide) (by rw [c3]; rfl) (by decide) ?_
      refine lv_aload_n hx hb dX8_lampOf_44 rfl (lv_at hl 0 rfl) ?_
      refine va_get (ci := 7) (v := .ref aRo) (C := RX8) (T := TX8) (N := 11) hx hb hts iX8 hown hK hP 0 rfl rfl 0 (by decide) f7 (fun _ h9 => h9) rfl dX8_lampOf_45 ?_
      refine lv_sipush (v := 129) hx hb dX8_lampOf_48 (by decide) ?_
      refine lv_iload_n hx hb dX8_lampOf_51 rfl (lv_at hl 1 rfl) ?_
      refine lv_iadd hx hb dX8_lampOf_52 ?_
      refine va_iald hx hb hK hP 1 0 rfl rfl (off_in (isLamp8_in hM.1 (by assumption)) (by decide) (by decide) (by decide)) dX8_lampOf_53 ?_
      have em : m_X8_lampOf RO j wh = RO (129 + j).toNatClampNeg := (by first | (simp only [m_X8_lampOf, if_neg c2, if_pos c3]; done) | (simp only [m_X8_lampOf, if_neg c2, if_pos c3]; rfl))
      exact W.iret (v := RO (129 + j).toNatClampNeg) hx hb hr (fun t ht hW => ⟨⟨RO (129 + j).toNatClampNeg, (), rfl, (by rw [em]), ⟨by rw [ht]; exact hP, by exact hD⟩⟩, hS.F ht⟩) hS.2.2 dX8_lampOf_54
    · by_cases c4 : wh = 1
      · refine lv_tableIn (off := 44) (tgt := 55) hx hb dX8_lampOf_11 (by rw [c4]; decide) (by rw [c4]; decide) (by rw [c4]; rfl) (by decide) ?_
        refine lv_aload_n hx hb dX8_lampOf_55 rfl (lv_at hl 0 rfl) ?_
        refine va_get (ci := 7) (v := .ref aRo) (C := RX8) (T := TX8) (N := 11) hx hb hts iX8 hown hK hP 0 rfl rfl 0 (by decide) f7 (fun _ h9 => h9) rfl dX8_lampOf_56 ?_
        refine lv_sipush (v := 135) hx hb dX8_lampOf_59 (by decide) ?_
        refine lv_iload_n hx hb dX8_lampOf_62 rfl (lv_at hl 1 rfl) ?_
        refine lv_iadd hx hb dX8_lampOf_63 ?_
        refine va_iald hx hb hK hP 1 0 rfl rfl (off_in (isLamp8_in hM.1 (by assumption)) (by decide) (by decide) (by decide)) dX8_lampOf_64 ?_
        have em : m_X8_lampOf RO j wh = RO (135 + j).toNatClampNeg := (by first | (simp only [m_X8_lampOf, if_neg c2, if_neg c3, if_pos c4]; done) | (simp only [m_X8_lampOf, if_neg c2, if_neg c3, if_pos c4]; rfl))
        exact W.iret (v := RO (135 + j).toNatClampNeg) hx hb hr (fun t ht hW => ⟨⟨RO (135 + j).toNatClampNeg, (), rfl, (by rw [em]), ⟨by rw [ht]; exact hP, by exact hD⟩⟩, hS.F ht⟩) hS.2.2 dX8_lampOf_65
      · by_cases c5 : wh = 2
        · refine lv_tableIn (off := 55) (tgt := 66) hx hb dX8_lampOf_11 (by rw [c5]; decide) (by rw [c5]; decide) (by rw [c5]; rfl) (by decide) ?_
          refine lv_aload_n hx hb dX8_lampOf_66 rfl (lv_at hl 0 rfl) ?_
          refine lv_iload_n hx hb dX8_lampOf_67 rfl (lv_at hl 1 rfl) ?_
          refine callW_i (wr := []) (wn := fun u => [(aM, .inr (7, [.ref aRo, .ref aHi, .int ms, .ref aSn, .int (bI sv), .ref aAs, .ref aLg, .ref aPd, .int ml, .ref aCo, .ref aEa])), (aRo, .inl (y4.1, 151, .inl RO))]) (va_runV (As := [.int j]) (rest := []) ⟨hx, hb, hml, hown, hts⟩ (met_X8_cellsOf l D y4 aM aRo aHi aSn aAs aLg aPd aCo aEa H.size ms sv ml RO j hM (isLamp8_in hM.1 (by assumption)) (lamp_cell hM (by assumption))) (cwV 1 hts gX8_lampOf_X8_cellsOf rfl rfl rfl (by decide +kernel) ⟨Nat.le_of_ble_eq_true rfl, Nat.le_of_ble_eq_true rfl⟩) ⟨preW_blind, va_recv hK hP (ci := 7) (q0 := 0) rfl rfl, preW_at (hP.sub (ws' := [(aM, .inr (7, [.ref aRo, .ref aHi, .int ms, .ref aSn, .int (bI sv), .ref aAs, .ref aLg, .ref aPd, .int ml, .ref aCo, .ref aEa])), (aRo, .inl (y4.1, 151, .inl RO))]) [0, 1] rfl) hK (hD.sub (ws' := [(aM, .inr (7, [.ref aRo, .ref aHi, .int ms, .ref aSn, .int (bI sv), .ref aAs, .ref aLg, .ref aPd, .int ml, .ref aCo, .ref aEa])), (aRo, .inl (y4.1, 151, .inl RO))]) [0, 1] (by decide) rfl) hNW⟩ rfl rfl hl.1 rfl (lv_room (Nat.le_of_ble_eq_true rfl)) dX8_lampOf_68 ⟨Nat.zero_le _, Nat.zero_le _⟩) hP hD hS hA [0, 1] [] [0, 1] rfl rfl (by decide) (by decide) (fun _ => rfl) (by decide) (fun r u6 H locs hw hP hD hS => ?_)
          subst hw
          have hP : va_P D vwCl [(aM, .inr (7, [.ref aRo, .ref aHi, .int ms, .ref aSn, .int (bI sv), .ref aAs, .ref aLg, .ref aPd, .int ml, .ref aCo, .ref aEa])), (aRo, .inl (y4.1, 151, .inl RO))] H := hP
          have hD : va_D A [(aM, .inr (7, [.ref aRo, .ref aHi, .int ms, .ref aSn, .int (bI sv), .ref aAs, .ref aLg, .ref aPd, .int ml, .ref aCo, .ref aEa])), (aRo, .inl (y4.1, 151, .inl RO))] := hD
          have em : m_X8_lampOf RO j wh = (m_X8_cellsOf RO j) := (by first | (simp only [m_X8_lampOf, if_neg c2, if_neg c3, if_neg c4, if_pos c5]; done) | (simp only [m_X8_lampOf, if_neg c2, if_neg c3, if_neg c4, if_pos c5]; rfl))
          exact W.iret (v := (m_X8_cellsOf RO j)) hx hb hr (fun t ht hW => ⟨⟨(m_X8_cellsOf RO j), (), rfl, (by rw [em]), ⟨by rw [ht]; exact hP, by exact hD⟩⟩, hS.F ht⟩) hS.2.2 dX8_lampOf_71
        · by_cases c7 : wh = 3
          · refine lv_tableIn (off := 61) (tgt := 72) hx hb dX8_lampOf_11 (by rw [c7]; decide) (by rw [c7]; decide) (by rw [c7]; rfl) (by decide) ?_
            refine lv_aload_n hx hb dX8_lampOf_72 rfl (lv_at hl 0 rfl) ?_
            refine lv_iload_n hx hb dX8_lampOf_73 rfl (lv_at hl 1 rfl) ?_
            refine callW_i (wr := []) (wn := fun u => [(aM, .inr (7, [.ref aRo, .ref aHi, .int ms, .ref aSn, .int (bI sv), .ref aAs, .ref aLg, .ref aPd, .int ml, .ref aCo, .ref aEa])), (aRo, .inl (y4.1, 151, .inl RO))]) (va_runV (As := [.int j]) (rest := []) ⟨hx, hb, hml, hown, hts⟩ (met_X8_litOnlyBy l D y4 aM aRo aHi aSn aAs aLg aPd aCo aEa H.size ms sv ml RO j hM (isLamp8_in hM.1 (by assumption)) (lamp_cell hM (by assumption))) (cwV 1 hts gX8_lampOf_X8_litOnlyBy rfl rfl rfl (by decide +kernel) ⟨Nat.le_of_ble_eq_true rfl, Nat.le_of_ble_eq_true rfl⟩) ⟨preW_blind, va_recv hK hP (ci := 7) (q0 := 0) rfl rfl, preW_at (hP.sub (ws' := [(aM, .inr (7, [.ref aRo, .ref aHi, .int ms, .ref aSn, .int (bI sv), .ref aAs, .ref aLg, .ref aPd, .int ml, .ref aCo, .ref aEa])), (aRo, .inl (y4.1, 151, .inl RO))]) [0, 1] rfl) hK (hD.sub (ws' := [(aM, .inr (7, [.ref aRo, .ref aHi, .int ms, .ref aSn, .int (bI sv), .ref aAs, .ref aLg, .ref aPd, .int ml, .ref aCo, .ref aEa])), (aRo, .inl (y4.1, 151, .inl RO))]) [0, 1] (by decide) rfl) hNW⟩ rfl rfl hl.1 rfl (lv_room (Nat.le_of_ble_eq_true rfl)) dX8_lampOf_74 ⟨Nat.zero_le _, Nat.zero_le _⟩) hP hD hS hA [0, 1] [] [0, 1] rfl rfl (by decide) (by decide) (fun _ => rfl) (by decide) (fun r u8 H locs hw hP hD hS => ?_)
            subst hw
            have hP : va_P D vwCl [(aM, .inr (7, [.ref aRo, .ref aHi, .int ms, .ref aSn, .int (bI sv), .ref aAs, .ref aLg, .ref aPd, .int ml, .ref aCo, .ref aEa])), (aRo, .inl (y4.1, 151, .inl RO))] H := hP
            have hD : va_D A [(aM, .inr (7, [.ref aRo, .ref aHi, .int ms, .ref aSn, .int (bI sv), .ref aAs, .ref aLg, .ref aPd, .int ml, .ref aCo, .ref aEa])), (aRo, .inl (y4.1, 151, .inl RO))] := hD
            have em : m_X8_lampOf RO j wh = (m_X8_litOnlyBy RO j) := (by first | (simp only [m_X8_lampOf, if_neg c2, if_neg c3, if_neg c4, if_neg c5, if_pos c7]; done) | (simp only [m_X8_lampOf, if_neg c2, if_neg c3, if_neg c4, if_neg c5, if_pos c7]; rfl))
            exact W.iret (v := (m_X8_litOnlyBy RO j)) hx hb hr (fun t ht hW => ⟨⟨(m_X8_litOnlyBy RO j), (), rfl, (by rw [em]), ⟨by rw [ht]; exact hP, by exact hD⟩⟩, hS.F ht⟩) hS.2.2 dX8_lampOf_77
          · by_cases c9 : wh = 4
            · refine lv_tableIn (off := 67) (tgt := 78) hx hb dX8_lampOf_11 (by rw [c9]; decide) (by rw [c9]; decide) (by rw [c9]; rfl) (by decide) ?_
              refine lv_aload_n hx hb dX8_lampOf_78 rfl (lv_at hl 0 rfl) ?_
              refine va_get (ci := 7) (v := .ref aRo) (C := RX8) (T := TX8) (N := 11) hx hb hts iX8 hown hK hP 0 rfl rfl 0 (by decide) f7 (fun _ h9 => h9) rfl dX8_lampOf_79 ?_
              refine lv_sipush (v := 141) hx hb dX8_lampOf_82 (by decide) ?_
              refine lv_iload_n hx hb dX8_lampOf_85 rfl (lv_at hl 1 rfl) ?_
              refine lv_iadd hx hb dX8_lampOf_86 ?_
              refine va_iald hx hb hK hP 1 0 rfl rfl (off_in (isLamp8_in hM.1 (by assumption)) (by decide) (by decide) (by decide)) dX8_lampOf_87 ?_
              have em : m_X8_lampOf RO j wh = RO (141 + j).toNatClampNeg := (by first | (simp only [m_X8_lampOf, if_neg c2, if_neg c3, if_neg c4, if_neg c5, if_neg c7, if_pos c9]; done) | (simp only [m_X8_lampOf, if_neg c2, if_neg c3, if_neg c4, if_neg c5, if_neg c7, if_pos c9]; rfl))
              exact W.iret (v := RO (141 + j).toNatClampNeg) hx hb hr (fun t ht hW => ⟨⟨RO (141 + j).toNatClampNeg, (), rfl, (by rw [em]), ⟨by rw [ht]; exact hP, by exact hD⟩⟩, hS.F ht⟩) hS.2.2 dX8_lampOf_88
            · refine lv_tableOut (tgt := 89) hx hb dX8_lampOf_11 (sw_out 0 4 [0, 1, 2, 3, 4] (by decide) (by simp only [List.mem_cons, List.not_mem_nil, or_false, forall_eq_or_imp, forall_eq]; exact ⟨c3, c4, c5, c7, c9⟩) (by decide)) (by decide) ?_
              refine lv_iconst (v := (-1)) hx hb dX8_lampOf_89 (by decide) ?_
              have em : m_X8_lampOf RO j wh = (-1 : Int32) := (by first | (simp only [m_X8_lampOf, if_neg c2, if_neg c3, if_neg c4, if_neg c5, if_neg c7, if_neg c9]; done) | (simp only [m_X8_lampOf, if_neg c2, if_neg c3, if_neg c4, if_neg c5, if_neg c7, if_neg c9]; rfl))
              exact W.iret (v := (-1)) hx hb hr (fun t ht hW => ⟨⟨(-1), (), rfl, (by rw [em]), ⟨by rw [ht]; exact hP, by exact hD⟩⟩, hS.F ht⟩) hS.2.2 dX8_lampOf_90
  · refine lv_iconst (v := (-1)) hx hb dX8_lampOf_8 (by decide) ?_
    have em : m_X8_lampOf RO j wh = (-1 : Int32) := (by first | (simp only [m_X8_lampOf, if_pos c2]; done) | (simp only [m_X8_lampOf, if_pos c2]; rfl))
    exact W.iret (v := (-1)) hx hb hr (fun t ht hW => ⟨⟨(-1), (), rfl, (by rw [em]), ⟨by rw [ht]; exact hP, by exact hD⟩⟩, hS.F ht⟩) hS.2.2 dX8_lampOf_9
def m_X8_takes (CO : Nat → Int32) (ce : Int32) (by_ : Int32) : Bool × (Nat → Int32) := (let v3 : Bool := (if (CO (ce).toNatClampNeg) = (-4) then true else (if (CO (ce).toNatClampNeg) ≤ by_ then false else true)); (let v5 : Int32 := (if v3 = false then CO (ce).toNatClampNeg else by_); (v3, upd CO (ce).toNatClampNeg v5)))
set_option maxHeartbeats 4000000 in
set_option maxRecDepth 100000 in
theorem met_X8_takes (l : Launch) (D : va_G) (y4 : vT) (aM aRo aHi aSn aAs aLg aPd aCo aEa : Nat) (sz : Nat) (ms : Int32) (sv : Bool) (ml : Int32) (CO : Nat → Int32) (ce : Int32) (by_ : Int32) (hce : vp_in ce 64) : Met l yX8_takes wsX8_takes ({ frames := 0, cells := 0, slots := 0, locals := 0 }) (va_Pc [.ref aM, .int ce, .int by_] (PreW D y4 [(aM, .inr (7, [.ref aRo, .ref aHi, .int ms, .ref aSn, .int (bI sv), .ref aAs, .ref aLg, .ref aPd, .int ml, .ref aCo, .ref aEa])), (aCo, .inl (y4.1, 64, .inl CO))] sz)) (va_Qi (fun (r : Int32) (_ : Unit) => r = bI (m_X8_takes CO ce by_).1) (fun _ t => PostW D (va_A [(aM, .inr (7, [.ref aRo, .ref aHi, .int ms, .ref aSn, .int (bI sv), .ref aAs, .ref aLg, .ref aPd, .int ml, .ref aCo, .ref aEa])), (aCo, .inl (y4.1, 64, .inl CO))] sz) [(aM, .inr (7, [.ref aRo, .ref aHi, .int ms, .ref aSn, .int (bI sv), .ref aAs, .ref aLg, .ref aPd, .int ml, .ref aCo, .ref aEa])), (aCo, .inl (y4.1, 64, .inl ((m_X8_takes CO ce by_).2)))] t) (va_A [(aM, .inr (7, [.ref aRo, .ref aHi, .int ms, .ref aSn, .int (bI sv), .ref aAs, .ref aLg, .ref aPd, .int ml, .ref aCo, .ref aEa])), (aCo, .inl (y4.1, 64, .inl CO))] sz)) 0 0 (va_A [(aM, .inr (7, [.ref aRo, .ref aHi, .int ms, .ref aSn, .int (bI sv), .ref aAs, .ref aLg, .ref aPd, .int ml, .ref aCo, .ref aEa])), (aCo, .inl (y4.1, 64, .inl CO))] sz) := by
  refine Met.ofW (cc := cX8_takes) (maxL := 4) (ret := (some .boolean)) (by decide) rfl ?_
  intro p e s m args below meth c s₁ B hml hv
  obtain ⟨rfl, hsz, hP, hK, hD0, hNW⟩ := hv
  have hx := B.exec
  have hb := B.bytes
  have hr := B.returns
  have hts := atoms_spec (ws := wsX8_takes) B.pre
  have hown : s.vm.findClass RX8 = some m.cls := findClass_of_methodNamed B.named
  have hlocks := B.notSynchronized
  subst hsz
  have hD := hD0.self (sz := s.heap.size)
  generalize hAe : va_A [(aM, .inr (7, [.ref aRo, .ref aHi, .int ms, .ref aSn, .int (bI sv), .ref aAs, .ref aLg, .ref aPd, .int ml, .ref aCo, .ref aEa])), (aCo, .inl (y4.1, 64, .inl CO))] s.heap.size = A at hD ⊢
  have hA : ∀ q : Nat, s.heap.size ≤ q → A q := fun q h => by rw [← hAe]; exact Or.inr h
  have hS : va_S A s.heap s.heap [] := va_S.rf
  have hl := lv_entry ([.ref aM, .int ce, .int by_]) (n := 4) (Nat.le_of_ble_eq_true rfl)
  rw [lg_entry_eq]
  generalize (lg_sl ([.ref aM, .int ce, .int by_]) ++ List.replicate (4 - (lg_sl ([.ref aM, .int ce, .int by_])).length) Slot.unset).toArray = ls at hl ⊢
  have hl : lv_has ls 4 [(0, .ref aM), (1, .int ce), (2, .int by_)] := hl
  have f28 := hts (.fieldLink RX8 28 "PillarLightModel" "cost" "[I") (List.mem_of_getElem? (i := 1) rfl)
  have iX8 : ∀ w ∈ wsX80, w ∈ wsX8_takes := fun _ h => List.mem_cons_of_mem _ (List.mem_append_right _ h)
  refine startW (fun H locs hP hS => ?_) hP hS
  refine lv_aload_n hx hb dX8_takes_0 rfl (lv_at hl 0 rfl) ?_
  refine va_get (ci := 7) (v := .ref aCo) (C := RX8) (T := TX8) (N := 11) hx hb hts iX8 hown hK hP 0 rfl rfl 9 (by decide) f28 (fun _ h9 => h9) rfl dX8_takes_1 ?_
  refine lv_iload_n hx hb dX8_takes_4 rfl (lv_at hl 1 rfl) ?_
  refine va_iald hx hb hK hP 1 0 rfl rfl (by first | assumption | exact vp_in_cmp (by assumption) (by assumption) (by decide)) dX8_takes_5 ?_
  refine lv_bipush (v := (-4)) hx hb dX8_takes_6 (by decide) ?_
  refine cutW (X := Bool) 26 (fun x H locs ls => x = (if (CO (ce).toNatClampNeg) = (-4) then true else (if (CO (ce).toNatClampNeg) ≤ by_ then false else true)) ∧ va_P D vwCl [(aM, .inr (7, [.ref aRo, .ref aHi, .int ms, .ref aSn, .int (bI sv), .ref aAs, .ref aLg, .ref aPd, .int ml, .ref aCo, .ref aEa])), (aCo, .inl (y4.1, 64, .inl CO))] H ∧ va_D A [(aM, .inr (7, [.ref aRo, .ref aHi, .int ms, .ref aSn, .int (bI sv), .ref aAs, .ref aLg, .ref aPd, .int ml, .ref aCo, .ref aEa])), (aCo, .inl (y4.1, 64, .inl CO))] ∧ va_S A s.heap H locs ∧ lv_has ls 4 [(0, .ref aM), (1, .int ce), (2, .int by_)]) (fun x => [.int (bI x)]) ?_ (fun K26 => ?_)
  · rintro v3 H locs ls ⟨ev3, hP, hD, hS, hl⟩
    have ev3 : v3 = (if (CO (ce).toNatClampNeg) = (-4) then true else (if (CO (ce).toNatClampNeg) ≤ by_ then false else true)) := ev3
    have hP : va_P D vwCl [(aM, .inr (7, [.ref aRo, .ref aHi, .int ms, .ref aSn, .int (bI sv), .ref aAs, .ref aLg, .ref aPd, .int ml, .ref aCo, .ref aEa])), (aCo, .inl (y4.1, 64, .inl CO))] H := hP
    have hD : va_D A [(aM, .inr (7, [.ref aRo, .ref aHi, .int ms, .ref aSn, .int (bI sv), .ref aAs, .ref aLg, .ref aPd, .int ml, .ref aCo, .ref aEa])), (aCo, .inl (y4.1, 64, .inl CO))] := hD
    have hl : lv_has ls 4 [(0, .ref aM), (1, .int ce), (2, .int by_)] := hl
    refine lv_istore_n (lv' := [(3, .int (bI v3)), (0, .ref aM), (1, .int ce), (2, .int by_)]) hx hb dX8_takes_26 rfl hl (by decide) rfl (fun ls hl => ?_)
    refine lv_aload_n hx hb dX8_takes_27 rfl (lv_at hl 1 rfl) ?_
    refine va_get (ci := 7) (v := .ref aCo) (C := RX8) (T := TX8) (N := 11) hx hb hts iX8 hown hK hP 0 rfl rfl 9 (by decide) f28 (fun _ h9 => h9) rfl dX8_takes_28 ?_
    refine lv_iload_n hx hb dX8_takes_31 rfl (lv_at hl 2 rfl) ?_
    refine lv_iload_n hx hb dX8_takes_32 rfl (lv_at hl 0 rfl) ?_
    refine cutW (X := Int32) 46 (fun x H locs ls => x = (if v3 = false then CO (ce).toNatClampNeg else by_) ∧ va_P D vwCl [(aM, .inr (7, [.ref aRo, .ref aHi, .int ms, .ref aSn, .int (bI sv), .ref aAs, .ref aLg, .ref aPd, .int ml, .ref aCo, .ref aEa])), (aCo, .inl (y4.1, 64, .inl CO))] H ∧ va_D A [(aM, .inr (7, [.ref aRo, .ref aHi, .int ms, .ref aSn, .int (bI sv), .ref aAs, .ref aLg, .ref aPd, .int ml, .ref aCo, .ref aEa])), (aCo, .inl (y4.1, 64, .inl CO))] ∧ va_S A s.heap H locs ∧ lv_has ls 4 [(3, .int (bI v3))]) (fun x => [.int x, .int ce, .ref aCo]) ?_ (fun K46 => ?_)
    · rintro v5 H locs ls ⟨ev5, hP, hD, hS, hl⟩
      have ev5 : v5 = (if v3 = false then CO (ce).toNatClampNeg else by_) := ev5
      have hP : va_P D vwCl [(aM, .inr (7, [.ref aRo, .ref aHi, .int ms, .ref aSn, .int (bI sv), .ref aAs, .ref aLg, .ref aPd, .int ml, .ref aCo, .ref aEa])), (aCo, .inl (y4.1, 64, .inl CO))] H := hP
      have hD : va_D A [(aM, .inr (7, [.ref aRo, .ref aHi, .int ms, .ref aSn, .int (bI sv), .ref aAs, .ref aLg, .ref aPd, .int ml, .ref aCo, .ref aEa])), (aCo, .inl (y4.1, 64, .inl CO))] := hD
      have hl : lv_has ls 4 [(3, .int (bI v3))] := hl
      refine va_iast hx hb hK hP hD hS 1 0 rfl rfl (by first | assumption | exact vp_in_cmp (by assumption) (by assumption) (by decide)) dX8_takes_46 (fun H locs hP hD hS => ?_)
      have hP : va_P D vwCl [(aM, .inr (7, [.ref aRo, .ref aHi, .int ms, .ref aSn, .int (bI sv), .ref aAs, .ref aLg, .ref aPd, .int ml, .ref aCo, .ref aEa])), (aCo, .inl (y4.1, 64, .inl (upd CO (ce).toNatClampNeg v5)))] H := hP
      have hD : va_D A [(aM, .inr (7, [.ref aRo, .ref aHi, .int ms, .ref aSn, .int (bI sv), .ref aAs, .ref aLg, .ref aPd, .int ml, .ref aCo, .ref aEa])), (aCo, .inl (y4.1, 64, .inl (upd CO (ce).toNatClampNeg v5)))] := hD
      refine lv_iload_n hx hb dX8_takes_47 rfl (lv_at hl 0 rfl) ?_
      have em : m_X8_takes CO ce by_ = (v3, upd CO (ce).toNatClampNeg v5) := (by subst ev5 ev3; first | (simp only [m_X8_takes]; done) | (unfold m_X8_takes; rfl) | rfl)
      exact W.zret (v := bI v3) hx hb hr (bI_nar _) (fun t ht hW => ⟨⟨bI v3, (), rfl, (by rw [em]), ⟨by rw [ht, em]; exact hP, by rw [em]; exact hD⟩⟩, hS.F ht⟩) hS.2.2 dX8_takes_48
    · refine lb_if_eq (tgt := 40) hx hb dX8_takes_33 (by decide) (fun c4 => ?_) (fun c4 => ?_)
      · refine lv_aload_n hx hb dX8_takes_40 rfl (lv_at hl 1 rfl) ?_
        refine va_get (ci := 7) (v := .ref aCo) (C := RX8) (T := TX8) (N := 11) hx hb hts iX8 hown hK hP 0 rfl rfl 9 (by decide) f28 (fun _ h9 => h9) rfl dX8_takes_41 ?_
        refine lv_iload_n hx hb dX8_takes_44 rfl (lv_at hl 2 rfl) ?_
        refine va_iald hx hb hK hP 1 0 rfl rfl (by first | assumption | exact vp_in_cmp (by assumption) (by assumption) (by decide)) dX8_takes_45 ?_
        exact K46 (CO (ce).toNatClampNeg) H locs ls ⟨(by subst ev3; first | (simp only [if_pos c4]; done) | (simp only [if_pos c4]; rfl) | rfl), hP, hD, hS, lv_sub hl [0] rfl⟩
      · refine lv_iload_n hx hb dX8_takes_36 rfl (lv_at hl 3 rfl) ?_
        refine lv_goto (tgt := 46) hx hb dX8_takes_37 (by decide) ?_
        exact K46 by_ H locs ls ⟨(by subst ev3; first | (simp only [if_neg c4]; done) | (simp only [if_neg c4]; rfl) | rfl), hP, hD, hS, lv_sub hl [0] rfl⟩
  · refine lv_icmp_eq (tgt := 21) hx hb dX8_takes_8 (by decide) (fun c1 => ?_) (fun c1 => ?_)
    · refine lv_iconst (v := 1) hx hb dX8_takes_21 (by decide) ?_
      refine lv_goto (tgt := 26) hx hb dX8_takes_22 (by decide) ?_
      exact K26 true H locs ls ⟨(by first | (simp only [if_pos c1]; done) | (simp only [if_pos c1]; rfl) | rfl), hP, hD, hS, lv_sub hl [0, 1, 2] rfl⟩
    · refine lv_iload_n hx hb dX8_takes_11 rfl (lv_at hl 2 rfl) ?_
      refine lv_aload_n hx hb dX8_takes_12 rfl (lv_at hl 0 rfl) ?_
      refine va_get (ci := 7) (v := .ref aCo) (C := RX8) (T := TX8) (N := 11) hx hb hts iX8 hown hK hP 0 rfl rfl 9 (by decide) f28 (fun _ h9 => h9) rfl dX8_takes_13 ?_
      refine lv_iload_n hx hb dX8_takes_16 rfl (lv_at hl 1 rfl) ?_
      refine va_iald hx hb hK hP 1 0 rfl rfl (by first | assumption | exact vp_in_cmp (by assumption) (by assumption) (by decide)) dX8_takes_17 ?_
      refine lv_icmp_ge (tgt := 25) hx hb dX8_takes_18 (by decide) (fun c2 => ?_) (fun c2 => ?_)
      · refine lv_iconst (v := 0) hx hb dX8_takes_25 (by decide) ?_
        exact K26 false H locs ls ⟨(by first | (simp only [if_neg c1, if_pos c2]; done) | (simp only [if_neg c1, if_pos c2]; rfl) | rfl), hP, hD, hS, lv_sub hl [0, 1, 2] rfl⟩
      · refine lv_iconst (v := 1) hx hb dX8_takes_21 (by decide) ?_
        refine lv_goto (tgt := 26) hx hb dX8_takes_22 (by decide) ?_
        exact K26 true H locs ls ⟨(by first | (simp only [if_neg c1, if_neg c2]; done) | (simp only [if_neg c1, if_neg c2]; rfl) | rfl), hP, hD, hS, lv_sub hl [0, 1, 2] rfl⟩
def f_X8_begin_6 (k2 : Nat) (t3 : (Nat → Int32)) : (Nat → Int32) := upd t3 (nI k2).toNatClampNeg (-4)
def m_X8_begin (RO : Nat → Int32) (LG : Nat → Int32) (CO : Nat → Int32) (fr : Int32) : (Nat → Int32) × (Nat → Int32) := (let t6 : (Nat → Int32) := itr f_X8_begin_6 64 CO; ((m_X8_shine RO LG), upd t6 (fr).toNatClampNeg 0))
set_option maxHeartbeats 4000000 in
set_option maxRecDepth 100000 in
theorem met_X8_begin (l : Launch) (D : va_G) (y4 : vT) (aM aRo aHi aSn aAs aLg aPd aCo aEa : Nat) (sz : Nat) (ms : Int32) (sv : Bool) (ml : Int32) (RO : Nat → Int32) (LG : Nat → Int32) (CO : Nat → Int32) (fr : Int32) (hM : MI RO) (hfr : vp_in fr 64) : Met l yX8_begin wsX8_begin ({ frames := 7, cells := 0, slots := 0, locals := 165 }) (va_Pc [.ref aM, .int fr] (PreW D y4 [(aM, .inr (7, [.ref aRo, .ref aHi, .int ms, .ref aSn, .int (bI sv), .ref aAs, .ref aLg, .ref aPd, .int ml, .ref aCo, .ref aEa])), (aRo, .inl (y4.1, 151, .inl RO)), (aLg, .inl (y4.1, 64, .inl LG)), (aCo, .inl (y4.1, 64, .inl CO))] sz)) (va_Qv (fun (_ : Unit) => True) (fun _ t => PostW D (va_A [(aM, .inr (7, [.ref aRo, .ref aHi, .int ms, .ref aSn, .int (bI sv), .ref aAs, .ref aLg, .ref aPd, .int ml, .ref aCo, .ref aEa])), (aRo, .inl (y4.1, 151, .inl RO)), (aLg, .inl (y4.1, 64, .inl LG)), (aCo, .inl (y4.1, 64, .inl CO))] sz) [(aM, .inr (7, [.ref aRo, .ref aHi, .int ms, .ref aSn, .int (bI sv), .ref aAs, .ref aLg, .ref aPd, .int ml, .ref aCo, .ref aEa])), (aRo, .inl (y4.1, 151, .inl RO)), (aLg, .inl (y4.1, 64, .inl ((m_X8_begin RO LG CO fr).1))), (aCo, .inl (y4.1, 64, .inl ((m_X8_begin RO LG CO fr).2)))] t) (va_A [(aM, .inr (7, [.ref aRo, .ref aHi, .int ms, .ref aSn, .int (bI sv), .ref aAs, .ref aLg, .ref aPd, .int ml, .ref aCo, .ref aEa])), (aRo, .inl (y4.1, 151, .inl RO)), (aLg, .inl (y4.1, 64, .inl LG)), (aCo, .inl (y4.1, 64, .inl CO))] sz)) 0 0 (va_A [(aM, .inr (7, [.ref aRo, .ref aHi, .int ms, .ref aSn, .int (bI sv), .ref aAs, .ref aLg, .ref aPd, .int ml, .ref aCo, .ref aEa])), (aRo, .inl (y4.1, 151, .inl RO)), (aLg, .inl (y4.1, 64, .inl LG)), (aCo, .inl (y4.1, 64, .inl CO))] sz) := by
  refine Met.ofW (cc := cX8_begin) (maxL := 3) (ret := none) (by decide) rfl ?_
  intro p e s m args below meth c s₁ B hml hv
  obtain ⟨rfl, hsz, hP, hK, hD0, hNW⟩ := hv
  have hx := B.exec
  have hb := B.bytes
  have hr := B.returns
  have hts := atoms_spec (ws := wsX8_begin) B.pre
  have hown : s.vm.findClass RX8 = some m.cls := findClass_of_methodNamed B.named
  have hlocks := B.notSynchronized
  subst hsz
  have hD := hD0.self (sz := s.heap.size)
  generalize hAe : va_A [(aM, .inr (7, [.ref aRo, .ref aHi, .int ms, .ref aSn, .int (bI sv), .ref aAs, .ref aLg, .ref aPd, .int ml, .ref aCo, .ref aEa])), (aRo, .inl (y4.1, 151, .inl RO)), (aLg, .inl (y4.1, 64, .inl LG)), (aCo, .inl (y4.1, 64, .inl CO))] s.heap.size = A at hD ⊢
  have hA : ∀ q : Nat, s.heap.size ≤ q → A q := fun q h => by rw [← hAe]; exact Or.inr h
  have hS : va_S A s.heap s.heap [] := va_S.rf
  have hl := lv_entry ([.ref aM, .int fr]) (n := 3) (Nat.le_of_ble_eq_true rfl)
  rw [lg_entry_eq]
  generalize (lg_sl ([.ref aM, .int fr]) ++ List.replicate (3 - (lg_sl ([.ref aM, .int fr])).length) Slot.unset).toArray = ls at hl ⊢
  have hl : lv_has ls 3 [(0, .ref aM), (1, .int fr)] := hl
  have f28 := hts (.fieldLink RX8 28 "PillarLightModel" "cost" "[I") (List.mem_of_getElem? (i := 1) rfl)
  have iX8 : ∀ w ∈ wsX80, w ∈ wsX8_begin := fun _ h => List.mem_cons_of_mem _ (List.mem_append_right _ h)
  refine startW (fun H locs hP hS => ?_) hP hS
  refine lv_aload_n hx hb dX8_begin_0 rfl (lv_at hl 0 rfl) ?_
  refine callW_v (wr := [(aCo, .inl (y4.1, 64, .inl CO))]) (wn := fun u => [(aM, .inr (7, [.ref aRo, .ref aHi, .int ms, .ref aSn, .int (bI sv), .ref aAs, .ref aLg, .ref aPd, .int ml, .ref aCo, .ref aEa])), (aRo, .inl (y4.1, 151, .inl RO)), (aLg, .inl (y4.1, 64, .inl (m_X8_shine RO LG))), (aCo, .inl (y4.1, 64, .inl CO))]) (va_runV (As := []) (rest := []) ⟨hx, hb, hml, hown, hts⟩ (met_X8_shine l D y4 aM aRo aHi aSn aAs aLg aPd aCo aEa H.size ms sv ml RO LG hM) (cwV 0 hts gX8_begin_X8_shine rfl rfl rfl (by decide +kernel) ⟨Nat.le_of_ble_eq_true rfl, Nat.le_of_ble_eq_true rfl⟩) ⟨preW_blind, va_recv hK hP (ci := 7) (q0 := 0) rfl rfl, preW_at (hP.sub (ws' := [(aM, .inr (7, [.ref aRo, .ref aHi, .int ms, .ref aSn, .int (bI sv), .ref aAs, .ref aLg, .ref aPd, .int ml, .ref aCo, .ref aEa])), (aRo, .inl (y4.1, 151, .inl RO)), (aLg, .inl (y4.1, 64, .inl LG))]) [0, 1, 2] rfl) hK (hD.sub (ws' := [(aM, .inr (7, [.ref aRo, .ref aHi, .int ms, .ref aSn, .int (bI sv), .ref aAs, .ref aLg, .ref aPd, .int ml, .ref aCo, .ref aEa])), (aRo, .inl (y4.1, 151, .inl RO)), (aLg, .inl (y4.1, 64, .inl LG))]) [0, 1, 2] (by decide) rfl) hNW⟩ rfl rfl hl.1 rfl (lv_room (Nat.le_of_ble_eq_true rfl)) dX8_begin_1 ⟨Nat.zero_le _, Nat.zero_le _⟩) hP hD hS hA [0, 1, 2] [3] [1, 2, 3, 0] rfl rfl (by decide) (by decide) (fun _ => rfl) (by decide) (fun u1 H locs hw hP hD hS => ?_)
  have hP : va_P D vwCl [(aM, .inr (7, [.ref aRo, .ref aHi, .int ms, .ref aSn, .int (bI sv), .ref aAs, .ref aLg, .ref aPd, .int ml, .ref aCo, .ref aEa])), (aRo, .inl (y4.1, 151, .inl RO)), (aLg, .inl (y4.1, 64, .inl (m_X8_shine RO LG))), (aCo, .inl (y4.1, 64, .inl CO))] H := hP
  have hD : va_D A [(aM, .inr (7, [.ref aRo, .ref aHi, .int ms, .ref aSn, .int (bI sv), .ref aAs, .ref aLg, .ref aPd, .int ml, .ref aCo, .ref aEa])), (aRo, .inl (y4.1, 151, .inl RO)), (aLg, .inl (y4.1, 64, .inl (m_X8_shine RO LG))), (aCo, .inl (y4.1, 64, .inl CO))] := hD
  refine lv_iconst (v := 0) hx hb dX8_begin_4 (by decide) ?_
  refine lv_istore_n (lv' := [(2, .int 0), (0, .ref aM), (1, .int fr)]) hx hb dX8_begin_5 rfl hl (by decide) rfl (fun ls hl => ?_)
  refine loopW (σ := (Nat → Int32)) 6 f_X8_begin_6 64 CO (fun k2 t3 H locs ls => va_P D vwCl [(aM, .inr (7, [.ref aRo, .ref aHi, .int ms, .ref aSn, .int (bI sv), .ref aAs, .ref aLg, .ref aPd, .int ml, .ref aCo, .ref aEa])), (aRo, .inl (y4.1, 151, .inl RO)), (aLg, .inl (y4.1, 64, .inl (m_X8_shine RO LG))), (aCo, .inl (y4.1, 64, .inl t3))] H ∧ va_D A [(aM, .inr (7, [.ref aRo, .ref aHi, .int ms, .ref aSn, .int (bI sv), .ref aAs, .ref aLg, .ref aPd, .int ml, .ref aCo, .ref aEa])), (aRo, .inl (y4.1, 151, .inl RO)), (aLg, .inl (y4.1, 64, .inl (m_X8_shine RO LG))), (aCo, .inl (y4.1, 64, .inl t3))] ∧ va_S A s.heap H locs ∧ lv_has ls 3 [(2, .int (nI k2)), (0, .ref aM), (1, .int fr)]) ⟨hP, hD, hS, lv_sub hl [0, 1, 2] rfl⟩ (fun t6 H locs ls et6 hh => ?_) (fun k2 t3 hkk2 hek2 ihk2 H locs ls hh => ?_)
  · obtain ⟨hP, hD, hS, hl⟩ := hh
    have hP : va_P D vwCl [(aM, .inr (7, [.ref aRo, .ref aHi, .int ms, .ref aSn, .int (bI sv), .ref aAs, .ref aLg, .ref aPd, .int ml, .ref aCo, .ref aEa])), (aRo, .inl (y4.1, 151, .inl RO)), (aLg, .inl (y4.1, 64, .inl (m_X8_shine RO LG))), (aCo, .inl (y4.1, 64, .inl t6))] H := hP
    have hD : va_D A [(aM, .inr (7, [.ref aRo, .ref aHi, .int ms, .ref aSn, .int (bI sv), .ref aAs, .ref aLg, .ref aPd, .int ml, .ref aCo, .ref aEa])), (aRo, .inl (y4.1, 151, .inl RO)), (aLg, .inl (y4.1, 64, .inl (m_X8_shine RO LG))), (aCo, .inl (y4.1, 64, .inl t6))] := hD
    have hl : lv_has ls 3 [(2, .int (nI 64)), (0, .ref aM), (1, .int fr)] := hl
    refine lv_iload_n hx hb dX8_begin_6 rfl (lv_at hl 0 rfl) ?_
    refine lv_bipush (v := 64) hx hb dX8_begin_7 (by decide) ?_
    refine lv_icmp_ge (tgt := 26) hx hb dX8_begin_9 (by decide) (fun c7 => ?_) (fun c7 => absurd (nI_le (a := 64) (by omega) (by omega)) c7)
    refine lv_aload_n hx hb dX8_begin_26 rfl (lv_at hl 1 rfl) ?_
    refine va_get (ci := 7) (v := .ref aCo) (C := RX8) (T := TX8) (N := 11) hx hb hts iX8 hown hK hP 0 rfl rfl 9 (by decide) f28 (fun _ h9 => h9) rfl dX8_begin_27 ?_
    refine lv_iload_n hx hb dX8_begin_30 rfl (lv_at hl 2 rfl) ?_
    refine lv_iconst (v := 0) hx hb dX8_begin_31 (by decide) ?_
    refine va_iast hx hb hK hP hD hS 3 0 rfl rfl (by first | assumption | exact vp_in_cmp (by assumption) (by assumption) (by decide)) dX8_begin_32 (fun H locs hP hD hS => ?_)
    have hP : va_P D vwCl [(aM, .inr (7, [.ref aRo, .ref aHi, .int ms, .ref aSn, .int (bI sv), .ref aAs, .ref aLg, .ref aPd, .int ml, .ref aCo, .ref aEa])), (aRo, .inl (y4.1, 151, .inl RO)), (aLg, .inl (y4.1, 64, .inl (m_X8_shine RO LG))), (aCo, .inl (y4.1, 64, .inl (upd t6 (fr).toNatClampNeg 0)))] H := hP
    have hD : va_D A [(aM, .inr (7, [.ref aRo, .ref aHi, .int ms, .ref aSn, .int (bI sv), .ref aAs, .ref aLg, .ref aPd, .int ml, .ref aCo, .ref aEa])), (aRo, .inl (y4.1, 151, .inl RO)), (aLg, .inl (y4.1, 64, .inl (m_X8_shine RO LG))), (aCo, .inl (y4.1, 64, .inl (upd t6 (fr).toNatClampNeg 0)))] := hD
    have em : m_X8_begin RO LG CO fr = ((m_X8_shine RO LG), upd t6 (fr).toNatClampNeg 0) := (by subst et6; first | (simp only [m_X8_begin]; done) | (unfold m_X8_begin; rfl) | rfl)
    exact W.vret hx hb hr (fun t ht hW => ⟨⟨(), rfl, trivial, ⟨by rw [ht, em]; exact hP, by rw [em]; exact hD⟩⟩, hS.F ht⟩) hS.2.2 dX8_begin_33
  · obtain ⟨hP, hD, hS, hl⟩ := hh
    have hP : va_P D vwCl [(aM, .inr (7, [.ref aRo, .ref aHi, .int ms, .ref aSn, .int (bI sv), .ref aAs, .ref aLg, .ref aPd, .int ml, .ref aCo, .ref aEa])), (aRo, .inl (y4.1, 151, .inl RO)), (aLg, .inl (y4.1, 64, .inl (m_X8_shine RO LG))), (aCo, .inl (y4.1, 64, .inl t3))] H := hP
    have hD : va_D A [(aM, .inr (7, [.ref aRo, .ref aHi, .int ms, .ref aSn, .int (bI sv), .ref aAs, .ref aLg, .ref aPd, .int ml, .ref aCo, .ref aEa])), (aRo, .inl (y4.1, 151, .inl RO)), (aLg, .inl (y4.1, 64, .inl (m_X8_shine RO LG))), (aCo, .inl (y4.1, 64, .inl t3))] := hD
    have hl : lv_has ls 3 [(2, .int (nI k2)), (0, .ref aM), (1, .int fr)] := hl
    refine lv_iload_n hx hb dX8_begin_6 rfl (lv_at hl 0 rfl) ?_
    refine lv_bipush (v := 64) hx hb dX8_begin_7 (by decide) ?_
    refine lv_icmp_ge (tgt := 26) hx hb dX8_begin_9 (by decide) (fun c5 => absurd c5 (nI_ge (b := 64) (by omega) (by omega))) (fun c5 => ?_)
    refine lv_aload_n hx hb dX8_begin_12 rfl (lv_at hl 1 rfl) ?_
    refine va_get (ci := 7) (v := .ref aCo) (C := RX8) (T := TX8) (N := 11) hx hb hts iX8 hown hK hP 0 rfl rfl 9 (by decide) f28 (fun _ h9 => h9) rfl dX8_begin_13 ?_
    refine lv_iload_n hx hb dX8_begin_16 rfl (lv_at hl 0 rfl) ?_
    refine lv_bipush (v := (-4)) hx hb dX8_begin_17 (by decide) ?_
    refine va_iast hx hb hK hP hD hS 3 0 rfl rfl (vp_in_nI (by omega) (by decide)) dX8_begin_19 (fun H locs hP hD hS => ?_)
    have hP : va_P D vwCl [(aM, .inr (7, [.ref aRo, .ref aHi, .int ms, .ref aSn, .int (bI sv), .ref aAs, .ref aLg, .ref aPd, .int ml, .ref aCo, .ref aEa])), (aRo, .inl (y4.1, 151, .inl RO)), (aLg, .inl (y4.1, 64, .inl (m_X8_shine RO LG))), (aCo, .inl (y4.1, 64, .inl (upd t3 (nI k2).toNatClampNeg (-4))))] H := hP
    have hD : va_D A [(aM, .inr (7, [.ref aRo, .ref aHi, .int ms, .ref aSn, .int (bI sv), .ref aAs, .ref aLg, .ref aPd, .int ml, .ref aCo, .ref aEa])), (aRo, .inl (y4.1, 151, .inl RO)), (aLg, .inl (y4.1, 64, .inl (m_X8_shine RO LG))), (aCo, .inl (y4.1, 64, .inl (upd t3 (nI k2).toNatClampNeg (-4))))] := hD
    refine lv_iinc (v := nI (k2 + 1)) (lv' := [(2, .int (nI (k2 + 1))), (0, .ref aM), (1, .int fr)]) hx hb dX8_begin_20 hl (k := 0) rfl (nI_1 _) (by decide) rfl (fun ls hl => ?_)
    refine lv_goto (tgt := 6) hx hb dX8_begin_23 (by decide) ?_
    have ef : f_X8_begin_6 k2 t3 = upd t3 (nI k2).toNatClampNeg (-4) := (by first | (simp only [f_X8_begin_6]; done) | (unfold f_X8_begin_6; rfl) | rfl)
    rw [ef] at ihk2
    exact ihk2 H locs ls ⟨hP, hD, hS, lv_sub hl [0, 1, 2] rfl⟩
def f_X8_onward_2 (RO : Nat → Int32) (LG : Nat → Int32) (CO : Nat → Int32) (ce : Int32) (k1 : Nat) (t2 : Unit) : (Int32 ⊕ Unit) ⊕ Unit := (if (m_X8_canGo RO ce (nI k1)) = false then (.inr ()) else (if (m_X8_next ce (nI k1)) = (-4) then (.inr ()) else (if (CO ((m_X8_next ce (nI k1))).toNatClampNeg) = (-4) then (.inr ()) else (if (((CO ((m_X8_next ce (nI k1))).toNatClampNeg) + 1) + (LG ((m_X8_next ce (nI k1))).toNatClampNeg)) = (CO (ce).toNatClampNeg) then (.inl (.inl (m_X8_next ce (nI k1)))) else (.inr ())))))
def m_X8_onward (RO : Nat → Int32) (LG : Nat → Int32) (CO : Nat → Int32) (ce : Int32) : Int32 := (lpr (lpx (f_X8_onward_2 RO LG CO ce) 4 0 ()) id (fun t12 => (-4 : Int32)))
set_option maxHeartbeats 4000000 in
set_option maxRecDepth 100000 in
theorem met_X8_onward (l : Launch) (D : va_G) (y4 : vT) (aM aRo aHi aSn aAs aLg aPd aCo aEa : Nat) (sz : Nat) (ms : Int32) (sv : Bool) (ml : Int32) (RO : Nat → Int32) (LG : Nat → Int32) (CO : Nat → Int32) (ce : Int32) (hce : vp_in ce 64) : Met l yX8_onward wsX8_onward ({ frames := 3, cells := 0, slots := 0, locals := 68 }) (va_Pc [.ref aM, .int ce] (PreW D y4 [(aM, .inr (7, [.ref aRo, .ref aHi, .int ms, .ref aSn, .int (bI sv), .ref aAs, .ref aLg, .ref aPd, .int ml, .ref aCo, .ref aEa])), (aRo, .inl (y4.1, 151, .inl RO)), (aLg, .inl (y4.1, 64, .inl LG)), (aCo, .inl (y4.1, 64, .inl CO))] sz)) (va_Qi (fun (r : Int32) (_ : Unit) => r = (m_X8_onward RO LG CO ce)) (fun _ t => PostW D (va_A [(aM, .inr (7, [.ref aRo, .ref aHi, .int ms, .ref aSn, .int (bI sv), .ref aAs, .ref aLg, .ref aPd, .int ml, .ref aCo, .ref aEa])), (aRo, .inl (y4.1, 151, .inl RO)), (aLg, .inl (y4.1, 64, .inl LG)), (aCo, .inl (y4.1, 64, .inl CO))] sz) [(aM, .inr (7, [.ref aRo, .ref aHi, .int ms, .ref aSn, .int (bI sv), .ref aAs, .ref aLg, .ref aPd, .int ml, .ref aCo, .ref aEa])), (aRo, .inl (y4.1, 151, .inl RO)), (aLg, .inl (y4.1, 64, .inl LG)), (aCo, .inl (y4.1, 64, .inl CO))] t) (va_A [(aM, .inr (7, [.ref aRo, .ref aHi, .int ms, .ref aSn, .int (bI sv), .ref aAs, .ref aLg, .ref aPd, .int ml, .ref aCo, .ref aEa])), (aRo, .inl (y4.1, 151, .inl RO)), (aLg, .inl (y4.1, 64, .inl LG)), (aCo, .inl (y4.1, 64, .inl CO))] sz)) 0 0 (va_A [(aM, .inr (7, [.ref aRo, .ref aHi, .int ms, .ref aSn, .int (bI sv), .ref aAs, .ref aLg, .ref aPd, .int ml, .ref aCo, .ref aEa])), (aRo, .inl (y4.1, 151, .inl RO)), (aLg, .inl (y4.1, 64, .inl LG)), (aCo, .inl (y4.1, 64, .inl CO))] sz) := by
  refine Met.ofW (cc := cX8_onward) (maxL := 4) (ret := (some .int)) (by decide) rfl ?_
  intro p e s m args below meth c s₁ B hml hv
  obtain ⟨rfl, hsz, hP, hK, hD0, hNW⟩ := hv
  have hx := B.exec
  have hb := B.bytes
  have hr := B.returns
  have hts := atoms_spec (ws := wsX8_onward) B.pre
  have hown : s.vm.findClass RX8 = some m.cls := findClass_of_methodNamed B.named
  have hlocks := B.notSynchronized
  subst hsz
  have hD := hD0.self (sz := s.heap.size)
  generalize hAe : va_A [(aM, .inr (7, [.ref aRo, .ref aHi, .int ms, .ref aSn, .int (bI sv), .ref aAs, .ref aLg, .ref aPd, .int ml, .ref aCo, .ref aEa])), (aRo, .inl (y4.1, 151, .inl RO)), (aLg, .inl (y4.1, 64, .inl LG)), (aCo, .inl (y4.1, 64, .inl CO))] s.heap.size = A at hD ⊢
  have hA : ∀ q : Nat, s.heap.size ≤ q → A q := fun q h => by rw [← hAe]; exact Or.inr h
  have hS : va_S A s.heap s.heap [] := va_S.rf
  have hl := lv_entry ([.ref aM, .int ce]) (n := 4) (Nat.le_of_ble_eq_true rfl)
  rw [lg_entry_eq]
  generalize (lg_sl ([.ref aM, .int ce]) ++ List.replicate (4 - (lg_sl ([.ref aM, .int ce])).length) Slot.unset).toArray = ls at hl ⊢
  have hl : lv_has ls 4 [(0, .ref aM), (1, .int ce)] := hl
  have f28 := hts (.fieldLink RX8 28 "PillarLightModel" "cost" "[I") (List.mem_of_getElem? (i := 1) rfl)
  have iX8 : ∀ w ∈ wsX80, w ∈ wsX8_onward := fun _ h => List.mem_cons_of_mem _ (List.mem_append_right _ h)
  have f22 := hts (.fieldLink RX8 22 "PillarLightModel" "light" "[I") (List.mem_of_getElem? (i := 2) rfl)
  refine startW (fun H locs hP hS => ?_) hP hS
  refine lv_iconst (v := 0) hx hb dX8_onward_0 (by decide) ?_
  refine lv_istore_n (lv' := [(2, .int 0), (0, .ref aM), (1, .int ce)]) hx hb dX8_onward_1 rfl hl (by decide) rfl (fun ls hl => ?_)
  refine cutW (X := Unit) 76 (fun x H locs ls => ((lpx (f_X8_onward_2 RO LG CO ce) 4 0 ()) = .inl (.inr x) ∨ (lpx (f_X8_onward_2 RO LG CO ce) 4 0 ()) = .inr x) ∧ va_P D vwCl [(aM, .inr (7, [.ref aRo, .ref aHi, .int ms, .ref aSn, .int (bI sv), .ref aAs, .ref aLg, .ref aPd, .int ml, .ref aCo, .ref aEa])), (aRo, .inl (y4.1, 151, .inl RO)), (aLg, .inl (y4.1, 64, .inl LG)), (aCo, .inl (y4.1, 64, .inl CO))] H ∧ va_D A [(aM, .inr (7, [.ref aRo, .ref aHi, .int ms, .ref aSn, .int (bI sv), .ref aAs, .ref aLg, .ref aPd, .int ml, .ref aCo, .ref aEa])), (aRo, .inl (y4.1, 151, .inl RO)), (aLg, .inl (y4.1, 64, .inl LG)), (aCo, .inl (y4.1, 64, .inl CO))] ∧ va_S A s.heap H locs ∧ lv_has ls 4 []) (fun x => []) ?_ (fun K76 => ?_)
  · rintro t12 H locs ls ⟨et12, hP, hD, hS, hl⟩
    have hP : va_P D vwCl [(aM, .inr (7, [.ref aRo, .ref aHi, .int ms, .ref aSn, .int (bI sv), .ref aAs, .ref aLg, .ref aPd, .int ml, .ref aCo, .ref aEa])), (aRo, .inl (y4.1, 151, .inl RO)), (aLg, .inl (y4.1, 64, .inl LG)), (aCo, .inl (y4.1, 64, .inl CO))] H := hP
    have hD : va_D A [(aM, .inr (7, [.ref aRo, .ref aHi, .int ms, .ref aSn, .int (bI sv), .ref aAs, .ref aLg, .ref aPd, .int ml, .ref aCo, .ref aEa])), (aRo, .inl (y4.1, 151, .inl RO)), (aLg, .inl (y4.1, 64, .inl LG)), (aCo, .inl (y4.1, 64, .inl CO))] := hD
    have hl : lv_has ls 4 [] := hl
    refine lv_bipush (v := (-4)) hx hb dX8_onward_76 (by decide) ?_
    have em : m_X8_onward RO LG CO ce = (-4 : Int32) := (by first | (simp only [m_X8_onward, lpr_k et12]; done) | (simp only [m_X8_onward, lpr_k et12]; rfl))
    exact W.iret (v := (-4)) hx hb hr (fun t ht hW => ⟨⟨(-4), (), rfl, (by rw [em]), ⟨by rw [ht]; exact hP, by exact hD⟩⟩, hS.F ht⟩) hS.2.2 dX8_onward_78
  · refine loopX (σ := Unit) (ρ := Int32 ⊕ Unit) 2 (f_X8_onward_2 RO LG CO ce) (fun _ _ => True) 4 0 () (fun k1 t2 H locs ls => va_P D vwCl [(aM, .inr (7, [.ref aRo, .ref aHi, .int ms, .ref aSn, .int (bI sv), .ref aAs, .ref aLg, .ref aPd, .int ml, .ref aCo, .ref aEa])), (aRo, .inl (y4.1, 151, .inl RO)), (aLg, .inl (y4.1, 64, .inl LG)), (aCo, .inl (y4.1, 64, .inl CO))] H ∧ va_D A [(aM, .inr (7, [.ref aRo, .ref aHi, .int ms, .ref aSn, .int (bI sv), .ref aAs, .ref aLg, .ref aPd, .int ml, .ref aCo, .ref aEa])), (aRo, .inl (y4.1, 151, .inl RO)), (aLg, .inl (y4.1, 64, .inl LG)), (aCo, .inl (y4.1, 64, .inl CO))] ∧ va_S A s.heap H locs ∧ lv_has ls 4 [(2, .int (nI k1)), (0, .ref aM), (1, .int ce)]) trivial ⟨hP, hD, hS, lv_sub hl [0, 1, 2] rfl⟩ (fun t10 H locs ls et10 hit10 hh => ?_) (fun k1 t2 hkk1 hjk1 hik1 hretk1 ihk1 H locs ls hh => ?_)
    · obtain ⟨hP, hD, hS, hl⟩ := hh
      have hP : va_P D vwCl [(aM, .inr (7, [.ref aRo, .ref aHi, .int ms, .ref aSn, .int (bI sv), .ref aAs, .ref aLg, .ref aPd, .int ml, .ref aCo, .ref aEa])), (aRo, .inl (y4.1, 151, .inl RO)), (aLg, .inl (y4.1, 64, .inl LG)), (aCo, .inl (y4.1, 64, .inl CO))] H := hP
      have hD : va_D A [(aM, .inr (7, [.ref aRo, .ref aHi, .int ms, .ref aSn, .int (bI sv), .ref aAs, .ref aLg, .ref aPd, .int ml, .ref aCo, .ref aEa])), (aRo, .inl (y4.1, 151, .inl RO)), (aLg, .inl (y4.1, 64, .inl LG)), (aCo, .inl (y4.1, 64, .inl CO))] := hD
      have hl : lv_has ls 4 [(2, .int (nI 4)), (0, .ref aM), (1, .int ce)] := hl
      refine lv_iload_n hx hb dX8_onward_2 rfl (lv_at hl 0 rfl) ?_
      refine lv_iconst (v := 4) hx hb dX8_onward_3 (by decide) ?_
      refine lv_icmp_ge (tgt := 76) hx hb dX8_onward_4 (by decide) (fun c11 => ?_) (fun c11 => absurd (nI_le (a := 4) (by omega) (by omega)) c11)
      exact K76 t10 H locs ls ⟨Or.inr et10, hP, hD, hS, lv_sub hl [] rfl⟩
    · obtain ⟨hP, hD, hS, hl⟩ := hh
      have hP : va_P D vwCl [(aM, .inr (7, [.ref aRo, .ref aHi, .int ms, .ref aSn, .int (bI sv), .ref aAs, .ref aLg, .ref aPd, .int ml, .ref aCo, .ref aEa])), (aRo, .inl (y4.1, 151, .inl RO)), (aLg, .inl (y4.1, 64, .inl LG)), (aCo, .inl (y4.1, 64, .inl CO))] H := hP
      have hD : va_D A [(aM, .inr (7, [.ref aRo, .ref aHi, .int ms, .ref aSn, .int (bI sv), .ref aAs, .ref aLg, .ref aPd, .int ml, .ref aCo, .ref aEa])), (aRo, .inl (y4.1, 151, .inl RO)), (aLg, .inl (y4.1, 64, .inl LG)), (aCo, .inl (y4.1, 64, .inl CO))] := hD
      have hl : lv_has ls 4 [(2, .int (nI k1)), (0, .ref aM), (1, .int ce)] := hl
      refine lv_iload_n hx hb dX8_onward_2 rfl (lv_at hl 0 rfl) ?_
      refine lv_iconst (v := 4) hx hb dX8_onward_3 (by decide) ?_
      refine lv_icmp_ge (tgt := 76) hx hb dX8_onward_4 (by decide) (fun c3 => absurd c3 (nI_ge (b := 4) (by omega) (by omega))) (fun c3 => ?_)
      refine lv_aload_n hx hb dX8_onward_7 rfl (lv_at hl 1 rfl) ?_
      refine lv_iload_n hx hb dX8_onward_8 rfl (lv_at hl 2 rfl) ?_
      refine lv_iload_n hx hb dX8_onward_9 rfl (lv_at hl 0 rfl) ?_
      refine callW_i (wr := [(aLg, .inl (y4.1, 64, .inl LG)), (aCo, .inl (y4.1, 64, .inl CO))]) (wn := fun u => [(aM, .inr (7, [.ref aRo, .ref aHi, .int ms, .ref aSn, .int (bI sv), .ref aAs, .ref aLg, .ref aPd, .int ml, .ref aCo, .ref aEa])), (aRo, .inl (y4.1, 151, .inl RO)), (aLg, .inl (y4.1, 64, .inl LG)), (aCo, .inl (y4.1, 64, .inl CO))]) (va_runV (As := [.int ce, .int (nI k1)]) (rest := []) ⟨hx, hb, hml, hown, hts⟩ (met_X8_canGo l D y4 aM aRo aHi aSn aAs aLg aPd aCo aEa H.size ms sv ml RO ce (nI k1) hce) (cwV 2 hts gX8_onward_X8_canGo rfl rfl rfl (by decide +kernel) ⟨Nat.le_of_ble_eq_true rfl, Nat.le_of_ble_eq_true rfl⟩) ⟨preW_blind, va_recv hK hP (ci := 7) (q0 := 0) rfl rfl, preW_at (hP.sub (ws' := [(aM, .inr (7, [.ref aRo, .ref aHi, .int ms, .ref aSn, .int (bI sv), .ref aAs, .ref aLg, .ref aPd, .int ml, .ref aCo, .ref aEa])), (aRo, .inl (y4.1, 151, .inl RO))]) [0, 1] rfl) hK (hD.sub (ws' := [(aM, .inr (7, [.ref aRo, .ref aHi, .int ms, .ref aSn, .int (bI sv), .ref aAs, .ref aLg, .ref aPd, .int ml, .ref aCo, .ref aEa])), (aRo, .inl (y4.1, 151, .inl RO))]) [0, 1] (by decide) rfl) hNW⟩ rfl rfl hl.1 rfl (lv_room (Nat.le_of_ble_eq_true rfl)) dX8_onward_10 ⟨Nat.zero_le _, Nat.zero_le _⟩) hP hD hS hA [0, 1] [2, 3] [2, 3, 0, 1] rfl rfl (by decide) (by decide) (fun _ => rfl) (by decide) (fun r u4 H locs hw hP hD hS => ?_)
      subst hw
      have hP : va_P D vwCl [(aM, .inr (7, [.ref aRo, .ref aHi, .int ms, .ref aSn, .int (bI sv), .ref aAs, .ref aLg, .ref aPd, .int ml, .ref aCo, .ref aEa])), (aRo, .inl (y4.1, 151, .inl RO)), (aLg, .inl (y4.1, 64, .inl LG)), (aCo, .inl (y4.1, 64, .inl CO))] H := hP
      have hD : va_D A [(aM, .inr (7, [.ref aRo, .ref aHi, .int ms, .ref aSn, .int (bI sv), .ref aAs, .ref aLg, .ref aPd, .int ml, .ref aCo, .ref aEa])), (aRo, .inl (y4.1, 151, .inl RO)), (aLg, .inl (y4.1, 64, .inl LG)), (aCo, .inl (y4.1, 64, .inl CO))] := hD
      refine lb_if_eq (tgt := 24) hx hb dX8_onward_13 (by decide) (fun c5 => ?_) (fun c5 => ?_)
      · refine lv_bipush (v := (-4)) hx hb dX8_onward_24 (by decide) ?_
        refine lv_istore_n (lv' := [(3, .int (-4)), (2, .int (nI k1)), (0, .ref aM), (1, .int ce)]) hx hb dX8_onward_26 rfl hl (by decide) rfl (fun ls hl => ?_)
        refine lv_iload_n hx hb dX8_onward_27 rfl (lv_at hl 0 rfl) ?_
        refine lv_bipush (v := (-4)) hx hb dX8_onward_28 (by decide) ?_
        refine lv_icmp_eq (tgt := 70) hx hb dX8_onward_30 (by decide) (fun c6 => ?_) (fun c6 => absurd (by decide) c6)
        refine lv_iinc (v := nI (k1 + 1)) (lv' := [(2, .int (nI (k1 + 1))), (3, .int (-4)), (0, .ref aM), (1, .int ce)]) hx hb dX8_onward_70 hl (k := 1) rfl (nI_1 _) (by decide) rfl (fun ls hl => ?_)
        refine lv_goto (tgt := 2) hx hb dX8_onward_73 (by decide) ?_
        have ef : (f_X8_onward_2 RO LG CO ce) k1 t2 = .inr () := (by first | (simp only [f_X8_onward_2, if_pos c5]; done) | (simp only [f_X8_onward_2, if_pos c5]; rfl))
        exact ihk1 _ ef trivial H locs ls ⟨hP, hD, hS, lv_sub hl [0, 2, 3] rfl⟩
      · refine lv_iload_n hx hb dX8_onward_16 rfl (lv_at hl 2 rfl) ?_
        refine lv_iload_n hx hb dX8_onward_17 rfl (lv_at hl 0 rfl) ?_
        refine callK_i (va_runS (As := [.int ce, .int (nI k1)]) (rest := []) ⟨hx, hb, hml, hown, hts⟩ (met_X8_next l  ce (nI k1)) (va_cwS 2 hts gX8_onward_X8_next rfl rfl rfl (by decide +kernel) ⟨Nat.le_of_ble_eq_true rfl, Nat.le_of_ble_eq_true rfl⟩) ⟨preS_blind, fun U hU hW => ⟨rfl, trivial⟩⟩ rfl rfl hl.1 rfl (lv_room (Nat.le_of_ble_eq_true rfl)) dX8_onward_18 ⟨Nat.zero_le _, Nat.zero_le _⟩) hP hS (fun r u H locs hw hP hS => ?_)
        subst hw
        refine lv_goto (tgt := 26) hx hb dX8_onward_21 (by decide) ?_
        refine lv_istore_n (lv' := [(3, .int (m_X8_next ce (nI k1))), (2, .int (nI k1)), (0, .ref aM), (1, .int ce)]) hx hb dX8_onward_26 rfl hl (by decide) rfl (fun ls hl => ?_)
        refine lv_iload_n hx hb dX8_onward_27 rfl (lv_at hl 0 rfl) ?_
        refine lv_bipush (v := (-4)) hx hb dX8_onward_28 (by decide) ?_
        refine lv_icmp_eq (tgt := 70) hx hb dX8_onward_30 (by decide) (fun c7 => ?_) (fun c7 => ?_)
        · refine lv_iinc (v := nI (k1 + 1)) (lv' := [(2, .int (nI (k1 + 1))), (3, .int (m_X8_next ce (nI k1))), (0, .ref aM), (1, .int ce)]) hx hb dX8_onward_70 hl (k := 1) rfl (nI_1 _) (by decide) rfl (fun ls hl => ?_)
          refine lv_goto (tgt := 2) hx hb dX8_onward_73 (by decide) ?_
          have ef : (f_X8_onward_2 RO LG CO ce) k1 t2 = .inr () := (by first | (simp only [f_X8_onward_2, if_neg c5, if_pos c7]; done) | (simp only [f_X8_onward_2, if_neg c5, if_pos c7]; rfl))
          exact ihk1 _ ef trivial H locs ls ⟨hP, hD, hS, lv_sub hl [0, 2, 3] rfl⟩
        · refine lv_aload_n hx hb dX8_onward_33 rfl (lv_at hl 2 rfl) ?_
          refine va_get (ci := 7) (v := .ref aCo) (C := RX8) (T := TX8) (N := 11) hx hb hts iX8 hown hK hP 0 rfl rfl 9 (by decide) f28 (fun _ h9 => h9) rfl dX8_onward_34 ?_
          refine lv_iload_n hx hb dX8_onward_37 rfl (lv_at hl 0 rfl) ?_
          refine va_iald hx hb hK hP 3 0 rfl rfl (canGo_in hce (by assumption)) dX8_onward_38 ?_
          refine lv_bipush (v := (-4)) hx hb dX8_onward_39 (by decide) ?_
          refine lv_icmp_eq (tgt := 70) hx hb dX8_onward_41 (by decide) (fun c8 => ?_) (fun c8 => ?_)
          · refine lv_iinc (v := nI (k1 + 1)) (lv' := [(2, .int (nI (k1 + 1))), (3, .int (m_X8_next ce (nI k1))), (0, .ref aM), (1, .int ce)]) hx hb dX8_onward_70 hl (k := 1) rfl (nI_1 _) (by decide) rfl (fun ls hl => ?_)
            refine lv_goto (tgt := 2) hx hb dX8_onward_73 (by decide) ?_
            have ef : (f_X8_onward_2 RO LG CO ce) k1 t2 = .inr () := (by first | (simp only [f_X8_onward_2, if_neg c5, if_neg c7, if_pos c8]; done) | (simp only [f_X8_onward_2, if_neg c5, if_neg c7, if_pos c8]; rfl))
            exact ihk1 _ ef trivial H locs ls ⟨hP, hD, hS, lv_sub hl [0, 2, 3] rfl⟩
          · refine lv_aload_n hx hb dX8_onward_44 rfl (lv_at hl 2 rfl) ?_
            refine va_get (ci := 7) (v := .ref aCo) (C := RX8) (T := TX8) (N := 11) hx hb hts iX8 hown hK hP 0 rfl rfl 9 (by decide) f28 (fun _ h9 => h9) rfl dX8_onward_45 ?_
            refine lv_iload_n hx hb dX8_onward_48 rfl (lv_at hl 0 rfl) ?_
            refine va_iald hx hb hK hP 3 0 rfl rfl (canGo_in hce (by assumption)) dX8_onward_49 ?_
            refine lv_iconst (v := 1) hx hb dX8_onward_50 (by decide) ?_
            refine lv_iadd hx hb dX8_onward_51 ?_
            refine lv_aload_n hx hb dX8_onward_52 rfl (lv_at hl 2 rfl) ?_
            refine va_get (ci := 7) (v := .ref aLg) (C := RX8) (T := TX8) (N := 11) hx hb hts iX8 hown hK hP 0 rfl rfl 6 (by decide) f22 (fun _ h9 => h9) rfl dX8_onward_53 ?_
            refine lv_iload_n hx hb dX8_onward_56 rfl (lv_at hl 0 rfl) ?_
            refine va_iald hx hb hK hP 2 0 rfl rfl (canGo_in hce (by assumption)) dX8_onward_57 ?_
            refine lv_iadd hx hb dX8_onward_58 ?_
            refine lv_aload_n hx hb dX8_onward_59 rfl (lv_at hl 2 rfl) ?_
            refine va_get (ci := 7) (v := .ref aCo) (C := RX8) (T := TX8) (N := 11) hx hb hts iX8 hown hK hP 0 rfl rfl 9 (by decide) f28 (fun _ h9 => h9) rfl dX8_onward_60 ?_
            refine lv_iload_n hx hb dX8_onward_63 rfl (lv_at hl 3 rfl) ?_
            refine va_iald hx hb hK hP 3 0 rfl rfl (by first | assumption | exact vp_in_cmp (by assumption) (by assumption) (by decide)) dX8_onward_64 ?_
            refine lv_icmp_ne (tgt := 70) hx hb dX8_onward_65 (by decide) (fun c9 => ?_) (fun c9 => ?_)
            · refine lv_iinc (v := nI (k1 + 1)) (lv' := [(2, .int (nI (k1 + 1))), (3, .int (m_X8_next ce (nI k1))), (0, .ref aM), (1, .int ce)]) hx hb dX8_onward_70 hl (k := 1) rfl (nI_1 _) (by decide) rfl (fun ls hl => ?_)
              refine lv_goto (tgt := 2) hx hb dX8_onward_73 (by decide) ?_
              have ef : (f_X8_onward_2 RO LG CO ce) k1 t2 = .inr () := (by first | (simp only [f_X8_onward_2, if_neg c5, if_neg c7, if_neg c8, if_neg c9]; done) | (simp only [f_X8_onward_2, if_neg c5, if_neg c7, if_neg c8, if_neg c9]; rfl))
              exact ihk1 _ ef trivial H locs ls ⟨hP, hD, hS, lv_sub hl [0, 2, 3] rfl⟩
            · refine lv_iload_n hx hb dX8_onward_68 rfl (lv_at hl 0 rfl) ?_
              have ef : (f_X8_onward_2 RO LG CO ce) k1 t2 = .inl (.inl (m_X8_next ce (nI k1))) := (by first | (simp only [f_X8_onward_2, if_neg c5, if_neg c7, if_neg c8, if_pos c9]; done) | (simp only [f_X8_onward_2, if_neg c5, if_neg c7, if_neg c8, if_pos c9]; rfl))
              have erk1 := hretk1 _ ef
              have em : m_X8_onward RO LG CO ce = (m_X8_next ce (nI k1)) := (by first | (simp only [m_X8_onward, lpr_j erk1]; done) | (simp only [m_X8_onward, lpr_j erk1]; rfl))
              exact W.iret (v := (m_X8_next ce (nI k1))) hx hb hr (fun t ht hW => ⟨⟨(m_X8_next ce (nI k1)), (), rfl, (by rw [em]), ⟨by rw [ht]; exact hP, by exact hD⟩⟩, hS.F ht⟩) hS.2.2 dX8_onward_69
def f_X8_isLitBehind_16 (RO : Nat → Int32) (EA : Nat → Int32) (sp : Int32) (k1 : Nat) (k18 : Nat) (t19 : Int32) : Int32 := (let v25 : Int32 := (if (RO (141 + (nI k18)).toNatClampNeg) ≤ sp then (0 : Int32) else EA ((64 * (nI k18)) + (nI k1)).toNatClampNeg); t19 + v25)
def f_X8_isLitBehind_4 (RO : Nat → Int32) (EA : Nat → Int32) (sp : Int32) (k1 : Nat) (t2 : Bool) : Bool := (let t26 : Int32 := itr (f_X8_isLitBehind_16 RO EA sp k1) ((RO 128).toNatClampNeg) (0 : Int32); (let v30 : Bool := (if t2 = false then (if t26 < (RO 149) then false else true) else true); v30))
def m_X8_isLitBehind (RO : Nat → Int32) (EA : Nat → Int32) (sp : Int32) : Bool := (let t31 : Bool := itr (f_X8_isLitBehind_4 RO EA sp) 64 false; t31)
set_option maxHeartbeats 4000000 in
set_option maxRecDepth 100000 in
theorem met_X8_isLitBehind (l : Launch) (D : va_G) (y4 : vT) (aM aRo aHi aSn aAs aLg aPd aCo aEa : Nat) (sz : Nat) (ms : Int32) (sv : Bool) (ml : Int32) (RO : Nat → Int32) (EA : Nat → Int32) (sp : Int32) (hM : MI RO) : Met l yX8_isLitBehind wsX8_isLitBehind ({ frames := 0, cells := 0, slots := 0, locals := 0 }) (va_Pc [.ref aM, .int sp] (PreW D y4 [(aM, .inr (7, [.ref aRo, .ref aHi, .int ms, .ref aSn, .int (bI sv), .ref aAs, .ref aLg, .ref aPd, .int ml, .ref aCo, .ref aEa])), (aRo, .inl (y4.1, 151, .inl RO)), (aEa, .inl (y4.1, 384, .inl EA))] sz)) (va_Qi (fun (r : Int32) (_ : Unit) => r = bI (m_X8_isLitBehind RO EA sp)) (fun _ t => PostW D (va_A [(aM, .inr (7, [.ref aRo, .ref aHi, .int ms, .ref aSn, .int (bI sv), .ref aAs, .ref aLg, .ref aPd, .int ml, .ref aCo, .ref aEa])), (aRo, .inl (y4.1, 151, .inl RO)), (aEa, .inl (y4.1, 384, .inl EA))] sz) [(aM, .inr (7, [.ref aRo, .ref aHi, .int ms, .ref aSn, .int (bI sv), .ref aAs, .ref aLg, .ref aPd, .int ml, .ref aCo, .ref aEa])), (aRo, .inl (y4.1, 151, .inl RO)), (aEa, .inl (y4.1, 384, .inl EA))] t) (va_A [(aM, .inr (7, [.ref aRo, .ref aHi, .int ms, .ref aSn, .int (bI sv), .ref aAs, .ref aLg, .ref aPd, .int ml, .ref aCo, .ref aEa])), (aRo, .inl (y4.1, 151, .inl RO)), (aEa, .inl (y4.1, 384, .inl EA))] sz)) 0 0 (va_A [(aM, .inr (7, [.ref aRo, .ref aHi, .int ms, .ref aSn, .int (bI sv), .ref aAs, .ref aLg, .ref aPd, .int ml, .ref aCo, .ref aEa])), (aRo, .inl (y4.1, 151, .inl RO)), (aEa, .inl (y4.1, 384, .inl EA))] sz) := by
  refine Met.ofW (cc := cX8_isLitBehind) (maxL := 6) (ret := (some .boolean)) (by decide) rfl ?_
  intro p e s m args below meth c s₁ B hml hv
  obtain ⟨rfl, hsz, hP, hK, hD0, hNW⟩ := hv
  have hx := B.exec
  have hb := B.bytes
  have hr := B.returns
  have hts := atoms_spec (ws := wsX8_isLitBehind) B.pre
  have hown : s.vm.findClass RX8 = some m.cls := findClass_of_methodNamed B.named
  have hlocks := B.notSynchronized
  subst hsz
  have hD := hD0.self (sz := s.heap.size)
  generalize hAe : va_A [(aM, .inr (7, [.ref aRo, .ref aHi, .int ms, .ref aSn, .int (bI sv), .ref aAs, .ref aLg, .ref aPd, .int ml, .ref aCo, .ref aEa])), (aRo, .inl (y4.1, 151, .inl RO)), (aEa, .inl (y4.1, 384, .inl EA))] s.heap.size = A at hD ⊢
  have hA : ∀ q : Nat, s.heap.size ≤ q → A q := fun q h => by rw [← hAe]; exact Or.inr h
  have hS : va_S A s.heap s.heap [] := va_S.rf
  have hl := lv_entry ([.ref aM, .int sp]) (n := 6) (Nat.le_of_ble_eq_true rfl)
  rw [lg_entry_eq]
  generalize (lg_sl ([.ref aM, .int sp]) ++ List.replicate (6 - (lg_sl ([.ref aM, .int sp])).length) Slot.unset).toArray = ls at hl ⊢
  have hl : lv_has ls 6 [(0, .ref aM), (1, .int sp)] := hl
  have f7 := hts (.fieldLink RX8 7 "PillarLightModel" "row" "[I") (List.mem_of_getElem? (i := 1) rfl)
  have iX8 : ∀ w ∈ wsX80, w ∈ wsX8_isLitBehind := fun _ h => List.mem_cons_of_mem _ (List.mem_append_right _ h)
  have f31 := hts (.fieldLink RX8 31 "PillarLightModel" "each" "[I") (List.mem_of_getElem? (i := 2) rfl)
  refine startW (fun H locs hP hS => ?_) hP hS
  refine lv_iconst (v := 0) hx hb dX8_isLitBehind_0 (by decide) ?_
  refine lv_istore_n (lv' := [(2, .int 0), (0, .ref aM), (1, .int sp)]) hx hb dX8_isLitBehind_1 rfl hl (by decide) rfl (fun ls hl => ?_)
  refine lv_iconst (v := 0) hx hb dX8_isLitBehind_2 (by decide) ?_
  refine lv_istore_n (lv' := [(3, .int 0), (2, .int 0), (0, .ref aM), (1, .int sp)]) hx hb dX8_isLitBehind_3 rfl hl (by decide) rfl (fun ls hl => ?_)
  refine loopW (σ := Bool) 4 (f_X8_isLitBehind_4 RO EA sp) 64 false (fun k1 t2 H locs ls => va_P D vwCl [(aM, .inr (7, [.ref aRo, .ref aHi, .int ms, .ref aSn, .int (bI sv), .ref aAs, .ref aLg, .ref aPd, .int ml, .ref aCo, .ref aEa])), (aRo, .inl (y4.1, 151, .inl RO)), (aEa, .inl (y4.1, 384, .inl EA))] H ∧ va_D A [(aM, .inr (7, [.ref aRo, .ref aHi, .int ms, .ref aSn, .int (bI sv), .ref aAs, .ref aLg, .ref aPd, .int ml, .ref aCo, .ref aEa])), (aRo, .inl (y4.1, 151, .inl RO)), (aEa, .inl (y4.1, 384, .inl EA))] ∧ va_S A s.heap H locs ∧ lv_has ls 6 [(3, .int (nI k1)), (2, .int (bI t2)), (0, .ref aM), (1, .int sp)]) ⟨hP, hD, hS, lv_sub hl [0, 1, 2, 3] rfl⟩ (fun t31 H locs ls et31 hh => ?_) (fun k1 t2 hkk1 hek1 ihk1 H locs ls hh => ?_)
  · obtain ⟨hP, hD, hS, hl⟩ := hh
    have hP : va_P D vwCl [(aM, .inr (7, [.ref aRo, .ref aHi, .int ms, .ref aSn, .int (bI sv), .ref aAs, .ref aLg, .ref aPd, .int ml, .ref aCo, .ref aEa])), (aRo, .inl (y4.1, 151, .inl RO)), (aEa, .inl (y4.1, 384, .inl EA))] H := hP
    have hD : va_D A [(aM, .inr (7, [.ref aRo, .ref aHi, .int ms, .ref aSn, .int (bI sv), .ref aAs, .ref aLg, .ref aPd, .int ml, .ref aCo, .ref aEa])), (aRo, .inl (y4.1, 151, .inl RO)), (aEa, .inl (y4.1, 384, .inl EA))] := hD
    have hl : lv_has ls 6 [(3, .int (nI 64)), (2, .int (bI t31)), (0, .ref aM), (1, .int sp)] := hl
    refine lv_iload_n hx hb dX8_isLitBehind_4 rfl (lv_at hl 0 rfl) ?_
    refine lv_bipush (v := 64) hx hb dX8_isLitBehind_5 (by decide) ?_
    refine lv_icmp_ge (tgt := 100) hx hb dX8_isLitBehind_7 (by decide) (fun c32 => ?_) (fun c32 => absurd (nI_le (a := 64) (by omega) (by omega)) c32)
    refine lv_iload_n hx hb dX8_isLitBehind_100 rfl (lv_at hl 1 rfl) ?_
    have em : m_X8_isLitBehind RO EA sp = t31 := (by subst et31; first | (simp only [m_X8_isLitBehind]; done) | (unfold m_X8_isLitBehind; rfl) | rfl)
    exact W.zret (v := bI t31) hx hb hr (bI_nar _) (fun t ht hW => ⟨⟨bI t31, (), rfl, (by rw [em]), ⟨by rw [ht]; exact hP, by exact hD⟩⟩, hS.F ht⟩) hS.2.2 dX8_isLitBehind_101
  · obtain ⟨hP, hD, hS, hl⟩ := hh
    have hP : va_P D vwCl [(aM, .inr (7, [.ref aRo, .ref aHi, .int ms, .ref aSn, .int (bI sv), .ref aAs, .ref aLg, .ref aPd, .int ml, .ref aCo, .ref aEa])), (aRo, .inl (y4.1, 151, .inl RO)), (aEa, .inl (y4.1, 384, .inl EA))] H := hP
    have hD : va_D A [(aM, .inr (7, [.ref aRo, .ref aHi, .int ms, .ref aSn, .int (bI sv), .ref aAs, .ref aLg, .ref aPd, .int ml, .ref aCo, .ref aEa])), (aRo, .inl (y4.1, 151, .inl RO)), (aEa, .inl (y4.1, 384, .inl EA))] := hD
    have hl : lv_has ls 6 [(3, .int (nI k1)), (2, .int (bI t2)), (0, .ref aM), (1, .int sp)] := hl
    refine lv_iload_n hx hb dX8_isLitBehind_4 rfl (lv_at hl 0 rfl) ?_
    refine lv_bipush (v := 64) hx hb dX8_isLitBehind_5 (by decide) ?_
    refine lv_icmp_ge (tgt := 100) hx hb dX8_isLitBehind_7 (by decide) (fun c17 => absurd c17 (nI_ge (b := 64) (by omega) (by omega))) (fun c17 => ?_)
    refine lv_iconst (v := 0) hx hb dX8_isLitBehind_10 (by decide) ?_
    refine lv_istore (lv' := [(4, .int 0), (3, .int (nI k1)), (2, .int (bI t2)), (0, .ref aM), (1, .int sp)]) hx hb dX8_isLitBehind_11 hl (by decide) rfl (fun ls hl => ?_)
    refine lv_iconst (v := 0) hx hb dX8_isLitBehind_13 (by decide) ?_
    refine lv_istore (lv' := [(5, .int 0), (4, .int 0), (3, .int (nI k1)), (2, .int (bI t2)), (0, .ref aM), (1, .int sp)]) hx hb dX8_isLitBehind_14 hl (by decide) rfl (fun ls hl => ?_)
    refine loopW (σ := Int32) 16 (f_X8_isLitBehind_16 RO EA sp k1) ((RO 128).toNatClampNeg) (0 : Int32) (fun k18 t19 H locs ls => va_P D vwCl [(aM, .inr (7, [.ref aRo, .ref aHi, .int ms, .ref aSn, .int (bI sv), .ref aAs, .ref aLg, .ref aPd, .int ml, .ref aCo, .ref aEa])), (aRo, .inl (y4.1, 151, .inl RO)), (aEa, .inl (y4.1, 384, .inl EA))] H ∧ va_D A [(aM, .inr (7, [.ref aRo, .ref aHi, .int ms, .ref aSn, .int (bI sv), .ref aAs, .ref aLg, .ref aPd, .int ml, .ref aCo, .ref aEa])), (aRo, .inl (y4.1, 151, .inl RO)), (aEa, .inl (y4.1, 384, .inl EA))] ∧ va_S A s.heap H locs ∧ lv_has ls 6 [(5, .int (nI k18)), (4, .int t19), (3, .int (nI k1)), (2, .int (bI t2)), (0, .ref aM), (1, .int sp)]) ⟨hP, hD, hS, lv_sub hl [0, 1, 2, 3, 4, 5] rfl⟩ (fun t26 H locs ls et26 hh => ?_) (fun k18 t19 hkk18 hek18 ihk18 H locs ls hh => ?_)
    · obtain ⟨hP, hD, hS, hl⟩ := hh
      have hP : va_P D vwCl [(aM, .inr (7, [.ref aRo, .ref aHi, .int ms, .ref aSn, .int (bI sv), .ref aAs, .ref aLg, .ref aPd, .int ml, .ref aCo, .ref aEa])), (aRo, .inl (y4.1, 151, .inl RO)), (aEa, .inl (y4.1, 384, .inl EA))] H := hP
      have hD : va_D A [(aM, .inr (7, [.ref aRo, .ref aHi, .int ms, .ref aSn, .int (bI sv), .ref aAs, .ref aLg, .ref aPd, .int ml, .ref aCo, .ref aEa])), (aRo, .inl (y4.1, 151, .inl RO)), (aEa, .inl (y4.1, 384, .inl EA))] := hD
      have hl : lv_has ls 6 [(5, .int (nI ((RO 128).toNatClampNeg))), (4, .int t26), (3, .int (nI k1)), (2, .int (bI t2)), (0, .ref aM), (1, .int sp)] := hl
      refine lv_iload hx hb dX8_isLitBehind_16 (lv_at hl 0 rfl) ?_
      refine lv_aload_n hx hb dX8_isLitBehind_18 rfl (lv_at hl 4 rfl) ?_
      refine va_get (ci := 7) (v := .ref aRo) (C := RX8) (T := TX8) (N := 11) hx hb hts iX8 hown hK hP 0 rfl rfl 0 (by decide) f7 (fun _ h9 => h9) rfl dX8_isLitBehind_19 ?_
      refine lv_sipush (v := 128) hx hb dX8_isLitBehind_22 (by decide) ?_
      refine va_iald hx hb hK hP 1 0 rfl rfl (vp_in_nI (n := 128) (by decide) (by decide)) dX8_isLitBehind_25 ?_
      refine W.ofeqi (y := RO 128) (congrArg RO (by decide : (128 : Int32).toNatClampNeg = 128)) ?_
      refine lv_icmp_ge (tgt := 71) hx hb dX8_isLitBehind_26 (by decide) (fun c27 => ?_) (fun c27 => absurd (cl_le hM.1 (by omega) (by have := cl_lt hM.1; omega)) c27)
      refine lv_iload_n hx hb dX8_isLitBehind_71 rfl (lv_at hl 3 rfl) ?_
      refine cutW (X := Bool) 93 (fun x H locs ls => x = (if t2 = false then (if t26 < (RO 149) then false else true) else true) ∧ va_P D vwCl [(aM, .inr (7, [.ref aRo, .ref aHi, .int ms, .ref aSn, .int (bI sv), .ref aAs, .ref aLg, .ref aPd, .int ml, .ref aCo, .ref aEa])), (aRo, .inl (y4.1, 151, .inl RO)), (aEa, .inl (y4.1, 384, .inl EA))] H ∧ va_D A [(aM, .inr (7, [.ref aRo, .ref aHi, .int ms, .ref aSn, .int (bI sv), .ref aAs, .ref aLg, .ref aPd, .int ml, .ref aCo, .ref aEa])), (aRo, .inl (y4.1, 151, .inl RO)), (aEa, .inl (y4.1, 384, .inl EA))] ∧ va_S A s.heap H locs ∧ lv_has ls 6 [(3, .int (nI k1)), (0, .ref aM), (1, .int sp)]) (fun x => [.int (bI x)]) ?_ (fun K93 => ?_)
      · rintro v30 H locs ls ⟨ev30, hP, hD, hS, hl⟩
        have ev30 : v30 = (if t2 = false then (if t26 < (RO 149) then false else true) else true) := ev30
        have hP : va_P D vwCl [(aM, .inr (7, [.ref aRo, .ref aHi, .int ms, .ref aSn, .int (bI sv), .ref aAs, .ref aLg, .ref aPd, .int ml, .ref aCo, .ref aEa])), (aRo, .inl (y4.1, 151, .inl RO)), (aEa, .inl (y4.1, 384, .inl EA))] H := hP
        have hD : va_D A [(aM, .inr (7, [.ref aRo, .ref aHi, .int ms, .ref aSn, .int (bI sv), .ref aAs, .ref aLg, .ref aPd, .int ml, .ref aCo, .ref aEa])), (aRo, .inl (y4.1, 151, .inl RO)), (aEa, .inl (y4.1, 384, .inl EA))] := hD
        have hl : lv_has ls 6 [(3, .int (nI k1)), (0, .ref aM), (1, .int sp)] := hl
        refine lv_istore_n (lv' := [(2, .int (bI v30)), (3, .int (nI k1)), (0, .ref aM), (1, .int sp)]) hx hb dX8_isLitBehind_93 rfl hl (by decide) rfl (fun ls hl => ?_)
        refine lv_iinc (v := nI (k1 + 1)) (lv' := [(3, .int (nI (k1 + 1))), (2, .int (bI v30)), (0, .ref aM), (1, .int sp)]) hx hb dX8_isLitBehind_94 hl (k := 1) rfl (nI_1 _) (by decide) rfl (fun ls hl => ?_)
        refine lv_goto (tgt := 4) hx hb dX8_isLitBehind_97 (by decide) ?_
        have ef : (f_X8_isLitBehind_4 RO EA sp) k1 t2 = v30 := (by subst ev30 et26; first | (simp only [f_X8_isLitBehind_4]; done) | (unfold f_X8_isLitBehind_4; rfl) | rfl)
        rw [ef] at ihk1
        exact ihk1 H locs ls ⟨hP, hD, hS, lv_sub hl [0, 1, 2, 3] rfl⟩
      · refine lb_if_ne (tgt := 88) hx hb dX8_isLitBehind_72 (by decide) (fun c28 => ?_) (fun c28 => ?_)
        · refine lv_iconst (v := 1) hx hb dX8_isLitBehind_88 (by decide) ?_
          refine lv_goto (tgt := 93) hx hb dX8_isLitBehind_89 (by decide) ?_
          exact K93 true H locs ls ⟨(by subst et26; first | (simp only [if_neg c28]; done) | (simp only [if_neg c28]; rfl) | rfl), hP, hD, hS, lv_sub hl [2, 4, 5] rfl⟩
        · refine lv_iload hx hb dX8_isLitBehind_75 (lv_at hl 1 rfl) ?_
          refine lv_aload_n hx hb dX8_isLitBehind_77 rfl (lv_at hl 4 rfl) ?_
          refine va_get (ci := 7) (v := .ref aRo) (C := RX8) (T := TX8) (N := 11) hx hb hts iX8 hown hK hP 0 rfl rfl 0 (by decide) f7 (fun _ h9 => h9) rfl dX8_isLitBehind_78 ?_
          refine lv_sipush (v := 149) hx hb dX8_isLitBehind_81 (by decide) ?_
          refine va_iald hx hb hK hP 1 0 rfl rfl (vp_in_nI (n := 149) (by decide) (by decide)) dX8_isLitBehind_84 ?_
          refine W.ofeqi (y := RO 149) (congrArg RO (by decide : (149 : Int32).toNatClampNeg = 149)) ?_
          refine lv_icmp_lt (tgt := 92) hx hb dX8_isLitBehind_85 (by decide) (fun c29 => ?_) (fun c29 => ?_)
          · refine lv_iconst (v := 0) hx hb dX8_isLitBehind_92 (by decide) ?_
            exact K93 false H locs ls ⟨(by subst et26; first | (simp only [if_pos c28, if_pos c29]; done) | (simp only [if_pos c28, if_pos c29]; rfl) | rfl), hP, hD, hS, lv_sub hl [2, 4, 5] rfl⟩
          · refine lv_iconst (v := 1) hx hb dX8_isLitBehind_88 (by decide) ?_
            refine lv_goto (tgt := 93) hx hb dX8_isLitBehind_89 (by decide) ?_
            exact K93 true H locs ls ⟨(by subst et26; first | (simp only [if_pos c28, if_neg c29]; done) | (simp only [if_pos c28, if_neg c29]; rfl) | rfl), hP, hD, hS, lv_sub hl [2, 4, 5] rfl⟩
    · obtain ⟨hP, hD, hS, hl⟩ := hh
      have hP : va_P D vwCl [(aM, .inr (7, [.ref aRo, .ref aHi, .int ms, .ref aSn, .int (bI sv), .ref aAs, .ref aLg, .ref aPd, .int ml, .ref aCo, .ref aEa])), (aRo, .inl (y4.1, 151, .inl RO)), (aEa, .inl (y4.1, 384, .inl EA))] H := hP
      have hD : va_D A [(aM, .inr (7, [.ref aRo, .ref aHi, .int ms, .ref aSn, .int (bI sv), .ref aAs, .ref aLg, .ref aPd, .int ml, .ref aCo, .ref aEa])), (aRo, .inl (y4.1, 151, .inl RO)), (aEa, .inl (y4.1, 384, .inl EA))] := hD
      have hl : lv_has ls 6 [(5, .int (nI k18)), (4, .int t19), (3, .int (nI k1)), (2, .int (bI t2)), (0, .ref aM), (1, .int sp)] := hl
      refine lv_iload hx hb dX8_isLitBehind_16 (lv_at hl 0 rfl) ?_
      refine lv_aload_n hx hb dX8_isLitBehind_18 rfl (lv_at hl 4 rfl) ?_
      refine va_get (ci := 7) (v := .ref aRo) (C := RX8) (T := TX8) (N := 11) hx hb hts iX8 hown hK hP 0 rfl rfl 0 (by decide) f7 (fun _ h9 => h9) rfl dX8_isLitBehind_19 ?_
      refine lv_sipush (v := 128) hx hb dX8_isLitBehind_22 (by decide) ?_
      refine va_iald hx hb hK hP 1 0 rfl rfl (vp_in_nI (n := 128) (by decide) (by decide)) dX8_isLitBehind_25 ?_
      refine W.ofeqi (y := RO 128) (congrArg RO (by decide : (128 : Int32).toNatClampNeg = 128)) ?_
      refine lv_icmp_ge (tgt := 71) hx hb dX8_isLitBehind_26 (by decide) (fun c23 => absurd c23 (cl_ge hM.1 (by omega))) (fun c23 => ?_)
      refine lv_iload hx hb dX8_isLitBehind_29 (lv_at hl 1 rfl) ?_
      refine lv_aload_n hx hb dX8_isLitBehind_31 rfl (lv_at hl 4 rfl) ?_
      refine va_get (ci := 7) (v := .ref aRo) (C := RX8) (T := TX8) (N := 11) hx hb hts iX8 hown hK hP 0 rfl rfl 0 (by decide) f7 (fun _ h9 => h9) rfl dX8_isLitBehind_32 ?_
      refine lv_sipush (v := 141) hx hb dX8_isLitBehind_35 (by decide) ?_
      refine lv_iload hx hb dX8_isLitBehind_38 (lv_at hl 0 rfl) ?_
      refine lv_iadd hx hb dX8_isLitBehind_40 ?_
      refine va_iald hx hb hK hP 1 0 rfl rfl (off_in (cl_in hM.1 (by omega)) (by decide) (by decide) (by decide)) dX8_isLitBehind_41 ?_
      refine lv_iload_n hx hb dX8_isLitBehind_42 rfl (lv_at hl 5 rfl) ?_
      refine cutW (X := Int32) 62 (fun x H locs ls => x = (if (RO (141 + (nI k18)).toNatClampNeg) ≤ sp then (0 : Int32) else EA ((64 * (nI k18)) + (nI k1)).toNatClampNeg) ∧ va_P D vwCl [(aM, .inr (7, [.ref aRo, .ref aHi, .int ms, .ref aSn, .int (bI sv), .ref aAs, .ref aLg, .ref aPd, .int ml, .ref aCo, .ref aEa])), (aRo, .inl (y4.1, 151, .inl RO)), (aEa, .inl (y4.1, 384, .inl EA))] H ∧ va_D A [(aM, .inr (7, [.ref aRo, .ref aHi, .int ms, .ref aSn, .int (bI sv), .ref aAs, .ref aLg, .ref aPd, .int ml, .ref aCo, .ref aEa])), (aRo, .inl (y4.1, 151, .inl RO)), (aEa, .inl (y4.1, 384, .inl EA))] ∧ va_S A s.heap H locs ∧ lv_has ls 6 [(5, .int (nI k18)), (3, .int (nI k1)), (2, .int (bI t2)), (0, .ref aM), (1, .int sp)]) (fun x => [.int x, .int t19]) ?_ (fun K62 => ?_)
      · rintro v25 H locs ls ⟨ev25, hP, hD, hS, hl⟩
        have ev25 : v25 = (if (RO (141 + (nI k18)).toNatClampNeg) ≤ sp then (0 : Int32) else EA ((64 * (nI k18)) + (nI k1)).toNatClampNeg) := ev25
        have hP : va_P D vwCl [(aM, .inr (7, [.ref aRo, .ref aHi, .int ms, .ref aSn, .int (bI sv), .ref aAs, .ref aLg, .ref aPd, .int ml, .ref aCo, .ref aEa])), (aRo, .inl (y4.1, 151, .inl RO)), (aEa, .inl (y4.1, 384, .inl EA))] H := hP
        have hD : va_D A [(aM, .inr (7, [.ref aRo, .ref aHi, .int ms, .ref aSn, .int (bI sv), .ref aAs, .ref aLg, .ref aPd, .int ml, .ref aCo, .ref aEa])), (aRo, .inl (y4.1, 151, .inl RO)), (aEa, .inl (y4.1, 384, .inl EA))] := hD
        have hl : lv_has ls 6 [(5, .int (nI k18)), (3, .int (nI k1)), (2, .int (bI t2)), (0, .ref aM), (1, .int sp)] := hl
        refine lv_iadd hx hb dX8_isLitBehind_62 ?_
        refine lv_istore (lv' := [(4, .int (t19 + v25)), (5, .int (nI k18)), (3, .int (nI k1)), (2, .int (bI t2)), (0, .ref aM), (1, .int sp)]) hx hb dX8_isLitBehind_63 hl (by decide) rfl (fun ls hl => ?_)
        refine lv_iinc (v := nI (k18 + 1)) (lv' := [(5, .int (nI (k18 + 1))), (4, .int (t19 + v25)), (3, .int (nI k1)), (2, .int (bI t2)), (0, .ref aM), (1, .int sp)]) hx hb dX8_isLitBehind_65 hl (k := 1) rfl (nI_1 _) (by decide) rfl (fun ls hl => ?_)
        refine lv_goto (tgt := 16) hx hb dX8_isLitBehind_68 (by decide) ?_
        have ef : (f_X8_isLitBehind_16 RO EA sp k1) k18 t19 = t19 + v25 := (by subst ev25; first | (simp only [f_X8_isLitBehind_16]; done) | (unfold f_X8_isLitBehind_16; rfl) | rfl)
        rw [ef] at ihk18
        exact ihk18 H locs ls ⟨hP, hD, hS, lv_sub hl [0, 1, 2, 3, 4, 5] rfl⟩
      · refine lv_icmp_le (tgt := 61) hx hb dX8_isLitBehind_43 (by decide) (fun c24 => ?_) (fun c24 => ?_)
        · refine lv_iconst (v := 0) hx hb dX8_isLitBehind_61 (by decide) ?_
          exact K62 (0 : Int32) H locs ls ⟨(by first | (simp only [if_pos c24]; done) | (simp only [if_pos c24]; rfl) | rfl), hP, hD, hS, lv_sub hl [0, 2, 3, 4, 5] rfl⟩
        · refine lv_aload_n hx hb dX8_isLitBehind_46 rfl (lv_at hl 4 rfl) ?_
          refine va_get (ci := 7) (v := .ref aEa) (C := RX8) (T := TX8) (N := 11) hx hb hts iX8 hown hK hP 0 rfl rfl 10 (by decide) f31 (fun _ h9 => h9) rfl dX8_isLitBehind_47 ?_
          refine lv_bipush (v := 64) hx hb dX8_isLitBehind_50 (by decide) ?_
          refine lv_iload hx hb dX8_isLitBehind_52 (lv_at hl 0 rfl) ?_
          refine lv_imul hx hb dX8_isLitBehind_54 ?_
          refine lv_iload_n hx hb dX8_isLitBehind_55 rfl (lv_at hl 2 rfl) ?_
          refine lv_iadd hx hb dX8_isLitBehind_56 ?_
          refine va_iald hx hb hK hP 2 0 rfl rfl (ea_in (by have := cl_lt hM.1; omega) (by omega)) dX8_isLitBehind_57 ?_
          refine lv_goto (tgt := 62) hx hb dX8_isLitBehind_58 (by decide) ?_
          exact K62 (EA ((64 * (nI k18)) + (nI k1)).toNatClampNeg) H locs ls ⟨(by first | (simp only [if_neg c24]; done) | (simp only [if_neg c24]; rfl) | rfl), hP, hD, hS, lv_sub hl [0, 2, 3, 4, 5] rfl⟩
