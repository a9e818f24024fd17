theorem isLamp8 {RO : Nat → Int32} {j : Int32} (hb : 0 ≤ (RO 128).toInt ∧ (RO 128).toInt ≤ (6 : Nat)) (h : ¬ m_X8_isLamp RO j = false) : 0 ≤ j.toInt ∧ j.toInt < (RO 128).toInt := by
  unfold m_X8_isLamp m_X8_in at h
  by_cases h1 : j < 0
  · simp [h1] at h
  by_cases h2 : RO 128 - 1 < j
  · simp [h1, h2] at h
  · rw [Int32.lt_iff_toInt_lt] at h1 h2
    have e0 : (0 : Int32).toInt = 0 := by decide
    have e1 : (1 : Int32).toInt = 1 := by decide
    have h3 := Int32.toInt_sub (RO 128) 1
    have h4 : ((RO 128).toInt - (1 : Int32).toInt).bmod (2 ^ 32) = (RO 128).toInt - 1 := by
      rw [e1]; apply Int.bmod_eq_of_le <;> omega
    rw [h3, h4] at h2
    omega
theorem isLamp8_in {RO : Nat → Int32} {j : Int32} (hb : 0 ≤ (RO 128).toInt ∧ (RO 128).toInt ≤ (6 : Nat)) (h : ¬ m_X8_isLamp RO j = false) : vp_in j 6 := by
  have := isLamp8 hb h
  rw [vp_in_iff]; omega
/-- rows that differ only where neither lamps' count nor cells nor the walker lie -/
theorem MI_hi {RO t : Nat → Int32} (h : MI RO) (e : ∀ x : Nat, x = 128 ∨ (129 ≤ x ∧ x < 135) ∨ x = 147 → t x = RO x) : MI t := by
  obtain ⟨h1, h2, h3⟩ := h
  have e1 := e 128 (by omega)
  have e2 := e 147 (by omega)
  refine ⟨by rw [e1]; exact h1, fun i hi => ?_, by rw [e2]; exact h3⟩
  rw [e1] at hi
  have h6 := cl_lt h1
  have := h2 i hi
  rw [o129 i (by omega)] at this ⊢
  rw [e _ (by omega)]
  exact this
theorem MI_fuel {RO : Nat → Int32} (h : MI RO) {j : Int32} (hj : vp_in j 6) (v : Int32) : MI (upd RO (141 + j).toNatClampNeg v) := by
  obtain ⟨i, hi, rfl⟩ := vp_in_of hj (by decide)
  rw [o141 i hi]
  exact MI_hi h (fun x hx => pk_un (by omega))
theorem set_0 {w : Int32} (h : w = 0) : vp_in (149 + w) 151 ∧ (149 + w).toNatClampNeg = 149 := by
  subst h; exact ⟨vp_in_nI (n := 149) (by decide) (by decide), by decide⟩
theorem set_1 {w : Int32} (h : w = 1) : vp_in (149 + w) 151 ∧ (149 + w).toNatClampNeg = 150 := by
  subst h; exact ⟨vp_in_nI (n := 150) (by decide) (by decide), by decide⟩
theorem MI_set {RO : Nat → Int32} (h : MI RO) {w : Int32} (hw : w = 0 ∨ w = 1) (v : Int32) : MI (upd RO (149 + w).toNatClampNeg v) := by
  have : (149 + w).toNatClampNeg = 149 ∨ (149 + w).toNatClampNeg = 150 := hw.imp (fun e => (set_0 e).2) (fun e => (set_1 e).2)
  exact MI_hi h (fun x hx => pk_un (by omega))
theorem ro6 {b : Int32} (hb : 0 ≤ b.toInt ∧ b.toInt ≤ (6 : Nat)) (h : ¬ b = 6) : vp_in b 6 := by
  rw [vp_in_iff]
  have : b.toInt ≠ 6 := fun e => h (Int32.toInt_inj.mp (by rw [e]; decide))
  omega
theorem MI_add {RO : Nat → Int32} (h : MI RO) (h6 : ¬ RO 128 = 6) {c : Int32} (hc : vp_in c 64) (a f : Int32) :
    MI (upd (upd (upd (upd RO (129 + (RO 128)).toNatClampNeg c) (135 + (RO 128)).toNatClampNeg a) (141 + (RO 128)).toNatClampNeg f) 128 (((upd (upd (upd RO (129 + (RO 128)).toNatClampNeg c) (135 + (RO 128)).toNatClampNeg a) (141 + (RO 128)).toNatClampNeg f) 128) + 1)) := by
  obtain ⟨h1, h2, h3⟩ := h
  obtain ⟨m, hm, e⟩ := vp_in_of (ro6 h1 h6) (by decide)
  have e129 := o129 m hm
  rw [e] at h1 h2 ⊢
  rw [e129, o135 m hm, o141 m hm]
  have e128 : (upd (upd (upd RO (129 + m) c) (135 + m) a) (141 + m) f) 128 = nI m := by
    rw [pk_un (by omega), pk_un (by omega), pk_un (by omega)]; exact e
  rw [e128, nI_1]
  refine ⟨by rw [pk_us, nI_toInt (by omega)]; omega, fun i hi => ?_, ?_⟩
  · rw [pk_us, nI_clamp (by omega)] at hi
    rw [o129 i (by omega), pk_un (by omega), pk_un (by omega), pk_un (by omega)]
    by_cases q : i = m
    · subst q; rw [pk_us]; exact hc
    · rw [pk_un (by omega)]
      have := h2 i (by rw [nI_clamp (by omega)]; omega)
      rw [o129 i (by omega)] at this
      exact this
  · rw [pk_un (by omega), pk_un (by omega), pk_un (by omega), pk_un (by omega)]
    exact h3
def goS (RO : Nat → Int32) (di : Int32) : Nat → Int32 := upd (upd RO 147 (m_X8_next (RO 147) di)) 148 (((upd RO 147 (m_X8_next (RO 147) di)) 148) + 1)
def goI (RO : Nat → Int32) (di : Int32) (t : Nat → Int32) : Prop := ∀ x : Nat, x < 141 ∨ 147 ≤ x → t x = goS RO di x
theorem gi_128 {RO t : Nat → Int32} {di : Int32} (h : goI RO di t) : t 128 = RO 128 := by
  rw [h 128 (by omega)]; unfold goS; rw [pk_un (by omega), pk_un (by omega)]
theorem go_step {RO t : Nat → Int32} {di : Int32} (h : goI RO di t) {k : Nat} (hk : k < 6) (v : Int32) : goI RO di (upd t ((141 : Int32) + nI k).toNatClampNeg v) := by
  intro x hx
  rw [o141 k hk, pk_un (by omega)]
  exact h x hx
theorem MI_go {RO t : Nat → Int32} {di : Int32} (h : MI RO) (hn : vp_in (m_X8_next (RO 147) di) 64) (ht : goI RO di t) : MI t := by
  obtain ⟨h1, h2, h3⟩ := h
  have e1 := gi_128 ht
  have e2 : t 147 = m_X8_next (RO 147) di := by rw [ht 147 (by omega)]; unfold goS; rw [pk_un (by omega), pk_us]
  refine ⟨by rw [e1]; exact h1, fun i hi => ?_, by rw [e2]; exact hn⟩
  rw [e1] at hi
  have h6 := cl_lt h1
  have := h2 i hi
  rw [o129 i (by omega)] at this ⊢
  rw [ht _ (by omega)]
  unfold goS
  rw [pk_un (by omega), pk_un (by omega)]
  exact this

def f_X8_go_34 (k1 : Nat) (t2 : (Nat → Int32)) : (((Nat → Int32)) ⊕ ((Nat → Int32))) ⊕ ((Nat → Int32)) := (let v8 : Bool := (if (t2 (141 + (nI k1)).toNatClampNeg) ≤ 0 then false else true); (.inr (upd t2 (141 + (nI k1)).toNatClampNeg ((t2 (141 + (nI k1)).toNatClampNeg) - (bI v8)))))
def m_X8_go (RO : Nat → Int32) (di : Int32) : (Nat → Int32) := (lpr (lpx f_X8_go_34 ((RO 128).toNatClampNeg) 0 (upd (upd RO 147 (m_X8_next (RO 147) di)) 148 (((upd RO 147 (m_X8_next (RO 147) di)) 148) + 1))) id (fun t11 => (m_X8_remember t11)))
set_option maxHeartbeats 4000000 in
set_option maxRecDepth 100000 in
theorem met_X8_go (l : Launch) (D : va_G) (y4 : vT) (aM aRo aHi aSn aAs aLg aPd aCo aEa : Nat) (sz : Nat) (ms : Int32) (sv : Bool) (ml : Int32) (RO : Nat → Int32) (di : Int32) (hM : MI RO) (hgo : vp_in (m_X8_next (RO 147) di) 64) : Met l yX8_go wsX8_go ({ frames := 8, cells := 0, slots := 0, locals := 186 }) (va_Pc [.ref aM, .int di] (PreW D y4 [(aM, .inr (7, [.ref aRo, .ref aHi, .int ms, .ref aSn, .int (bI sv), .ref aAs, .ref aLg, .ref aPd, .int ml, .ref aCo, .ref aEa])), (aRo, .inl (y4.1, 151, .inl RO))] sz)) (va_Qv (fun (_ : Unit) => True) (fun _ t => PostW D (va_A [(aM, .inr (7, [.ref aRo, .ref aHi, .int ms, .ref aSn, .int (bI sv), .ref aAs, .ref aLg, .ref aPd, .int ml, .ref aCo, .ref aEa])), (aRo, .inl (y4.1, 151, .inl RO))] sz) [(aM, .inr (7, [.ref aRo, .ref aHi, .int ms, .ref aSn, .int (bI sv), .ref aAs, .ref aLg, .ref aPd, .int ml, .ref aCo, .ref aEa])), (aRo, .inl (y4.1, 151, .inl (m_X8_go RO di)))] t) (va_A [(aM, .inr (7, [.ref aRo, .ref aHi, .int ms, .ref aSn, .int (bI sv), .ref aAs, .ref aLg, .ref aPd, .int ml, .ref aCo, .ref aEa])), (aRo, .inl (y4.1, 151, .inl RO))] sz)) 0 0 (va_A [(aM, .inr (7, [.ref aRo, .ref aHi, .int ms, .ref aSn, .int (bI sv), .ref aAs, .ref aLg, .ref aPd, .int ml, .ref aCo, .ref aEa])), (aRo, .inl (y4.1, 151, .inl RO))] sz) := by
  refine Met.ofW (cc := cX8_go) (maxL := 3) (ret := none) (by decide) rfl ?_
  intro p e s m args below meth c s₁ B hml hv
  obtain ⟨rfl, hsz, hP, hK, hD0, hNW⟩ := hv
  have hx := B.exec
  have hb := B.bytes
  have hr := B.returns
  have hts := atoms_spec (ws := wsX8_go) B.pre
  have hown : s.vm.findClass RX8 = some m.cls := findClass_of_methodNamed B.named
  have hlocks := B.notSynchronized
  subst hsz
  have hD := hD0.self (sz := s.heap.size)
  generalize hAe : va_A [(aM, .inr (7, [.ref aRo, .ref aHi, .int ms, .ref aSn, .int (bI sv), .ref aAs, .ref aLg, .ref aPd, .int ml, .ref aCo, .ref aEa])), (aRo, .inl (y4.1, 151, .inl RO))] s.heap.size = A at hD ⊢
  have hA : ∀ q : Nat, s.heap.size ≤ q → A q := fun q h => by rw [← hAe]; exact Or.inr h
  have hS : va_S A s.heap s.heap [] := va_S.rf
  have hl := lv_entry ([.ref aM, .int di]) (n := 3) (Nat.le_of_ble_eq_true rfl)
  rw [lg_entry_eq]
  generalize (lg_sl ([.ref aM, .int di]) ++ List.replicate (3 - (lg_sl ([.ref aM, .int di])).length) Slot.unset).toArray = ls at hl ⊢
  have hl : lv_has ls 3 [(0, .ref aM), (1, .int di)] := hl
  have f7 := hts (.fieldLink RX8 7 "PillarLightModel" "row" "[I") (List.mem_of_getElem? (i := 1) rfl)
  have iX8 : ∀ w ∈ wsX80, w ∈ wsX8_go := fun _ h => List.mem_cons_of_mem _ (List.mem_append_right _ h)
  refine startW (fun H locs hP hS => ?_) hP hS
  refine lv_aload_n hx hb dX8_go_0 rfl (lv_at hl 0 rfl) ?_
  refine va_get (ci := 7) (v := .ref aRo) (C := RX8) (T := TX8) (N := 11) hx hb hts iX8 hown hK hP 0 rfl rfl 0 (by decide) f7 (fun _ h9 => h9) rfl dX8_go_1 ?_
  refine lv_sipush (v := 147) hx hb dX8_go_4 (by decide) ?_
  refine lv_aload_n hx hb dX8_go_7 rfl (lv_at hl 0 rfl) ?_
  refine va_get (ci := 7) (v := .ref aRo) (C := RX8) (T := TX8) (N := 11) hx hb hts iX8 hown hK hP 0 rfl rfl 0 (by decide) f7 (fun _ h9 => h9) rfl dX8_go_8 ?_
  refine lv_sipush (v := 147) hx hb dX8_go_11 (by decide) ?_
  refine va_iald hx hb hK hP 1 0 rfl rfl (vp_in_nI (n := 147) (by decide) (by decide)) dX8_go_14 ?_
  refine W.ofeqi (y := RO 147) (congrArg RO (by decide : (147 : Int32).toNatClampNeg = 147)) ?_
  refine lv_iload_n hx hb dX8_go_15 rfl (lv_at hl 1 rfl) ?_
  refine callK_i (va_runS (As := [.int (RO 147), .int di]) (rest := [.int 147, .ref aRo]) ⟨hx, hb, hml, hown, hts⟩ (met_X8_next l  (RO 147) di) (va_cwS 2 hts gX8_go_X8_next rfl rfl rfl (by decide +kernel) ⟨Nat.le_of_ble_eq_true rfl, Nat.le_of_ble_eq_true rfl⟩) ⟨preS_blind, fun U hU hW => ⟨rfl, trivial⟩⟩ rfl rfl hl.1 rfl (lv_room (Nat.le_of_ble_eq_true rfl)) dX8_go_16 ⟨Nat.zero_le _, Nat.zero_le _⟩) hP hS (fun r u H locs hw hP hS => ?_)
  subst hw
  refine va_iast hx hb hK hP hD hS 1 0 rfl rfl (vp_in_nI (n := 147) (by decide) (by decide)) dX8_go_19 (fun H locs hP hD hS => ?_)
  have hP : va_P D vwCl [(aM, .inr (7, [.ref aRo, .ref aHi, .int ms, .ref aSn, .int (bI sv), .ref aAs, .ref aLg, .ref aPd, .int ml, .ref aCo, .ref aEa])), (aRo, .inl (y4.1, 151, .inl (upd RO (147 : Int32).toNatClampNeg (m_X8_next (RO 147) di))))] H := hP
  have hD : va_D A [(aM, .inr (7, [.ref aRo, .ref aHi, .int ms, .ref aSn, .int (bI sv), .ref aAs, .ref aLg, .ref aPd, .int ml, .ref aCo, .ref aEa])), (aRo, .inl (y4.1, 151, .inl (upd RO (147 : Int32).toNatClampNeg (m_X8_next (RO 147) di))))] := hD
  rw [(by decide : (147 : Int32).toNatClampNeg = 147)] at hP hD
  refine lv_aload_n hx hb dX8_go_20 rfl (lv_at hl 0 rfl) ?_
  refine va_get (ci := 7) (v := .ref aRo) (C := RX8) (T := TX8) (N := 11) hx hb hts iX8 hown hK hP 0 rfl rfl 0 (by decide) f7 (fun _ h9 => h9) rfl dX8_go_21 ?_
  refine lv_sipush (v := 148) hx hb dX8_go_24 (by decide) ?_
  refine lv_dup2_11 hx hb dX8_go_27 rfl rfl ?_
  refine va_iald hx hb hK hP 1 0 rfl rfl (vp_in_nI (n := 148) (by decide) (by decide)) dX8_go_28 ?_
  refine W.ofeqi (y := (upd RO 147 (m_X8_next (RO 147) di)) 148) (congrArg (upd RO 147 (m_X8_next (RO 147) di)) (by decide : (148 : Int32).toNatClampNeg = 148)) ?_
  refine lv_iconst (v := 1) hx hb dX8_go_29 (by decide) ?_
  refine lv_iadd hx hb dX8_go_30 ?_
  refine va_iast hx hb hK hP hD hS 1 0 rfl rfl (vp_in_nI (n := 148) (by decide) (by decide)) dX8_go_31 (fun H locs hP hD hS => ?_)
  have hP : va_P D vwCl [(aM, .inr (7, [.ref aRo, .ref aHi, .int ms, .ref aSn, .int (bI sv), .ref aAs, .ref aLg, .ref aPd, .int ml, .ref aCo, .ref aEa])), (aRo, .inl (y4.1, 151, .inl (upd (upd RO 147 (m_X8_next (RO 147) di)) (148 : Int32).toNatClampNeg (((upd RO 147 (m_X8_next (RO 147) di)) 148) + 1))))] H := hP
  have hD : va_D A [(aM, .inr (7, [.ref aRo, .ref aHi, .int ms, .ref aSn, .int (bI sv), .ref aAs, .ref aLg, .ref aPd, .int ml, .ref aCo, .ref aEa])), (aRo, .inl (y4.1, 151, .inl (upd (upd RO 147 (m_X8_next (RO 147) di)) (148 : Int32).toNatClampNeg (((upd RO 147 (m_X8_next (RO 147) di)) 148) + 1))))] := hD
  rw [(by decide : (148 : Int32).toNatClampNeg = 148)] at hP hD
  refine lv_iconst (v := 0) hx hb dX8_go_32 (by decide) ?_
  refine lv_istore_n (lv' := [(2, .int 0), (0, .ref aM), (1, .int di)]) hx hb dX8_go_33 rfl hl (by decide) rfl (fun ls hl => ?_)
  refine cutW (X := (Nat → Int32)) 83 (fun x H locs ls => ((lpx f_X8_go_34 ((RO 128).toNatClampNeg) 0 (upd (upd RO 147 (m_X8_next (RO 147) di)) 148 (((upd RO 147 (m_X8_next (RO 147) di)) 148) + 1))) = .inl (.inr x) ∨ (lpx f_X8_go_34 ((RO 128).toNatClampNeg) 0 (upd (upd RO 147 (m_X8_next (RO 147) di)) 148 (((upd RO 147 (m_X8_next (RO 147) di)) 148) + 1))) = .inr x) ∧ (∃ kk : Nat, (fun _ t => goI RO di t) kk x) ∧ va_P D vwCl [(aM, .inr (7, [.ref aRo, .ref aHi, .int ms, .ref aSn, .int (bI sv), .ref aAs, .ref aLg, .ref aPd, .int ml, .ref aCo, .ref aEa])), (aRo, .inl (y4.1, 151, .inl x))] H ∧ va_D A [(aM, .inr (7, [.ref aRo, .ref aHi, .int ms, .ref aSn, .int (bI sv), .ref aAs, .ref aLg, .ref aPd, .int ml, .ref aCo, .ref aEa])), (aRo, .inl (y4.1, 151, .inl x))] ∧ va_S A s.heap H locs ∧ lv_has ls 3 [(0, .ref aM)]) (fun x => []) ?_ (fun K83 => ?_)
  · rintro t11 H locs ls ⟨et11, ⟨_, hIt11⟩, hP, hD, hS, hl⟩
    have hP : va_P D vwCl [(aM, .inr (7, [.ref aRo, .ref aHi, .int ms, .ref aSn, .int (bI sv), .ref aAs, .ref aLg, .ref aPd, .int ml, .ref aCo, .ref aEa])), (aRo, .inl (y4.1, 151, .inl t11))] H := hP
    have hD : va_D A [(aM, .inr (7, [.ref aRo, .ref aHi, .int ms, .ref aSn, .int (bI sv), .ref aAs, .ref aLg, .ref aPd, .int ml, .ref aCo, .ref aEa])), (aRo, .inl (y4.1, 151, .inl t11))] := hD
    have hl : lv_has ls 3 [(0, .ref aM)] := hl
    have hMt : MI t11 := MI_go hM hgo hIt11
    refine lv_aload_n hx hb dX8_go_83 rfl (lv_at hl 0 rfl) ?_
    refine callW_v (wr := []) (wn := fun u => [(aM, .inr (7, [.ref aRo, .ref aHi, .int ms, .ref aSn, .int (bI sv), .ref aAs, .ref aLg, .ref aPd, .int ml, .ref aCo, .ref aEa])), (aRo, .inl (y4.1, 151, .inl (m_X8_remember t11)))]) (va_runV (As := []) (rest := []) ⟨hx, hb, hml, hown, hts⟩ (met_X8_remember l D y4 aM aRo aHi aSn aAs aLg aPd aCo aEa H.size ms sv ml t11 (by assumption)) (cwV 0 hts gX8_go_X8_remember rfl rfl rfl (by decide +kernel) ⟨Nat.le_of_ble_eq_true rfl, Nat.le_of_ble_eq_true rfl⟩) ⟨preW_blind, va_recv hK hP (ci := 7) (q0 := 0) rfl rfl, preW_at (hP.sub (ws' := [(aM, .inr (7, [.ref aRo, .ref aHi, .int ms, .ref aSn, .int (bI sv), .ref aAs, .ref aLg, .ref aPd, .int ml, .ref aCo, .ref aEa])), (aRo, .inl (y4.1, 151, .inl t11))]) [0, 1] rfl) hK (hD.sub (ws' := [(aM, .inr (7, [.ref aRo, .ref aHi, .int ms, .ref aSn, .int (bI sv), .ref aAs, .ref aLg, .ref aPd, .int ml, .ref aCo, .ref aEa])), (aRo, .inl (y4.1, 151, .inl t11))]) [0, 1] (by decide) rfl) hNW⟩ rfl rfl hl.1 rfl (lv_room (Nat.le_of_ble_eq_true rfl)) dX8_go_84 ⟨Nat.zero_le _, Nat.zero_le _⟩) hP hD hS hA [0, 1] [] [0, 1] rfl rfl (by decide) (by decide) (fun _ => rfl) (by decide) (fun u12 H locs hw hP hD hS => ?_)
    have hP : va_P D vwCl [(aM, .inr (7, [.ref aRo, .ref aHi, .int ms, .ref aSn, .int (bI sv), .ref aAs, .ref aLg, .ref aPd, .int ml, .ref aCo, .ref aEa])), (aRo, .inl (y4.1, 151, .inl (m_X8_remember t11)))] H := hP
    have hD : va_D A [(aM, .inr (7, [.ref aRo, .ref aHi, .int ms, .ref aSn, .int (bI sv), .ref aAs, .ref aLg, .ref aPd, .int ml, .ref aCo, .ref aEa])), (aRo, .inl (y4.1, 151, .inl (m_X8_remember t11)))] := hD
    have em : m_X8_go RO di = (m_X8_remember t11) := (by first | (simp only [m_X8_go, lpr_k et11]; done) | (simp only [m_X8_go, lpr_k et11]; rfl))
    exact W.vret hx hb hr (fun t ht hW => ⟨⟨(), rfl, trivial, ⟨by rw [ht, em]; exact hP, by rw [em]; exact hD⟩⟩, hS.F ht⟩) hS.2.2 dX8_go_87
  · refine loopX (σ := (Nat → Int32)) (ρ := ((Nat → Int32)) ⊕ ((Nat → Int32))) 34 f_X8_go_34 (fun _ t => goI RO di t) ((RO 128).toNatClampNeg) 0 (upd (upd RO 147 (m_X8_next (RO 147) di)) 148 (((upd RO 147 (m_X8_next (RO 147) di)) 148) + 1)) (fun k1 t2 H locs ls => va_P D vwCl [(aM, .inr (7, [.ref aRo, .ref aHi, .int ms, .ref aSn, .int (bI sv), .ref aAs, .ref aLg, .ref aPd, .int ml, .ref aCo, .ref aEa])), (aRo, .inl (y4.1, 151, .inl t2))] H ∧ va_D A [(aM, .inr (7, [.ref aRo, .ref aHi, .int ms, .ref aSn, .int (bI sv), .ref aAs, .ref aLg, .ref aPd, .int ml, .ref aCo, .ref aEa])), (aRo, .inl (y4.1, 151, .inl t2))] ∧ va_S A s.heap H locs ∧ lv_has ls 3 [(2, .int (nI k1)), (0, .ref aM)]) (fun _ _ => rfl) ⟨hP, hD, hS, lv_sub hl [0, 1] rfl⟩ (fun t9 H locs ls et9 hit9 hh => ?_) (fun k1 t2 hkk1 hjk1 hik1 hretk1 ihk1 H locs ls hh => ?_)
    · obtain ⟨hP, hD, hS, hl⟩ := hh
      have hP : va_P D vwCl [(aM, .inr (7, [.ref aRo, .ref aHi, .int ms, .ref aSn, .int (bI sv), .ref aAs, .ref aLg, .ref aPd, .int ml, .ref aCo, .ref aEa])), (aRo, .inl (y4.1, 151, .inl t9))] H := hP
      have hD : va_D A [(aM, .inr (7, [.ref aRo, .ref aHi, .int ms, .ref aSn, .int (bI sv), .ref aAs, .ref aLg, .ref aPd, .int ml, .ref aCo, .ref aEa])), (aRo, .inl (y4.1, 151, .inl t9))] := hD
      have hl : lv_has ls 3 [(2, .int (nI (0 + (RO 128).toNatClampNeg))), (0, .ref aM)] := hl
      have hin : goI RO di t9 := hit9
      refine lv_iload_n hx hb dX8_go_34 rfl (lv_at hl 0 rfl) ?_
      refine lv_aload_n hx hb dX8_go_35 rfl (lv_at hl 1 rfl) ?_
      refine va_get (ci := 7) (v := .ref aRo) (C := RX8) (T := TX8) (N := 11) hx hb hts iX8 hown hK hP 0 rfl rfl 0 (by decide) f7 (fun _ h9 => h9) rfl dX8_go_36 ?_
      refine lv_sipush (v := 128) hx hb dX8_go_39 (by decide) ?_
      refine va_iald hx hb hK hP 1 0 rfl rfl (vp_in_nI (n := 128) (by decide) (by decide)) dX8_go_42 ?_
      refine W.ofeqi (y := t9 128) (congrArg t9 (by decide : (128 : Int32).toNatClampNeg = 128)) ?_
      refine lv_icmp_ge (tgt := 83) hx hb dX8_go_43 (by decide) (fun c10 => ?_) (fun c10 => absurd (by rw [gi_128 hin]; exact cl_le hM.1 (by omega) (by have := cl_lt hM.1; omega)) c10)
      exact K83 t9 H locs ls ⟨Or.inr et9, ⟨0 + (RO 128).toNatClampNeg, hit9⟩, hP, hD, hS, lv_sub hl [1] rfl⟩
    · obtain ⟨hP, hD, hS, hl⟩ := hh
      have hP : va_P D vwCl [(aM, .inr (7, [.ref aRo, .ref aHi, .int ms, .ref aSn, .int (bI sv), .ref aAs, .ref aLg, .ref aPd, .int ml, .ref aCo, .ref aEa])), (aRo, .inl (y4.1, 151, .inl t2))] H := hP
      have hD : va_D A [(aM, .inr (7, [.ref aRo, .ref aHi, .int ms, .ref aSn, .int (bI sv), .ref aAs, .ref aLg, .ref aPd, .int ml, .ref aCo, .ref aEa])), (aRo, .inl (y4.1, 151, .inl t2))] := hD
      have hl : lv_has ls 3 [(2, .int (nI k1)), (0, .ref aM)] := hl
      have hin : goI RO di t2 := hik1
      refine lv_iload_n hx hb dX8_go_34 rfl (lv_at hl 0 rfl) ?_
      refine lv_aload_n hx hb dX8_go_35 rfl (lv_at hl 1 rfl) ?_
      refine va_get (ci := 7) (v := .ref aRo) (C := RX8) (T := TX8) (N := 11) hx hb hts iX8 hown hK hP 0 rfl rfl 0 (by decide) f7 (fun _ h9 => h9) rfl dX8_go_36 ?_
      refine lv_sipush (v := 128) hx hb dX8_go_39 (by decide) ?_
      refine va_iald hx hb hK hP 1 0 rfl rfl (vp_in_nI (n := 128) (by decide) (by decide)) dX8_go_42 ?_
      refine W.ofeqi (y := t2 128) (congrArg t2 (by decide : (128 : Int32).toNatClampNeg = 128)) ?_
      refine lv_icmp_ge (tgt := 83) hx hb dX8_go_43 (by decide) (fun c6 => absurd c6 (by rw [gi_128 hin]; exact cl_ge hM.1 (by omega))) (fun c6 => ?_)
      refine lv_aload_n hx hb dX8_go_46 rfl (lv_at hl 1 rfl) ?_
      refine va_get (ci := 7) (v := .ref aRo) (C := RX8) (T := TX8) (N := 11) hx hb hts iX8 hown hK hP 0 rfl rfl 0 (by decide) f7 (fun _ h9 => h9) rfl dX8_go_47 ?_
      refine lv_sipush (v := 141) hx hb dX8_go_50 (by decide) ?_
      refine lv_iload_n hx hb dX8_go_53 rfl (lv_at hl 0 rfl) ?_
      refine lv_iadd hx hb dX8_go_54 ?_
      refine lv_dup2_11 hx hb dX8_go_55 rfl rfl ?_
      refine va_iald hx hb hK hP 1 0 rfl rfl (off_in (cl_in hM.1 (by omega)) (by decide) (by decide) (by decide)) dX8_go_56 ?_
      refine lv_aload_n hx hb dX8_go_57 rfl (lv_at hl 1 rfl) ?_
      refine va_get (ci := 7) (v := .ref aRo) (C := RX8) (T := TX8) (N := 11) hx hb hts iX8 hown hK hP 0 rfl rfl 0 (by decide) f7 (fun _ h9 => h9) rfl dX8_go_58 ?_
      refine lv_sipush (v := 141) hx hb dX8_go_61 (by decide) ?_
      refine lv_iload_n hx hb dX8_go_64 rfl (lv_at hl 0 rfl) ?_
      refine lv_iadd hx hb dX8_go_65 ?_
      refine va_iald hx hb hK hP 1 0 rfl rfl (off_in (cl_in hM.1 (by omega)) (by decide) (by decide) (by decide)) dX8_go_66 ?_
      refine cutW (X := Bool) 75 (fun x H locs ls => x = (if (t2 (141 + (nI k1)).toNatClampNeg) ≤ 0 then false else true) ∧ va_P D vwCl [(aM, .inr (7, [.ref aRo, .ref aHi, .int ms, .ref aSn, .int (bI sv), .ref aAs, .ref aLg, .ref aPd, .int ml, .ref aCo, .ref aEa])), (aRo, .inl (y4.1, 151, .inl t2))] H ∧ va_D A [(aM, .inr (7, [.ref aRo, .ref aHi, .int ms, .ref aSn, .int (bI sv), .ref aAs, .ref aLg, .ref aPd, .int ml, .ref aCo, .ref aEa])), (aRo, .inl (y4.1, 151, .inl t2))] ∧ va_S A s.heap H locs ∧ lv_has ls 3 [(2, .int (nI k1)), (0, .ref aM)]) (fun x => [.int (bI x), .int (t2 (141 + (nI k1)).toNatClampNeg), .int (141 + (nI k1)), .ref aRo]) ?_ (fun K75 => ?_)
      · rintro v8 H locs ls ⟨ev8, hP, hD, hS, hl⟩
        have ev8 : v8 = (if (t2 (141 + (nI k1)).toNatClampNeg) ≤ 0 then false else true) := ev8
        have hP : va_P D vwCl [(aM, .inr (7, [.ref aRo, .ref aHi, .int ms, .ref aSn, .int (bI sv), .ref aAs, .ref aLg, .ref aPd, .int ml, .ref aCo, .ref aEa])), (aRo, .inl (y4.1, 151, .inl t2))] H := hP
        have hD : va_D A [(aM, .inr (7, [.ref aRo, .ref aHi, .int ms, .ref aSn, .int (bI sv), .ref aAs, .ref aLg, .ref aPd, .int ml, .ref aCo, .ref aEa])), (aRo, .inl (y4.1, 151, .inl t2))] := hD
        have hl : lv_has ls 3 [(2, .int (nI k1)), (0, .ref aM)] := hl
        refine lv_isub hx hb dX8_go_75 ?_
        refine va_iast hx hb hK hP hD hS 1 0 rfl rfl (off_in (cl_in hM.1 (by omega)) (by decide) (by decide) (by decide)) dX8_go_76 (fun H locs hP hD hS => ?_)
        have hP : va_P D vwCl [(aM, .inr (7, [.ref aRo, .ref aHi, .int ms, .ref aSn, .int (bI sv), .ref aAs, .ref aLg, .ref aPd, .int ml, .ref aCo, .ref aEa])), (aRo, .inl (y4.1, 151, .inl (upd t2 (141 + (nI k1)).toNatClampNeg ((t2 (141 + (nI k1)).toNatClampNeg) - (bI v8)))))] H := hP
        have hD : va_D A [(aM, .inr (7, [.ref aRo, .ref aHi, .int ms, .ref aSn, .int (bI sv), .ref aAs, .ref aLg, .ref aPd, .int ml, .ref aCo, .ref aEa])), (aRo, .inl (y4.1, 151, .inl (upd t2 (141 + (nI k1)).toNatClampNeg ((t2 (141 + (nI k1)).toNatClampNeg) - (bI v8)))))] := hD
        refine lv_iinc (v := nI (k1 + 1)) (lv' := [(2, .int (nI (k1 + 1))), (0, .ref aM)]) hx hb dX8_go_77 hl (k := 0) rfl (nI_1 _) (by decide) rfl (fun ls hl => ?_)
        refine lv_goto (tgt := 34) hx hb dX8_go_80 (by decide) ?_
        have ef : f_X8_go_34 k1 t2 = .inr (upd t2 (141 + (nI k1)).toNatClampNeg ((t2 (141 + (nI k1)).toNatClampNeg) - (bI v8))) := (by subst ev8; first | (simp only [f_X8_go_34]; done) | (unfold f_X8_go_34; rfl) | rfl)
        exact ihk1 _ ef (go_step hik1 (by have := cl_lt hM.1; omega) _) H locs ls ⟨hP, hD, hS, lv_sub hl [0, 1] rfl⟩
      · refine lv_if_le (tgt := 74) hx hb dX8_go_67 (by decide) (fun c7 => ?_) (fun c7 => ?_)
        · refine lv_iconst (v := 0) hx hb dX8_go_74 (by decide) ?_
          exact K75 false H locs ls ⟨(by first | (simp only [if_pos c7]; done) | (simp only [if_pos c7]; rfl) | rfl), hP, hD, hS, lv_sub hl [0, 1] rfl⟩
        · refine lv_iconst (v := 1) hx hb dX8_go_70 (by decide) ?_
          refine lv_goto (tgt := 75) hx hb dX8_go_71 (by decide) ?_
          exact K75 true H locs ls ⟨(by first | (simp only [if_neg c7]; done) | (simp only [if_neg c7]; rfl) | rfl), hP, hD, hS, lv_sub hl [0, 1] rfl⟩
def m_X8_put (ms : Int32) (RO : Nat → Int32) (HI : Nat → Int32) (ce : Int32) (kd : Int32) : Int32 × Int32 × (Nat → Int32) × (Nat → Int32) := (if (m_X8_isCell ce) = false then ((-1 : Int32), ms, RO, HI) else (if (m_X8_in kd 0 3) = false then ((-1 : Int32), ms, RO, HI) else (if (m_X8_mayPut RO ce kd) = false then ((-2 : Int32), ms, RO, HI) else (RO (0 + ce).toNatClampNeg, (m_X8_record ms RO HI).1, (m_X8_remember (m_X8_lay RO ce kd)), (m_X8_record ms RO HI).2))))
set_option maxHeartbeats 4000000 in
set_option maxRecDepth 100000 in
theorem met_X8_put (l : Launch) (D : va_G) (y4 : vT) (aM aRo aHi aSn aAs aLg aPd aCo aEa : Nat) (sz : Nat) (ms : Int32) (sv : Bool) (ml : Int32) (RO : Nat → Int32) (HI : Nat → Int32) (ce : Int32) (kd : Int32) (hM : MI RO) (hms : 0 ≤ ms.toInt ∧ ms.toInt ≤ (4 : Nat)) : Met l yX8_put wsX8_put ({ frames := 8, cells := 0, slots := 0, locals := 186 }) (va_Pc [.ref aM, .int ce, .int kd] (PreW D y4 [(aM, .inr (7, [.ref aRo, .ref aHi, .int ms, .ref aSn, .int (bI sv), .ref aAs, .ref aLg, .ref aPd, .int ml, .ref aCo, .ref aEa])), (aRo, .inl (y4.1, 151, .inl RO)), (aHi, .inl (y4.1, 604, .inl HI))] sz)) (va_Qi (fun (r : Int32) (_ : Unit) => r = (m_X8_put ms RO HI ce kd).1) (fun _ t => PostW D (va_A [(aM, .inr (7, [.ref aRo, .ref aHi, .int ms, .ref aSn, .int (bI sv), .ref aAs, .ref aLg, .ref aPd, .int ml, .ref aCo, .ref aEa])), (aRo, .inl (y4.1, 151, .inl RO)), (aHi, .inl (y4.1, 604, .inl HI))] sz) [(aM, .inr (7, [.ref aRo, .ref aHi, .int ((m_X8_put ms RO HI ce kd).2.1), .ref aSn, .int (bI sv), .ref aAs, .ref aLg, .ref aPd, .int ml, .ref aCo, .ref aEa])), (aRo, .inl (y4.1, 151, .inl ((m_X8_put ms RO HI ce kd).2.2.1))), (aHi, .inl (y4.1, 604, .inl ((m_X8_put ms RO HI ce kd).2.2.2)))] t) (va_A [(aM, .inr (7, [.ref aRo, .ref aHi, .int ms, .ref aSn, .int (bI sv), .ref aAs, .ref aLg, .ref aPd, .int ml, .ref aCo, .ref aEa])), (aRo, .inl (y4.1, 151, .inl RO)), (aHi, .inl (y4.1, 604, .inl HI))] sz)) 0 0 (va_A [(aM, .inr (7, [.ref aRo, .ref aHi, .int ms, .ref aSn, .int (bI sv), .ref aAs, .ref aLg, .ref aPd, .int ml, .ref aCo, .ref aEa])), (aRo, .inl (y4.1, 151, .inl RO)), (aHi, .inl (y4.1, 604, .inl HI))] sz) := by
  refine Met.ofW (cc := cX8_put) (maxL := 4) (ret := (some .int)) (by decide) rfl ?_
  intro p e s m args below meth c s₁ B hml hv
  obtain ⟨rfl, hsz, hP, hK, hD0, hNW⟩ := hv
  have hx := B.exec
  have hb := B.bytes
  have hr := B.returns
  have hts := atoms_spec (ws := wsX8_put) B.pre
  have hown : s.vm.findClass RX8 = some m.cls := findClass_of_methodNamed B.named
  have hlocks := B.notSynchronized
  subst hsz
  have hD := hD0.self (sz := s.heap.size)
  generalize hAe : va_A [(aM, .inr (7, [.ref aRo, .ref aHi, .int ms, .ref aSn, .int (bI sv), .ref aAs, .ref aLg, .ref aPd, .int ml, .ref aCo, .ref aEa])), (aRo, .inl (y4.1, 151, .inl RO)), (aHi, .inl (y4.1, 604, .inl HI))] s.heap.size = A at hD ⊢
  have hA : ∀ q : Nat, s.heap.size ≤ q → A q := fun q h => by rw [← hAe]; exact Or.inr h
  have hS : va_S A s.heap s.heap [] := va_S.rf
  have hl := lv_entry ([.ref aM, .int ce, .int kd]) (n := 4) (Nat.le_of_ble_eq_true rfl)
  rw [lg_entry_eq]
  generalize (lg_sl ([.ref aM, .int ce, .int kd]) ++ List.replicate (4 - (lg_sl ([.ref aM, .int ce, .int kd])).length) Slot.unset).toArray = ls at hl ⊢
  have hl : lv_has ls 4 [(0, .ref aM), (1, .int ce), (2, .int kd)] := hl
  have f7 := hts (.fieldLink RX8 7 "PillarLightModel" "row" "[I") (List.mem_of_getElem? (i := 1) rfl)
  have iX8 : ∀ w ∈ wsX80, w ∈ wsX8_put := fun _ h => List.mem_cons_of_mem _ (List.mem_append_right _ h)
  refine startW (fun H locs hP hS => ?_) hP hS
  refine lv_iload_n hx hb dX8_put_0 rfl (lv_at hl 1 rfl) ?_
  refine callK_i (va_runS (As := [.int ce]) (rest := []) ⟨hx, hb, hml, hown, hts⟩ (met_X8_isCell l  ce) (va_cwS 1 hts gX8_put_X8_isCell rfl rfl rfl (by decide +kernel) ⟨Nat.le_of_ble_eq_true rfl, Nat.le_of_ble_eq_true rfl⟩) ⟨preS_blind, fun U hU hW => ⟨rfl, trivial⟩⟩ rfl rfl hl.1 rfl (lv_room (Nat.le_of_ble_eq_true rfl)) dX8_put_1 ⟨Nat.zero_le _, Nat.zero_le _⟩) hP hS (fun r u H locs hw hP hS => ?_)
  subst hw
  refine lb_if_eq (tgt := 16) hx hb dX8_put_4 (by decide) (fun c1 => ?_) (fun c1 => ?_)
  · refine lv_iconst (v := (-1)) hx hb dX8_put_16 (by decide) ?_
    have em : m_X8_put ms RO HI ce kd = ((-1 : Int32), ms, RO, HI) := (by first | (simp only [m_X8_put, if_pos c1]; done) | (simp only [m_X8_put, if_pos c1]; rfl))
    exact W.iret (v := (-1)) hx hb hr (fun t ht hW => ⟨⟨(-1), (), rfl, (by rw [em]), ⟨by rw [ht, em]; exact hP, by rw [em]; exact hD⟩⟩, hS.F ht⟩) hS.2.2 dX8_put_17
  · refine lv_iload_n hx hb dX8_put_7 rfl (lv_at hl 2 rfl) ?_
    refine lv_iconst (v := 0) hx hb dX8_put_8 (by decide) ?_
    refine lv_iconst (v := 3) hx hb dX8_put_9 (by decide) ?_
    refine callK_i (va_runS (As := [.int kd, .int 0, .int 3]) (rest := []) ⟨hx, hb, hml, hown, hts⟩ (met_X8_in l  kd 0 3) (va_cwS 3 hts gX8_put_X8_in rfl rfl rfl (by decide +kernel) ⟨Nat.le_of_ble_eq_true rfl, Nat.le_of_ble_eq_true rfl⟩) ⟨preS_blind, fun U hU hW => ⟨rfl, trivial⟩⟩ rfl rfl hl.1 rfl (lv_room (Nat.le_of_ble_eq_true rfl)) dX8_put_10 ⟨Nat.zero_le _, Nat.zero_le _⟩) hP hS (fun r u H locs hw hP hS => ?_)
    subst hw
    refine lb_if_ne (tgt := 18) hx hb dX8_put_13 (by decide) (fun c2 => ?_) (fun c2 => ?_)
    · refine lv_aload_n hx hb dX8_put_18 rfl (lv_at hl 0 rfl) ?_
      refine lv_iload_n hx hb dX8_put_19 rfl (lv_at hl 1 rfl) ?_
      refine lv_iload_n hx hb dX8_put_20 rfl (lv_at hl 2 rfl) ?_
      refine callW_i (wr := [(aHi, .inl (y4.1, 604, .inl HI))]) (wn := fun u => [(aM, .inr (7, [.ref aRo, .ref aHi, .int ms, .ref aSn, .int (bI sv), .ref aAs, .ref aLg, .ref aPd, .int ml, .ref aCo, .ref aEa])), (aRo, .inl (y4.1, 151, .inl RO)), (aHi, .inl (y4.1, 604, .inl HI))]) (va_runV (As := [.int ce, .int kd]) (rest := []) ⟨hx, hb, hml, hown, hts⟩ (met_X8_mayPut l D y4 aM aRo aHi aSn aAs aLg aPd aCo aEa H.size ms sv ml RO ce kd) (cwV 2 hts gX8_put_X8_mayPut rfl rfl rfl (by decide +kernel) ⟨Nat.le_of_ble_eq_true rfl, Nat.le_of_ble_eq_true rfl⟩) ⟨preW_blind, va_recv hK hP (ci := 7) (q0 := 0) rfl rfl, preW_at (hP.sub (ws' := [(aM, .inr (7, [.ref aRo, .ref aHi, .int ms, .ref aSn, .int (bI sv), .ref aAs, .ref aLg, .ref aPd, .int ml, .ref aCo, .ref aEa])), (aRo, .inl (y4.1, 151, .inl RO))]) [0, 1] rfl) hK (hD.sub (ws' := [(aM, .inr (7, [.ref aRo, .ref aHi, .int ms, .ref aSn, .int (bI sv), .ref aAs, .ref aLg, .ref aPd, .int ml, .ref aCo, .ref aEa])), (aRo, .inl (y4.1, 151, .inl RO))]) [0, 1] (by decide) rfl) hNW⟩ rfl rfl hl.1 rfl (lv_room (Nat.le_of_ble_eq_true rfl)) dX8_put_21 ⟨Nat.zero_le _, Nat.zero_le _⟩) hP hD hS hA [0, 1] [2] [1, 2, 0] rfl rfl (by decide) (by decide) (fun _ => rfl) (by decide) (fun r u3 H locs hw hP hD hS => ?_)
      subst hw
      have hP : va_P D vwCl [(aM, .inr (7, [.ref aRo, .ref aHi, .int ms, .ref aSn, .int (bI sv), .ref aAs, .ref aLg, .ref aPd, .int ml, .ref aCo, .ref aEa])), (aRo, .inl (y4.1, 151, .inl RO)), (aHi, .inl (y4.1, 604, .inl HI))] H := hP
      have hD : va_D A [(aM, .inr (7, [.ref aRo, .ref aHi, .int ms, .ref aSn, .int (bI sv), .ref aAs, .ref aLg, .ref aPd, .int ml, .ref aCo, .ref aEa])), (aRo, .inl (y4.1, 151, .inl RO)), (aHi, .inl (y4.1, 604, .inl HI))] := hD
      refine lb_if_ne (tgt := 30) hx hb dX8_put_24 (by decide) (fun c4 => ?_) (fun c4 => ?_)
      · refine lv_aload_n hx hb dX8_put_30 rfl (lv_at hl 0 rfl) ?_
        refine callW_v (wr := []) (wn := fun u => [(aM, .inr (7, [.ref aRo, .ref aHi, .int ((m_X8_record ms RO HI).1), .ref aSn, .int (bI sv), .ref aAs, .ref aLg, .ref aPd, .int ml, .ref aCo, .ref aEa])), (aRo, .inl (y4.1, 151, .inl RO)), (aHi, .inl (y4.1, 604, .inl ((m_X8_record ms RO HI).2)))]) (va_runV (As := []) (rest := []) ⟨hx, hb, hml, hown, hts⟩ (met_X8_record l D y4 aM aRo aHi aSn aAs aLg aPd aCo aEa H.size ms sv ml RO HI hms) (cwV 0 hts gX8_put_X8_record rfl rfl rfl (by decide +kernel) ⟨Nat.le_of_ble_eq_true rfl, Nat.le_of_ble_eq_true rfl⟩) ⟨preW_blind, va_recv hK hP (ci := 7) (q0 := 0) rfl rfl, preW_at (hP.sub (ws' := [(aM, .inr (7, [.ref aRo, .ref aHi, .int ms, .ref aSn, .int (bI sv), .ref aAs, .ref aLg, .ref aPd, .int ml, .ref aCo, .ref aEa])), (aRo, .inl (y4.1, 151, .inl RO)), (aHi, .inl (y4.1, 604, .inl HI))]) [0, 1, 2] rfl) hK (hD.sub (ws' := [(aM, .inr (7, [.ref aRo, .ref aHi, .int ms, .ref aSn, .int (bI sv), .ref aAs, .ref aLg, .ref aPd, .int ml, .ref aCo, .ref aEa])), (aRo, .inl (y4.1, 151, .inl RO)), (aHi, .inl (y4.1, 604, .inl HI))]) [0, 1, 2] (by decide) rfl) hNW⟩ rfl rfl hl.1 rfl (lv_room (Nat.le_of_ble_eq_true rfl)) dX8_put_31 ⟨Nat.zero_le _, Nat.zero_le _⟩) hP hD hS hA [0, 1, 2] [] [0, 1, 2] rfl rfl (by decide) (by decide) (fun _ => rfl) (by decide) (fun u5 H locs hw hP hD hS => ?_)
        have hP : va_P D vwCl [(aM, .inr (7, [.ref aRo, .ref aHi, .int ((m_X8_record ms RO HI).1), .ref aSn, .int (bI sv), .ref aAs, .ref aLg, .ref aPd, .int ml, .ref aCo, .ref aEa])), (aRo, .inl (y4.1, 151, .inl RO)), (aHi, .inl (y4.1, 604, .inl ((m_X8_record ms RO HI).2)))] H := hP
        have hD : va_D A [(aM, .inr (7, [.ref aRo, .ref aHi, .int ((m_X8_record ms RO HI).1), .ref aSn, .int (bI sv), .ref aAs, .ref aLg, .ref aPd, .int ml, .ref aCo, .ref aEa])), (aRo, .inl (y4.1, 151, .inl RO)), (aHi, .inl (y4.1, 604, .inl ((m_X8_record ms RO HI).2)))] := hD
        refine lv_aload_n hx hb dX8_put_34 rfl (lv_at hl 0 rfl) ?_
        refine va_get (ci := 7) (v := .ref aRo) (C := RX8) (T := TX8) (N := 11) hx hb hts iX8 hown hK hP 0 rfl rfl 0 (by decide) f7 (fun _ h9 => h9) rfl dX8_put_35 ?_
        refine lv_iconst (v := 0) hx hb dX8_put_38 (by decide) ?_
        refine lv_iload_n hx hb dX8_put_39 rfl (lv_at hl 1 rfl) ?_
        refine lv_iadd hx hb dX8_put_40 ?_
        refine va_iald hx hb hK hP 1 0 rfl rfl (off_in (isCell8_in (by assumption)) (by decide) (by decide) (by decide)) dX8_put_41 ?_
        refine lv_istore_n (lv' := [(3, .int (RO (0 + ce).toNatClampNeg)), (0, .ref aM), (1, .int ce), (2, .int kd)]) hx hb dX8_put_42 rfl hl (by decide) rfl (fun ls hl => ?_)
        refine lv_aload_n hx hb dX8_put_43 rfl (lv_at hl 1 rfl) ?_
        refine lv_iload_n hx hb dX8_put_44 rfl (lv_at hl 2 rfl) ?_
        refine lv_iload_n hx hb dX8_put_45 rfl (lv_at hl 3 rfl) ?_
        refine callW_v (wr := [(aHi, .inl (y4.1, 604, .inl ((m_X8_record ms RO HI).2)))]) (wn := fun u => [(aM, .inr (7, [.ref aRo, .ref aHi, .int ((m_X8_record ms RO HI).1), .ref aSn, .int (bI sv), .ref aAs, .ref aLg, .ref aPd, .int ml, .ref aCo, .ref aEa])), (aRo, .inl (y4.1, 151, .inl (m_X8_lay RO ce kd))), (aHi, .inl (y4.1, 604, .inl ((m_X8_record ms RO HI).2)))]) (va_runV (As := [.int ce, .int kd]) (rest := []) ⟨hx, hb, hml, hown, hts⟩ (met_X8_lay l D y4 aM aRo aHi aSn aAs aLg aPd aCo aEa H.size ((m_X8_record ms RO HI).1) sv ml RO ce kd hM (isCell8_in (by assumption))) (cwV 2 hts gX8_put_X8_lay rfl rfl rfl (by decide +kernel) ⟨Nat.le_of_ble_eq_true rfl, Nat.le_of_ble_eq_true rfl⟩) ⟨preW_blind, va_recv hK hP (ci := 7) (q0 := 0) rfl rfl, preW_at (hP.sub (ws' := [(aM, .inr (7, [.ref aRo, .ref aHi, .int ((m_X8_record ms RO HI).1), .ref aSn, .int (bI sv), .ref aAs, .ref aLg, .ref aPd, .int ml, .ref aCo, .ref aEa])), (aRo, .inl (y4.1, 151, .inl RO))]) [0, 1] rfl) hK (hD.sub (ws' := [(aM, .inr (7, [.ref aRo, .ref aHi, .int ((m_X8_record ms RO HI).1), .ref aSn, .int (bI sv), .ref aAs, .ref aLg, .ref aPd, .int ml, .ref aCo, .ref aEa])), (aRo, .inl (y4.1, 151, .inl RO))]) [0, 1] (by decide) rfl) hNW⟩ rfl rfl hl.1 rfl (lv_room (Nat.le_of_ble_eq_true rfl)) dX8_put_46 ⟨Nat.zero_le _, Nat.zero_le _⟩) hP hD hS hA [0, 1] [2] [1, 2, 0] rfl rfl (by decide) (by decide) (fun _ => rfl) (by decide) (fun u6 H locs hw hP hD hS => ?_)
        have hP : va_P D vwCl [(aM, .inr (7, [.ref aRo, .ref aHi, .int ((m_X8_record ms RO HI).1), .ref aSn, .int (bI sv), .ref aAs, .ref aLg, .ref aPd, .int ml, .ref aCo, .ref aEa])), (aRo, .inl (y4.1, 151, .inl (m_X8_lay RO ce kd))), (aHi, .inl (y4.1, 604, .inl ((m_X8_record ms RO HI).2)))] H := hP
        have hD : va_D A [(aM, .inr (7, [.ref aRo, .ref aHi, .int ((m_X8_record ms RO HI).1), .ref aSn, .int (bI sv), .ref aAs, .ref aLg, .ref aPd, .int ml, .ref aCo, .ref aEa])), (aRo, .inl (y4.1, 151, .inl (m_X8_lay RO ce kd))), (aHi, .inl (y4.1, 604, .inl ((m_X8_record ms RO HI).2)))] := hD
        refine lv_aload_n hx hb dX8_put_49 rfl (lv_at hl 1 rfl) ?_
        refine callW_v (wr := [(aHi, .inl (y4.1, 604, .inl ((m_X8_record ms RO HI).2)))]) (wn := fun u => [(aM, .inr (7, [.ref aRo, .ref aHi, .int ((m_X8_record ms RO HI).1), .ref aSn, .int (bI sv), .ref aAs, .ref aLg, .ref aPd, .int ml, .ref aCo, .ref aEa])), (aRo, .inl (y4.1, 151, .inl (m_X8_remember (m_X8_lay RO ce kd)))), (aHi, .inl (y4.1, 604, .inl ((m_X8_record ms RO HI).2)))]) (va_runV (As := []) (rest := []) ⟨hx, hb, hml, hown, hts⟩ (met_X8_remember l D y4 aM aRo aHi aSn aAs aLg aPd aCo aEa H.size ((m_X8_record ms RO HI).1) sv ml (m_X8_lay RO ce kd) (MI_lay hM (isCell8_in (by assumption)))) (cwV 0 hts gX8_put_X8_remember rfl rfl rfl (by decide +kernel) ⟨Nat.le_of_ble_eq_true rfl, Nat.le_of_ble_eq_true rfl⟩) ⟨preW_blind, va_recv hK hP (ci := 7) (q0 := 0) rfl rfl, preW_at (hP.sub (ws' := [(aM, .inr (7, [.ref aRo, .ref aHi, .int ((m_X8_record ms RO HI).1), .ref aSn, .int (bI sv), .ref aAs, .ref aLg, .ref aPd, .int ml, .ref aCo, .ref aEa])), (aRo, .inl (y4.1, 151, .inl (m_X8_lay RO ce kd)))]) [0, 1] rfl) hK (hD.sub (ws' := [(aM, .inr (7, [.ref aRo, .ref aHi, .int ((m_X8_record ms RO HI).1), .ref aSn, .int (bI sv), .ref aAs, .ref aLg, .ref aPd, .int ml, .ref aCo, .ref aEa])), (aRo, .inl (y4.1, 151, .inl (m_X8_lay RO ce kd)))]) [0, 1] (by decide) rfl) hNW⟩ rfl rfl hl.1 rfl (lv_room (Nat.le_of_ble_eq_true rfl)) dX8_put_50 ⟨Nat.zero_le _, Nat.zero_le _⟩) hP hD hS hA [0, 1] [2] [1, 2, 0] rfl rfl (by decide) (by decide) (fun _ => rfl) (by decide) (fun u7 H locs hw hP hD hS => ?_)
        have hP : va_P D vwCl [(aM, .inr (7, [.ref aRo, .ref aHi, .int ((m_X8_record ms RO HI).1), .ref aSn, .int (bI sv), .ref aAs, .ref aLg, .ref aPd, .int ml, .ref aCo, .ref aEa])), (aRo, .inl (y4.1, 151, .inl (m_X8_remember (m_X8_lay RO ce kd)))), (aHi, .inl (y4.1, 604, .inl ((m_X8_record ms RO HI).2)))] H := hP
        have hD : va_D A [(aM, .inr (7, [.ref aRo, .ref aHi, .int ((m_X8_record ms RO HI).1), .ref aSn, .int (bI sv), .ref aAs, .ref aLg, .ref aPd, .int ml, .ref aCo, .ref aEa])), (aRo, .inl (y4.1, 151, .inl (m_X8_remember (m_X8_lay RO ce kd)))), (aHi, .inl (y4.1, 604, .inl ((m_X8_record ms RO HI).2)))] := hD
        refine lv_iload_n hx hb dX8_put_53 rfl (lv_at hl 0 rfl) ?_
        have em : m_X8_put ms RO HI ce kd = (RO (0 + ce).toNatClampNeg, (m_X8_record ms RO HI).1, (m_X8_remember (m_X8_lay RO ce kd)), (m_X8_record ms RO HI).2) := (by first | (simp only [m_X8_put, if_neg c1, if_neg c2, if_neg c4]; done) | (simp only [m_X8_put, if_neg c1, if_neg c2, if_neg c4]; rfl))
        exact W.iret (v := RO (0 + ce).toNatClampNeg) hx hb hr (fun t ht hW => ⟨⟨RO (0 + ce).toNatClampNeg, (), rfl, (by rw [em]), ⟨by rw [ht, em]; exact hP, by rw [em]; exact hD⟩⟩, hS.F ht⟩) hS.2.2 dX8_put_54
      · refine lv_bipush (v := (-2)) hx hb dX8_put_27 (by decide) ?_
        have em : m_X8_put ms RO HI ce kd = ((-2 : Int32), ms, RO, HI) := (by first | (simp only [m_X8_put, if_neg c1, if_neg c2, if_pos c4]; done) | (simp only [m_X8_put, if_neg c1, if_neg c2, if_pos c4]; rfl))
        exact W.iret (v := (-2)) hx hb hr (fun t ht hW => ⟨⟨(-2), (), rfl, (by rw [em]), ⟨by rw [ht, em]; exact hP, by rw [em]; exact hD⟩⟩, hS.F ht⟩) hS.2.2 dX8_put_29
    · refine lv_iconst (v := (-1)) hx hb dX8_put_16 (by decide) ?_
      have em : m_X8_put ms RO HI ce kd = ((-1 : Int32), ms, RO, HI) := (by first | (simp only [m_X8_put, if_neg c1, if_pos c2]; done) | (simp only [m_X8_put, if_neg c1, if_pos c2]; rfl))
      exact W.iret (v := (-1)) hx hb hr (fun t ht hW => ⟨⟨(-1), (), rfl, (by rw [em]), ⟨by rw [ht, em]; exact hP, by rw [em]; exact hD⟩⟩, hS.F ht⟩) hS.2.2 dX8_put_17
def m_X8_lamp (ms : Int32) (RO : Nat → Int32) (HI : Nat → Int32) (ce : Int32) (sr : Int32) (fu : Int32) : Int32 × Int32 × (Nat → Int32) × (Nat → Int32) := (if (m_X8_isCell ce) = false then ((-1 : Int32), ms, RO, HI) else (if (m_X8_in sr 1 9) = false then ((-1 : Int32), ms, RO, HI) else (if (m_X8_in fu 1 99) = false then ((-1 : Int32), ms, RO, HI) else (if (m_X8_mayShine RO ce) = false then ((-2 : Int32), ms, RO, HI) else (if (RO 128) = 6 then ((-3 : Int32), ms, RO, HI) else (RO 128, (m_X8_record ms RO HI).1, (m_X8_remember (upd (upd (upd (upd RO (129 + (RO 128)).toNatClampNeg ce) (135 + (RO 128)).toNatClampNeg sr) (141 + (RO 128)).toNatClampNeg fu) 128 (((upd (upd (upd RO (129 + (RO 128)).toNatClampNeg ce) (135 + (RO 128)).toNatClampNeg sr) (141 + (RO 128)).toNatClampNeg fu) 128) + 1))), (m_X8_record ms RO HI).2))))))
set_option maxHeartbeats 4000000 in
set_option maxRecDepth 100000 in
theorem met_X8_lamp (l : Launch) (D : va_G) (y4 : vT) (aM aRo aHi aSn aAs aLg aPd aCo aEa : Nat) (sz : Nat) (ms : Int32) (sv : Bool) (ml : Int32) (RO : Nat → Int32) (HI : Nat → Int32) (ce : Int32) (sr : Int32) (fu : Int32) (hM : MI RO) (hms : 0 ≤ ms.toInt ∧ ms.toInt ≤ (4 : Nat)) : Met l yX8_lamp wsX8_lamp ({ frames := 8, cells := 0, slots := 0, locals := 186 }) (va_Pc [.ref aM, .int ce, .int sr, .int fu] (PreW D y4 [(aM, .inr (7, [.ref aRo, .ref aHi, .int ms, .ref aSn, .int (bI sv), .ref aAs, .ref aLg, .ref aPd, .int ml, .ref aCo, .ref aEa])), (aRo, .inl (y4.1, 151, .inl RO)), (aHi, .inl (y4.1, 604, .inl HI))] sz)) (va_Qi (fun (r : Int32) (_ : Unit) => r = (m_X8_lamp ms RO HI ce sr fu).1) (fun _ t => PostW D (va_A [(aM, .inr (7, [.ref aRo, .ref aHi, .int ms, .ref aSn, .int (bI sv), .ref aAs, .ref aLg, .ref aPd, .int ml, .ref aCo, .ref aEa])), (aRo, .inl (y4.1, 151, .inl RO)), (aHi, .inl (y4.1, 604, .inl HI))] sz) [(aM, .inr (7, [.ref aRo, .ref aHi, .int ((m_X8_lamp ms RO HI ce sr fu).2.1), .ref aSn, .int (bI sv), .ref aAs, .ref aLg, .ref aPd, .int ml, .ref aCo, .ref aEa])), (aRo, .inl (y4.1, 151, .inl ((m_X8_lamp ms RO HI ce sr fu).2.2.1))), (aHi, .inl (y4.1, 604, .inl ((m_X8_lamp ms RO HI ce sr fu).2.2.2)))] t) (va_A [(aM, .inr (7, [.ref aRo, .ref aHi, .int ms, .ref aSn, .int (bI sv), .ref aAs, .ref aLg, .ref aPd, .int ml, .ref aCo, .ref aEa])), (aRo, .inl (y4.1, 151, .inl RO)), (aHi, .inl (y4.1, 604, .inl HI))] sz)) 0 0 (va_A [(aM, .inr (7, [.ref aRo, .ref aHi, .int ms, .ref aSn, .int (bI sv), .ref aAs, .ref aLg, .ref aPd, .int ml, .ref aCo, .ref aEa])), (aRo, .inl (y4.1, 151, .inl RO)), (aHi, .inl (y4.1, 604, .inl HI))] sz) := by
  refine Met.ofW (cc := cX8_lamp) (maxL := 5) (ret := (some .int)) (by decide) rfl ?_
  intro p e s m args below meth c s₁ B hml hv
  obtain ⟨rfl, hsz, hP, hK, hD0, hNW⟩ := hv
  have hx := B.exec
  have hb := B.bytes
  have hr := B.returns
  have hts := atoms_spec (ws := wsX8_lamp) B.pre
  have hown : s.vm.findClass RX8 = some m.cls := findClass_of_methodNamed B.named
  have hlocks := B.notSynchronized
  subst hsz
  have hD := hD0.self (sz := s.heap.size)
  generalize hAe : va_A [(aM, .inr (7, [.ref aRo, .ref aHi, .int ms, .ref aSn, .int (bI sv), .ref aAs, .ref aLg, .ref aPd, .int ml, .ref aCo, .ref aEa])), (aRo, .inl (y4.1, 151, .inl RO)), (aHi, .inl (y4.1, 604, .inl HI))] s.heap.size = A at hD ⊢
  have hA : ∀ q : Nat, s.heap.size ≤ q → A q := fun q h => by rw [← hAe]; exact Or.inr h
  have hS : va_S A s.heap s.heap [] := va_S.rf
  have hl := lv_entry ([.ref aM, .int ce, .int sr, .int fu]) (n := 5) (Nat.le_of_ble_eq_true rfl)
  rw [lg_entry_eq]
  generalize (lg_sl ([.ref aM, .int ce, .int sr, .int fu]) ++ List.replicate (5 - (lg_sl ([.ref aM, .int ce, .int sr, .int fu])).length) Slot.unset).toArray = ls at hl ⊢
  have hl : lv_has ls 5 [(0, .ref aM), (1, .int ce), (2, .int sr), (3, .int fu)] := hl
  have f7 := hts (.fieldLink RX8 7 "PillarLightModel" "row" "[I") (List.mem_of_getElem? (i := 1) rfl)
  have iX8 : ∀ w ∈ wsX80, w ∈ wsX8_lamp := fun _ h => List.mem_cons_of_mem _ (List.mem_append_right _ h)
  refine startW (fun H locs hP hS => ?_) hP hS
  refine lv_iload_n hx hb dX8_lamp_0 rfl (lv_at hl 1 rfl) ?_
  refine callK_i (va_runS (As := [.int ce]) (rest := []) ⟨hx, hb, hml, hown, hts⟩ (met_X8_isCell l  ce) (va_cwS 1 hts gX8_lamp_X8_isCell rfl rfl rfl (by decide +kernel) ⟨Nat.le_of_ble_eq_true rfl, Nat.le_of_ble_eq_true rfl⟩) ⟨preS_blind, fun U hU hW => ⟨rfl, trivial⟩⟩ rfl rfl hl.1 rfl (lv_room (Nat.le_of_ble_eq_true rfl)) dX8_lamp_1 ⟨Nat.zero_le _, Nat.zero_le _⟩) hP hS (fun r u H locs hw hP hS => ?_)
  subst hw
  refine lb_if_eq (tgt := 27) hx hb dX8_lamp_4 (by decide) (fun c1 => ?_) (fun c1 => ?_)
  · refine lv_iconst (v := (-1)) hx hb dX8_lamp_27 (by decide) ?_
    have em : m_X8_lamp ms RO HI ce sr fu = ((-1 : Int32), ms, RO, HI) := (by first | (simp only [m_X8_lamp, if_pos c1]; done) | (simp only [m_X8_lamp, if_pos c1]; rfl))
    exact W.iret (v := (-1)) hx hb hr (fun t ht hW => ⟨⟨(-1), (), rfl, (by rw [em]), ⟨by rw [ht, em]; exact hP, by rw [em]; exact hD⟩⟩, hS.F ht⟩) hS.2.2 dX8_lamp_28
  · refine lv_iload_n hx hb dX8_lamp_7 rfl (lv_at hl 2 rfl) ?_
    refine lv_iconst (v := 1) hx hb dX8_lamp_8 (by decide) ?_
    refine lv_bipush (v := 9) hx hb dX8_lamp_9 (by decide) ?_
    refine callK_i (va_runS (As := [.int sr, .int 1, .int 9]) (rest := []) ⟨hx, hb, hml, hown, hts⟩ (met_X8_in l  sr 1 9) (va_cwS 3 hts gX8_lamp_X8_in rfl rfl rfl (by decide +kernel) ⟨Nat.le_of_ble_eq_true rfl, Nat.le_of_ble_eq_true rfl⟩) ⟨preS_blind, fun U hU hW => ⟨rfl, trivial⟩⟩ rfl rfl hl.1 rfl (lv_room (Nat.le_of_ble_eq_true rfl)) dX8_lamp_11 ⟨Nat.zero_le _, Nat.zero_le _⟩) hP hS (fun r u H locs hw hP hS => ?_)
    subst hw
    refine lb_if_eq (tgt := 27) hx hb dX8_lamp_14 (by decide) (fun c2 => ?_) (fun c2 => ?_)
    · refine lv_iconst (v := (-1)) hx hb dX8_lamp_27 (by decide) ?_
      have em : m_X8_lamp ms RO HI ce sr fu = ((-1 : Int32), ms, RO, HI) := (by first | (simp only [m_X8_lamp, if_neg c1, if_pos c2]; done) | (simp only [m_X8_lamp, if_neg c1, if_pos c2]; rfl))
      exact W.iret (v := (-1)) hx hb hr (fun t ht hW => ⟨⟨(-1), (), rfl, (by rw [em]), ⟨by rw [ht, em]; exact hP, by rw [em]; exact hD⟩⟩, hS.F ht⟩) hS.2.2 dX8_lamp_28
    · refine lv_iload_n hx hb dX8_lamp_17 rfl (lv_at hl 3 rfl) ?_
      refine lv_iconst (v := 1) hx hb dX8_lamp_18 (by decide) ?_
      refine lv_bipush (v := 99) hx hb dX8_lamp_19 (by decide) ?_
      refine callK_i (va_runS (As := [.int fu, .int 1, .int 99]) (rest := []) ⟨hx, hb, hml, hown, hts⟩ (met_X8_in l  fu 1 99) (va_cwS 3 hts gX8_lamp_X8_in rfl rfl rfl (by decide +kernel) ⟨Nat.le_of_ble_eq_true rfl, Nat.le_of_ble_eq_true rfl⟩) ⟨preS_blind, fun U hU hW => ⟨rfl, trivial⟩⟩ rfl rfl hl.1 rfl (lv_room (Nat.le_of_ble_eq_true rfl)) dX8_lamp_21 ⟨Nat.zero_le _, Nat.zero_le _⟩) hP hS (fun r u H locs hw hP hS => ?_)
      subst hw
      refine lb_if_ne (tgt := 29) hx hb dX8_lamp_24 (by decide) (fun c3 => ?_) (fun c3 => ?_)
      · refine lv_aload_n hx hb dX8_lamp_29 rfl (lv_at hl 0 rfl) ?_
        refine lv_iload_n hx hb dX8_lamp_30 rfl (lv_at hl 1 rfl) ?_
        refine callW_i (wr := [(aHi, .inl (y4.1, 604, .inl HI))]) (wn := fun u => [(aM, .inr (7, [.ref aRo, .ref aHi, .int ms, .ref aSn, .int (bI sv), .ref aAs, .ref aLg, .ref aPd, .int ml, .ref aCo, .ref aEa])), (aRo, .inl (y4.1, 151, .inl RO)), (aHi, .inl (y4.1, 604, .inl HI))]) (va_runV (As := [.int ce]) (rest := []) ⟨hx, hb, hml, hown, hts⟩ (met_X8_mayShine l D y4 aM aRo aHi aSn aAs aLg aPd aCo aEa H.size ms sv ml RO ce hM (isCell8_in (by assumption))) (cwV 1 hts gX8_lamp_X8_mayShine rfl rfl rfl (by decide +kernel) ⟨Nat.le_of_ble_eq_true rfl, Nat.le_of_ble_eq_true rfl⟩) ⟨preW_blind, va_recv hK hP (ci := 7) (q0 := 0) rfl rfl, preW_at (hP.sub (ws' := [(aM, .inr (7, [.ref aRo, .ref aHi, .int ms, .ref aSn, .int (bI sv), .ref aAs, .ref aLg, .ref aPd, .int ml, .ref aCo, .ref aEa])), (aRo, .inl (y4.1, 151, .inl RO))]) [0, 1] rfl) hK (hD.sub (ws' := [(aM, .inr (7, [.ref aRo, .ref aHi, .int ms, .ref aSn, .int (bI sv), .ref aAs, .ref aLg, .ref aPd, .int ml, .ref aCo, .ref aEa])), (aRo, .inl (y4.1, 151, .inl RO))]) [0, 1] (by decide) rfl) hNW⟩ rfl rfl hl.1 rfl (lv_room (Nat.le_of_ble_eq_true rfl)) dX8_lamp_31 ⟨Nat.zero_le _, Nat.zero_le _⟩) hP hD hS hA [0, 1] [2] [1, 2, 0] rfl rfl (by decide) (by decide) (fun _ => rfl) (by decide) (fun r u4 H locs hw hP hD hS => ?_)
        subst hw
        have hP : va_P D vwCl [(aM, .inr (7, [.ref aRo, .ref aHi, .int ms, .ref aSn, .int (bI sv), .ref aAs, .ref aLg, .ref aPd, .int ml, .ref aCo, .ref aEa])), (aRo, .inl (y4.1, 151, .inl RO)), (aHi, .inl (y4.1, 604, .inl HI))] H := hP
        have hD : va_D A [(aM, .inr (7, [.ref aRo, .ref aHi, .int ms, .ref aSn, .int (bI sv), .ref aAs, .ref aLg, .ref aPd, .int ml, .ref aCo, .ref aEa])), (aRo, .inl (y4.1, 151, .inl RO)), (aHi, .inl (y4.1, 604, .inl HI))] := hD
        refine lb_if_ne (tgt := 40) hx hb dX8_lamp_34 (by decide) (fun c5 => ?_) (fun c5 => ?_)
        · refine lv_aload_n hx hb dX8_lamp_40 rfl (lv_at hl 0 rfl) ?_
          refine va_get (ci := 7) (v := .ref aRo) (C := RX8) (T := TX8) (N := 11) hx hb hts iX8 hown hK hP 0 rfl rfl 0 (by decide) f7 (fun _ h9 => h9) rfl dX8_lamp_41 ?_
          refine lv_sipush (v := 128) hx hb dX8_lamp_44 (by decide) ?_
          refine va_iald hx hb hK hP 1 0 rfl rfl (vp_in_nI (n := 128) (by decide) (by decide)) dX8_lamp_47 ?_
          refine W.ofeqi (y := RO 128) (congrArg RO (by decide : (128 : Int32).toNatClampNeg = 128)) ?_
          refine lv_bipush (v := 6) hx hb dX8_lamp_48 (by decide) ?_
          refine lv_icmp_ne (tgt := 56) hx hb dX8_lamp_50 (by decide) (fun c6 => ?_) (fun c6 => ?_)
          · refine lv_aload_n hx hb dX8_lamp_56 rfl (lv_at hl 0 rfl) ?_
            refine callW_v (wr := []) (wn := fun u => [(aM, .inr (7, [.ref aRo, .ref aHi, .int ((m_X8_record ms RO HI).1), .ref aSn, .int (bI sv), .ref aAs, .ref aLg, .ref aPd, .int ml, .ref aCo, .ref aEa])), (aRo, .inl (y4.1, 151, .inl RO)), (aHi, .inl (y4.1, 604, .inl ((m_X8_record ms RO HI).2)))]) (va_runV (As := []) (rest := []) ⟨hx, hb, hml, hown, hts⟩ (met_X8_record l D y4 aM aRo aHi aSn aAs aLg aPd aCo aEa H.size ms sv ml RO HI hms) (cwV 0 hts gX8_lamp_X8_record rfl rfl rfl (by decide +kernel) ⟨Nat.le_of_ble_eq_true rfl, Nat.le_of_ble_eq_true rfl⟩) ⟨preW_blind, va_recv hK hP (ci := 7) (q0 := 0) rfl rfl, preW_at (hP.sub (ws' := [(aM, .inr (7, [.ref aRo, .ref aHi, .int ms, .ref aSn, .int (bI sv), .ref aAs, .ref aLg, .ref aPd, .int ml, .ref aCo, .ref aEa])), (aRo, .inl (y4.1, 151, .inl RO)), (aHi, .inl (y4.1, 604, .inl HI))]) [0, 1, 2] rfl) hK (hD.sub (ws' := [(aM, .inr (7, [.ref aRo, .ref aHi, .int ms, .ref aSn, .int (bI sv), .ref aAs, .ref aLg, .ref aPd, .int ml, .ref aCo, .ref aEa])), (aRo, .inl (y4.1, 151, .inl RO)), (aHi, .inl (y4.1, 604, .inl HI))]) [0, 1, 2] (by decide) rfl) hNW⟩ rfl rfl hl.1 rfl (lv_room (Nat.le_of_ble_eq_true rfl)) dX8_lamp_57 ⟨Nat.zero_le _, Nat.zero_le _⟩) hP hD hS hA [0, 1, 2] [] [0, 1, 2] rfl rfl (by decide) (by decide) (fun _ => rfl) (by decide) (fun u7 H locs hw hP hD hS => ?_)
            have hP : va_P D vwCl [(aM, .inr (7, [.ref aRo, .ref aHi, .int ((m_X8_record ms RO HI).1), .ref aSn, .int (bI sv), .ref aAs, .ref aLg, .ref aPd, .int ml, .ref aCo, .ref aEa])), (aRo, .inl (y4.1, 151, .inl RO)), (aHi, .inl (y4.1, 604, .inl ((m_X8_record ms RO HI).2)))] H := hP
            have hD : va_D A [(aM, .inr (7, [.ref aRo, .ref aHi, .int ((m_X8_record ms RO HI).1), .ref aSn, .int (bI sv), .ref aAs, .ref aLg, .ref aPd, .int ml, .ref aCo, .ref aEa])), (aRo, .inl (y4.1, 151, .inl RO)), (aHi, .inl (y4.1, 604, .inl ((m_X8_record ms RO HI).2)))] := hD
            refine lv_aload_n hx hb dX8_lamp_60 rfl (lv_at hl 0 rfl) ?_
            refine va_get (ci := 7) (v := .ref aRo) (C := RX8) (T := TX8) (N := 11) hx hb hts iX8 hown hK hP 0 rfl rfl 0 (by decide) f7 (fun _ h9 => h9) rfl dX8_lamp_61 ?_
            refine lv_sipush (v := 128) hx hb dX8_lamp_64 (by decide) ?_
            refine va_iald hx hb hK hP 1 0 rfl rfl (vp_in_nI (n := 128) (by decide) (by decide)) dX8_lamp_67 ?_
            refine W.ofeqi (y := RO 128) (congrArg RO (by decide : (128 : Int32).toNatClampNeg = 128)) ?_
            refine lv_istore (lv' := [(4, .int (RO 128)), (0, .ref aM), (1, .int ce), (2, .int sr), (3, .int fu)]) hx hb dX8_lamp_68 hl (by decide) rfl (fun ls hl => ?_)
            refine lv_aload_n hx hb dX8_lamp_70 rfl (lv_at hl 1 rfl) ?_
            refine va_get (ci := 7) (v := .ref aRo) (C := RX8) (T := TX8) (N := 11) hx hb hts iX8 hown hK hP 0 rfl rfl 0 (by decide) f7 (fun _ h9 => h9) rfl dX8_lamp_71 ?_
            refine lv_sipush (v := 129) hx hb dX8_lamp_74 (by decide) ?_
            refine lv_iload hx hb dX8_lamp_77 (lv_at hl 0 rfl) ?_
            refine lv_iadd hx hb dX8_lamp_79 ?_
            refine lv_iload_n hx hb dX8_lamp_80 rfl (lv_at hl 2 rfl) ?_
            refine va_iast hx hb hK hP hD hS 1 0 rfl rfl (off_in (ro6 hM.1 (by assumption)) (by decide) (by decide) (by decide)) dX8_lamp_81 (fun H locs hP hD hS => ?_)
            have hP : va_P D vwCl [(aM, .inr (7, [.ref aRo, .ref aHi, .int ((m_X8_record ms RO HI).1), .ref aSn, .int (bI sv), .ref aAs, .ref aLg, .ref aPd, .int ml, .ref aCo, .ref aEa])), (aRo, .inl (y4.1, 151, .inl (upd RO (129 + (RO 128)).toNatClampNeg ce))), (aHi, .inl (y4.1, 604, .inl ((m_X8_record ms RO HI).2)))] H := hP
            have hD : va_D A [(aM, .inr (7, [.ref aRo, .ref aHi, .int ((m_X8_record ms RO HI).1), .ref aSn, .int (bI sv), .ref aAs, .ref aLg, .ref aPd, .int ml, .ref aCo, .ref aEa])), (aRo, .inl (y4.1, 151, .inl (upd RO (129 + (RO 128)).toNatClampNeg ce))), (aHi, .inl (y4.1, 604, .inl ((m_X8_record ms RO HI).2)))] := hD
            refine lv_aload_n hx hb dX8_lamp_82 rfl (lv_at hl 1 rfl) ?_
            refine va_get (ci := 7) (v := .ref aRo) (C := RX8) (T := TX8) (N := 11) hx hb hts iX8 hown hK hP 0 rfl rfl 0 (by decide) f7 (fun _ h9 => h9) rfl dX8_lamp_83 ?_
            refine lv_sipush (v := 135) hx hb dX8_lamp_86 (by decide) ?_
            refine lv_iload hx hb dX8_lamp_89 (lv_at hl 0 rfl) ?_
            refine lv_iadd hx hb dX8_lamp_91 ?_
            refine lv_iload_n hx hb dX8_lamp_92 rfl (lv_at hl 3 rfl) ?_
            refine va_iast hx hb hK hP hD hS 1 0 rfl rfl (off_in (ro6 hM.1 (by assumption)) (by decide) (by decide) (by decide)) dX8_lamp_93 (fun H locs hP hD hS => ?_)
            have hP : va_P D vwCl [(aM, .inr (7, [.ref aRo, .ref aHi, .int ((m_X8_record ms RO HI).1), .ref aSn, .int (bI sv), .ref aAs, .ref aLg, .ref aPd, .int ml, .ref aCo, .ref aEa])), (aRo, .inl (y4.1, 151, .inl (upd (upd RO (129 + (RO 128)).toNatClampNeg ce) (135 + (RO 128)).toNatClampNeg sr))), (aHi, .inl (y4.1, 604, .inl ((m_X8_record ms RO HI).2)))] H := hP
            have hD : va_D A [(aM, .inr (7, [.ref aRo, .ref aHi, .int ((m_X8_record ms RO HI).1), .ref aSn, .int (bI sv), .ref aAs, .ref aLg, .ref aPd, .int ml, .ref aCo, .ref aEa])), (aRo, .inl (y4.1, 151, .inl (upd (upd RO (129 + (RO 128)).toNatClampNeg ce) (135 + (RO 128)).toNatClampNeg sr))), (aHi, .inl (y4.1, 604, .inl ((m_X8_record ms RO HI).2)))] := hD
            refine lv_aload_n hx hb dX8_lamp_94 rfl (lv_at hl 1 rfl) ?_
            refine va_get (ci := 7) (v := .ref aRo) (C := RX8) (T := TX8) (N := 11) hx hb hts iX8 hown hK hP 0 rfl rfl 0 (by decide) f7 (fun _ h9 => h9) rfl dX8_lamp_95 ?_
            refine lv_sipush (v := 141) hx hb dX8_lamp_98 (by decide) ?_
            refine lv_iload hx hb dX8_lamp_101 (lv_at hl 0 rfl) ?_
            refine lv_iadd hx hb dX8_lamp_103 ?_
            refine lv_iload_n hx hb dX8_lamp_104 rfl (lv_at hl 4 rfl) ?_
            refine va_iast hx hb hK hP hD hS 1 0 rfl rfl (off_in (ro6 hM.1 (by assumption)) (by decide) (by decide) (by decide)) dX8_lamp_105 (fun H locs hP hD hS => ?_)
            have hP : va_P D vwCl [(aM, .inr (7, [.ref aRo, .ref aHi, .int ((m_X8_record ms RO HI).1), .ref aSn, .int (bI sv), .ref aAs, .ref aLg, .ref aPd, .int ml, .ref aCo, .ref aEa])), (aRo, .inl (y4.1, 151, .inl (upd (upd (upd RO (129 + (RO 128)).toNatClampNeg ce) (135 + (RO 128)).toNatClampNeg sr) (141 + (RO 128)).toNatClampNeg fu))), (aHi, .inl (y4.1, 604, .inl ((m_X8_record ms RO HI).2)))] H := hP
            have hD : va_D A [(aM, .inr (7, [.ref aRo, .ref aHi, .int ((m_X8_record ms RO HI).1), .ref aSn, .int (bI sv), .ref aAs, .ref aLg, .ref aPd, .int ml, .ref aCo, .ref aEa])), (aRo, .inl (y4.1, 151, .inl (upd (upd (upd RO (129 + (RO 128)).toNatClampNeg ce) (135 + (RO 128)).toNatClampNeg sr) (141 + (RO 128)).toNatClampNeg fu))), (aHi, .inl (y4.1, 604, .inl ((m_X8_record ms RO HI).2)))] := hD
            refine lv_aload_n hx hb dX8_lamp_106 rfl (lv_at hl 1 rfl) ?_
            refine va_get (ci := 7) (v := .ref aRo) (C := RX8) (T := TX8) (N := 11) hx hb hts iX8 hown hK hP 0 rfl rfl 0 (by decide) f7 (fun _ h9 => h9) rfl dX8_lamp_107 ?_
            refine lv_sipush (v := 128) hx hb dX8_lamp_110 (by decide) ?_
            refine lv_dup2_11 hx hb dX8_lamp_113 rfl rfl ?_
            refine va_iald hx hb hK hP 1 0 rfl rfl (vp_in_nI (n := 128) (by decide) (by decide)) dX8_lamp_114 ?_
            refine W.ofeqi (y := (upd (upd (upd RO (129 + (RO 128)).toNatClampNeg ce) (135 + (RO 128)).toNatClampNeg sr) (141 + (RO 128)).toNatClampNeg fu) 128) (congrArg (upd (upd (upd RO (129 + (RO 128)).toNatClampNeg ce) (135 + (RO 128)).toNatClampNeg sr) (141 + (RO 128)).toNatClampNeg fu) (by decide : (128 : Int32).toNatClampNeg = 128)) ?_
            refine lv_iconst (v := 1) hx hb dX8_lamp_115 (by decide) ?_
            refine lv_iadd hx hb dX8_lamp_116 ?_
            refine va_iast hx hb hK hP hD hS 1 0 rfl rfl (vp_in_nI (n := 128) (by decide) (by decide)) dX8_lamp_117 (fun H locs hP hD hS => ?_)
            have hP : va_P D vwCl [(aM, .inr (7, [.ref aRo, .ref aHi, .int ((m_X8_record ms RO HI).1), .ref aSn, .int (bI sv), .ref aAs, .ref aLg, .ref aPd, .int ml, .ref aCo, .ref aEa])), (aRo, .inl (y4.1, 151, .inl (upd (upd (upd (upd RO (129 + (RO 128)).toNatClampNeg ce) (135 + (RO 128)).toNatClampNeg sr) (141 + (RO 128)).toNatClampNeg fu) (128 : Int32).toNatClampNeg (((upd (upd (upd RO (129 + (RO 128)).toNatClampNeg ce) (135 + (RO 128)).toNatClampNeg sr) (141 + (RO 128)).toNatClampNeg fu) 128) + 1)))), (aHi, .inl (y4.1, 604, .inl ((m_X8_record ms RO HI).2)))] H := hP
            have hD : va_D A [(aM, .inr (7, [.ref aRo, .ref aHi, .int ((m_X8_record ms RO HI).1), .ref aSn, .int (bI sv), .ref aAs, .ref aLg, .ref aPd, .int ml, .ref aCo, .ref aEa])), (aRo, .inl (y4.1, 151, .inl (upd (upd (upd (upd RO (129 + (RO 128)).toNatClampNeg ce) (135 + (RO 128)).toNatClampNeg sr) (141 + (RO 128)).toNatClampNeg fu) (128 : Int32).toNatClampNeg (((upd (upd (upd RO (129 + (RO 128)).toNatClampNeg ce) (135 + (RO 128)).toNatClampNeg sr) (141 + (RO 128)).toNatClampNeg fu) 128) + 1)))), (aHi, .inl (y4.1, 604, .inl ((m_X8_record ms RO HI).2)))] := hD
            rw [(by decide : (128 : Int32).toNatClampNeg = 128)] at hP hD
            refine lv_aload_n hx hb dX8_lamp_118 rfl (lv_at hl 1 rfl) ?_
            refine callW_v (wr := [(aHi, .inl (y4.1, 604, .inl ((m_X8_record ms RO HI).2)))]) (wn := fun u => [(aM, .inr (7, [.ref aRo, .ref aHi, .int ((m_X8_record ms RO HI).1), .ref aSn, .int (bI sv), .ref aAs, .ref aLg, .ref aPd, .int ml, .ref aCo, .ref aEa])), (aRo, .inl (y4.1, 151, .inl (m_X8_remember (upd (upd (upd (upd RO (129 + (RO 128)).toNatClampNeg ce) (135 + (RO 128)).toNatClampNeg sr) (141 + (RO 128)).toNatClampNeg fu) 128 (((upd (upd (upd RO (129 + (RO 128)).toNatClampNeg ce) (135 + (RO 128)).toNatClampNeg sr) (141 + (RO 128)).toNatClampNeg fu) 128) + 1))))), (aHi, .inl (y4.1, 604, .inl ((m_X8_record ms RO HI).2)))]) (va_runV (As := []) (rest := []) ⟨hx, hb, hml, hown, hts⟩ (met_X8_remember l D y4 aM aRo aHi aSn aAs aLg aPd aCo aEa H.size ((m_X8_record ms RO HI).1) sv ml (upd (upd (upd (upd RO (129 + (RO 128)).toNatClampNeg ce) (135 + (RO 128)).toNatClampNeg sr) (141 + (RO 128)).toNatClampNeg fu) 128 (((upd (upd (upd RO (129 + (RO 128)).toNatClampNeg ce) (135 + (RO 128)).toNatClampNeg sr) (141 + (RO 128)).toNatClampNeg fu) 128) + 1)) (MI_add hM (by assumption) (isCell8_in (by assumption)) sr fu)) (cwV 0 hts gX8_lamp_X8_remember rfl rfl rfl (by decide +kernel) ⟨Nat.le_of_ble_eq_true rfl, Nat.le_of_ble_eq_true rfl⟩) ⟨preW_blind, va_recv hK hP (ci := 7) (q0 := 0) rfl rfl, preW_at (hP.sub (ws' := [(aM, .inr (7, [.ref aRo, .ref aHi, .int ((m_X8_record ms RO HI).1), .ref aSn, .int (bI sv), .ref aAs, .ref aLg, .ref aPd, .int ml, .ref aCo, .ref aEa])), (aRo, .inl (y4.1, 151, .inl (upd (upd (upd (upd RO (129 + (RO 128)).toNatClampNeg ce) (135 + (RO 128)).toNatClampNeg sr) (141 + (RO 128)).toNatClampNeg fu) 128 (((upd (upd (upd RO (129 + (RO 128)).toNatClampNeg ce) (135 + (RO 128)).toNatClampNeg sr) (141 + (RO 128)).toNatClampNeg fu) 128) + 1))))]) [0, 1] rfl) hK (hD.sub (ws' := [(aM, .inr (7, [.ref aRo, .ref aHi, .int ((m_X8_record ms RO HI).1), .ref aSn, .int (bI sv), .ref aAs, .ref aLg, .ref aPd, .int ml, .ref aCo, .ref aEa])), (aRo, .inl (y4.1, 151, .inl (upd (upd (upd (upd RO (129 + (RO 128)).toNatClampNeg ce) (135 + (RO 128)).toNatClampNeg sr) (141 + (RO 128)).toNatClampNeg fu) 128 (((upd (upd (upd RO (129 + (RO 128)).toNatClampNeg ce) (135 + (RO 128)).toNatClampNeg sr) (141 + (RO 128)).toNatClampNeg fu) 128) + 1))))]) [0, 1] (by decide) rfl) hNW⟩ rfl rfl hl.1 rfl (lv_room (Nat.le_of_ble_eq_true rfl)) dX8_lamp_119 ⟨Nat.zero_le _, Nat.zero_le _⟩) hP hD hS hA [0, 1] [2] [1, 2, 0] rfl rfl (by decide) (by decide) (fun _ => rfl) (by decide) (fun u8 H locs hw hP hD hS => ?_)
            have hP : va_P D vwCl [(aM, .inr (7, [.ref aRo, .ref aHi, .int ((m_X8_record ms RO HI).1), .ref aSn, .int (bI sv), .ref aAs, .ref aLg, .ref aPd, .int ml, .ref aCo, .ref aEa])), (aRo, .inl (y4.1, 151, .inl (m_X8_remember (upd (upd (upd (upd RO (129 + (RO 128)).toNatClampNeg ce) (135 + (RO 128)).toNatClampNeg sr) (141 + (RO 128)).toNatClampNeg fu) 128 (((upd (upd (upd RO (129 + (RO 128)).toNatClampNeg ce) (135 + (RO 128)).toNatClampNeg sr) (141 + (RO 128)).toNatClampNeg fu) 128) + 1))))), (aHi, .inl (y4.1, 604, .inl ((m_X8_record ms RO HI).2)))] H := hP
            have hD : va_D A [(aM, .inr (7, [.ref aRo, .ref aHi, .int ((m_X8_record ms RO HI).1), .ref aSn, .int (bI sv), .ref aAs, .ref aLg, .ref aPd, .int ml, .ref aCo, .ref aEa])), (aRo, .inl (y4.1, 151, .inl (m_X8_remember (upd (upd (upd (upd RO (129 + (RO 128)).toNatClampNeg ce) (135 + (RO 128)).toNatClampNeg sr) (141 + (RO 128)).toNatClampNeg fu) 128 (((upd (upd (upd RO (129 + (RO 128)).toNatClampNeg ce) (135 + (RO 128)).toNatClampNeg sr) (141 + (RO 128)).toNatClampNeg fu) 128) + 1))))), (aHi, .inl (y4.1, 604, .inl ((m_X8_record ms RO HI).2)))] := hD
            refine lv_iload hx hb dX8_lamp_122 (lv_at hl 0 rfl) ?_
            have em : m_X8_lamp ms RO HI ce sr fu = (RO 128, (m_X8_record ms RO HI).1, (m_X8_remember (upd (upd (upd (upd RO (129 + (RO 128)).toNatClampNeg ce) (135 + (RO 128)).toNatClampNeg sr) (141 + (RO 128)).toNatClampNeg fu) 128 (((upd (upd (upd RO (129 + (RO 128)).toNatClampNeg ce) (135 + (RO 128)).toNatClampNeg sr) (141 + (RO 128)).toNatClampNeg fu) 128) + 1))), (m_X8_record ms RO HI).2) := (by first | (simp only [m_X8_lamp, if_neg c1, if_neg c2, if_neg c3, if_neg c5, if_neg c6]; done) | (simp only [m_X8_lamp, if_neg c1, if_neg c2, if_neg c3, if_neg c5, if_neg c6]; rfl))
            exact W.iret (v := RO 128) hx hb hr (fun t ht hW => ⟨⟨RO 128, (), rfl, (by rw [em]), ⟨by rw [ht, em]; exact hP, by rw [em]; exact hD⟩⟩, hS.F ht⟩) hS.2.2 dX8_lamp_124
          · refine lv_bipush (v := (-3)) hx hb dX8_lamp_53 (by decide) ?_
            have em : m_X8_lamp ms RO HI ce sr fu = ((-3 : Int32), ms, RO, HI) := (by first | (simp only [m_X8_lamp, if_neg c1, if_neg c2, if_neg c3, if_neg c5, if_pos c6]; done) | (simp only [m_X8_lamp, if_neg c1, if_neg c2, if_neg c3, if_neg c5, if_pos c6]; rfl))
            exact W.iret (v := (-3)) hx hb hr (fun t ht hW => ⟨⟨(-3), (), rfl, (by rw [em]), ⟨by rw [ht, em]; exact hP, by rw [em]; exact hD⟩⟩, hS.F ht⟩) hS.2.2 dX8_lamp_55
        · refine lv_bipush (v := (-2)) hx hb dX8_lamp_37 (by decide) ?_
          have em : m_X8_lamp ms RO HI ce sr fu = ((-2 : Int32), ms, RO, HI) := (by first | (simp only [m_X8_lamp, if_neg c1, if_neg c2, if_neg c3, if_pos c5]; done) | (simp only [m_X8_lamp, if_neg c1, if_neg c2, if_neg c3, if_pos c5]; rfl))
          exact W.iret (v := (-2)) hx hb hr (fun t ht hW => ⟨⟨(-2), (), rfl, (by rw [em]), ⟨by rw [ht, em]; exact hP, by rw [em]; exact hD⟩⟩, hS.F ht⟩) hS.2.2 dX8_lamp_39
      · refine lv_iconst (v := (-1)) hx hb dX8_lamp_27 (by decide) ?_
        have em : m_X8_lamp ms RO HI ce sr fu = ((-1 : Int32), ms, RO, HI) := (by first | (simp only [m_X8_lamp, if_neg c1, if_neg c2, if_pos c3]; done) | (simp only [m_X8_lamp, if_neg c1, if_neg c2, if_pos c3]; rfl))
        exact W.iret (v := (-1)) hx hb hr (fun t ht hW => ⟨⟨(-1), (), rfl, (by rw [em]), ⟨by rw [ht, em]; exact hP, by rw [em]; exact hD⟩⟩, hS.F ht⟩) hS.2.2 dX8_lamp_28
def m_X8_takeLamp (ms : Int32) (RO : Nat → Int32) (HI : Nat → Int32) (j : Int32) : Int32 × Int32 × (Nat → Int32) × (Nat → Int32) := (if (m_X8_isLamp RO j) = false then ((-1 : Int32), ms, RO, HI) else (RO (129 + j).toNatClampNeg, (m_X8_record ms RO HI).1, (m_X8_remember (m_X8_removeLamp RO j)), (m_X8_record ms RO HI).2))
set_option maxHeartbeats 4000000 in
set_option maxRecDepth 100000 in
theorem met_X8_takeLamp (l : Launch) (D : va_G) (y4 : vT) (aM aRo aHi aSn aAs aLg aPd aCo aEa : Nat) (sz : Nat) (ms : Int32) (sv : Bool) (ml : Int32) (RO : Nat → Int32) (HI : Nat → Int32) (j : Int32) (hM : MI RO) (hms : 0 ≤ ms.toInt ∧ ms.toInt ≤ (4 : Nat)) : Met l yX8_takeLamp wsX8_takeLamp ({ frames := 8, cells := 0, slots := 0, locals := 186 }) (va_Pc [.ref aM, .int j] (PreW D y4 [(aM, .inr (7, [.ref aRo, .ref aHi, .int ms, .ref aSn, .int (bI sv), .ref aAs, .ref aLg, .ref aPd, .int ml, .ref aCo, .ref aEa])), (aRo, .inl (y4.1, 151, .inl RO)), (aHi, .inl (y4.1, 604, .inl HI))] sz)) (va_Qi (fun (r : Int32) (_ : Unit) => r = (m_X8_takeLamp ms RO HI j).1) (fun _ t => PostW D (va_A [(aM, .inr (7, [.ref aRo, .ref aHi, .int ms, .ref aSn, .int (bI sv), .ref aAs, .ref aLg, .ref aPd, .int ml, .ref aCo, .ref aEa])), (aRo, .inl (y4.1, 151, .inl RO)), (aHi, .inl (y4.1, 604, .inl HI))] sz) [(aM, .inr (7, [.ref aRo, .ref aHi, .int ((m_X8_takeLamp ms RO HI j).2.1), .ref aSn, .int (bI sv), .ref aAs, .ref aLg, .ref aPd, .int ml, .ref aCo, .ref aEa])), (aRo, .inl (y4.1, 151, .inl ((m_X8_takeLamp ms RO HI j).2.2.1))), (aHi, .inl (y4.1, 604, .inl ((m_X8_takeLamp ms RO HI j).2.2.2)))] t) (va_A [(aM, .inr (7, [.ref aRo, .ref aHi, .int ms, .ref aSn, .int (bI sv), .ref aAs, .ref aLg, .ref aPd, .int ml, .ref aCo, .ref aEa])), (aRo, .inl (y4.1, 151, .inl RO)), (aHi, .inl (y4.1, 604, .inl HI))] sz)) 0 0 (va_A [(aM, .inr (7, [.ref aRo, .ref aHi, .int ms, .ref aSn, .int (bI sv), .ref aAs, .ref aLg, .ref aPd, .int ml, .ref aCo, .ref aEa])), (aRo, .inl (y4.1, 151, .inl RO)), (aHi, .inl (y4.1, 604, .inl HI))] sz) := by
  refine Met.ofW (cc := cX8_takeLamp) (maxL := 3) (ret := (some .int)) (by decide) rfl ?_
  intro p e s m args below meth c s₁ B hml hv
  obtain ⟨rfl, hsz, hP, hK, hD0, hNW⟩ := hv
  have hx := B.exec
  have hb := B.bytes
  have hr := B.returns
  have hts := atoms_spec (ws := wsX8_takeLamp) B.pre
  have hown : s.vm.findClass RX8 = some m.cls := findClass_of_methodNamed B.named
  have hlocks := B.notSynchronized
  subst hsz
  have hD := hD0.self (sz := s.heap.size)
  generalize hAe : va_A [(aM, .inr (7, [.ref aRo, .ref aHi, .int ms, .ref aSn, .int (bI sv), .ref aAs, .ref aLg, .ref aPd, .int ml, .ref aCo, .ref aEa])), (aRo, .inl (y4.1, 151, .inl RO)), (aHi, .inl (y4.1, 604, .inl HI))] s.heap.size = A at hD ⊢
  have hA : ∀ q : Nat, s.heap.size ≤ q → A q := fun q h => by rw [← hAe]; exact Or.inr h
  have hS : va_S A s.heap s.heap [] := va_S.rf
  have hl := lv_entry ([.ref aM, .int j]) (n := 3) (Nat.le_of_ble_eq_true rfl)
  rw [lg_entry_eq]
  generalize (lg_sl ([.ref aM, .int j]) ++ List.replicate (3 - (lg_sl ([.ref aM, .int j])).length) Slot.unset).toArray = ls at hl ⊢
  have hl : lv_has ls 3 [(0, .ref aM), (1, .int j)] := hl
  have f7 := hts (.fieldLink RX8 7 "PillarLightModel" "row" "[I") (List.mem_of_getElem? (i := 1) rfl)
  have iX8 : ∀ w ∈ wsX80, w ∈ wsX8_takeLamp := fun _ h => List.mem_cons_of_mem _ (List.mem_append_right _ h)
  refine startW (fun H locs hP hS => ?_) hP hS
  refine lv_aload_n hx hb dX8_takeLamp_0 rfl (lv_at hl 0 rfl) ?_
  refine lv_iload_n hx hb dX8_takeLamp_1 rfl (lv_at hl 1 rfl) ?_
  refine callW_i (wr := [(aHi, .inl (y4.1, 604, .inl HI))]) (wn := fun u => [(aM, .inr (7, [.ref aRo, .ref aHi, .int ms, .ref aSn, .int (bI sv), .ref aAs, .ref aLg, .ref aPd, .int ml, .ref aCo, .ref aEa])), (aRo, .inl (y4.1, 151, .inl RO)), (aHi, .inl (y4.1, 604, .inl HI))]) (va_runV (As := [.int j]) (rest := []) ⟨hx, hb, hml, hown, hts⟩ (met_X8_isLamp l D y4 aM aRo aHi aSn aAs aLg aPd aCo aEa H.size ms sv ml RO j) (cwV 1 hts gX8_takeLamp_X8_isLamp rfl rfl rfl (by decide +kernel) ⟨Nat.le_of_ble_eq_true rfl, Nat.le_of_ble_eq_true rfl⟩) ⟨preW_blind, va_recv hK hP (ci := 7) (q0 := 0) rfl rfl, preW_at (hP.sub (ws' := [(aM, .inr (7, [.ref aRo, .ref aHi, .int ms, .ref aSn, .int (bI sv), .ref aAs, .ref aLg, .ref aPd, .int ml, .ref aCo, .ref aEa])), (aRo, .inl (y4.1, 151, .inl RO))]) [0, 1] rfl) hK (hD.sub (ws' := [(aM, .inr (7, [.ref aRo, .ref aHi, .int ms, .ref aSn, .int (bI sv), .ref aAs, .ref aLg, .ref aPd, .int ml, .ref aCo, .ref aEa])), (aRo, .inl (y4.1, 151, .inl RO))]) [0, 1] (by decide) rfl) hNW⟩ rfl rfl hl.1 rfl (lv_room (Nat.le_of_ble_eq_true rfl)) dX8_takeLamp_2 ⟨Nat.zero_le _, Nat.zero_le _⟩) hP hD hS hA [0, 1] [2] [1, 2, 0] rfl rfl (by decide) (by decide) (fun _ => rfl) (by decide) (fun r u1 H locs hw hP hD hS => ?_)
  subst hw
  have hP : va_P D vwCl [(aM, .inr (7, [.ref aRo, .ref aHi, .int ms, .ref aSn, .int (bI sv), .ref aAs, .ref aLg, .ref aPd, .int ml, .ref aCo, .ref aEa])), (aRo, .inl (y4.1, 151, .inl RO)), (aHi, .inl (y4.1, 604, .inl HI))] H := hP
  have hD : va_D A [(aM, .inr (7, [.ref aRo, .ref aHi, .int ms, .ref aSn, .int (bI sv), .ref aAs, .ref aLg, .ref aPd, .int ml, .ref aCo, .ref aEa])), (aRo, .inl (y4.1, 151, .inl RO)), (aHi, .inl (y4.1, 604, .inl HI))] := hD
  refine lb_if_ne (tgt := 10) hx hb dX8_takeLamp_5 (by decide) (fun c2 => ?_) (fun c2 => ?_)
  · refine lv_aload_n hx hb dX8_takeLamp_10 rfl (lv_at hl 0 rfl) ?_
    refine callW_v (wr := []) (wn := fun u => [(aM, .inr (7, [.ref aRo, .ref aHi, .int ((m_X8_record ms RO HI).1), .ref aSn, .int (bI sv), .ref aAs, .ref aLg, .ref aPd, .int ml, .ref aCo, .ref aEa])), (aRo, .inl (y4.1, 151, .inl RO)), (aHi, .inl (y4.1, 604, .inl ((m_X8_record ms RO HI).2)))]) (va_runV (As := []) (rest := []) ⟨hx, hb, hml, hown, hts⟩ (met_X8_record l D y4 aM aRo aHi aSn aAs aLg aPd aCo aEa H.size ms sv ml RO HI hms) (cwV 0 hts gX8_takeLamp_X8_record rfl rfl rfl (by decide +kernel) ⟨Nat.le_of_ble_eq_true rfl, Nat.le_of_ble_eq_true rfl⟩) ⟨preW_blind, va_recv hK hP (ci := 7) (q0 := 0) rfl rfl, preW_at (hP.sub (ws' := [(aM, .inr (7, [.ref aRo, .ref aHi, .int ms, .ref aSn, .int (bI sv), .ref aAs, .ref aLg, .ref aPd, .int ml, .ref aCo, .ref aEa])), (aRo, .inl (y4.1, 151, .inl RO)), (aHi, .inl (y4.1, 604, .inl HI))]) [0, 1, 2] rfl) hK (hD.sub (ws' := [(aM, .inr (7, [.ref aRo, .ref aHi, .int ms, .ref aSn, .int (bI sv), .ref aAs, .ref aLg, .ref aPd, .int ml, .ref aCo, .ref aEa])), (aRo, .inl (y4.1, 151, .inl RO)), (aHi, .inl (y4.1, 604, .inl HI))]) [0, 1, 2] (by decide) rfl) hNW⟩ rfl rfl hl.1 rfl (lv_room (Nat.le_of_ble_eq_true rfl)) dX8_takeLamp_11 ⟨Nat.zero_le _, Nat.zero_le _⟩) hP hD hS hA [0, 1, 2] [] [0, 1, 2] rfl rfl (by decide) (by decide) (fun _ => rfl) (by decide) (fun u3 H locs hw hP hD hS => ?_)
    have hP : va_P D vwCl [(aM, .inr (7, [.ref aRo, .ref aHi, .int ((m_X8_record ms RO HI).1), .ref aSn, .int (bI sv), .ref aAs, .ref aLg, .ref aPd, .int ml, .ref aCo, .ref aEa])), (aRo, .inl (y4.1, 151, .inl RO)), (aHi, .inl (y4.1, 604, .inl ((m_X8_record ms RO HI).2)))] H := hP
    have hD : va_D A [(aM, .inr (7, [.ref aRo, .ref aHi, .int ((m_X8_record ms RO HI).1), .ref aSn, .int (bI sv), .ref aAs, .ref aLg, .ref aPd, .int ml, .ref aCo, .ref aEa])), (aRo, .inl (y4.1, 151, .inl RO)), (aHi, .inl (y4.1, 604, .inl ((m_X8_record ms RO HI).2)))] := hD
    refine lv_aload_n hx hb dX8_takeLamp_14 rfl (lv_at hl 0 rfl) ?_
    refine va_get (ci := 7) (v := .ref aRo) (C := RX8) (T := TX8) (N := 11) hx hb hts iX8 hown hK hP 0 rfl rfl 0 (by decide) f7 (fun _ h9 => h9) rfl dX8_takeLamp_15 ?_
    refine lv_sipush (v := 129) hx hb dX8_takeLamp_18 (by decide) ?_
    refine lv_iload_n hx hb dX8_takeLamp_21 rfl (lv_at hl 1 rfl) ?_
    refine lv_iadd hx hb dX8_takeLamp_22 ?_
    refine va_iald hx hb hK hP 1 0 rfl rfl (off_in (isLamp8_in hM.1 (by assumption)) (by decide) (by decide) (by decide)) dX8_takeLamp_23 ?_
    refine lv_istore_n (lv' := [(2, .int (RO (129 + j).toNatClampNeg)), (0, .ref aM), (1, .int j)]) hx hb dX8_takeLamp_24 rfl hl (by decide) rfl (fun ls hl => ?_)
    refine lv_aload_n hx hb dX8_takeLamp_25 rfl (lv_at hl 1 rfl) ?_
    refine lv_iload_n hx hb dX8_takeLamp_26 rfl (lv_at hl 2 rfl) ?_
    refine callW_v (wr := [(aHi, .inl (y4.1, 604, .inl ((m_X8_record ms RO HI).2)))]) (wn := fun u => [(aM, .inr (7, [.ref aRo, .ref aHi, .int ((m_X8_record ms RO HI).1), .ref aSn, .int (bI sv), .ref aAs, .ref aLg, .ref aPd, .int ml, .ref aCo, .ref aEa])), (aRo, .inl (y4.1, 151, .inl (m_X8_removeLamp RO j))), (aHi, .inl (y4.1, 604, .inl ((m_X8_record ms RO HI).2)))]) (va_runV (As := [.int j]) (rest := []) ⟨hx, hb, hml, hown, hts⟩ (met_X8_removeLamp l D y4 aM aRo aHi aSn aAs aLg aPd aCo aEa H.size ((m_X8_record ms RO HI).1) sv ml RO j hM.1 (isLamp8 hM.1 (by assumption))) (cwV 1 hts gX8_takeLamp_X8_removeLamp rfl rfl rfl (by decide +kernel) ⟨Nat.le_of_ble_eq_true rfl, Nat.le_of_ble_eq_true rfl⟩) ⟨preW_blind, va_recv hK hP (ci := 7) (q0 := 0) rfl rfl, preW_at (hP.sub (ws' := [(aM, .inr (7, [.ref aRo, .ref aHi, .int ((m_X8_record ms RO HI).1), .ref aSn, .int (bI sv), .ref aAs, .ref aLg, .ref aPd, .int ml, .ref aCo, .ref aEa])), (aRo, .inl (y4.1, 151, .inl RO))]) [0, 1] rfl) hK (hD.sub (ws' := [(aM, .inr (7, [.ref aRo, .ref aHi, .int ((m_X8_record ms RO HI).1), .ref aSn, .int (bI sv), .ref aAs, .ref aLg, .ref aPd, .int ml, .ref aCo, .ref aEa])), (aRo, .inl (y4.1, 151, .inl RO))]) [0, 1] (by decide) rfl) hNW⟩ rfl rfl hl.1 rfl (lv_room (Nat.le_of_ble_eq_true rfl)) dX8_takeLamp_27 ⟨Nat.zero_le _, Nat.zero_le _⟩) hP hD hS hA [0, 1] [2] [1, 2, 0] rfl rfl (by decide) (by decide) (fun _ => rfl) (by decide) (fun u4 H locs hw hP hD hS => ?_)
    have hP : va_P D vwCl [(aM, .inr (7, [.ref aRo, .ref aHi, .int ((m_X8_record ms RO HI).1), .ref aSn, .int (bI sv), .ref aAs, .ref aLg, .ref aPd, .int ml, .ref aCo, .ref aEa])), (aRo, .inl (y4.1, 151, .inl (m_X8_removeLamp RO j))), (aHi, .inl (y4.1, 604, .inl ((m_X8_record ms RO HI).2)))] H := hP
    have hD : va_D A [(aM, .inr (7, [.ref aRo, .ref aHi, .int ((m_X8_record ms RO HI).1), .ref aSn, .int (bI sv), .ref aAs, .ref aLg, .ref aPd, .int ml, .ref aCo, .ref aEa])), (aRo, .inl (y4.1, 151, .inl (m_X8_removeLamp RO j))), (aHi, .inl (y4.1, 604, .inl ((m_X8_record ms RO HI).2)))] := hD
    refine lv_aload_n hx hb dX8_takeLamp_30 rfl (lv_at hl 1 rfl) ?_
    refine callW_v (wr := [(aHi, .inl (y4.1, 604, .inl ((m_X8_record ms RO HI).2)))]) (wn := fun u => [(aM, .inr (7, [.ref aRo, .ref aHi, .int ((m_X8_record ms RO HI).1), .ref aSn, .int (bI sv), .ref aAs, .ref aLg, .ref aPd, .int ml, .ref aCo, .ref aEa])), (aRo, .inl (y4.1, 151, .inl (m_X8_remember (m_X8_removeLamp RO j)))), (aHi, .inl (y4.1, 604, .inl ((m_X8_record ms RO HI).2)))]) (va_runV (As := []) (rest := []) ⟨hx, hb, hml, hown, hts⟩ (met_X8_remember l D y4 aM aRo aHi aSn aAs aLg aPd aCo aEa H.size ((m_X8_record ms RO HI).1) sv ml (m_X8_removeLamp RO j) (MI_rm hM (isLamp8 hM.1 (by assumption)))) (cwV 0 hts gX8_takeLamp_X8_remember rfl rfl rfl (by decide +kernel) ⟨Nat.le_of_ble_eq_true rfl, Nat.le_of_ble_eq_true rfl⟩) ⟨preW_blind, va_recv hK hP (ci := 7) (q0 := 0) rfl rfl, preW_at (hP.sub (ws' := [(aM, .inr (7, [.ref aRo, .ref aHi, .int ((m_X8_record ms RO HI).1), .ref aSn, .int (bI sv), .ref aAs, .ref aLg, .ref aPd, .int ml, .ref aCo, .ref aEa])), (aRo, .inl (y4.1, 151, .inl (m_X8_removeLamp RO j)))]) [0, 1] rfl) hK (hD.sub (ws' := [(aM, .inr (7, [.ref aRo, .ref aHi, .int ((m_X8_record ms RO HI).1), .ref aSn, .int (bI sv), .ref aAs, .ref aLg, .ref aPd, .int ml, .ref aCo, .ref aEa])), (aRo, .inl (y4.1, 151, .inl (m_X8_removeLamp RO j)))]) [0, 1] (by decide) rfl) hNW⟩ rfl rfl hl.1 rfl (lv_room (Nat.le_of_ble_eq_true rfl)) dX8_takeLamp_31 ⟨Nat.zero_le _, Nat.zero_le _⟩) hP hD hS hA [0, 1] [2] [1, 2, 0] rfl rfl (by decide) (by decide) (fun _ => rfl) (by decide) (fun u5 H locs hw hP hD hS => ?_)
    have hP : va_P D vwCl [(aM, .inr (7, [.ref aRo, .ref aHi, .int ((m_X8_record ms RO HI).1), .ref aSn, .int (bI sv), .ref aAs, .ref aLg, .ref aPd, .int ml, .ref aCo, .ref aEa])), (aRo, .inl (y4.1, 151, .inl (m_X8_remember (m_X8_removeLamp RO j)))), (aHi, .inl (y4.1, 604, .inl ((m_X8_record ms RO HI).2)))] H := hP
    have hD : va_D A [(aM, .inr (7, [.ref aRo, .ref aHi, .int ((m_X8_record ms RO HI).1), .ref aSn, .int (bI sv), .ref aAs, .ref aLg, .ref aPd, .int ml, .ref aCo, .ref aEa])), (aRo, .inl (y4.1, 151, .inl (m_X8_remember (m_X8_removeLamp RO j)))), (aHi, .inl (y4.1, 604, .inl ((m_X8_record ms RO HI).2)))] := hD
    refine lv_iload_n hx hb dX8_takeLamp_34 rfl (lv_at hl 0 rfl) ?_
    have em : m_X8_takeLamp ms RO HI j = (RO (129 + j).toNatClampNeg, (m_X8_record ms RO HI).1, (m_X8_remember (m_X8_removeLamp RO j)), (m_X8_record ms RO HI).2) := (by first | (simp only [m_X8_takeLamp, if_neg c2]; done) | (simp only [m_X8_takeLamp, if_neg c2]; rfl))
    exact W.iret (v := RO (129 + j).toNatClampNeg) hx hb hr (fun t ht hW => ⟨⟨RO (129 + j).toNatClampNeg, (), rfl, (by rw [em]), ⟨by rw [ht, em]; exact hP, by rw [em]; exact hD⟩⟩, hS.F ht⟩) hS.2.2 dX8_takeLamp_35
  · refine lv_iconst (v := (-1)) hx hb dX8_takeLamp_8 (by decide) ?_
    have em : m_X8_takeLamp ms RO HI j = ((-1 : Int32), ms, RO, HI) := (by first | (simp only [m_X8_takeLamp, if_pos c2]; done) | (simp only [m_X8_takeLamp, if_pos c2]; rfl))
    exact W.iret (v := (-1)) hx hb hr (fun t ht hW => ⟨⟨(-1), (), rfl, (by rw [em]), ⟨by rw [ht, em]; exact hP, by rw [em]; exact hD⟩⟩, hS.F ht⟩) hS.2.2 dX8_takeLamp_9
def m_X8_fill (ms : Int32) (RO : Nat → Int32) (HI : Nat → Int32) (j : Int32) (fu : Int32) : Int32 × Int32 × (Nat → Int32) × (Nat → Int32) := (if (m_X8_isLamp RO j) = false then ((-1 : Int32), ms, RO, HI) else (if (m_X8_in fu 0 99) = false then ((-1 : Int32), ms, RO, HI) else (RO (141 + j).toNatClampNeg, (m_X8_record ms RO HI).1, (m_X8_remember (upd RO (141 + j).toNatClampNeg fu)), (m_X8_record ms RO HI).2)))
set_option maxHeartbeats 4000000 in
set_option maxRecDepth 100000 in
theorem met_X8_fill (l : Launch) (D : va_G) (y4 : vT) (aM aRo aHi aSn aAs aLg aPd aCo aEa : Nat) (sz : Nat) (ms : Int32) (sv : Bool) (ml : Int32) (RO : Nat → Int32) (HI : Nat → Int32) (j : Int32) (fu : Int32) (hM : MI RO) (hms : 0 ≤ ms.toInt ∧ ms.toInt ≤ (4 : Nat)) : Met l yX8_fill wsX8_fill ({ frames := 8, cells := 0, slots := 0, locals := 186 }) (va_Pc [.ref aM, .int j, .int fu] (PreW D y4 [(aM, .inr (7, [.ref aRo, .ref aHi, .int ms, .ref aSn, .int (bI sv), .ref aAs, .ref aLg, .ref aPd, .int ml, .ref aCo, .ref aEa])), (aRo, .inl (y4.1, 151, .inl RO)), (aHi, .inl (y4.1, 604, .inl HI))] sz)) (va_Qi (fun (r : Int32) (_ : Unit) => r = (m_X8_fill ms RO HI j fu).1) (fun _ t => PostW D (va_A [(aM, .inr (7, [.ref aRo, .ref aHi, .int ms, .ref aSn, .int (bI sv), .ref aAs, .ref aLg, .ref aPd, .int ml, .ref aCo, .ref aEa])), (aRo, .inl (y4.1, 151, .inl RO)), (aHi, .inl (y4.1, 604, .inl HI))] sz) [(aM, .inr (7, [.ref aRo, .ref aHi, .int ((m_X8_fill ms RO HI j fu).2.1), .ref aSn, .int (bI sv), .ref aAs, .ref aLg, .ref aPd, .int ml, .ref aCo, .ref aEa])), (aRo, .inl (y4.1, 151, .inl ((m_X8_fill ms RO HI j fu).2.2.1))), (aHi, .inl (y4.1, 604, .inl ((m_X8_fill ms RO HI j fu).2.2.2)))] t) (va_A [(aM, .inr (7, [.ref aRo, .ref aHi, .int ms, .ref aSn, .int (bI sv), .ref aAs, .ref aLg, .ref aPd, .int ml, .ref aCo, .ref aEa])), (aRo, .inl (y4.1, 151, .inl RO)), (aHi, .inl (y4.1, 604, .inl HI))] sz)) 0 0 (va_A [(aM, .inr (7, [.ref aRo, .ref aHi, .int ms, .ref aSn, .int (bI sv), .ref aAs, .ref aLg, .ref aPd, .int ml, .ref aCo, .ref aEa])), (aRo, .inl (y4.1, 151, .inl RO)), (aHi, .inl (y4.1, 604, .inl HI))] sz) := by
  refine Met.ofW (cc := cX8_fill) (maxL := 4) (ret := (some .int)) (by decide) rfl ?_
  intro p e s m args below meth c s₁ B hml hv
  obtain ⟨rfl, hsz, hP, hK, hD0, hNW⟩ := hv
  have hx := B.exec
  have hb := B.bytes
  have hr := B.returns
  have hts := atoms_spec (ws := wsX8_fill) B.pre
  have hown : s.vm.findClass RX8 = some m.cls := findClass_of_methodNamed B.named
  have hlocks := B.notSynchronized
  subst hsz
  have hD := hD0.self (sz := s.heap.size)
  generalize hAe : va_A [(aM, .inr (7, [.ref aRo, .ref aHi, .int ms, .ref aSn, .int (bI sv), .ref aAs, .ref aLg, .ref aPd, .int ml, .ref aCo, .ref aEa])), (aRo, .inl (y4.1, 151, .inl RO)), (aHi, .inl (y4.1, 604, .inl HI))] s.heap.size = A at hD ⊢
  have hA : ∀ q : Nat, s.heap.size ≤ q → A q := fun q h => by rw [← hAe]; exact Or.inr h
  have hS : va_S A s.heap s.heap [] := va_S.rf
  have hl := lv_entry ([.ref aM, .int j, .int fu]) (n := 4) (Nat.le_of_ble_eq_true rfl)
  rw [lg_entry_eq]
  generalize (lg_sl ([.ref aM, .int j, .int fu]) ++ List.replicate (4 - (lg_sl ([.ref aM, .int j, .int fu])).length) Slot.unset).toArray = ls at hl ⊢
  have hl : lv_has ls 4 [(0, .ref aM), (1, .int j), (2, .int fu)] := hl
  have f7 := hts (.fieldLink RX8 7 "PillarLightModel" "row" "[I") (List.mem_of_getElem? (i := 1) rfl)
  have iX8 : ∀ w ∈ wsX80, w ∈ wsX8_fill := fun _ h => List.mem_cons_of_mem _ (List.mem_append_right _ h)
  refine startW (fun H locs hP hS => ?_) hP hS
  refine lv_aload_n hx hb dX8_fill_0 rfl (lv_at hl 0 rfl) ?_
  refine lv_iload_n hx hb dX8_fill_1 rfl (lv_at hl 1 rfl) ?_
  refine callW_i (wr := [(aHi, .inl (y4.1, 604, .inl HI))]) (wn := fun u => [(aM, .inr (7, [.ref aRo, .ref aHi, .int ms, .ref aSn, .int (bI sv), .ref aAs, .ref aLg, .ref aPd, .int ml, .ref aCo, .ref aEa])), (aRo, .inl (y4.1, 151, .inl RO)), (aHi, .inl (y4.1, 604, .inl HI))]) (va_runV (As := [.int j]) (rest := []) ⟨hx, hb, hml, hown, hts⟩ (met_X8_isLamp l D y4 aM aRo aHi aSn aAs aLg aPd aCo aEa H.size ms sv ml RO j) (cwV 1 hts gX8_fill_X8_isLamp rfl rfl rfl (by decide +kernel) ⟨Nat.le_of_ble_eq_true rfl, Nat.le_of_ble_eq_true rfl⟩) ⟨preW_blind, va_recv hK hP (ci := 7) (q0 := 0) rfl rfl, preW_at (hP.sub (ws' := [(aM, .inr (7, [.ref aRo, .ref aHi, .int ms, .ref aSn, .int (bI sv), .ref aAs, .ref aLg, .ref aPd, .int ml, .ref aCo, .ref aEa])), (aRo, .inl (y4.1, 151, .inl RO))]) [0, 1] rfl) hK (hD.sub (ws' := [(aM, .inr (7, [.ref aRo, .ref aHi, .int ms, .ref aSn, .int (bI sv), .ref aAs, .ref aLg, .ref aPd, .int ml, .ref aCo, .ref aEa])), (aRo, .inl (y4.1, 151, .inl RO))]) [0, 1] (by decide) rfl) hNW⟩ rfl rfl hl.1 rfl (lv_room (Nat.le_of_ble_eq_true rfl)) dX8_fill_2 ⟨Nat.zero_le _, Nat.zero_le _⟩) hP hD hS hA [0, 1] [2] [1, 2, 0] rfl rfl (by decide) (by decide) (fun _ => rfl) (by decide) (fun r u1 H locs hw hP hD hS => ?_)
  subst hw
  have hP : va_P D vwCl [(aM, .inr (7, [.ref aRo, .ref aHi, .int ms, .ref aSn, .int (bI sv), .ref aAs, .ref aLg, .ref aPd, .int ml, .ref aCo, .ref aEa])), (aRo, .inl (y4.1, 151, .inl RO)), (aHi, .inl (y4.1, 604, .inl HI))] H := hP
  have hD : va_D A [(aM, .inr (7, [.ref aRo, .ref aHi, .int ms, .ref aSn, .int (bI sv), .ref aAs, .ref aLg, .ref aPd, .int ml, .ref aCo, .ref aEa])), (aRo, .inl (y4.1, 151, .inl RO)), (aHi, .inl (y4.1, 604, .inl HI))] := hD
  refine lb_if_eq (tgt := 18) hx hb dX8_fill_5 (by decide) (fun c2 => ?_) (fun c2 => ?_)
  · refine lv_iconst (v := (-1)) hx hb dX8_fill_18 (by decide) ?_
    have em : m_X8_fill ms RO HI j fu = ((-1 : Int32), ms, RO, HI) := (by first | (simp only [m_X8_fill, if_pos c2]; done) | (simp only [m_X8_fill, if_pos c2]; rfl))
    exact W.iret (v := (-1)) hx hb hr (fun t ht hW => ⟨⟨(-1), (), rfl, (by rw [em]), ⟨by rw [ht, em]; exact hP, by rw [em]; exact hD⟩⟩, hS.F ht⟩) hS.2.2 dX8_fill_19
  · refine lv_iload_n hx hb dX8_fill_8 rfl (lv_at hl 2 rfl) ?_
    refine lv_iconst (v := 0) hx hb dX8_fill_9 (by decide) ?_
    refine lv_bipush (v := 99) hx hb dX8_fill_10 (by decide) ?_
    refine callK_i (va_runS (As := [.int fu, .int 0, .int 99]) (rest := []) ⟨hx, hb, hml, hown, hts⟩ (met_X8_in l  fu 0 99) (va_cwS 3 hts gX8_fill_X8_in rfl rfl rfl (by decide +kernel) ⟨Nat.le_of_ble_eq_true rfl, Nat.le_of_ble_eq_true rfl⟩) ⟨preS_blind, fun U hU hW => ⟨rfl, trivial⟩⟩ rfl rfl hl.1 rfl (lv_room (Nat.le_of_ble_eq_true rfl)) dX8_fill_12 ⟨Nat.zero_le _, Nat.zero_le _⟩) hP hS (fun r u H locs hw hP hS => ?_)
    subst hw
    refine lb_if_ne (tgt := 20) hx hb dX8_fill_15 (by decide) (fun c3 => ?_) (fun c3 => ?_)
    · refine lv_aload_n hx hb dX8_fill_20 rfl (lv_at hl 0 rfl) ?_
      refine callW_v (wr := []) (wn := fun u => [(aM, .inr (7, [.ref aRo, .ref aHi, .int ((m_X8_record ms RO HI).1), .ref aSn, .int (bI sv), .ref aAs, .ref aLg, .ref aPd, .int ml, .ref aCo, .ref aEa])), (aRo, .inl (y4.1, 151, .inl RO)), (aHi, .inl (y4.1, 604, .inl ((m_X8_record ms RO HI).2)))]) (va_runV (As := []) (rest := []) ⟨hx, hb, hml, hown, hts⟩ (met_X8_record l D y4 aM aRo aHi aSn aAs aLg aPd aCo aEa H.size ms sv ml RO HI hms) (cwV 0 hts gX8_fill_X8_record rfl rfl rfl (by decide +kernel) ⟨Nat.le_of_ble_eq_true rfl, Nat.le_of_ble_eq_true rfl⟩) ⟨preW_blind, va_recv hK hP (ci := 7) (q0 := 0) rfl rfl, preW_at (hP.sub (ws' := [(aM, .inr (7, [.ref aRo, .ref aHi, .int ms, .ref aSn, .int (bI sv), .ref aAs, .ref aLg, .ref aPd, .int ml, .ref aCo, .ref aEa])), (aRo, .inl (y4.1, 151, .inl RO)), (aHi, .inl (y4.1, 604, .inl HI))]) [0, 1, 2] rfl) hK (hD.sub (ws' := [(aM, .inr (7, [.ref aRo, .ref aHi, .int ms, .ref aSn, .int (bI sv), .ref aAs, .ref aLg, .ref aPd, .int ml, .ref aCo, .ref aEa])), (aRo, .inl (y4.1, 151, .inl RO)), (aHi, .inl (y4.1, 604, .inl HI))]) [0, 1, 2] (by decide) rfl) hNW⟩ rfl rfl hl.1 rfl (lv_room (Nat.le_of_ble_eq_true rfl)) dX8_fill_21 ⟨Nat.zero_le _, Nat.zero_le _⟩) hP hD hS hA [0, 1, 2] [] [0, 1, 2] rfl rfl (by decide) (by decide) (fun _ => rfl) (by decide) (fun u4 H locs hw hP hD hS => ?_)
      have hP : va_P D vwCl [(aM, .inr (7, [.ref aRo, .ref aHi, .int ((m_X8_record ms RO HI).1), .ref aSn, .int (bI sv), .ref aAs, .ref aLg, .ref aPd, .int ml, .ref aCo, .ref aEa])), (aRo, .inl (y4.1, 151, .inl RO)), (aHi, .inl (y4.1, 604, .inl ((m_X8_record ms RO HI).2)))] H := hP
      have hD : va_D A [(aM, .inr (7, [.ref aRo, .ref aHi, .int ((m_X8_record ms RO HI).1), .ref aSn, .int (bI sv), .ref aAs, .ref aLg, .ref aPd, .int ml, .ref aCo, .ref aEa])), (aRo, .inl (y4.1, 151, .inl RO)), (aHi, .inl (y4.1, 604, .inl ((m_X8_record ms RO HI).2)))] := hD
      refine lv_aload_n hx hb dX8_fill_24 rfl (lv_at hl 0 rfl) ?_
      refine va_get (ci := 7) (v := .ref aRo) (C := RX8) (T := TX8) (N := 11) hx hb hts iX8 hown hK hP 0 rfl rfl 0 (by decide) f7 (fun _ h9 => h9) rfl dX8_fill_25 ?_
      refine lv_sipush (v := 141) hx hb dX8_fill_28 (by decide) ?_
      refine lv_iload_n hx hb dX8_fill_31 rfl (lv_at hl 1 rfl) ?_
      refine lv_iadd hx hb dX8_fill_32 ?_
      refine va_iald hx hb hK hP 1 0 rfl rfl (off_in (isLamp8_in hM.1 (by assumption)) (by decide) (by decide) (by decide)) dX8_fill_33 ?_
      refine lv_istore_n (lv' := [(3, .int (RO (141 + j).toNatClampNeg)), (0, .ref aM), (1, .int j), (2, .int fu)]) hx hb dX8_fill_34 rfl hl (by decide) rfl (fun ls hl => ?_)
      refine lv_aload_n hx hb dX8_fill_35 rfl (lv_at hl 1 rfl) ?_
      refine va_get (ci := 7) (v := .ref aRo) (C := RX8) (T := TX8) (N := 11) hx hb hts iX8 hown hK hP 0 rfl rfl 0 (by decide) f7 (fun _ h9 => h9) rfl dX8_fill_36 ?_
      refine lv_sipush (v := 141) hx hb dX8_fill_39 (by decide) ?_
      refine lv_iload_n hx hb dX8_fill_42 rfl (lv_at hl 2 rfl) ?_
      refine lv_iadd hx hb dX8_fill_43 ?_
      refine lv_iload_n hx hb dX8_fill_44 rfl (lv_at hl 3 rfl) ?_
      refine va_iast hx hb hK hP hD hS 1 0 rfl rfl (off_in (isLamp8_in hM.1 (by assumption)) (by decide) (by decide) (by decide)) dX8_fill_45 (fun H locs hP hD hS => ?_)
      have hP : va_P D vwCl [(aM, .inr (7, [.ref aRo, .ref aHi, .int ((m_X8_record ms RO HI).1), .ref aSn, .int (bI sv), .ref aAs, .ref aLg, .ref aPd, .int ml, .ref aCo, .ref aEa])), (aRo, .inl (y4.1, 151, .inl (upd RO (141 + j).toNatClampNeg fu))), (aHi, .inl (y4.1, 604, .inl ((m_X8_record ms RO HI).2)))] H := hP
      have hD : va_D A [(aM, .inr (7, [.ref aRo, .ref aHi, .int ((m_X8_record ms RO HI).1), .ref aSn, .int (bI sv), .ref aAs, .ref aLg, .ref aPd, .int ml, .ref aCo, .ref aEa])), (aRo, .inl (y4.1, 151, .inl (upd RO (141 + j).toNatClampNeg fu))), (aHi, .inl (y4.1, 604, .inl ((m_X8_record ms RO HI).2)))] := hD
      refine lv_aload_n hx hb dX8_fill_46 rfl (lv_at hl 1 rfl) ?_
      refine callW_v (wr := [(aHi, .inl (y4.1, 604, .inl ((m_X8_record ms RO HI).2)))]) (wn := fun u => [(aM, .inr (7, [.ref aRo, .ref aHi, .int ((m_X8_record ms RO HI).1), .ref aSn, .int (bI sv), .ref aAs, .ref aLg, .ref aPd, .int ml, .ref aCo, .ref aEa])), (aRo, .inl (y4.1, 151, .inl (m_X8_remember (upd RO (141 + j).toNatClampNeg fu)))), (aHi, .inl (y4.1, 604, .inl ((m_X8_record ms RO HI).2)))]) (va_runV (As := []) (rest := []) ⟨hx, hb, hml, hown, hts⟩ (met_X8_remember l D y4 aM aRo aHi aSn aAs aLg aPd aCo aEa H.size ((m_X8_record ms RO HI).1) sv ml (upd RO (141 + j).toNatClampNeg fu) (MI_fuel hM (isLamp8_in hM.1 (by assumption)) _)) (cwV 0 hts gX8_fill_X8_remember rfl rfl rfl (by decide +kernel) ⟨Nat.le_of_ble_eq_true rfl, Nat.le_of_ble_eq_true rfl⟩) ⟨preW_blind, va_recv hK hP (ci := 7) (q0 := 0) rfl rfl, preW_at (hP.sub (ws' := [(aM, .inr (7, [.ref aRo, .ref aHi, .int ((m_X8_record ms RO HI).1), .ref aSn, .int (bI sv), .ref aAs, .ref aLg, .ref aPd, .int ml, .ref aCo, .ref aEa])), (aRo, .inl (y4.1, 151, .inl (upd RO (141 + j).toNatClampNeg fu)))]) [0, 1] rfl) hK (hD.sub (ws' := [(aM, .inr (7, [.ref aRo, .ref aHi, .int ((m_X8_record ms RO HI).1), .ref aSn, .int (bI sv), .ref aAs, .ref aLg, .ref aPd, .int ml, .ref aCo, .ref aEa])), (aRo, .inl (y4.1, 151, .inl (upd RO (141 + j).toNatClampNeg fu)))]) [0, 1] (by decide) rfl) hNW⟩ rfl rfl hl.1 rfl (lv_room (Nat.le_of_ble_eq_true rfl)) dX8_fill_47 ⟨Nat.zero_le _, Nat.zero_le _⟩) hP hD hS hA [0, 1] [2] [1, 2, 0] rfl rfl (by decide) (by decide) (fun _ => rfl) (by decide) (fun u5 H locs hw hP hD hS => ?_)
      have hP : va_P D vwCl [(aM, .inr (7, [.ref aRo, .ref aHi, .int ((m_X8_record ms RO HI).1), .ref aSn, .int (bI sv), .ref aAs, .ref aLg, .ref aPd, .int ml, .ref aCo, .ref aEa])), (aRo, .inl (y4.1, 151, .inl (m_X8_remember (upd RO (141 + j).toNatClampNeg fu)))), (aHi, .inl (y4.1, 604, .inl ((m_X8_record ms RO HI).2)))] H := hP
      have hD : va_D A [(aM, .inr (7, [.ref aRo, .ref aHi, .int ((m_X8_record ms RO HI).1), .ref aSn, .int (bI sv), .ref aAs, .ref aLg, .ref aPd, .int ml, .ref aCo, .ref aEa])), (aRo, .inl (y4.1, 151, .inl (m_X8_remember (upd RO (141 + j).toNatClampNeg fu)))), (aHi, .inl (y4.1, 604, .inl ((m_X8_record ms RO HI).2)))] := hD
      refine lv_iload_n hx hb dX8_fill_50 rfl (lv_at hl 0 rfl) ?_
      have em : m_X8_fill ms RO HI j fu = (RO (141 + j).toNatClampNeg, (m_X8_record ms RO HI).1, (m_X8_remember (upd RO (141 + j).toNatClampNeg fu)), (m_X8_record ms RO HI).2) := (by first | (simp only [m_X8_fill, if_neg c2, if_neg c3]; done) | (simp only [m_X8_fill, if_neg c2, if_neg c3]; rfl))
      exact W.iret (v := RO (141 + j).toNatClampNeg) hx hb hr (fun t ht hW => ⟨⟨RO (141 + j).toNatClampNeg, (), rfl, (by rw [em]), ⟨by rw [ht, em]; exact hP, by rw [em]; exact hD⟩⟩, hS.F ht⟩) hS.2.2 dX8_fill_51
    · refine lv_iconst (v := (-1)) hx hb dX8_fill_18 (by decide) ?_
      have em : m_X8_fill ms RO HI j fu = ((-1 : Int32), ms, RO, HI) := (by first | (simp only [m_X8_fill, if_neg c2, if_pos c3]; done) | (simp only [m_X8_fill, if_neg c2, if_pos c3]; rfl))
      exact W.iret (v := (-1)) hx hb hr (fun t ht hW => ⟨⟨(-1), (), rfl, (by rw [em]), ⟨by rw [ht, em]; exact hP, by rw [em]; exact hD⟩⟩, hS.F ht⟩) hS.2.2 dX8_fill_19
def m_X8_set (ms : Int32) (RO : Nat → Int32) (HI : Nat → Int32) (wh : Int32) (va : Int32) : Int32 × Int32 × (Nat → Int32) × (Nat → Int32) := (if wh = 0 then (if (m_X8_in va 1 20) = false then ((-1 : Int32), ms, RO, HI) else (RO (149 + wh).toNatClampNeg, (m_X8_record ms RO HI).1, (m_X8_remember (upd RO (149 + wh).toNatClampNeg va)), (m_X8_record ms RO HI).2)) else (if wh = 1 then (if (m_X8_in va 0 4) = false then ((-1 : Int32), ms, RO, HI) else (RO (149 + wh).toNatClampNeg, (m_X8_record ms RO HI).1, (m_X8_remember (upd RO (149 + wh).toNatClampNeg va)), (m_X8_record ms RO HI).2)) else ((-1 : Int32), ms, RO, HI)))
set_option maxHeartbeats 4000000 in
set_option maxRecDepth 100000 in
theorem met_X8_set (l : Launch) (D : va_G) (y4 : vT) (aM aRo aHi aSn aAs aLg aPd aCo aEa : Nat) (sz : Nat) (ms : Int32) (sv : Bool) (ml : Int32) (RO : Nat → Int32) (HI : Nat → Int32) (wh : Int32) (va : Int32) (hM : MI RO) (hms : 0 ≤ ms.toInt ∧ ms.toInt ≤ (4 : Nat)) : Met l yX8_set wsX8_set ({ frames := 8, cells := 0, slots := 0, locals := 186 }) (va_Pc [.ref aM, .int wh, .int va] (PreW D y4 [(aM, .inr (7, [.ref aRo, .ref aHi, .int ms, .ref aSn, .int (bI sv), .ref aAs, .ref aLg, .ref aPd, .int ml, .ref aCo, .ref aEa])), (aRo, .inl (y4.1, 151, .inl RO)), (aHi, .inl (y4.1, 604, .inl HI))] sz)) (va_Qi (fun (r : Int32) (_ : Unit) => r = (m_X8_set ms RO HI wh va).1) (fun _ t => PostW D (va_A [(aM, .inr (7, [.ref aRo, .ref aHi, .int ms, .ref aSn, .int (bI sv), .ref aAs, .ref aLg, .ref aPd, .int ml, .ref aCo, .ref aEa])), (aRo, .inl (y4.1, 151, .inl RO)), (aHi, .inl (y4.1, 604, .inl HI))] sz) [(aM, .inr (7, [.ref aRo, .ref aHi, .int ((m_X8_set ms RO HI wh va).2.1), .ref aSn, .int (bI sv), .ref aAs, .ref aLg, .ref aPd, .int ml, .ref aCo, .ref aEa])), (aRo, .inl (y4.1, 151, .inl ((m_X8_set ms RO HI wh va).2.2.1))), (aHi, .inl (y4.1, 604, .inl ((m_X8_set ms RO HI wh va).2.2.2)))] t) (va_A [(aM, .inr (7, [.ref aRo, .ref aHi, .int ms, .ref aSn, .int (bI sv), .ref aAs, .ref aLg, .ref aPd, .int ml, .ref aCo, .ref aEa])), (aRo, .inl (y4.1, 151, .inl RO)), (aHi, .inl (y4.1, 604, .inl HI))] sz)) 0 0 (va_A [(aM, .inr (7, [.ref aRo, .ref aHi, .int ms, .ref aSn, .int (bI sv), .ref aAs, .ref aLg, .ref aPd, .int ml, .ref aCo, .ref aEa])), (aRo, .inl (y4.1, 151, .inl RO)), (aHi, .inl (y4.1, 604, .inl HI))] sz) := by
  refine Met.ofW (cc := cX8_set) (maxL := 4) (ret := (some .int)) (by decide) rfl ?_
  intro p e s m args below meth c s₁ B hml hv
  obtain ⟨rfl, hsz, hP, hK, hD0, hNW⟩ := hv
  have hx := B.exec
  have hb := B.bytes
  have hr := B.returns
  have hts := atoms_spec (ws := wsX8_set) B.pre
  have hown : s.vm.findClass RX8 = some m.cls := findClass_of_methodNamed B.named
  have hlocks := B.notSynchronized
  subst hsz
  have hD := hD0.self (sz := s.heap.size)
  generalize hAe : va_A [(aM, .inr (7, [.ref aRo, .ref aHi, .int ms, .ref aSn, .int (bI sv), .ref aAs, .ref aLg, .ref aPd, .int ml, .ref aCo, .ref aEa])), (aRo, .inl (y4.1, 151, .inl RO)), (aHi, .inl (y4.1, 604, .inl HI))] s.heap.size = A at hD ⊢
  have hA : ∀ q : Nat, s.heap.size ≤ q → A q := fun q h => by rw [← hAe]; exact Or.inr h
  have hS : va_S A s.heap s.heap [] := va_S.rf
  have hl := lv_entry ([.ref aM, .int wh, .int va]) (n := 4) (Nat.le_of_ble_eq_true rfl)
  rw [lg_entry_eq]
  generalize (lg_sl ([.ref aM, .int wh, .int va]) ++ List.replicate (4 - (lg_sl ([.ref aM, .int wh, .int va])).length) Slot.unset).toArray = ls at hl ⊢
  have hl : lv_has ls 4 [(0, .ref aM), (1, .int wh), (2, .int va)] := hl
  have f7 := hts (.fieldLink RX8 7 "PillarLightModel" "row" "[I") (List.mem_of_getElem? (i := 1) rfl)
  have iX8 : ∀ w ∈ wsX80, w ∈ wsX8_set := fun _ h => List.mem_cons_of_mem _ (List.mem_append_right _ h)
  refine startW (fun H locs hP hS => ?_) hP hS
  refine lv_iload_n hx hb dX8_set_0 rfl (lv_at hl 1 rfl) ?_
  refine lv_if_ne (tgt := 17) hx hb dX8_set_1 (by decide) (fun c1 => ?_) (fun c1 => ?_)
  · refine lv_iload_n hx hb dX8_set_17 rfl (lv_at hl 1 rfl) ?_
    refine lv_iconst (v := 1) hx hb dX8_set_18 (by decide) ?_
    refine lv_icmp_ne (tgt := 31) hx hb dX8_set_19 (by decide) (fun c2 => ?_) (fun c2 => ?_)
    · refine lv_iconst (v := (-1)) hx hb dX8_set_31 (by decide) ?_
      have em : m_X8_set ms RO HI wh va = ((-1 : Int32), ms, RO, HI) := (by first | (simp only [m_X8_set, if_neg c1, if_neg c2]; done) | (simp only [m_X8_set, if_neg c1, if_neg c2]; rfl))
      exact W.iret (v := (-1)) hx hb hr (fun t ht hW => ⟨⟨(-1), (), rfl, (by rw [em]), ⟨by rw [ht, em]; exact hP, by rw [em]; exact hD⟩⟩, hS.F ht⟩) hS.2.2 dX8_set_32
    · refine lv_iload_n hx hb dX8_set_22 rfl (lv_at hl 2 rfl) ?_
      refine lv_iconst (v := 0) hx hb dX8_set_23 (by decide) ?_
      refine lv_iconst (v := 4) hx hb dX8_set_24 (by decide) ?_
      refine callK_i (va_runS (As := [.int va, .int 0, .int 4]) (rest := []) ⟨hx, hb, hml, hown, hts⟩ (met_X8_in l  va 0 4) (va_cwS 3 hts gX8_set_X8_in rfl rfl rfl (by decide +kernel) ⟨Nat.le_of_ble_eq_true rfl, Nat.le_of_ble_eq_true rfl⟩) ⟨preS_blind, fun U hU hW => ⟨rfl, trivial⟩⟩ rfl rfl hl.1 rfl (lv_room (Nat.le_of_ble_eq_true rfl)) dX8_set_25 ⟨Nat.zero_le _, Nat.zero_le _⟩) hP hS (fun r u H locs hw hP hS => ?_)
      subst hw
      refine lb_if_ne (tgt := 33) hx hb dX8_set_28 (by decide) (fun c3 => ?_) (fun c3 => ?_)
      · refine lv_aload_n hx hb dX8_set_33 rfl (lv_at hl 0 rfl) ?_
        refine callW_v (wr := []) (wn := fun u => [(aM, .inr (7, [.ref aRo, .ref aHi, .int ((m_X8_record ms RO HI).1), .ref aSn, .int (bI sv), .ref aAs, .ref aLg, .ref aPd, .int ml, .ref aCo, .ref aEa])), (aRo, .inl (y4.1, 151, .inl RO)), (aHi, .inl (y4.1, 604, .inl ((m_X8_record ms RO HI).2)))]) (va_runV (As := []) (rest := []) ⟨hx, hb, hml, hown, hts⟩ (met_X8_record l D y4 aM aRo aHi aSn aAs aLg aPd aCo aEa H.size ms sv ml RO HI hms) (cwV 0 hts gX8_set_X8_record rfl rfl rfl (by decide +kernel) ⟨Nat.le_of_ble_eq_true rfl, Nat.le_of_ble_eq_true rfl⟩) ⟨preW_blind, va_recv hK hP (ci := 7) (q0 := 0) rfl rfl, preW_at (hP.sub (ws' := [(aM, .inr (7, [.ref aRo, .ref aHi, .int ms, .ref aSn, .int (bI sv), .ref aAs, .ref aLg, .ref aPd, .int ml, .ref aCo, .ref aEa])), (aRo, .inl (y4.1, 151, .inl RO)), (aHi, .inl (y4.1, 604, .inl HI))]) [0, 1, 2] rfl) hK (hD.sub (ws' := [(aM, .inr (7, [.ref aRo, .ref aHi, .int ms, .ref aSn, .int (bI sv), .ref aAs, .ref aLg, .ref aPd, .int ml, .ref aCo, .ref aEa])), (aRo, .inl (y4.1, 151, .inl RO)), (aHi, .inl (y4.1, 604, .inl HI))]) [0, 1, 2] (by decide) rfl) hNW⟩ rfl rfl hl.1 rfl (lv_room (Nat.le_of_ble_eq_true rfl)) dX8_set_34 ⟨Nat.zero_le _, Nat.zero_le _⟩) hP hD hS hA [0, 1, 2] [] [0, 1, 2] rfl rfl (by decide) (by decide) (fun _ => rfl) (by decide) (fun u4 H locs hw hP hD hS => ?_)
        have hP : va_P D vwCl [(aM, .inr (7, [.ref aRo, .ref aHi, .int ((m_X8_record ms RO HI).1), .ref aSn, .int (bI sv), .ref aAs, .ref aLg, .ref aPd, .int ml, .ref aCo, .ref aEa])), (aRo, .inl (y4.1, 151, .inl RO)), (aHi, .inl (y4.1, 604, .inl ((m_X8_record ms RO HI).2)))] H := hP
        have hD : va_D A [(aM, .inr (7, [.ref aRo, .ref aHi, .int ((m_X8_record ms RO HI).1), .ref aSn, .int (bI sv), .ref aAs, .ref aLg, .ref aPd, .int ml, .ref aCo, .ref aEa])), (aRo, .inl (y4.1, 151, .inl RO)), (aHi, .inl (y4.1, 604, .inl ((m_X8_record ms RO HI).2)))] := hD
        refine lv_aload_n hx hb dX8_set_37 rfl (lv_at hl 0 rfl) ?_
        refine va_get (ci := 7) (v := .ref aRo) (C := RX8) (T := TX8) (N := 11) hx hb hts iX8 hown hK hP 0 rfl rfl 0 (by decide) f7 (fun _ h9 => h9) rfl dX8_set_38 ?_
        refine lv_sipush (v := 149) hx hb dX8_set_41 (by decide) ?_
        refine lv_iload_n hx hb dX8_set_44 rfl (lv_at hl 1 rfl) ?_
        refine lv_iadd hx hb dX8_set_45 ?_
        refine va_iald hx hb hK hP 1 0 rfl rfl (by first | exact (set_0 (by assumption)).1 | exact (set_1 (by assumption)).1) dX8_set_46 ?_
        refine lv_istore_n (lv' := [(3, .int (RO (149 + wh).toNatClampNeg)), (0, .ref aM), (1, .int wh), (2, .int va)]) hx hb dX8_set_47 rfl hl (by decide) rfl (fun ls hl => ?_)
        refine lv_aload_n hx hb dX8_set_48 rfl (lv_at hl 1 rfl) ?_
        refine va_get (ci := 7) (v := .ref aRo) (C := RX8) (T := TX8) (N := 11) hx hb hts iX8 hown hK hP 0 rfl rfl 0 (by decide) f7 (fun _ h9 => h9) rfl dX8_set_49 ?_
        refine lv_sipush (v := 149) hx hb dX8_set_52 (by decide) ?_
        refine lv_iload_n hx hb dX8_set_55 rfl (lv_at hl 2 rfl) ?_
        refine lv_iadd hx hb dX8_set_56 ?_
        refine lv_iload_n hx hb dX8_set_57 rfl (lv_at hl 3 rfl) ?_
        refine va_iast hx hb hK hP hD hS 1 0 rfl rfl (by first | exact (set_0 (by assumption)).1 | exact (set_1 (by assumption)).1) dX8_set_58 (fun H locs hP hD hS => ?_)
        have hP : va_P D vwCl [(aM, .inr (7, [.ref aRo, .ref aHi, .int ((m_X8_record ms RO HI).1), .ref aSn, .int (bI sv), .ref aAs, .ref aLg, .ref aPd, .int ml, .ref aCo, .ref aEa])), (aRo, .inl (y4.1, 151, .inl (upd RO (149 + wh).toNatClampNeg va))), (aHi, .inl (y4.1, 604, .inl ((m_X8_record ms RO HI).2)))] H := hP
        have hD : va_D A [(aM, .inr (7, [.ref aRo, .ref aHi, .int ((m_X8_record ms RO HI).1), .ref aSn, .int (bI sv), .ref aAs, .ref aLg, .ref aPd, .int ml, .ref aCo, .ref aEa])), (aRo, .inl (y4.1, 151, .inl (upd RO (149 + wh).toNatClampNeg va))), (aHi, .inl (y4.1, 604, .inl ((m_X8_record ms RO HI).2)))] := hD
        refine lv_aload_n hx hb dX8_set_59 rfl (lv_at hl 1 rfl) ?_
        refine callW_v (wr := [(aHi, .inl (y4.1, 604, .inl ((m_X8_record ms RO HI).2)))]) (wn := fun u => [(aM, .inr (7, [.ref aRo, .ref aHi, .int ((m_X8_record ms RO HI).1), .ref aSn, .int (bI sv), .ref aAs, .ref aLg, .ref aPd, .int ml, .ref aCo, .ref aEa])), (aRo, .inl (y4.1, 151, .inl (m_X8_remember (upd RO (149 + wh).toNatClampNeg va)))), (aHi, .inl (y4.1, 604, .inl ((m_X8_record ms RO HI).2)))]) (va_runV (As := []) (rest := []) ⟨hx, hb, hml, hown, hts⟩ (met_X8_remember l D y4 aM aRo aHi aSn aAs aLg aPd aCo aEa H.size ((m_X8_record ms RO HI).1) sv ml (upd RO (149 + wh).toNatClampNeg va) (MI_set hM (by first | exact Or.inl (by assumption) | exact Or.inr (by assumption)) _)) (cwV 0 hts gX8_set_X8_remember rfl rfl rfl (by decide +kernel) ⟨Nat.le_of_ble_eq_true rfl, Nat.le_of_ble_eq_true rfl⟩) ⟨preW_blind, va_recv hK hP (ci := 7) (q0 := 0) rfl rfl, preW_at (hP.sub (ws' := [(aM, .inr (7, [.ref aRo, .ref aHi, .int ((m_X8_record ms RO HI).1), .ref aSn, .int (bI sv), .ref aAs, .ref aLg, .ref aPd, .int ml, .ref aCo, .ref aEa])), (aRo, .inl (y4.1, 151, .inl (upd RO (149 + wh).toNatClampNeg va)))]) [0, 1] rfl) hK (hD.sub (ws' := [(aM, .inr (7, [.ref aRo, .ref aHi, .int ((m_X8_record ms RO HI).1), .ref aSn, .int (bI sv), .ref aAs, .ref aLg, .ref aPd, .int ml, .ref aCo, .ref aEa])), (aRo, .inl (y4.1, 151, .inl (upd RO (149 + wh).toNatClampNeg va)))]) [0, 1] (by decide) rfl) hNW⟩ rfl rfl hl.1 rfl (lv_room (Nat.le_of_ble_eq_true rfl)) dX8_set_60 ⟨Nat.zero_le _, Nat.zero_le _⟩) hP hD hS hA [0, 1] [2] [1, 2, 0] rfl rfl (by decide) (by decide) (fun _ => rfl) (by decide) (fun u5 H locs hw hP hD hS => ?_)
        have hP : va_P D vwCl [(aM, .inr (7, [.ref aRo, .ref aHi, .int ((m_X8_record ms RO HI).1), .ref aSn, .int (bI sv), .ref aAs, .ref aLg, .ref aPd, .int ml, .ref aCo, .ref aEa])), (aRo, .inl (y4.1, 151, .inl (m_X8_remember (upd RO (149 + wh).toNatClampNeg va)))), (aHi, .inl (y4.1, 604, .inl ((m_X8_record ms RO HI).2)))] H := hP
        have hD : va_D A [(aM, .inr (7, [.ref aRo, .ref aHi, .int ((m_X8_record ms RO HI).1), .ref aSn, .int (bI sv), .ref aAs, .ref aLg, .ref aPd, .int ml, .ref aCo, .ref aEa])), (aRo, .inl (y4.1, 151, .inl (m_X8_remember (upd RO (149 + wh).toNatClampNeg va)))), (aHi, .inl (y4.1, 604, .inl ((m_X8_record ms RO HI).2)))] := hD
        refine lv_iload_n hx hb dX8_set_63 rfl (lv_at hl 0 rfl) ?_
        have em : m_X8_set ms RO HI wh va = (RO (149 + wh).toNatClampNeg, (m_X8_record ms RO HI).1, (m_X8_remember (upd RO (149 + wh).toNatClampNeg va)), (m_X8_record ms RO HI).2) := (by first | (simp only [m_X8_set, if_neg c1, if_pos c2, if_neg c3]; done) | (simp only [m_X8_set, if_neg c1, if_pos c2, if_neg c3]; rfl))
        exact W.iret (v := RO (149 + wh).toNatClampNeg) hx hb hr (fun t ht hW => ⟨⟨RO (149 + wh).toNatClampNeg, (), rfl, (by rw [em]), ⟨by rw [ht, em]; exact hP, by rw [em]; exact hD⟩⟩, hS.F ht⟩) hS.2.2 dX8_set_64
      · refine lv_iconst (v := (-1)) hx hb dX8_set_31 (by decide) ?_
        have em : m_X8_set ms RO HI wh va = ((-1 : Int32), ms, RO, HI) := (by first | (simp only [m_X8_set, if_neg c1, if_pos c2, if_pos c3]; done) | (simp only [m_X8_set, if_neg c1, if_pos c2, if_pos c3]; rfl))
        exact W.iret (v := (-1)) hx hb hr (fun t ht hW => ⟨⟨(-1), (), rfl, (by rw [em]), ⟨by rw [ht, em]; exact hP, by rw [em]; exact hD⟩⟩, hS.F ht⟩) hS.2.2 dX8_set_32
  · refine lv_iload_n hx hb dX8_set_4 rfl (lv_at hl 2 rfl) ?_
    refine lv_iconst (v := 1) hx hb dX8_set_5 (by decide) ?_
    refine lv_bipush (v := 20) hx hb dX8_set_6 (by decide) ?_
    refine callK_i (va_runS (As := [.int va, .int 1, .int 20]) (rest := []) ⟨hx, hb, hml, hown, hts⟩ (met_X8_in l  va 1 20) (va_cwS 3 hts gX8_set_X8_in rfl rfl rfl (by decide +kernel) ⟨Nat.le_of_ble_eq_true rfl, Nat.le_of_ble_eq_true rfl⟩) ⟨preS_blind, fun U hU hW => ⟨rfl, trivial⟩⟩ rfl rfl hl.1 rfl (lv_room (Nat.le_of_ble_eq_true rfl)) dX8_set_8 ⟨Nat.zero_le _, Nat.zero_le _⟩) hP hS (fun r u H locs hw hP hS => ?_)
    subst hw
    refine lb_if_eq (tgt := 31) hx hb dX8_set_11 (by decide) (fun c6 => ?_) (fun c6 => ?_)
    · refine lv_iconst (v := (-1)) hx hb dX8_set_31 (by decide) ?_
      have em : m_X8_set ms RO HI wh va = ((-1 : Int32), ms, RO, HI) := (by first | (simp only [m_X8_set, if_pos c1, if_pos c6]; done) | (simp only [m_X8_set, if_pos c1, if_pos c6]; rfl))
      exact W.iret (v := (-1)) hx hb hr (fun t ht hW => ⟨⟨(-1), (), rfl, (by rw [em]), ⟨by rw [ht, em]; exact hP, by rw [em]; exact hD⟩⟩, hS.F ht⟩) hS.2.2 dX8_set_32
    · refine lv_goto (tgt := 33) hx hb dX8_set_14 (by decide) ?_
      refine lv_aload_n hx hb dX8_set_33 rfl (lv_at hl 0 rfl) ?_
      refine callW_v (wr := []) (wn := fun u => [(aM, .inr (7, [.ref aRo, .ref aHi, .int ((m_X8_record ms RO HI).1), .ref aSn, .int (bI sv), .ref aAs, .ref aLg, .ref aPd, .int ml, .ref aCo, .ref aEa])), (aRo, .inl (y4.1, 151, .inl RO)), (aHi, .inl (y4.1, 604, .inl ((m_X8_record ms RO HI).2)))]) (va_runV (As := []) (rest := []) ⟨hx, hb, hml, hown, hts⟩ (met_X8_record l D y4 aM aRo aHi aSn aAs aLg aPd aCo aEa H.size ms sv ml RO HI hms) (cwV 0 hts gX8_set_X8_record rfl rfl rfl (by decide +kernel) ⟨Nat.le_of_ble_eq_true rfl, Nat.le_of_ble_eq_true rfl⟩) ⟨preW_blind, va_recv hK hP (ci := 7) (q0 := 0) rfl rfl, preW_at (hP.sub (ws' := [(aM, .inr (7, [.ref aRo, .ref aHi, .int ms, .ref aSn, .int (bI sv), .ref aAs, .ref aLg, .ref aPd, .int ml, .ref aCo, .ref aEa])), (aRo, .inl (y4.1, 151, .inl RO)), (aHi, .inl (y4.1, 604, .inl HI))]) [0, 1, 2] rfl) hK (hD.sub (ws' := [(aM, .inr (7, [.ref aRo, .ref aHi, .int ms, .ref aSn, .int (bI sv), .ref aAs, .ref aLg, .ref aPd, .int ml, .ref aCo, .ref aEa])), (aRo, .inl (y4.1, 151, .inl RO)), (aHi, .inl (y4.1, 604, .inl HI))]) [0, 1, 2] (by decide) rfl) hNW⟩ rfl rfl hl.1 rfl (lv_room (Nat.le_of_ble_eq_true rfl)) dX8_set_34 ⟨Nat.zero_le _, Nat.zero_le _⟩) hP hD hS hA [0, 1, 2] [] [0, 1, 2] rfl rfl (by decide) (by decide) (fun _ => rfl) (by decide) (fun u7 H locs hw hP hD hS => ?_)
      have hP : va_P D vwCl [(aM, .inr (7, [.ref aRo, .ref aHi, .int ((m_X8_record ms RO HI).1), .ref aSn, .int (bI sv), .ref aAs, .ref aLg, .ref aPd, .int ml, .ref aCo, .ref aEa])), (aRo, .inl (y4.1, 151, .inl RO)), (aHi, .inl (y4.1, 604, .inl ((m_X8_record ms RO HI).2)))] H := hP
      have hD : va_D A [(aM, .inr (7, [.ref aRo, .ref aHi, .int ((m_X8_record ms RO HI).1), .ref aSn, .int (bI sv), .ref aAs, .ref aLg, .ref aPd, .int ml, .ref aCo, .ref aEa])), (aRo, .inl (y4.1, 151, .inl RO)), (aHi, .inl (y4.1, 604, .inl ((m_X8_record ms RO HI).2)))] := hD
      refine lv_aload_n hx hb dX8_set_37 rfl (lv_at hl 0 rfl) ?_
      refine va_get (ci := 7) (v := .ref aRo) (C := RX8) (T := TX8) (N := 11) hx hb hts iX8 hown hK hP 0 rfl rfl 0 (by decide) f7 (fun _ h9 => h9) rfl dX8_set_38 ?_
      refine lv_sipush (v := 149) hx hb dX8_set_41 (by decide) ?_
      refine lv_iload_n hx hb dX8_set_44 rfl (lv_at hl 1 rfl) ?_
      refine lv_iadd hx hb dX8_set_45 ?_
      refine va_iald hx hb hK hP 1 0 rfl rfl (by first | exact (set_0 (by assumption)).1 | exact (set_1 (by assumption)).1) dX8_set_46 ?_
      refine lv_istore_n (lv' := [(3, .int (RO (149 + wh).toNatClampNeg)), (0, .ref aM), (1, .int wh), (2, .int va)]) hx hb dX8_set_47 rfl hl (by decide) rfl (fun ls hl => ?_)
      refine lv_aload_n hx hb dX8_set_48 rfl (lv_at hl 1 rfl) ?_
      refine va_get (ci := 7) (v := .ref aRo) (C := RX8) (T := TX8) (N := 11) hx hb hts iX8 hown hK hP 0 rfl rfl 0 (by decide) f7 (fun _ h9 => h9) rfl dX8_set_49 ?_
      refine lv_sipush (v := 149) hx hb dX8_set_52 (by decide) ?_
      refine lv_iload_n hx hb dX8_set_55 rfl (lv_at hl 2 rfl) ?_
      refine lv_iadd hx hb dX8_set_56 ?_
      refine lv_iload_n hx hb dX8_set_57 rfl (lv_at hl 3 rfl) ?_
      refine va_iast hx hb hK hP hD hS 1 0 rfl rfl (by first | exact (set_0 (by assumption)).1 | exact (set_1 (by assumption)).1) dX8_set_58 (fun H locs hP hD hS => ?_)
      have hP : va_P D vwCl [(aM, .inr (7, [.ref aRo, .ref aHi, .int ((m_X8_record ms RO HI).1), .ref aSn, .int (bI sv), .ref aAs, .ref aLg, .ref aPd, .int ml, .ref aCo, .ref aEa])), (aRo, .inl (y4.1, 151, .inl (upd RO (149 + wh).toNatClampNeg va))), (aHi, .inl (y4.1, 604, .inl ((m_X8_record ms RO HI).2)))] H := hP
      have hD : va_D A [(aM, .inr (7, [.ref aRo, .ref aHi, .int ((m_X8_record ms RO HI).1), .ref aSn, .int (bI sv), .ref aAs, .ref aLg, .ref aPd, .int ml, .ref aCo, .ref aEa])), (aRo, .inl (y4.1, 151, .inl (upd RO (149 + wh).toNatClampNeg va))), (aHi, .inl (y4.1, 604, .inl ((m_X8_record ms RO HI).2)))] := hD
      refine lv_aload_n hx hb dX8_set_59 rfl (lv_at hl 1 rfl) ?_
      refine callW_v (wr := [(aHi, .inl (y4.1, 604, .inl ((m_X8_record ms RO HI).2)))]) (wn := fun u => [(aM, .inr (7, [.ref aRo, .ref aHi, .int ((m_X8_record ms RO HI).1), .ref aSn, .int (bI sv), .ref aAs, .ref aLg, .ref aPd, .int ml, .ref aCo, .ref aEa])), (aRo, .inl (y4.1, 151, .inl (m_X8_remember (upd RO (149 + wh).toNatClampNeg va)))), (aHi, .inl (y4.1, 604, .inl ((m_X8_record ms RO HI).2)))]) (va_runV (As := []) (rest := []) ⟨hx, hb, hml, hown, hts⟩ (met_X8_remember l D y4 aM aRo aHi aSn aAs aLg aPd aCo aEa H.size ((m_X8_record ms RO HI).1) sv ml (upd RO (149 + wh).toNatClampNeg va) (MI_set hM (by first | exact Or.inl (by assumption) | exact Or.inr (by assumption)) _)) (cwV 0 hts gX8_set_X8_remember rfl rfl rfl (by decide +kernel) ⟨Nat.le_of_ble_eq_true rfl, Nat.le_of_ble_eq_true rfl⟩) ⟨preW_blind, va_recv hK hP (ci := 7) (q0 := 0) rfl rfl, preW_at (hP.sub (ws' := [(aM, .inr (7, [.ref aRo, .ref aHi, .int ((m_X8_record ms RO HI).1), .ref aSn, .int (bI sv), .ref aAs, .ref aLg, .ref aPd, .int ml, .ref aCo, .ref aEa])), (aRo, .inl (y4.1, 151, .inl (upd RO (149 + wh).toNatClampNeg va)))]) [0, 1] rfl) hK (hD.sub (ws' := [(aM, .inr (7, [.ref aRo, .ref aHi, .int ((m_X8_record ms RO HI).1), .ref aSn, .int (bI sv), .ref aAs, .ref aLg, .ref aPd, .int ml, .ref aCo, .ref aEa])), (aRo, .inl (y4.1, 151, .inl (upd RO (149 + wh).toNatClampNeg va)))]) [0, 1] (by decide) rfl) hNW⟩ rfl rfl hl.1 rfl (lv_room (Nat.le_of_ble_eq_true rfl)) dX8_set_60 ⟨Nat.zero_le _, Nat.zero_le _⟩) hP hD hS hA [0, 1] [2] [1, 2, 0] rfl rfl (by decide) (by decide) (fun _ => rfl) (by decide) (fun u8 H locs hw hP hD hS => ?_)
      have hP : va_P D vwCl [(aM, .inr (7, [.ref aRo, .ref aHi, .int ((m_X8_record ms RO HI).1), .ref aSn, .int (bI sv), .ref aAs, .ref aLg, .ref aPd, .int ml, .ref aCo, .ref aEa])), (aRo, .inl (y4.1, 151, .inl (m_X8_remember (upd RO (149 + wh).toNatClampNeg va)))), (aHi, .inl (y4.1, 604, .inl ((m_X8_record ms RO HI).2)))] H := hP
      have hD : va_D A [(aM, .inr (7, [.ref aRo, .ref aHi, .int ((m_X8_record ms RO HI).1), .ref aSn, .int (bI sv), .ref aAs, .ref aLg, .ref aPd, .int ml, .ref aCo, .ref aEa])), (aRo, .inl (y4.1, 151, .inl (m_X8_remember (upd RO (149 + wh).toNatClampNeg va)))), (aHi, .inl (y4.1, 604, .inl ((m_X8_record ms RO HI).2)))] := hD
      refine lv_iload_n hx hb dX8_set_63 rfl (lv_at hl 0 rfl) ?_
      have em : m_X8_set ms RO HI wh va = (RO (149 + wh).toNatClampNeg, (m_X8_record ms RO HI).1, (m_X8_remember (upd RO (149 + wh).toNatClampNeg va)), (m_X8_record ms RO HI).2) := (by first | (simp only [m_X8_set, if_pos c1, if_neg c6]; done) | (simp only [m_X8_set, if_pos c1, if_neg c6]; rfl))
      exact W.iret (v := RO (149 + wh).toNatClampNeg) hx hb hr (fun t ht hW => ⟨⟨RO (149 + wh).toNatClampNeg, (), rfl, (by rw [em]), ⟨by rw [ht, em]; exact hP, by rw [em]; exact hD⟩⟩, hS.F ht⟩) hS.2.2 dX8_set_64
def m_X8_step (ms : Int32) (RO : Nat → Int32) (HI : Nat → Int32) (di : Int32) : Int32 × Int32 × (Nat → Int32) × (Nat → Int32) := (if (m_X8_in di 0 3) = false then ((-1 : Int32), ms, RO, HI) else (if (m_X8_canGo RO (RO 147) di) = false then ((-2 : Int32), ms, RO, HI) else ((m_X8_go RO di) 147, (m_X8_record ms RO HI).1, (m_X8_go RO di), (m_X8_record ms RO HI).2)))
set_option maxHeartbeats 4000000 in
set_option maxRecDepth 100000 in
theorem met_X8_step (l : Launch) (D : va_G) (y4 : vT) (aM aRo aHi aSn aAs aLg aPd aCo aEa : Nat) (sz : Nat) (ms : Int32) (sv : Bool) (ml : Int32) (RO : Nat → Int32) (HI : Nat → Int32) (di : Int32) (hM : MI RO) (hms : 0 ≤ ms.toInt ∧ ms.toInt ≤ (4 : Nat)) : Met l yX8_step wsX8_step ({ frames := 9, cells := 0, slots := 0, locals := 208 }) (va_Pc [.ref aM, .int di] (PreW D y4 [(aM, .inr (7, [.ref aRo, .ref aHi, .int ms, .ref aSn, .int (bI sv), .ref aAs, .ref aLg, .ref aPd, .int ml, .ref aCo, .ref aEa])), (aRo, .inl (y4.1, 151, .inl RO)), (aHi, .inl (y4.1, 604, .inl HI))] sz)) (va_Qi (fun (r : Int32) (_ : Unit) => r = (m_X8_step ms RO HI di).1) (fun _ t => PostW D (va_A [(aM, .inr (7, [.ref aRo, .ref aHi, .int ms, .ref aSn, .int (bI sv), .ref aAs, .ref aLg, .ref aPd, .int ml, .ref aCo, .ref aEa])), (aRo, .inl (y4.1, 151, .inl RO)), (aHi, .inl (y4.1, 604, .inl HI))] sz) [(aM, .inr (7, [.ref aRo, .ref aHi, .int ((m_X8_step ms RO HI di).2.1), .ref aSn, .int (bI sv), .ref aAs, .ref aLg, .ref aPd, .int ml, .ref aCo, .ref aEa])), (aRo, .inl (y4.1, 151, .inl ((m_X8_step ms RO HI di).2.2.1))), (aHi, .inl (y4.1, 604, .inl ((m_X8_step ms RO HI di).2.2.2)))] t) (va_A [(aM, .inr (7, [.ref aRo, .ref aHi, .int ms, .ref aSn, .int (bI sv), .ref aAs, .ref aLg, .ref aPd, .int ml, .ref aCo, .ref aEa])), (aRo, .inl (y4.1, 151, .inl RO)), (aHi, .inl (y4.1, 604, .inl HI))] sz)) 0 0 (va_A [(aM, .inr (7, [.ref aRo, .ref aHi, .int ms, .ref aSn, .int (bI sv), .ref aAs, .ref aLg, .ref aPd, .int ml, .ref aCo, .ref aEa])), (aRo, .inl (y4.1, 151, .inl RO)), (aHi, .inl (y4.1, 604, .inl HI))] sz) := by
  refine Met.ofW (cc := cX8_step) (maxL := 2) (ret := (some .int)) (by decide) rfl ?_
  intro p e s m args below meth c s₁ B hml hv
  obtain ⟨rfl, hsz, hP, hK, hD0, hNW⟩ := hv
  have hx := B.exec
  have hb := B.bytes
  have hr := B.returns
  have hts := atoms_spec (ws := wsX8_step) B.pre
  have hown : s.vm.findClass RX8 = some m.cls := findClass_of_methodNamed B.named
  have hlocks := B.notSynchronized
  subst hsz
  have hD := hD0.self (sz := s.heap.size)
  generalize hAe : va_A [(aM, .inr (7, [.ref aRo, .ref aHi, .int ms, .ref aSn, .int (bI sv), .ref aAs, .ref aLg, .ref aPd, .int ml, .ref aCo, .ref aEa])), (aRo, .inl (y4.1, 151, .inl RO)), (aHi, .inl (y4.1, 604, .inl HI))] s.heap.size = A at hD ⊢
  have hA : ∀ q : Nat, s.heap.size ≤ q → A q := fun q h => by rw [← hAe]; exact Or.inr h
  have hS : va_S A s.heap s.heap [] := va_S.rf
  have hl := lv_entry ([.ref aM, .int di]) (n := 2) (Nat.le_of_ble_eq_true rfl)
  rw [lg_entry_eq]
  generalize (lg_sl ([.ref aM, .int di]) ++ List.replicate (2 - (lg_sl ([.ref aM, .int di])).length) Slot.unset).toArray = ls at hl ⊢
  have hl : lv_has ls 2 [(0, .ref aM), (1, .int di)] := hl
  have f7 := hts (.fieldLink RX8 7 "PillarLightModel" "row" "[I") (List.mem_of_getElem? (i := 1) rfl)
  have iX8 : ∀ w ∈ wsX80, w ∈ wsX8_step := fun _ h => List.mem_cons_of_mem _ (List.mem_append_right _ h)
  refine startW (fun H locs hP hS => ?_) hP hS
  refine lv_iload_n hx hb dX8_step_0 rfl (lv_at hl 1 rfl) ?_
  refine lv_iconst (v := 0) hx hb dX8_step_1 (by decide) ?_
  refine lv_iconst (v := 3) hx hb dX8_step_2 (by decide) ?_
  refine callK_i (va_runS (As := [.int di, .int 0, .int 3]) (rest := []) ⟨hx, hb, hml, hown, hts⟩ (met_X8_in l  di 0 3) (va_cwS 3 hts gX8_step_X8_in rfl rfl rfl (by decide +kernel) ⟨Nat.le_of_ble_eq_true rfl, Nat.le_of_ble_eq_true rfl⟩) ⟨preS_blind, fun U hU hW => ⟨rfl, trivial⟩⟩ rfl rfl hl.1 rfl (lv_room (Nat.le_of_ble_eq_true rfl)) dX8_step_3 ⟨Nat.zero_le _, Nat.zero_le _⟩) hP hS (fun r u H locs hw hP hS => ?_)
  subst hw
  refine lb_if_ne (tgt := 11) hx hb dX8_step_6 (by decide) (fun c1 => ?_) (fun c1 => ?_)
  · refine lv_aload_n hx hb dX8_step_11 rfl (lv_at hl 0 rfl) ?_
    refine lv_aload_n hx hb dX8_step_12 rfl (lv_at hl 0 rfl) ?_
    refine va_get (ci := 7) (v := .ref aRo) (C := RX8) (T := TX8) (N := 11) hx hb hts iX8 hown hK hP 0 rfl rfl 0 (by decide) f7 (fun _ h9 => h9) rfl dX8_step_13 ?_
    refine lv_sipush (v := 147) hx hb dX8_step_16 (by decide) ?_
    refine va_iald hx hb hK hP 1 0 rfl rfl (vp_in_nI (n := 147) (by decide) (by decide)) dX8_step_19 ?_
    refine W.ofeqi (y := RO 147) (congrArg RO (by decide : (147 : Int32).toNatClampNeg = 147)) ?_
    refine lv_iload_n hx hb dX8_step_20 rfl (lv_at hl 1 rfl) ?_
    refine callW_i (wr := [(aHi, .inl (y4.1, 604, .inl HI))]) (wn := fun u => [(aM, .inr (7, [.ref aRo, .ref aHi, .int ms, .ref aSn, .int (bI sv), .ref aAs, .ref aLg, .ref aPd, .int ml, .ref aCo, .ref aEa])), (aRo, .inl (y4.1, 151, .inl RO)), (aHi, .inl (y4.1, 604, .inl HI))]) (va_runV (As := [.int (RO 147), .int di]) (rest := []) ⟨hx, hb, hml, hown, hts⟩ (met_X8_canGo l D y4 aM aRo aHi aSn aAs aLg aPd aCo aEa H.size ms sv ml RO (RO 147) di hM.2.2) (cwV 2 hts gX8_step_X8_canGo rfl rfl rfl (by decide +kernel) ⟨Nat.le_of_ble_eq_true rfl, Nat.le_of_ble_eq_true rfl⟩) ⟨preW_blind, va_recv hK hP (ci := 7) (q0 := 0) rfl rfl, preW_at (hP.sub (ws' := [(aM, .inr (7, [.ref aRo, .ref aHi, .int ms, .ref aSn, .int (bI sv), .ref aAs, .ref aLg, .ref aPd, .int ml, .ref aCo, .ref aEa])), (aRo, .inl (y4.1, 151, .inl RO))]) [0, 1] rfl) hK (hD.sub (ws' := [(aM, .inr (7, [.ref aRo, .ref aHi, .int ms, .ref aSn, .int (bI sv), .ref aAs, .ref aLg, .ref aPd, .int ml, .ref aCo, .ref aEa])), (aRo, .inl (y4.1, 151, .inl RO))]) [0, 1] (by decide) rfl) hNW⟩ rfl rfl hl.1 rfl (lv_room (Nat.le_of_ble_eq_true rfl)) dX8_step_21 ⟨Nat.zero_le _, Nat.zero_le _⟩) hP hD hS hA [0, 1] [2] [1, 2, 0] rfl rfl (by decide) (by decide) (fun _ => rfl) (by decide) (fun r u2 H locs hw hP hD hS => ?_)
    subst hw
    have hP : va_P D vwCl [(aM, .inr (7, [.ref aRo, .ref aHi, .int ms, .ref aSn, .int (bI sv), .ref aAs, .ref aLg, .ref aPd, .int ml, .ref aCo, .ref aEa])), (aRo, .inl (y4.1, 151, .inl RO)), (aHi, .inl (y4.1, 604, .inl HI))] H := hP
    have hD : va_D A [(aM, .inr (7, [.ref aRo, .ref aHi, .int ms, .ref aSn, .int (bI sv), .ref aAs, .ref aLg, .ref aPd, .int ml, .ref aCo, .ref aEa])), (aRo, .inl (y4.1, 151, .inl RO)), (aHi, .inl (y4.1, 604, .inl HI))] := hD
    refine lb_if_ne (tgt := 30) hx hb dX8_step_24 (by decide) (fun c3 => ?_) (fun c3 => ?_)
    · refine lv_aload_n hx hb dX8_step_30 rfl (lv_at hl 0 rfl) ?_
      refine callW_v (wr := []) (wn := fun u => [(aM, .inr (7, [.ref aRo, .ref aHi, .int ((m_X8_record ms RO HI).1), .ref aSn, .int (bI sv), .ref aAs, .ref aLg, .ref aPd, .int ml, .ref aCo, .ref aEa])), (aRo, .inl (y4.1, 151, .inl RO)), (aHi, .inl (y4.1, 604, .inl ((m_X8_record ms RO HI).2)))]) (va_runV (As := []) (rest := []) ⟨hx, hb, hml, hown, hts⟩ (met_X8_record l D y4 aM aRo aHi aSn aAs aLg aPd aCo aEa H.size ms sv ml RO HI hms) (cwV 0 hts gX8_step_X8_record rfl rfl rfl (by decide +kernel) ⟨Nat.le_of_ble_eq_true rfl, Nat.le_of_ble_eq_true rfl⟩) ⟨preW_blind, va_recv hK hP (ci := 7) (q0 := 0) rfl rfl, preW_at (hP.sub (ws' := [(aM, .inr (7, [.ref aRo, .ref aHi, .int ms, .ref aSn, .int (bI sv), .ref aAs, .ref aLg, .ref aPd, .int ml, .ref aCo, .ref aEa])), (aRo, .inl (y4.1, 151, .inl RO)), (aHi, .inl (y4.1, 604, .inl HI))]) [0, 1, 2] rfl) hK (hD.sub (ws' := [(aM, .inr (7, [.ref aRo, .ref aHi, .int ms, .ref aSn, .int (bI sv), .ref aAs, .ref aLg, .ref aPd, .int ml, .ref aCo, .ref aEa])), (aRo, .inl (y4.1, 151, .inl RO)), (aHi, .inl (y4.1, 604, .inl HI))]) [0, 1, 2] (by decide) rfl) hNW⟩ rfl rfl hl.1 rfl (lv_room (Nat.le_of_ble_eq_true rfl)) dX8_step_31 ⟨Nat.zero_le _, Nat.zero_le _⟩) hP hD hS hA [0, 1, 2] [] [0, 1, 2] rfl rfl (by decide) (by decide) (fun _ => rfl) (by decide) (fun u4 H locs hw hP hD hS => ?_)
      have hP : va_P D vwCl [(aM, .inr (7, [.ref aRo, .ref aHi, .int ((m_X8_record ms RO HI).1), .ref aSn, .int (bI sv), .ref aAs, .ref aLg, .ref aPd, .int ml, .ref aCo, .ref aEa])), (aRo, .inl (y4.1, 151, .inl RO)), (aHi, .inl (y4.1, 604, .inl ((m_X8_record ms RO HI).2)))] H := hP
      have hD : va_D A [(aM, .inr (7, [.ref aRo, .ref aHi, .int ((m_X8_record ms RO HI).1), .ref aSn, .int (bI sv), .ref aAs, .ref aLg, .ref aPd, .int ml, .ref aCo, .ref aEa])), (aRo, .inl (y4.1, 151, .inl RO)), (aHi, .inl (y4.1, 604, .inl ((m_X8_record ms RO HI).2)))] := hD
      refine lv_aload_n hx hb dX8_step_34 rfl (lv_at hl 0 rfl) ?_
      refine lv_iload_n hx hb dX8_step_35 rfl (lv_at hl 1 rfl) ?_
      refine callW_v (wr := [(aHi, .inl (y4.1, 604, .inl ((m_X8_record ms RO HI).2)))]) (wn := fun u => [(aM, .inr (7, [.ref aRo, .ref aHi, .int ((m_X8_record ms RO HI).1), .ref aSn, .int (bI sv), .ref aAs, .ref aLg, .ref aPd, .int ml, .ref aCo, .ref aEa])), (aRo, .inl (y4.1, 151, .inl (m_X8_go RO di))), (aHi, .inl (y4.1, 604, .inl ((m_X8_record ms RO HI).2)))]) (va_runV (As := [.int di]) (rest := []) ⟨hx, hb, hml, hown, hts⟩ (met_X8_go l D y4 aM aRo aHi aSn aAs aLg aPd aCo aEa H.size ((m_X8_record ms RO HI).1) sv ml RO di hM (canGo_in hM.2.2 (by assumption))) (cwV 1 hts gX8_step_X8_go rfl rfl rfl (by decide +kernel) ⟨Nat.le_of_ble_eq_true rfl, Nat.le_of_ble_eq_true rfl⟩) ⟨preW_blind, va_recv hK hP (ci := 7) (q0 := 0) rfl rfl, preW_at (hP.sub (ws' := [(aM, .inr (7, [.ref aRo, .ref aHi, .int ((m_X8_record ms RO HI).1), .ref aSn, .int (bI sv), .ref aAs, .ref aLg, .ref aPd, .int ml, .ref aCo, .ref aEa])), (aRo, .inl (y4.1, 151, .inl RO))]) [0, 1] rfl) hK (hD.sub (ws' := [(aM, .inr (7, [.ref aRo, .ref aHi, .int ((m_X8_record ms RO HI).1), .ref aSn, .int (bI sv), .ref aAs, .ref aLg, .ref aPd, .int ml, .ref aCo, .ref aEa])), (aRo, .inl (y4.1, 151, .inl RO))]) [0, 1] (by decide) rfl) hNW⟩ rfl rfl hl.1 rfl (lv_room (Nat.le_of_ble_eq_true rfl)) dX8_step_36 ⟨Nat.zero_le _, Nat.zero_le _⟩) hP hD hS hA [0, 1] [2] [1, 2, 0] rfl rfl (by decide) (by decide) (fun _ => rfl) (by decide) (fun u5 H locs hw hP hD hS => ?_)
      have hP : va_P D vwCl [(aM, .inr (7, [.ref aRo, .ref aHi, .int ((m_X8_record ms RO HI).1), .ref aSn, .int (bI sv), .ref aAs, .ref aLg, .ref aPd, .int ml, .ref aCo, .ref aEa])), (aRo, .inl (y4.1, 151, .inl (m_X8_go RO di))), (aHi, .inl (y4.1, 604, .inl ((m_X8_record ms RO HI).2)))] H := hP
      have hD : va_D A [(aM, .inr (7, [.ref aRo, .ref aHi, .int ((m_X8_record ms RO HI).1), .ref aSn, .int (bI sv), .ref aAs, .ref aLg, .ref aPd, .int ml, .ref aCo, .ref aEa])), (aRo, .inl (y4.1, 151, .inl (m_X8_go RO di))), (aHi, .inl (y4.1, 604, .inl ((m_X8_record ms RO HI).2)))] := hD
      refine lv_aload_n hx hb dX8_step_39 rfl (lv_at hl 0 rfl) ?_
      refine va_get (ci := 7) (v := .ref aRo) (C := RX8) (T := TX8) (N := 11) hx hb hts iX8 hown hK hP 0 rfl rfl 0 (by decide) f7 (fun _ h9 => h9) rfl dX8_step_40 ?_
      refine lv_sipush (v := 147) hx hb dX8_step_43 (by decide) ?_
      refine va_iald hx hb hK hP 1 0 rfl rfl (vp_in_nI (n := 147) (by decide) (by decide)) dX8_step_46 ?_
      refine W.ofeqi (y := (m_X8_go RO di) 147) (congrArg (m_X8_go RO di) (by decide : (147 : Int32).toNatClampNeg = 147)) ?_
      have em : m_X8_step ms RO HI di = ((m_X8_go RO di) 147, (m_X8_record ms RO HI).1, (m_X8_go RO di), (m_X8_record ms RO HI).2) := (by first | (simp only [m_X8_step, if_neg c1, if_neg c3]; done) | (simp only [m_X8_step, if_neg c1, if_neg c3]; rfl))
      exact W.iret (v := (m_X8_go RO di) 147) hx hb hr (fun t ht hW => ⟨⟨(m_X8_go RO di) 147, (), rfl, (by rw [em]), ⟨by rw [ht, em]; exact hP, by rw [em]; exact hD⟩⟩, hS.F ht⟩) hS.2.2 dX8_step_47
    · refine lv_bipush (v := (-2)) hx hb dX8_step_27 (by decide) ?_
      have em : m_X8_step ms RO HI di = ((-2 : Int32), ms, RO, HI) := (by first | (simp only [m_X8_step, if_neg c1, if_pos c3]; done) | (simp only [m_X8_step, if_neg c1, if_pos c3]; rfl))
      exact W.iret (v := (-2)) hx hb hr (fun t ht hW => ⟨⟨(-2), (), rfl, (by rw [em]), ⟨by rw [ht, em]; exact hP, by rw [em]; exact hD⟩⟩, hS.F ht⟩) hS.2.2 dX8_step_29
  · refine lv_iconst (v := (-1)) hx hb dX8_step_9 (by decide) ?_
    have em : m_X8_step ms RO HI di = ((-1 : Int32), ms, RO, HI) := (by first | (simp only [m_X8_step, if_pos c1]; done) | (simp only [m_X8_step, if_pos c1]; rfl))
    exact W.iret (v := (-1)) hx hb hr (fun t ht hW => ⟨⟨(-1), (), rfl, (by rw [em]), ⟨by rw [ht, em]; exact hP, by rw [em]; exact hD⟩⟩, hS.F ht⟩) hS.2.2 dX8_step_10
def f_X8_forget_11 (k4 : Nat) (t5 : (Nat → Int32)) : ((Int32 × Int32 × (Nat → Int32) × (Nat → Int32)) ⊕ ((Nat → Int32))) ⊕ ((Nat → Int32)) := (.inr (upd t5 (64 + (nI k4)).toNatClampNeg 0))
def m_X8_forget (ms : Int32) (RO : Nat → Int32) (HI : Nat → Int32) : Int32 × Int32 × (Nat → Int32) × (Nat → Int32) := (let q1 : Int32 × (Nat → Int32) := m_X8_record ms RO HI; (lpr (lpx f_X8_forget_11 64 0 RO) id (fun t10 => ((m_X8_knownCells RO), q1.1, (m_X8_remember t10), q1.2))))
set_option maxHeartbeats 4000000 in
set_option maxRecDepth 100000 in
theorem met_X8_forget (l : Launch) (D : va_G) (y4 : vT) (aM aRo aHi aSn aAs aLg aPd aCo aEa : Nat) (sz : Nat) (ms : Int32) (sv : Bool) (ml : Int32) (RO : Nat → Int32) (HI : Nat → Int32) (hM : MI RO) (hms : 0 ≤ ms.toInt ∧ ms.toInt ≤ (4 : Nat)) : Met l yX8_forget wsX8_forget ({ frames := 8, cells := 0, slots := 0, locals := 186 }) (va_Pc [.ref aM] (PreW D y4 [(aM, .inr (7, [.ref aRo, .ref aHi, .int ms, .ref aSn, .int (bI sv), .ref aAs, .ref aLg, .ref aPd, .int ml, .ref aCo, .ref aEa])), (aRo, .inl (y4.1, 151, .inl RO)), (aHi, .inl (y4.1, 604, .inl HI))] sz)) (va_Qi (fun (r : Int32) (_ : Unit) => r = (m_X8_forget ms RO HI).1) (fun _ t => PostW D (va_A [(aM, .inr (7, [.ref aRo, .ref aHi, .int ms, .ref aSn, .int (bI sv), .ref aAs, .ref aLg, .ref aPd, .int ml, .ref aCo, .ref aEa])), (aRo, .inl (y4.1, 151, .inl RO)), (aHi, .inl (y4.1, 604, .inl HI))] sz) [(aM, .inr (7, [.ref aRo, .ref aHi, .int ((m_X8_forget ms RO HI).2.1), .ref aSn, .int (bI sv), .ref aAs, .ref aLg, .ref aPd, .int ml, .ref aCo, .ref aEa])), (aRo, .inl (y4.1, 151, .inl ((m_X8_forget ms RO HI).2.2.1))), (aHi, .inl (y4.1, 604, .inl ((m_X8_forget ms RO HI).2.2.2)))] t) (va_A [(aM, .inr (7, [.ref aRo, .ref aHi, .int ms, .ref aSn, .int (bI sv), .ref aAs, .ref aLg, .ref aPd, .int ml, .ref aCo, .ref aEa])), (aRo, .inl (y4.1, 151, .inl RO)), (aHi, .inl (y4.1, 604, .inl HI))] sz)) 0 0 (va_A [(aM, .inr (7, [.ref aRo, .ref aHi, .int ms, .ref aSn, .int (bI sv), .ref aAs, .ref aLg, .ref aPd, .int ml, .ref aCo, .ref aEa])), (aRo, .inl (y4.1, 151, .inl RO)), (aHi, .inl (y4.1, 604, .inl HI))] sz) := by
  refine Met.ofW (cc := cX8_forget) (maxL := 3) (ret := (some .int)) (by decide) rfl ?_
  intro p e s m args below meth c s₁ B hml hv
  obtain ⟨rfl, hsz, hP, hK, hD0, hNW⟩ := hv
  have hx := B.exec
  have hb := B.bytes
  have hr := B.returns
  have hts := atoms_spec (ws := wsX8_forget) B.pre
  have hown : s.vm.findClass RX8 = some m.cls := findClass_of_methodNamed B.named
  have hlocks := B.notSynchronized
  subst hsz
  have hD := hD0.self (sz := s.heap.size)
  generalize hAe : va_A [(aM, .inr (7, [.ref aRo, .ref aHi, .int ms, .ref aSn, .int (bI sv), .ref aAs, .ref aLg, .ref aPd, .int ml, .ref aCo, .ref aEa])), (aRo, .inl (y4.1, 151, .inl RO)), (aHi, .inl (y4.1, 604, .inl HI))] s.heap.size = A at hD ⊢
  have hA : ∀ q : Nat, s.heap.size ≤ q → A q := fun q h => by rw [← hAe]; exact Or.inr h
  have hS : va_S A s.heap s.heap [] := va_S.rf
  have hl := lv_entry ([.ref aM]) (n := 3) (Nat.le_of_ble_eq_true rfl)
  rw [lg_entry_eq]
  generalize (lg_sl ([.ref aM]) ++ List.replicate (3 - (lg_sl ([.ref aM])).length) Slot.unset).toArray = ls at hl ⊢
  have hl : lv_has ls 3 [(0, .ref aM)] := hl
  have f7 := hts (.fieldLink RX8 7 "PillarLightModel" "row" "[I") (List.mem_of_getElem? (i := 1) rfl)
  have iX8 : ∀ w ∈ wsX80, w ∈ wsX8_forget := fun _ h => List.mem_cons_of_mem _ (List.mem_append_right _ h)
  refine startW (fun H locs hP hS => ?_) hP hS
  refine lv_aload_n hx hb dX8_forget_0 rfl (lv_at hl 0 rfl) ?_
  refine callW_v (wr := []) (wn := fun u => [(aM, .inr (7, [.ref aRo, .ref aHi, .int ((m_X8_record ms RO HI).1), .ref aSn, .int (bI sv), .ref aAs, .ref aLg, .ref aPd, .int ml, .ref aCo, .ref aEa])), (aRo, .inl (y4.1, 151, .inl RO)), (aHi, .inl (y4.1, 604, .inl ((m_X8_record ms RO HI).2)))]) (va_runV (As := []) (rest := []) ⟨hx, hb, hml, hown, hts⟩ (met_X8_record l D y4 aM aRo aHi aSn aAs aLg aPd aCo aEa H.size ms sv ml RO HI hms) (cwV 0 hts gX8_forget_X8_record rfl rfl rfl (by decide +kernel) ⟨Nat.le_of_ble_eq_true rfl, Nat.le_of_ble_eq_true rfl⟩) ⟨preW_blind, va_recv hK hP (ci := 7) (q0 := 0) rfl rfl, preW_at (hP.sub (ws' := [(aM, .inr (7, [.ref aRo, .ref aHi, .int ms, .ref aSn, .int (bI sv), .ref aAs, .ref aLg, .ref aPd, .int ml, .ref aCo, .ref aEa])), (aRo, .inl (y4.1, 151, .inl RO)), (aHi, .inl (y4.1, 604, .inl HI))]) [0, 1, 2] rfl) hK (hD.sub (ws' := [(aM, .inr (7, [.ref aRo, .ref aHi, .int ms, .ref aSn, .int (bI sv), .ref aAs, .ref aLg, .ref aPd, .int ml, .ref aCo, .ref aEa])), (aRo, .inl (y4.1, 151, .inl RO)), (aHi, .inl (y4.1, 604, .inl HI))]) [0, 1, 2] (by decide) rfl) hNW⟩ rfl rfl hl.1 rfl (lv_room (Nat.le_of_ble_eq_true rfl)) dX8_forget_1 ⟨Nat.zero_le _, Nat.zero_le _⟩) hP hD hS hA [0, 1, 2] [] [0, 1, 2] rfl rfl (by decide) (by decide) (fun _ => rfl) (by decide) (fun u2 H locs hw hP hD hS => ?_)
  obtain ⟨q1, eq1⟩ : ∃ z, z = m_X8_record ms RO HI := ⟨_, rfl⟩
  rw [← eq1] at hP hD
  have hP : va_P D vwCl [(aM, .inr (7, [.ref aRo, .ref aHi, .int q1.1, .ref aSn, .int (bI sv), .ref aAs, .ref aLg, .ref aPd, .int ml, .ref aCo, .ref aEa])), (aRo, .inl (y4.1, 151, .inl RO)), (aHi, .inl (y4.1, 604, .inl q1.2))] H := hP
  have hD : va_D A [(aM, .inr (7, [.ref aRo, .ref aHi, .int q1.1, .ref aSn, .int (bI sv), .ref aAs, .ref aLg, .ref aPd, .int ml, .ref aCo, .ref aEa])), (aRo, .inl (y4.1, 151, .inl RO)), (aHi, .inl (y4.1, 604, .inl q1.2))] := hD
  refine lv_aload_n hx hb dX8_forget_4 rfl (lv_at hl 0 rfl) ?_
  refine callW_i (wr := [(aHi, .inl (y4.1, 604, .inl q1.2))]) (wn := fun u => [(aM, .inr (7, [.ref aRo, .ref aHi, .int q1.1, .ref aSn, .int (bI sv), .ref aAs, .ref aLg, .ref aPd, .int ml, .ref aCo, .ref aEa])), (aRo, .inl (y4.1, 151, .inl RO)), (aHi, .inl (y4.1, 604, .inl q1.2))]) (va_runV (As := []) (rest := []) ⟨hx, hb, hml, hown, hts⟩ (met_X8_knownCells l D y4 aM aRo aHi aSn aAs aLg aPd aCo aEa H.size q1.1 sv ml RO) (cwV 0 hts gX8_forget_X8_knownCells rfl rfl rfl (by decide +kernel) ⟨Nat.le_of_ble_eq_true rfl, Nat.le_of_ble_eq_true rfl⟩) ⟨preW_blind, va_recv hK hP (ci := 7) (q0 := 0) rfl rfl, preW_at (hP.sub (ws' := [(aM, .inr (7, [.ref aRo, .ref aHi, .int q1.1, .ref aSn, .int (bI sv), .ref aAs, .ref aLg, .ref aPd, .int ml, .ref aCo, .ref aEa])), (aRo, .inl (y4.1, 151, .inl RO))]) [0, 1] rfl) hK (hD.sub (ws' := [(aM, .inr (7, [.ref aRo, .ref aHi, .int q1.1, .ref aSn, .int (bI sv), .ref aAs, .ref aLg, .ref aPd, .int ml, .ref aCo, .ref aEa])), (aRo, .inl (y4.1, 151, .inl RO))]) [0, 1] (by decide) rfl) hNW⟩ rfl rfl hl.1 rfl (lv_room (Nat.le_of_ble_eq_true rfl)) dX8_forget_5 ⟨Nat.zero_le _, Nat.zero_le _⟩) hP hD hS hA [0, 1] [2] [1, 2, 0] rfl rfl (by decide) (by decide) (fun _ => rfl) (by decide) (fun r u3 H locs hw hP hD hS => ?_)
  subst hw
  have hP : va_P D vwCl [(aM, .inr (7, [.ref aRo, .ref aHi, .int q1.1, .ref aSn, .int (bI sv), .ref aAs, .ref aLg, .ref aPd, .int ml, .ref aCo, .ref aEa])), (aRo, .inl (y4.1, 151, .inl RO)), (aHi, .inl (y4.1, 604, .inl q1.2))] H := hP
  have hD : va_D A [(aM, .inr (7, [.ref aRo, .ref aHi, .int q1.1, .ref aSn, .int (bI sv), .ref aAs, .ref aLg, .ref aPd, .int ml, .ref aCo, .ref aEa])), (aRo, .inl (y4.1, 151, .inl RO)), (aHi, .inl (y4.1, 604, .inl q1.2))] := hD
  refine lv_istore_n (lv' := [(1, .int (m_X8_knownCells RO)), (0, .ref aM)]) hx hb dX8_forget_8 rfl hl (by decide) rfl (fun ls hl => ?_)
  refine lv_iconst (v := 0) hx hb dX8_forget_9 (by decide) ?_
  refine lv_istore_n (lv' := [(2, .int 0), (1, .int (m_X8_knownCells RO)), (0, .ref aM)]) hx hb dX8_forget_10 rfl hl (by decide) rfl (fun ls hl => ?_)
  refine cutW (X := (Nat → Int32)) 33 (fun x H locs ls => ((lpx f_X8_forget_11 64 0 RO) = .inl (.inr x) ∨ (lpx f_X8_forget_11 64 0 RO) = .inr x) ∧ (∃ kk : Nat, (fun _ t => ∀ x : Nat, x < 64 ∨ 128 ≤ x → t x = RO x) kk x) ∧ va_P D vwCl [(aM, .inr (7, [.ref aRo, .ref aHi, .int q1.1, .ref aSn, .int (bI sv), .ref aAs, .ref aLg, .ref aPd, .int ml, .ref aCo, .ref aEa])), (aRo, .inl (y4.1, 151, .inl x)), (aHi, .inl (y4.1, 604, .inl q1.2))] H ∧ va_D A [(aM, .inr (7, [.ref aRo, .ref aHi, .int q1.1, .ref aSn, .int (bI sv), .ref aAs, .ref aLg, .ref aPd, .int ml, .ref aCo, .ref aEa])), (aRo, .inl (y4.1, 151, .inl x)), (aHi, .inl (y4.1, 604, .inl q1.2))] ∧ va_S A s.heap H locs ∧ lv_has ls 3 [(1, .int (m_X8_knownCells RO)), (0, .ref aM)]) (fun x => []) ?_ (fun K33 => ?_)
  · rintro t10 H locs ls ⟨et10, ⟨_, hIt10⟩, hP, hD, hS, hl⟩
    have hP : va_P D vwCl [(aM, .inr (7, [.ref aRo, .ref aHi, .int q1.1, .ref aSn, .int (bI sv), .ref aAs, .ref aLg, .ref aPd, .int ml, .ref aCo, .ref aEa])), (aRo, .inl (y4.1, 151, .inl t10)), (aHi, .inl (y4.1, 604, .inl q1.2))] H := hP
    have hD : va_D A [(aM, .inr (7, [.ref aRo, .ref aHi, .int q1.1, .ref aSn, .int (bI sv), .ref aAs, .ref aLg, .ref aPd, .int ml, .ref aCo, .ref aEa])), (aRo, .inl (y4.1, 151, .inl t10)), (aHi, .inl (y4.1, 604, .inl q1.2))] := hD
    have hl : lv_has ls 3 [(1, .int (m_X8_knownCells RO)), (0, .ref aM)] := hl
    have hMt : MI t10 := MI_agree hM hIt10
    refine lv_aload_n hx hb dX8_forget_33 rfl (lv_at hl 1 rfl) ?_
    refine callW_v (wr := [(aHi, .inl (y4.1, 604, .inl q1.2))]) (wn := fun u => [(aM, .inr (7, [.ref aRo, .ref aHi, .int q1.1, .ref aSn, .int (bI sv), .ref aAs, .ref aLg, .ref aPd, .int ml, .ref aCo, .ref aEa])), (aRo, .inl (y4.1, 151, .inl (m_X8_remember t10))), (aHi, .inl (y4.1, 604, .inl q1.2))]) (va_runV (As := []) (rest := []) ⟨hx, hb, hml, hown, hts⟩ (met_X8_remember l D y4 aM aRo aHi aSn aAs aLg aPd aCo aEa H.size q1.1 sv ml t10 (by assumption)) (cwV 0 hts gX8_forget_X8_remember rfl rfl rfl (by decide +kernel) ⟨Nat.le_of_ble_eq_true rfl, Nat.le_of_ble_eq_true rfl⟩) ⟨preW_blind, va_recv hK hP (ci := 7) (q0 := 0) rfl rfl, preW_at (hP.sub (ws' := [(aM, .inr (7, [.ref aRo, .ref aHi, .int q1.1, .ref aSn, .int (bI sv), .ref aAs, .ref aLg, .ref aPd, .int ml, .ref aCo, .ref aEa])), (aRo, .inl (y4.1, 151, .inl t10))]) [0, 1] rfl) hK (hD.sub (ws' := [(aM, .inr (7, [.ref aRo, .ref aHi, .int q1.1, .ref aSn, .int (bI sv), .ref aAs, .ref aLg, .ref aPd, .int ml, .ref aCo, .ref aEa])), (aRo, .inl (y4.1, 151, .inl t10))]) [0, 1] (by decide) rfl) hNW⟩ rfl rfl hl.1 rfl (lv_room (Nat.le_of_ble_eq_true rfl)) dX8_forget_34 ⟨Nat.zero_le _, Nat.zero_le _⟩) hP hD hS hA [0, 1] [2] [1, 2, 0] rfl rfl (by decide) (by decide) (fun _ => rfl) (by decide) (fun u11 H locs hw hP hD hS => ?_)
    have hP : va_P D vwCl [(aM, .inr (7, [.ref aRo, .ref aHi, .int q1.1, .ref aSn, .int (bI sv), .ref aAs, .ref aLg, .ref aPd, .int ml, .ref aCo, .ref aEa])), (aRo, .inl (y4.1, 151, .inl (m_X8_remember t10))), (aHi, .inl (y4.1, 604, .inl q1.2))] H := hP
    have hD : va_D A [(aM, .inr (7, [.ref aRo, .ref aHi, .int q1.1, .ref aSn, .int (bI sv), .ref aAs, .ref aLg, .ref aPd, .int ml, .ref aCo, .ref aEa])), (aRo, .inl (y4.1, 151, .inl (m_X8_remember t10))), (aHi, .inl (y4.1, 604, .inl q1.2))] := hD
    refine lv_iload_n hx hb dX8_forget_37 rfl (lv_at hl 0 rfl) ?_
    have em : m_X8_forget ms RO HI = ((m_X8_knownCells RO), q1.1, (m_X8_remember t10), q1.2) := (by subst eq1; first | (simp only [m_X8_forget, lpr_k et10]; done) | (simp only [m_X8_forget, lpr_k et10]; rfl))
    exact W.iret (v := (m_X8_knownCells RO)) hx hb hr (fun t ht hW => ⟨⟨(m_X8_knownCells RO), (), rfl, (by rw [em]), ⟨by rw [ht, em]; exact hP, by rw [em]; exact hD⟩⟩, hS.F ht⟩) hS.2.2 dX8_forget_38
  · refine loopX (σ := (Nat → Int32)) (ρ := (Int32 × Int32 × (Nat → Int32) × (Nat → Int32)) ⊕ ((Nat → Int32))) 11 f_X8_forget_11 (fun _ t => ∀ x : Nat, x < 64 ∨ 128 ≤ x → t x = RO x) 64 0 RO (fun k4 t5 H locs ls => va_P D vwCl [(aM, .inr (7, [.ref aRo, .ref aHi, .int q1.1, .ref aSn, .int (bI sv), .ref aAs, .ref aLg, .ref aPd, .int ml, .ref aCo, .ref aEa])), (aRo, .inl (y4.1, 151, .inl t5)), (aHi, .inl (y4.1, 604, .inl q1.2))] H ∧ va_D A [(aM, .inr (7, [.ref aRo, .ref aHi, .int q1.1, .ref aSn, .int (bI sv), .ref aAs, .ref aLg, .ref aPd, .int ml, .ref aCo, .ref aEa])), (aRo, .inl (y4.1, 151, .inl t5)), (aHi, .inl (y4.1, 604, .inl q1.2))] ∧ va_S A s.heap H locs ∧ lv_has ls 3 [(2, .int (nI k4)), (1, .int (m_X8_knownCells RO)), (0, .ref aM)]) (fun _ _ => rfl) ⟨hP, hD, hS, lv_sub hl [0, 1, 2] rfl⟩ (fun t8 H locs ls et8 hit8 hh => ?_) (fun k4 t5 hkk4 hjk4 hik4 hretk4 ihk4 H locs ls hh => ?_)
    · obtain ⟨hP, hD, hS, hl⟩ := hh
      have hP : va_P D vwCl [(aM, .inr (7, [.ref aRo, .ref aHi, .int q1.1, .ref aSn, .int (bI sv), .ref aAs, .ref aLg, .ref aPd, .int ml, .ref aCo, .ref aEa])), (aRo, .inl (y4.1, 151, .inl t8)), (aHi, .inl (y4.1, 604, .inl q1.2))] H := hP
      have hD : va_D A [(aM, .inr (7, [.ref aRo, .ref aHi, .int q1.1, .ref aSn, .int (bI sv), .ref aAs, .ref aLg, .ref aPd, .int ml, .ref aCo, .ref aEa])), (aRo, .inl (y4.1, 151, .inl t8)), (aHi, .inl (y4.1, 604, .inl q1.2))] := hD
      have hl : lv_has ls 3 [(2, .int (nI 64)), (1, .int (m_X8_knownCells RO)), (0, .ref aM)] := hl
      refine lv_iload_n hx hb dX8_forget_11 rfl (lv_at hl 0 rfl) ?_
      refine lv_bipush (v := 64) hx hb dX8_forget_12 (by decide) ?_
      refine lv_icmp_ge (tgt := 33) hx hb dX8_forget_14 (by decide) (fun c9 => ?_) (fun c9 => absurd (nI_le (a := 64) (by omega) (by omega)) c9)
      exact K33 t8 H locs ls ⟨Or.inr et8, ⟨64, hit8⟩, hP, hD, hS, lv_sub hl [1, 2] rfl⟩
    · obtain ⟨hP, hD, hS, hl⟩ := hh
      have hP : va_P D vwCl [(aM, .inr (7, [.ref aRo, .ref aHi, .int q1.1, .ref aSn, .int (bI sv), .ref aAs, .ref aLg, .ref aPd, .int ml, .ref aCo, .ref aEa])), (aRo, .inl (y4.1, 151, .inl t5)), (aHi, .inl (y4.1, 604, .inl q1.2))] H := hP
      have hD : va_D A [(aM, .inr (7, [.ref aRo, .ref aHi, .int q1.1, .ref aSn, .int (bI sv), .ref aAs, .ref aLg, .ref aPd, .int ml, .ref aCo, .ref aEa])), (aRo, .inl (y4.1, 151, .inl t5)), (aHi, .inl (y4.1, 604, .inl q1.2))] := hD
      have hl : lv_has ls 3 [(2, .int (nI k4)), (1, .int (m_X8_knownCells RO)), (0, .ref aM)] := hl
      refine lv_iload_n hx hb dX8_forget_11 rfl (lv_at hl 0 rfl) ?_
      refine lv_bipush (v := 64) hx hb dX8_forget_12 (by decide) ?_
      refine lv_icmp_ge (tgt := 33) hx hb dX8_forget_14 (by decide) (fun c7 => absurd c7 (nI_ge (b := 64) (by omega) (by omega))) (fun c7 => ?_)
      refine lv_aload_n hx hb dX8_forget_17 rfl (lv_at hl 2 rfl) ?_
      refine va_get (ci := 7) (v := .ref aRo) (C := RX8) (T := TX8) (N := 11) hx hb hts iX8 hown hK hP 0 rfl rfl 0 (by decide) f7 (fun _ h9 => h9) rfl dX8_forget_18 ?_
      refine lv_bipush (v := 64) hx hb dX8_forget_21 (by decide) ?_
      refine lv_iload_n hx hb dX8_forget_23 rfl (lv_at hl 0 rfl) ?_
      refine lv_iadd hx hb dX8_forget_24 ?_
      refine lv_iconst (v := 0) hx hb dX8_forget_25 (by decide) ?_
      refine va_iast hx hb hK hP hD hS 1 0 rfl rfl (off_in (vp_in_nI (n := k4) (N := 64) (by omega) (by decide)) (by decide) (by decide) (by decide)) dX8_forget_26 (fun H locs hP hD hS => ?_)
      have hP : va_P D vwCl [(aM, .inr (7, [.ref aRo, .ref aHi, .int q1.1, .ref aSn, .int (bI sv), .ref aAs, .ref aLg, .ref aPd, .int ml, .ref aCo, .ref aEa])), (aRo, .inl (y4.1, 151, .inl (upd t5 (64 + (nI k4)).toNatClampNeg 0))), (aHi, .inl (y4.1, 604, .inl q1.2))] H := hP
      have hD : va_D A [(aM, .inr (7, [.ref aRo, .ref aHi, .int q1.1, .ref aSn, .int (bI sv), .ref aAs, .ref aLg, .ref aPd, .int ml, .ref aCo, .ref aEa])), (aRo, .inl (y4.1, 151, .inl (upd t5 (64 + (nI k4)).toNatClampNeg 0))), (aHi, .inl (y4.1, 604, .inl q1.2))] := hD
      refine lv_iinc (v := nI (k4 + 1)) (lv' := [(2, .int (nI (k4 + 1))), (1, .int (m_X8_knownCells RO)), (0, .ref aM)]) hx hb dX8_forget_27 hl (k := 0) rfl (nI_1 _) (by decide) rfl (fun ls hl => ?_)
      refine lv_goto (tgt := 11) hx hb dX8_forget_30 (by decide) ?_
      have ef : f_X8_forget_11 k4 t5 = .inr (upd t5 (64 + (nI k4)).toNatClampNeg 0) := (by first | (simp only [f_X8_forget_11]; done) | (unfold f_X8_forget_11; rfl) | rfl)
      exact ihk4 _ ef (fun x hx => (pk_un (by rw [o64 _ (by omega)]; omega)).trans (hik4 x hx)) H locs ls ⟨hP, hD, hS, lv_sub hl [0, 1, 2] rfl⟩
