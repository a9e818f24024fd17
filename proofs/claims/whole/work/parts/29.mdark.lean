theorem cnt_nI {p : Nat → Bool} {g : Nat → Int32 → Int32} (hg : ∀ k s, g k s = s + bI (p k)) : ∀ n : Nat, ∃ j : Nat, j ≤ n ∧ itr g n 0 = nI j := by
  intro n
  induction n with
  | zero => exact ⟨0, Nat.le_refl 0, rfl⟩
  | succ n ih =>
    obtain ⟨j, hj, e⟩ := ih
    have e1 : itr g (n + 1) 0 = g n (itr g n 0) := rfl
    cases hp : p n with
    | true => exact ⟨j + 1, by omega, by rw [e1, hg, e, hp]; exact nI_1 j⟩
    | false => exact ⟨j, by omega, by rw [e1, hg, e, hp]; exact nI_add j 0⟩
theorem lit8_n (RO LG : Nat → Int32) : ∃ j : Nat, j ≤ 64 ∧ m_X8_litCells RO LG = nI j := by
  refine cnt_nI (p := fun k => if ((m_X8_shine RO LG) (nI k).toNatClampNeg) < (RO 149) then false else true) (g := f_X8_litCells_8 RO LG) (fun k s => ?_) 64
  simp only [f_X8_litCells_8]
theorem dd_cells : ∀ n : Nat, n < 65 → vf_n64 (FP.ddiv (FP.i2d (nI n)) 4634204016564240384) := by unfold vf_n64; decide +kernel
theorem lit8_nan (RO LG : Nat → Int32) : vf_n64 (FP.ddiv (FP.i2d (m_X8_litCells RO LG)) 4634204016564240384) := by
  obtain ⟨j, hj, e⟩ := lit8_n RO LG
  rw [e]; exact dd_cells j (by omega)

def m_X8_litShare (RO : Nat → Int32) (LG : Nat → Int32) : UInt64 := FP.ddiv (FP.i2d (m_X8_litCells RO LG)) 4634204016564240384
set_option maxHeartbeats 4000000 in
set_option maxRecDepth 100000 in
theorem met_X8_litShare (l : Launch) (D : va_G) (y4 : vT) (aM aRo aHi aSn aAs aLg aPd aCo aEa : Nat) (sz : Nat) (ms : Int32) (sv : Bool) (ml : Int32) (RO : Nat → Int32) (LG : Nat → Int32) (hM : MI RO) : Met l yX8_litShare wsX8_litShare ({ frames := 8, cells := 0, slots := 0, locals := 187 }) (va_Pc [.ref aM] (PreW D y4 [(aM, .inr (7, [.ref aRo, .ref aHi, .int ms, .ref aSn, .int (bI sv), .ref aAs, .ref aLg, .ref aPd, .int ml, .ref aCo, .ref aEa])), (aRo, .inl (y4.1, 151, .inl RO)), (aLg, .inl (y4.1, 64, .inl LG))] sz)) (va_Qd (fun (r : UInt64) (_ : (Nat → Int32)) => r = (m_X8_litShare RO LG)) (fun u t => PostW D (va_A [(aM, .inr (7, [.ref aRo, .ref aHi, .int ms, .ref aSn, .int (bI sv), .ref aAs, .ref aLg, .ref aPd, .int ml, .ref aCo, .ref aEa])), (aRo, .inl (y4.1, 151, .inl RO)), (aLg, .inl (y4.1, 64, .inl LG))] sz) [(aM, .inr (7, [.ref aRo, .ref aHi, .int ms, .ref aSn, .int (bI sv), .ref aAs, .ref aLg, .ref aPd, .int ml, .ref aCo, .ref aEa])), (aRo, .inl (y4.1, 151, .inl RO)), (aLg, .inl (y4.1, 64, .inl u))] t) (va_A [(aM, .inr (7, [.ref aRo, .ref aHi, .int ms, .ref aSn, .int (bI sv), .ref aAs, .ref aLg, .ref aPd, .int ml, .ref aCo, .ref aEa])), (aRo, .inl (y4.1, 151, .inl RO)), (aLg, .inl (y4.1, 64, .inl LG))] sz)) 0 0 (va_A [(aM, .inr (7, [.ref aRo, .ref aHi, .int ms, .ref aSn, .int (bI sv), .ref aAs, .ref aLg, .ref aPd, .int ml, .ref aCo, .ref aEa])), (aRo, .inl (y4.1, 151, .inl RO)), (aLg, .inl (y4.1, 64, .inl LG))] sz) := by
  refine Met.ofW (cc := cX8_litShare) (maxL := 1) (ret := (some .double)) (by decide) rfl ?_
  intro p e s m args below meth c s₁ B hml hv
  obtain ⟨rfl, hsz, hP, hK, hD0, hNW⟩ := hv
  have hx := B.exec
  have hb := B.bytes
  have hr := B.returns
  have hts := atoms_spec (ws := wsX8_litShare) B.pre
  have hown : s.vm.findClass RX8 = some m.cls := findClass_of_methodNamed B.named
  have hlocks := B.notSynchronized
  subst hsz
  have hD := hD0.self (sz := s.heap.size)
  generalize hAe : va_A [(aM, .inr (7, [.ref aRo, .ref aHi, .int ms, .ref aSn, .int (bI sv), .ref aAs, .ref aLg, .ref aPd, .int ml, .ref aCo, .ref aEa])), (aRo, .inl (y4.1, 151, .inl RO)), (aLg, .inl (y4.1, 64, .inl LG))] s.heap.size = A at hD ⊢
  have hA : ∀ q : Nat, s.heap.size ≤ q → A q := fun q h => by rw [← hAe]; exact Or.inr h
  have hS : va_S A s.heap s.heap [] := va_S.rf
  have hl := lv_entry ([.ref aM]) (n := 1) (Nat.le_of_ble_eq_true rfl)
  rw [lg_entry_eq]
  generalize (lg_sl ([.ref aM]) ++ List.replicate (1 - (lg_sl ([.ref aM])).length) Slot.unset).toArray = ls at hl ⊢
  have hl : lv_has ls 1 [(0, .ref aM)] := hl
  have f200 := hts (.constantDouble RX8 200 (4634204016564240384)) (List.mem_of_getElem? (i := 1) rfl)
  refine startW (fun H locs hP hS => ?_) hP hS
  refine lv_aload_n hx hb dX8_litShare_0 rfl (lv_at hl 0 rfl) ?_
  refine callW_i (wr := []) (wn := fun u => [(aM, .inr (7, [.ref aRo, .ref aHi, .int ms, .ref aSn, .int (bI sv), .ref aAs, .ref aLg, .ref aPd, .int ml, .ref aCo, .ref aEa])), (aRo, .inl (y4.1, 151, .inl RO)), (aLg, .inl (y4.1, 64, .inl u))]) (va_runV (As := []) (rest := []) ⟨hx, hb, hml, hown, hts⟩ (met_X8_litCells l D y4 aM aRo aHi aSn aAs aLg aPd aCo aEa H.size ms sv ml RO LG hM) (cwV 0 hts gX8_litShare_X8_litCells rfl rfl rfl (by decide +kernel) ⟨Nat.le_of_ble_eq_true rfl, Nat.le_of_ble_eq_true rfl⟩) ⟨preW_blind, va_recv hK hP (ci := 7) (q0 := 0) rfl rfl, preW_at (hP.sub (ws' := [(aM, .inr (7, [.ref aRo, .ref aHi, .int ms, .ref aSn, .int (bI sv), .ref aAs, .ref aLg, .ref aPd, .int ml, .ref aCo, .ref aEa])), (aRo, .inl (y4.1, 151, .inl RO)), (aLg, .inl (y4.1, 64, .inl LG))]) [0, 1, 2] rfl) hK (hD.sub (ws' := [(aM, .inr (7, [.ref aRo, .ref aHi, .int ms, .ref aSn, .int (bI sv), .ref aAs, .ref aLg, .ref aPd, .int ml, .ref aCo, .ref aEa])), (aRo, .inl (y4.1, 151, .inl RO)), (aLg, .inl (y4.1, 64, .inl LG))]) [0, 1, 2] (by decide) rfl) hNW⟩ rfl rfl hl.1 rfl (lv_room (Nat.le_of_ble_eq_true rfl)) dX8_litShare_1 ⟨Nat.zero_le _, Nat.zero_le _⟩) hP hD hS hA [0, 1, 2] [] [0, 1, 2] rfl rfl (by decide) (by decide) (fun _ => rfl) (by decide) (fun r u1 H locs hw hP hD hS => ?_)
  replace hw := Eq.symm hw
  subst hw
  have hP : va_P D vwCl [(aM, .inr (7, [.ref aRo, .ref aHi, .int ms, .ref aSn, .int (bI sv), .ref aAs, .ref aLg, .ref aPd, .int ml, .ref aCo, .ref aEa])), (aRo, .inl (y4.1, 151, .inl RO)), (aLg, .inl (y4.1, 64, .inl u1))] H := hP
  have hD : va_D A [(aM, .inr (7, [.ref aRo, .ref aHi, .int ms, .ref aSn, .int (bI sv), .ref aAs, .ref aLg, .ref aPd, .int ml, .ref aCo, .ref aEa])), (aRo, .inl (y4.1, 151, .inl RO)), (aLg, .inl (y4.1, 64, .inl u1))] := hD
  refine lv_i2d hx hb dX8_litShare_4 ?_
  refine lv_ldc2d (v := 4634204016564240384) hx hb hown f200 dX8_litShare_5 ?_
  refine lv_ddiv hx hb dX8_litShare_8 (lit8_nan RO LG) ?_
  have em : m_X8_litShare RO LG = FP.ddiv (FP.i2d (m_X8_litCells RO LG)) 4634204016564240384 := (by first | (simp only [m_X8_litShare]; done) | (unfold m_X8_litShare; rfl) | rfl)
  exact W.dret (v := FP.ddiv (FP.i2d (m_X8_litCells RO LG)) 4634204016564240384) hx hb hr (fun t ht hW => ⟨⟨FP.ddiv (FP.i2d (m_X8_litCells RO LG)) 4634204016564240384, u1, rfl, (by rw [em]), ⟨by rw [ht]; exact hP, by exact hD⟩⟩, hS.F ht⟩) hS.2.2 dX8_litShare_9
def f_X8_darkIn_2 (RO : Nat → Int32) (k1 : Nat) (t2 : (Nat → Int32)) : (Nat → Int32) := upd t2 (nI k1).toNatClampNeg (m_X8_given RO ((nI k1) / 64) ((nI k1) - (nI k1) / 64 * 64))
def f_X8_darkIn_43 (RO : Nat → Int32) (t7 : (Nat → Int32)) (k9 : Nat) (t10 : Int32) : (Int32 ⊕ Int32) ⊕ Int32 := (if (m_X8_isLitBehind RO t7 t10) = false then (.inl (.inr t10)) else (.inr (t10 + 1)))
def m_X8_darkIn (RO : Nat → Int32) (EA : Nat → Int32) : Int32 := (let t7 : (Nat → Int32) := itr (f_X8_darkIn_2 RO) ((64 * (RO 128)).toNatClampNeg) EA; (lpr (lpx (f_X8_darkIn_43 RO t7) 100 0 (0 : Int32)) id (fun t16 => t16)))
theorem lit_dark {RO EA : Nat → Int32} (hM : MI RO) (hFU : ∀ i : Nat, i < (RO 128).toNatClampNeg → (RO (141 + nI i).toNatClampNeg).toInt ≤ 99) (hDM : 1 ≤ (RO 149).toInt) {sp : Int32} (h : 99 ≤ sp.toInt) : m_X8_isLitBehind RO EA sp = false := by
  unfold m_X8_isLitBehind
  refine itr_ind (f := f_X8_isLitBehind_4 RO EA sp) (fun b => b = false) 64 (fun c b _ hb => ?_) false rfl
  unfold f_X8_isLitBehind_4
  have hz : itr (f_X8_isLitBehind_16 RO EA sp c) ((RO 128).toNatClampNeg) (0 : Int32) = 0 := by
    refine itr_ind (f := f_X8_isLitBehind_16 RO EA sp c) (fun t => t = 0) _ (fun k t hk ht => ?_) 0 rfl
    unfold f_X8_isLitBehind_16
    have hle : RO (141 + nI k).toNatClampNeg ≤ sp := by
      rw [Int32.le_iff_toInt_le]; have := hFU k hk; omega
    simp only [if_pos hle]
    rw [ht]; rfl
  have hlt : (0 : Int32) < RO 149 := by rw [Int32.lt_iff_toInt_lt, Int32.toInt_zero]; omega
  simp only [hz, hb, if_pos hlt, if_true]
theorem darkIn_ends {RO EA : Nat → Int32} (hM : MI RO) (hFU : ∀ i : Nat, i < (RO 128).toNatClampNeg → (RO (141 + nI i).toNatClampNeg).toInt ≤ 99) (hDM : 1 ≤ (RO 149).toInt) : ∀ t, lpx (f_X8_darkIn_43 RO EA) 100 0 0 ≠ .inr t := by
  intro t ht
  have := lpx_ind (f := f_X8_darkIn_43 RO EA) (fun k s => s = nI k ∧ k ≤ 99) (fun k s s' hs he => by
    obtain ⟨h1, h2⟩ := hs
    unfold f_X8_darkIn_43 at he
    by_cases q : m_X8_isLitBehind RO EA s = false
    · rw [if_pos q] at he; cases he
    · rw [if_neg q] at he
      have hk : k ≠ 99 := fun e => q (lit_dark hM hFU hDM (by rw [h1, e, nI_toInt (by decide)]; decide))
      refine ⟨?_, by omega⟩
      rw [← Sum.inr.inj he, h1]; exact nI_1 k) 100 0 0 ⟨rfl, by decide⟩ t ht
  omega

set_option maxHeartbeats 4000000 in
set_option maxRecDepth 100000 in
theorem met_X8_darkIn (l : Launch) (D : va_G) (y4 : vT) (aM aRo aHi aSn aAs aLg aPd aCo aEa : Nat) (sz : Nat) (ms : Int32) (sv : Bool) (ml : Int32) (RO : Nat → Int32) (EA : Nat → Int32) (hM : MI RO) (hFU : ∀ i : Nat, i < (RO 128).toNatClampNeg → (RO (141 + nI i).toNatClampNeg).toInt ≤ 99) (hDM : 1 ≤ (RO 149).toInt) : Met l yX8_darkIn wsX8_darkIn ({ frames := 5, cells := 0, slots := 0, locals := 121 }) (va_Pc [.ref aM] (PreW D y4 [(aM, .inr (7, [.ref aRo, .ref aHi, .int ms, .ref aSn, .int (bI sv), .ref aAs, .ref aLg, .ref aPd, .int ml, .ref aCo, .ref aEa])), (aRo, .inl (y4.1, 151, .inl RO)), (aEa, .inl (y4.1, 384, .inl EA))] sz)) (va_Qi (fun (r : Int32) (_ : (Nat → Int32)) => r = (m_X8_darkIn RO EA)) (fun u t => PostW D (va_A [(aM, .inr (7, [.ref aRo, .ref aHi, .int ms, .ref aSn, .int (bI sv), .ref aAs, .ref aLg, .ref aPd, .int ml, .ref aCo, .ref aEa])), (aRo, .inl (y4.1, 151, .inl RO)), (aEa, .inl (y4.1, 384, .inl EA))] sz) [(aM, .inr (7, [.ref aRo, .ref aHi, .int ms, .ref aSn, .int (bI sv), .ref aAs, .ref aLg, .ref aPd, .int ml, .ref aCo, .ref aEa])), (aRo, .inl (y4.1, 151, .inl RO)), (aEa, .inl (y4.1, 384, .inl u))] t) (va_A [(aM, .inr (7, [.ref aRo, .ref aHi, .int ms, .ref aSn, .int (bI sv), .ref aAs, .ref aLg, .ref aPd, .int ml, .ref aCo, .ref aEa])), (aRo, .inl (y4.1, 151, .inl RO)), (aEa, .inl (y4.1, 384, .inl EA))] sz)) 0 0 (va_A [(aM, .inr (7, [.ref aRo, .ref aHi, .int ms, .ref aSn, .int (bI sv), .ref aAs, .ref aLg, .ref aPd, .int ml, .ref aCo, .ref aEa])), (aRo, .inl (y4.1, 151, .inl RO)), (aEa, .inl (y4.1, 384, .inl EA))] sz) := by
  refine Met.ofW (cc := cX8_darkIn) (maxL := 2) (ret := (some .int)) (by decide) rfl ?_
  intro p e s m args below meth c s₁ B hml hv
  obtain ⟨rfl, hsz, hP, hK, hD0, hNW⟩ := hv
  have hx := B.exec
  have hb := B.bytes
  have hr := B.returns
  have hts := atoms_spec (ws := wsX8_darkIn) B.pre
  have hown : s.vm.findClass RX8 = some m.cls := findClass_of_methodNamed B.named
  have hlocks := B.notSynchronized
  subst hsz
  have hD := hD0.self (sz := s.heap.size)
  generalize hAe : va_A [(aM, .inr (7, [.ref aRo, .ref aHi, .int ms, .ref aSn, .int (bI sv), .ref aAs, .ref aLg, .ref aPd, .int ml, .ref aCo, .ref aEa])), (aRo, .inl (y4.1, 151, .inl RO)), (aEa, .inl (y4.1, 384, .inl EA))] s.heap.size = A at hD ⊢
  have hA : ∀ q : Nat, s.heap.size ≤ q → A q := fun q h => by rw [← hAe]; exact Or.inr h
  have hS : va_S A s.heap s.heap [] := va_S.rf
  have hl := lv_entry ([.ref aM]) (n := 2) (Nat.le_of_ble_eq_true rfl)
  rw [lg_entry_eq]
  generalize (lg_sl ([.ref aM]) ++ List.replicate (2 - (lg_sl ([.ref aM])).length) Slot.unset).toArray = ls at hl ⊢
  have hl : lv_has ls 2 [(0, .ref aM)] := hl
  have f7 := hts (.fieldLink RX8 7 "PillarLightModel" "row" "[I") (List.mem_of_getElem? (i := 1) rfl)
  have iX8 : ∀ w ∈ wsX80, w ∈ wsX8_darkIn := fun _ h => List.mem_cons_of_mem _ (List.mem_append_right _ h)
  have f31 := hts (.fieldLink RX8 31 "PillarLightModel" "each" "[I") (List.mem_of_getElem? (i := 2) rfl)
  refine startW (fun H locs hP hS => ?_) hP hS
  refine lv_iconst (v := 0) hx hb dX8_darkIn_0 (by decide) ?_
  refine lv_istore_n (lv' := [(1, .int 0), (0, .ref aM)]) hx hb dX8_darkIn_1 rfl hl (by decide) rfl (fun ls hl => ?_)
  refine loopW (σ := (Nat → Int32)) 2 (f_X8_darkIn_2 RO) ((64 * (RO 128)).toNatClampNeg) EA (fun k1 t2 H locs ls => va_P D vwCl [(aM, .inr (7, [.ref aRo, .ref aHi, .int ms, .ref aSn, .int (bI sv), .ref aAs, .ref aLg, .ref aPd, .int ml, .ref aCo, .ref aEa])), (aRo, .inl (y4.1, 151, .inl RO)), (aEa, .inl (y4.1, 384, .inl t2))] H ∧ va_D A [(aM, .inr (7, [.ref aRo, .ref aHi, .int ms, .ref aSn, .int (bI sv), .ref aAs, .ref aLg, .ref aPd, .int ml, .ref aCo, .ref aEa])), (aRo, .inl (y4.1, 151, .inl RO)), (aEa, .inl (y4.1, 384, .inl t2))] ∧ va_S A s.heap H locs ∧ lv_has ls 2 [(1, .int (nI k1)), (0, .ref aM)]) ⟨hP, hD, hS, lv_sub hl [0, 1] rfl⟩ (fun t7 H locs ls et7 hh => ?_) (fun k1 t2 hkk1 hek1 ihk1 H locs ls hh => ?_)
  · obtain ⟨hP, hD, hS, hl⟩ := hh
    have hP : va_P D vwCl [(aM, .inr (7, [.ref aRo, .ref aHi, .int ms, .ref aSn, .int (bI sv), .ref aAs, .ref aLg, .ref aPd, .int ml, .ref aCo, .ref aEa])), (aRo, .inl (y4.1, 151, .inl RO)), (aEa, .inl (y4.1, 384, .inl t7))] H := hP
    have hD : va_D A [(aM, .inr (7, [.ref aRo, .ref aHi, .int ms, .ref aSn, .int (bI sv), .ref aAs, .ref aLg, .ref aPd, .int ml, .ref aCo, .ref aEa])), (aRo, .inl (y4.1, 151, .inl RO)), (aEa, .inl (y4.1, 384, .inl t7))] := hD
    have hl : lv_has ls 2 [(1, .int (nI ((64 * (RO 128)).toNatClampNeg))), (0, .ref aM)] := hl
    refine lv_iload_n hx hb dX8_darkIn_2 rfl (lv_at hl 0 rfl) ?_
    refine lv_bipush (v := 64) hx hb dX8_darkIn_3 (by decide) ?_
    refine lv_aload_n hx hb dX8_darkIn_5 rfl (lv_at hl 1 rfl) ?_
    refine va_get (ci := 7) (v := .ref aRo) (C := RX8) (T := TX8) (N := 11) hx hb hts iX8 hown hK hP 0 rfl rfl 0 (by decide) f7 (fun _ h9 => h9) rfl dX8_darkIn_6 ?_
    refine lv_sipush (v := 128) hx hb dX8_darkIn_9 (by decide) ?_
    refine va_iald hx hb hK hP 1 0 rfl rfl (vp_in_nI (n := 128) (by decide) (by decide)) dX8_darkIn_12 ?_
    refine W.ofeqi (y := RO 128) (congrArg RO (by decide : (128 : Int32).toNatClampNeg = 128)) ?_
    refine lv_imul hx hb dX8_darkIn_13 ?_
    refine lv_icmp_ge (tgt := 41) hx hb dX8_darkIn_14 (by decide) (fun c8 => ?_) (fun c8 => absurd (cl_le (h64' hM.1) (by omega) (by have := cl_lt (h64' hM.1); omega)) c8)
    refine lv_iconst (v := 0) hx hb dX8_darkIn_41 (by decide) ?_
    refine lv_istore_n (lv' := [(1, .int 0), (0, .ref aM)]) hx hb dX8_darkIn_42 rfl hl (by decide) rfl (fun ls hl => ?_)
    refine cutW (X := Int32) 57 (fun x H locs ls => ((lpx (f_X8_darkIn_43 RO t7) 100 0 (0 : Int32)) = .inl (.inr x) ∨ (lpx (f_X8_darkIn_43 RO t7) 100 0 (0 : Int32)) = .inr x) ∧ va_P D vwCl [(aM, .inr (7, [.ref aRo, .ref aHi, .int ms, .ref aSn, .int (bI sv), .ref aAs, .ref aLg, .ref aPd, .int ml, .ref aCo, .ref aEa])), (aRo, .inl (y4.1, 151, .inl RO)), (aEa, .inl (y4.1, 384, .inl t7))] H ∧ va_D A [(aM, .inr (7, [.ref aRo, .ref aHi, .int ms, .ref aSn, .int (bI sv), .ref aAs, .ref aLg, .ref aPd, .int ml, .ref aCo, .ref aEa])), (aRo, .inl (y4.1, 151, .inl RO)), (aEa, .inl (y4.1, 384, .inl t7))] ∧ va_S A s.heap H locs ∧ lv_has ls 2 [(1, .int x)]) (fun x => []) ?_ (fun K57 => ?_)
    · rintro t16 H locs ls ⟨et16, hP, hD, hS, hl⟩
      have hP : va_P D vwCl [(aM, .inr (7, [.ref aRo, .ref aHi, .int ms, .ref aSn, .int (bI sv), .ref aAs, .ref aLg, .ref aPd, .int ml, .ref aCo, .ref aEa])), (aRo, .inl (y4.1, 151, .inl RO)), (aEa, .inl (y4.1, 384, .inl t7))] H := hP
      have hD : va_D A [(aM, .inr (7, [.ref aRo, .ref aHi, .int ms, .ref aSn, .int (bI sv), .ref aAs, .ref aLg, .ref aPd, .int ml, .ref aCo, .ref aEa])), (aRo, .inl (y4.1, 151, .inl RO)), (aEa, .inl (y4.1, 384, .inl t7))] := hD
      have hl : lv_has ls 2 [(1, .int t16)] := hl
      refine lv_iload_n hx hb dX8_darkIn_57 rfl (lv_at hl 0 rfl) ?_
      have em : m_X8_darkIn RO EA = t16 := (by replace et7 := Eq.symm et7; subst et7; first | (simp only [m_X8_darkIn, lpr_k et16]; done) | (simp only [m_X8_darkIn, lpr_k et16]; rfl))
      exact W.iret (v := t16) hx hb hr (fun t ht hW => ⟨⟨t16, t7, rfl, (by rw [em]), ⟨by rw [ht]; exact hP, by exact hD⟩⟩, hS.F ht⟩) hS.2.2 dX8_darkIn_58
    · refine loopX (σ := Int32) (ρ := Int32 ⊕ Int32) 43 (f_X8_darkIn_43 RO t7) (fun _ _ => True) 100 0 (0 : Int32) (fun k9 t10 H locs ls => va_P D vwCl [(aM, .inr (7, [.ref aRo, .ref aHi, .int ms, .ref aSn, .int (bI sv), .ref aAs, .ref aLg, .ref aPd, .int ml, .ref aCo, .ref aEa])), (aRo, .inl (y4.1, 151, .inl RO)), (aEa, .inl (y4.1, 384, .inl t7))] H ∧ va_D A [(aM, .inr (7, [.ref aRo, .ref aHi, .int ms, .ref aSn, .int (bI sv), .ref aAs, .ref aLg, .ref aPd, .int ml, .ref aCo, .ref aEa])), (aRo, .inl (y4.1, 151, .inl RO)), (aEa, .inl (y4.1, 384, .inl t7))] ∧ va_S A s.heap H locs ∧ lv_has ls 2 [(1, .int t10), (0, .ref aM)]) trivial ⟨hP, hD, hS, lv_sub hl [0, 1] rfl⟩ (fun t15 H locs ls et15 hit15 hh => ?_) (fun k9 t10 hkk9 hjk9 hik9 hretk9 ihk9 H locs ls hh => ?_)
      · exact absurd et15 (darkIn_ends hM hFU hDM _)
      · obtain ⟨hP, hD, hS, hl⟩ := hh
        have hP : va_P D vwCl [(aM, .inr (7, [.ref aRo, .ref aHi, .int ms, .ref aSn, .int (bI sv), .ref aAs, .ref aLg, .ref aPd, .int ml, .ref aCo, .ref aEa])), (aRo, .inl (y4.1, 151, .inl RO)), (aEa, .inl (y4.1, 384, .inl t7))] H := hP
        have hD : va_D A [(aM, .inr (7, [.ref aRo, .ref aHi, .int ms, .ref aSn, .int (bI sv), .ref aAs, .ref aLg, .ref aPd, .int ml, .ref aCo, .ref aEa])), (aRo, .inl (y4.1, 151, .inl RO)), (aEa, .inl (y4.1, 384, .inl t7))] := hD
        have hl : lv_has ls 2 [(1, .int t10), (0, .ref aM)] := hl
        refine lv_aload_n hx hb dX8_darkIn_43 rfl (lv_at hl 1 rfl) ?_
        refine lv_iload_n hx hb dX8_darkIn_44 rfl (lv_at hl 0 rfl) ?_
        refine callW_i (wr := []) (wn := fun u => [(aM, .inr (7, [.ref aRo, .ref aHi, .int ms, .ref aSn, .int (bI sv), .ref aAs, .ref aLg, .ref aPd, .int ml, .ref aCo, .ref aEa])), (aRo, .inl (y4.1, 151, .inl RO)), (aEa, .inl (y4.1, 384, .inl t7))]) (va_runV (As := [.int t10]) (rest := []) ⟨hx, hb, hml, hown, hts⟩ (met_X8_isLitBehind l D y4 aM aRo aHi aSn aAs aLg aPd aCo aEa H.size ms sv ml RO t7 t10 hM) (cwV 1 hts gX8_darkIn_X8_isLitBehind rfl rfl rfl (by decide +kernel) ⟨Nat.le_of_ble_eq_true rfl, Nat.le_of_ble_eq_true rfl⟩) ⟨preW_blind, va_recv hK hP (ci := 7) (q0 := 0) rfl rfl, preW_at (hP.sub (ws' := [(aM, .inr (7, [.ref aRo, .ref aHi, .int ms, .ref aSn, .int (bI sv), .ref aAs, .ref aLg, .ref aPd, .int ml, .ref aCo, .ref aEa])), (aRo, .inl (y4.1, 151, .inl RO)), (aEa, .inl (y4.1, 384, .inl t7))]) [0, 1, 2] rfl) hK (hD.sub (ws' := [(aM, .inr (7, [.ref aRo, .ref aHi, .int ms, .ref aSn, .int (bI sv), .ref aAs, .ref aLg, .ref aPd, .int ml, .ref aCo, .ref aEa])), (aRo, .inl (y4.1, 151, .inl RO)), (aEa, .inl (y4.1, 384, .inl t7))]) [0, 1, 2] (by decide) rfl) hNW⟩ rfl rfl hl.1 rfl (lv_room (Nat.le_of_ble_eq_true rfl)) dX8_darkIn_45 ⟨Nat.zero_le _, Nat.zero_le _⟩) hP hD hS hA [0, 1, 2] [] [0, 1, 2] rfl rfl (by decide) (by decide) (fun _ => rfl) (by decide) (fun r u13 H locs hw hP hD hS => ?_)
        replace hw := Eq.symm hw
        subst hw
        have hP : va_P D vwCl [(aM, .inr (7, [.ref aRo, .ref aHi, .int ms, .ref aSn, .int (bI sv), .ref aAs, .ref aLg, .ref aPd, .int ml, .ref aCo, .ref aEa])), (aRo, .inl (y4.1, 151, .inl RO)), (aEa, .inl (y4.1, 384, .inl t7))] H := hP
        have hD : va_D A [(aM, .inr (7, [.ref aRo, .ref aHi, .int ms, .ref aSn, .int (bI sv), .ref aAs, .ref aLg, .ref aPd, .int ml, .ref aCo, .ref aEa])), (aRo, .inl (y4.1, 151, .inl RO)), (aEa, .inl (y4.1, 384, .inl t7))] := hD
        refine lb_if_eq (tgt := 57) hx hb dX8_darkIn_48 (by decide) (fun c14 => ?_) (fun c14 => ?_)
        · have ef : (f_X8_darkIn_43 RO t7) k9 t10 = .inl (.inr t10) := (by first | (simp only [f_X8_darkIn_43, if_pos c14]; done) | (simp only [f_X8_darkIn_43, if_pos c14]; rfl))
          exact K57 t10 H locs ls ⟨Or.inl (hretk9 _ ef), hP, hD, hS, lv_sub hl [0] rfl⟩
        · refine lv_iinc (v := t10 + 1) (lv' := [(1, .int (t10 + 1)), (0, .ref aM)]) hx hb dX8_darkIn_51 hl (k := 0) rfl rfl (by decide) rfl (fun ls hl => ?_)
          refine lv_goto (tgt := 43) hx hb dX8_darkIn_54 (by decide) ?_
          have ef : (f_X8_darkIn_43 RO t7) k9 t10 = .inr (t10 + 1) := (by first | (simp only [f_X8_darkIn_43, if_neg c14]; done) | (simp only [f_X8_darkIn_43, if_neg c14]; rfl))
          exact ihk9 _ ef trivial H locs ls ⟨hP, hD, hS, lv_sub hl [0, 1] rfl⟩
  · obtain ⟨hP, hD, hS, hl⟩ := hh
    have hP : va_P D vwCl [(aM, .inr (7, [.ref aRo, .ref aHi, .int ms, .ref aSn, .int (bI sv), .ref aAs, .ref aLg, .ref aPd, .int ml, .ref aCo, .ref aEa])), (aRo, .inl (y4.1, 151, .inl RO)), (aEa, .inl (y4.1, 384, .inl t2))] H := hP
    have hD : va_D A [(aM, .inr (7, [.ref aRo, .ref aHi, .int ms, .ref aSn, .int (bI sv), .ref aAs, .ref aLg, .ref aPd, .int ml, .ref aCo, .ref aEa])), (aRo, .inl (y4.1, 151, .inl RO)), (aEa, .inl (y4.1, 384, .inl t2))] := hD
    have hl : lv_has ls 2 [(1, .int (nI k1)), (0, .ref aM)] := hl
    refine lv_iload_n hx hb dX8_darkIn_2 rfl (lv_at hl 0 rfl) ?_
    refine lv_bipush (v := 64) hx hb dX8_darkIn_3 (by decide) ?_
    refine lv_aload_n hx hb dX8_darkIn_5 rfl (lv_at hl 1 rfl) ?_
    refine va_get (ci := 7) (v := .ref aRo) (C := RX8) (T := TX8) (N := 11) hx hb hts iX8 hown hK hP 0 rfl rfl 0 (by decide) f7 (fun _ h9 => h9) rfl dX8_darkIn_6 ?_
    refine lv_sipush (v := 128) hx hb dX8_darkIn_9 (by decide) ?_
    refine va_iald hx hb hK hP 1 0 rfl rfl (vp_in_nI (n := 128) (by decide) (by decide)) dX8_darkIn_12 ?_
    refine W.ofeqi (y := RO 128) (congrArg RO (by decide : (128 : Int32).toNatClampNeg = 128)) ?_
    refine lv_imul hx hb dX8_darkIn_13 ?_
    refine lv_icmp_ge (tgt := 41) hx hb dX8_darkIn_14 (by decide) (fun c5 => absurd c5 (cl_ge (h64' hM.1) (by omega))) (fun c5 => ?_)
    refine lv_aload_n hx hb dX8_darkIn_17 rfl (lv_at hl 1 rfl) ?_
    refine va_get (ci := 7) (v := .ref aEa) (C := RX8) (T := TX8) (N := 11) hx hb hts iX8 hown hK hP 0 rfl rfl 10 (by decide) f31 (fun _ h9 => h9) rfl dX8_darkIn_18 ?_
    refine lv_iload_n hx hb dX8_darkIn_21 rfl (lv_at hl 0 rfl) ?_
    refine lv_aload_n hx hb dX8_darkIn_22 rfl (lv_at hl 1 rfl) ?_
    refine lv_iload_n hx hb dX8_darkIn_23 rfl (lv_at hl 0 rfl) ?_
    refine lv_bipush (v := 64) hx hb dX8_darkIn_24 (by decide) ?_
    refine lv_idiv hx hb dX8_darkIn_26 (by decide) ?_
    refine lv_iload_n hx hb dX8_darkIn_27 rfl (lv_at hl 0 rfl) ?_
    refine lv_bipush (v := 64) hx hb dX8_darkIn_28 (by decide) ?_
    refine lv_irem hx hb dX8_darkIn_30 (by decide) ?_
    refine callW_i (wr := [(aEa, .inl (y4.1, 384, .inl t2))]) (wn := fun u => [(aM, .inr (7, [.ref aRo, .ref aHi, .int ms, .ref aSn, .int (bI sv), .ref aAs, .ref aLg, .ref aPd, .int ml, .ref aCo, .ref aEa])), (aRo, .inl (y4.1, 151, .inl RO)), (aEa, .inl (y4.1, 384, .inl t2))]) (va_runV (As := [.int ((nI k1) / 64), .int ((nI k1) - (nI k1) / 64 * 64)]) (rest := [.int (nI k1), .ref aEa]) ⟨hx, hb, hml, hown, hts⟩ (met_X8_given l D y4 aM aRo aHi aSn aAs aLg aPd aCo aEa H.size ms sv ml RO ((nI k1) / 64) ((nI k1) - (nI k1) / 64 * 64) (dk_1 hM (by assumption)) (dk_2 hM (by assumption)) (dk_3 hM (by assumption))) (cwV 2 hts gX8_darkIn_X8_given rfl rfl rfl (by decide +kernel) ⟨Nat.le_of_ble_eq_true rfl, Nat.le_of_ble_eq_true rfl⟩) ⟨preW_blind, va_recv hK hP (ci := 7) (q0 := 0) rfl rfl, preW_at (hP.sub (ws' := [(aM, .inr (7, [.ref aRo, .ref aHi, .int ms, .ref aSn, .int (bI sv), .ref aAs, .ref aLg, .ref aPd, .int ml, .ref aCo, .ref aEa])), (aRo, .inl (y4.1, 151, .inl RO))]) [0, 1] rfl) hK (hD.sub (ws' := [(aM, .inr (7, [.ref aRo, .ref aHi, .int ms, .ref aSn, .int (bI sv), .ref aAs, .ref aLg, .ref aPd, .int ml, .ref aCo, .ref aEa])), (aRo, .inl (y4.1, 151, .inl RO))]) [0, 1] (by decide) rfl) hNW⟩ rfl rfl hl.1 rfl (lv_room (Nat.le_of_ble_eq_true rfl)) dX8_darkIn_31 ⟨Nat.zero_le _, Nat.zero_le _⟩) hP hD hS hA [0, 1] [2] [1, 2, 0] rfl rfl (by decide) (by decide) (fun _ => rfl) (by decide) (fun r u6 H locs hw hP hD hS => ?_)
    replace hw := Eq.symm hw
    subst hw
    have hP : va_P D vwCl [(aM, .inr (7, [.ref aRo, .ref aHi, .int ms, .ref aSn, .int (bI sv), .ref aAs, .ref aLg, .ref aPd, .int ml, .ref aCo, .ref aEa])), (aRo, .inl (y4.1, 151, .inl RO)), (aEa, .inl (y4.1, 384, .inl t2))] H := hP
    have hD : va_D A [(aM, .inr (7, [.ref aRo, .ref aHi, .int ms, .ref aSn, .int (bI sv), .ref aAs, .ref aLg, .ref aPd, .int ml, .ref aCo, .ref aEa])), (aRo, .inl (y4.1, 151, .inl RO)), (aEa, .inl (y4.1, 384, .inl t2))] := hD
    refine va_iast hx hb hK hP hD hS 2 0 rfl rfl (cl_in (h64' hM.1) (by omega)) dX8_darkIn_34 (fun H locs hP hD hS => ?_)
    have hP : va_P D vwCl [(aM, .inr (7, [.ref aRo, .ref aHi, .int ms, .ref aSn, .int (bI sv), .ref aAs, .ref aLg, .ref aPd, .int ml, .ref aCo, .ref aEa])), (aRo, .inl (y4.1, 151, .inl RO)), (aEa, .inl (y4.1, 384, .inl (upd t2 (nI k1).toNatClampNeg (m_X8_given RO ((nI k1) / 64) ((nI k1) - (nI k1) / 64 * 64)))))] H := hP
    have hD : va_D A [(aM, .inr (7, [.ref aRo, .ref aHi, .int ms, .ref aSn, .int (bI sv), .ref aAs, .ref aLg, .ref aPd, .int ml, .ref aCo, .ref aEa])), (aRo, .inl (y4.1, 151, .inl RO)), (aEa, .inl (y4.1, 384, .inl (upd t2 (nI k1).toNatClampNeg (m_X8_given RO ((nI k1) / 64) ((nI k1) - (nI k1) / 64 * 64)))))] := hD
    refine lv_iinc (v := nI (k1 + 1)) (lv' := [(1, .int (nI (k1 + 1))), (0, .ref aM)]) hx hb dX8_darkIn_35 hl (k := 0) rfl (nI_1 _) (by decide) rfl (fun ls hl => ?_)
    refine lv_goto (tgt := 2) hx hb dX8_darkIn_38 (by decide) ?_
    have ef : (f_X8_darkIn_2 RO) k1 t2 = upd t2 (nI k1).toNatClampNeg (m_X8_given RO ((nI k1) / 64) ((nI k1) - (nI k1) / 64 * 64)) := (by first | (simp only [f_X8_darkIn_2]; done) | (unfold f_X8_darkIn_2; rfl) | rfl)
    rw [ef] at ihk1
    exact ihk1 H locs ls ⟨hP, hD, hS, lv_sub hl [0, 1] rfl⟩
noncomputable def m_X8_ifPut (RO : Nat → Int32) (LG : Nat → Int32) (CO : Nat → Int32) (AS : Nat → Int32) (ce : Int32) (kd : Int32) (wh : Int32) : Int32 × (Nat → Int32) := (if (m_X8_isCell ce) = false then ((-1 : Int32), RO) else (if (m_X8_in kd 0 3) = false then ((-1 : Int32), RO) else (if (m_X8_in wh 0 2) = false then ((-1 : Int32), RO) else (if (m_X8_mayPut RO ce kd) = false then ((-2 : Int32), RO) else (let v13 : Int32 := (if wh = 0 then (m_X8_litCells (m_X8_lay RO ce kd) LG) else (if wh = 1 then (m_X8_seenCells (m_X8_lay RO ce kd)) else (m_X8_reached (m_X8_lay RO ce kd) LG CO))); (v13, (m_X8_putBack (m_X8_lay RO ce kd) (m_X8_putAside RO AS))))))))
set_option maxHeartbeats 4000000 in
set_option maxRecDepth 100000 in
theorem met_X8_ifPut (l : Launch) (D : va_G) (y4 : vT) (aM aRo aHi aSn aAs aLg aPd aCo aEa : Nat) (sz : Nat) (ms : Int32) (sv : Bool) (ml : Int32) (RO : Nat → Int32) (LG : Nat → Int32) (CO : Nat → Int32) (AS : Nat → Int32) (ce : Int32) (kd : Int32) (wh : Int32) (hM : MI RO) (hSL : vp_in ce 64 → ∀ (LG : Nat → Int32) (c : Nat), c < 64 → 0 ≤ (m_X8_shine (m_X8_lay RO ce kd) LG c).toInt ∧ (m_X8_shine (m_X8_lay RO ce kd) LG c).toInt ≤ 216) : Met l yX8_ifPut wsX8_ifPut ({ frames := 10, cells := 0, slots := 0, locals := 235 }) (va_Pc [.ref aM, .int ce, .int kd, .int wh] (PreW D y4 [(aM, .inr (7, [.ref aRo, .ref aHi, .int ms, .ref aSn, .int (bI sv), .ref aAs, .ref aLg, .ref aPd, .int ml, .ref aCo, .ref aEa])), (aRo, .inl (y4.1, 151, .inl RO)), (aLg, .inl (y4.1, 64, .inl LG)), (aCo, .inl (y4.1, 64, .inl CO)), (aAs, .inl (y4.1, 151, .inl AS))] sz)) (va_Qi (fun (r : Int32) (_ : (Nat → Int32) × (Nat → Int32) × (Nat → Int32)) => r = (m_X8_ifPut RO LG CO AS ce kd wh).1) (fun u t => PostW D (va_A [(aM, .inr (7, [.ref aRo, .ref aHi, .int ms, .ref aSn, .int (bI sv), .ref aAs, .ref aLg, .ref aPd, .int ml, .ref aCo, .ref aEa])), (aRo, .inl (y4.1, 151, .inl RO)), (aLg, .inl (y4.1, 64, .inl LG)), (aCo, .inl (y4.1, 64, .inl CO)), (aAs, .inl (y4.1, 151, .inl AS))] sz) [(aM, .inr (7, [.ref aRo, .ref aHi, .int ms, .ref aSn, .int (bI sv), .ref aAs, .ref aLg, .ref aPd, .int ml, .ref aCo, .ref aEa])), (aRo, .inl (y4.1, 151, .inl ((m_X8_ifPut RO LG CO AS ce kd wh).2))), (aLg, .inl (y4.1, 64, .inl u.1)), (aCo, .inl (y4.1, 64, .inl u.2.1)), (aAs, .inl (y4.1, 151, .inl u.2.2))] t) (va_A [(aM, .inr (7, [.ref aRo, .ref aHi, .int ms, .ref aSn, .int (bI sv), .ref aAs, .ref aLg, .ref aPd, .int ml, .ref aCo, .ref aEa])), (aRo, .inl (y4.1, 151, .inl RO)), (aLg, .inl (y4.1, 64, .inl LG)), (aCo, .inl (y4.1, 64, .inl CO)), (aAs, .inl (y4.1, 151, .inl AS))] sz)) 0 0 (va_A [(aM, .inr (7, [.ref aRo, .ref aHi, .int ms, .ref aSn, .int (bI sv), .ref aAs, .ref aLg, .ref aPd, .int ml, .ref aCo, .ref aEa])), (aRo, .inl (y4.1, 151, .inl RO)), (aLg, .inl (y4.1, 64, .inl LG)), (aCo, .inl (y4.1, 64, .inl CO)), (aAs, .inl (y4.1, 151, .inl AS))] sz) := by
  refine Met.ofW (cc := cX8_ifPut) (maxL := 5) (ret := (some .int)) (by decide) rfl ?_
  intro p e s m args below meth c s₁ B hml hv
  obtain ⟨rfl, hsz, hP, hK, hD0, hNW⟩ := hv
  have hx := B.exec
  have hb := B.bytes
  have hr := B.returns
  have hts := atoms_spec (ws := wsX8_ifPut) B.pre
  have hown : s.vm.findClass RX8 = some m.cls := findClass_of_methodNamed B.named
  have hlocks := B.notSynchronized
  subst hsz
  have hD := hD0.self (sz := s.heap.size)
  generalize hAe : va_A [(aM, .inr (7, [.ref aRo, .ref aHi, .int ms, .ref aSn, .int (bI sv), .ref aAs, .ref aLg, .ref aPd, .int ml, .ref aCo, .ref aEa])), (aRo, .inl (y4.1, 151, .inl RO)), (aLg, .inl (y4.1, 64, .inl LG)), (aCo, .inl (y4.1, 64, .inl CO)), (aAs, .inl (y4.1, 151, .inl AS))] s.heap.size = A at hD ⊢
  have hA : ∀ q : Nat, s.heap.size ≤ q → A q := fun q h => by rw [← hAe]; exact Or.inr h
  have hS : va_S A s.heap s.heap [] := va_S.rf
  have hl := lv_entry ([.ref aM, .int ce, .int kd, .int wh]) (n := 5) (Nat.le_of_ble_eq_true rfl)
  rw [lg_entry_eq]
  generalize (lg_sl ([.ref aM, .int ce, .int kd, .int wh]) ++ List.replicate (5 - (lg_sl ([.ref aM, .int ce, .int kd, .int wh])).length) Slot.unset).toArray = ls at hl ⊢
  have hl : lv_has ls 5 [(0, .ref aM), (1, .int ce), (2, .int kd), (3, .int wh)] := hl
  refine startW (fun H locs hP hS => ?_) hP hS
  refine lv_iload_n hx hb dX8_ifPut_0 rfl (lv_at hl 1 rfl) ?_
  refine callK_i (va_runS (As := [.int ce]) (rest := []) ⟨hx, hb, hml, hown, hts⟩ (met_X8_isCell l  ce) (va_cwS 1 hts gX8_ifPut_X8_isCell rfl rfl rfl (by decide +kernel) ⟨Nat.le_of_ble_eq_true rfl, Nat.le_of_ble_eq_true rfl⟩) ⟨preS_blind, fun U hU hW => ⟨rfl, trivial⟩⟩ rfl rfl hl.1 rfl (lv_room (Nat.le_of_ble_eq_true rfl)) dX8_ifPut_1 ⟨Nat.zero_le _, Nat.zero_le _⟩) hP hS (fun r u H locs hw hP hS => ?_)
  replace hw := Eq.symm hw
  subst hw
  refine lb_if_eq (tgt := 25) hx hb dX8_ifPut_4 (by decide) (fun c1 => ?_) (fun c1 => ?_)
  · refine lv_iconst (v := (-1)) hx hb dX8_ifPut_25 (by decide) ?_
    have em : m_X8_ifPut RO LG CO AS ce kd wh = ((-1 : Int32), RO) := (by first | (simp only [m_X8_ifPut, if_pos c1]; done) | (simp only [m_X8_ifPut, if_pos c1]; rfl))
    exact W.iret (v := (-1)) hx hb hr (fun t ht hW => ⟨⟨(-1), (LG, CO, AS), rfl, (by rw [em]), ⟨by rw [ht, em]; exact hP, by rw [em]; exact hD⟩⟩, hS.F ht⟩) hS.2.2 dX8_ifPut_26
  · refine lv_iload_n hx hb dX8_ifPut_7 rfl (lv_at hl 2 rfl) ?_
    refine lv_iconst (v := 0) hx hb dX8_ifPut_8 (by decide) ?_
    refine lv_iconst (v := 3) hx hb dX8_ifPut_9 (by decide) ?_
    refine callK_i (va_runS (As := [.int kd, .int 0, .int 3]) (rest := []) ⟨hx, hb, hml, hown, hts⟩ (met_X8_in l  kd 0 3) (va_cwS 3 hts gX8_ifPut_X8_in rfl rfl rfl (by decide +kernel) ⟨Nat.le_of_ble_eq_true rfl, Nat.le_of_ble_eq_true rfl⟩) ⟨preS_blind, fun U hU hW => ⟨rfl, trivial⟩⟩ rfl rfl hl.1 rfl (lv_room (Nat.le_of_ble_eq_true rfl)) dX8_ifPut_10 ⟨Nat.zero_le _, Nat.zero_le _⟩) hP hS (fun r u H locs hw hP hS => ?_)
    replace hw := Eq.symm hw
    subst hw
    refine lb_if_eq (tgt := 25) hx hb dX8_ifPut_13 (by decide) (fun c2 => ?_) (fun c2 => ?_)
    · refine lv_iconst (v := (-1)) hx hb dX8_ifPut_25 (by decide) ?_
      have em : m_X8_ifPut RO LG CO AS ce kd wh = ((-1 : Int32), RO) := (by first | (simp only [m_X8_ifPut, if_neg c1, if_pos c2]; done) | (simp only [m_X8_ifPut, if_neg c1, if_pos c2]; rfl))
      exact W.iret (v := (-1)) hx hb hr (fun t ht hW => ⟨⟨(-1), (LG, CO, AS), rfl, (by rw [em]), ⟨by rw [ht, em]; exact hP, by rw [em]; exact hD⟩⟩, hS.F ht⟩) hS.2.2 dX8_ifPut_26
    · refine lv_iload_n hx hb dX8_ifPut_16 rfl (lv_at hl 3 rfl) ?_
      refine lv_iconst (v := 0) hx hb dX8_ifPut_17 (by decide) ?_
      refine lv_iconst (v := 2) hx hb dX8_ifPut_18 (by decide) ?_
      refine callK_i (va_runS (As := [.int wh, .int 0, .int 2]) (rest := []) ⟨hx, hb, hml, hown, hts⟩ (met_X8_in l  wh 0 2) (va_cwS 3 hts gX8_ifPut_X8_in rfl rfl rfl (by decide +kernel) ⟨Nat.le_of_ble_eq_true rfl, Nat.le_of_ble_eq_true rfl⟩) ⟨preS_blind, fun U hU hW => ⟨rfl, trivial⟩⟩ rfl rfl hl.1 rfl (lv_room (Nat.le_of_ble_eq_true rfl)) dX8_ifPut_19 ⟨Nat.zero_le _, Nat.zero_le _⟩) hP hS (fun r u H locs hw hP hS => ?_)
      replace hw := Eq.symm hw
      subst hw
      refine lb_if_ne (tgt := 27) hx hb dX8_ifPut_22 (by decide) (fun c3 => ?_) (fun c3 => ?_)
      · refine lv_aload_n hx hb dX8_ifPut_27 rfl (lv_at hl 0 rfl) ?_
        refine lv_iload_n hx hb dX8_ifPut_28 rfl (lv_at hl 1 rfl) ?_
        refine lv_iload_n hx hb dX8_ifPut_29 rfl (lv_at hl 2 rfl) ?_
        refine callW_i (wr := [(aLg, .inl (y4.1, 64, .inl LG)), (aCo, .inl (y4.1, 64, .inl CO)), (aAs, .inl (y4.1, 151, .inl AS))]) (wn := fun u => [(aM, .inr (7, [.ref aRo, .ref aHi, .int ms, .ref aSn, .int (bI sv), .ref aAs, .ref aLg, .ref aPd, .int ml, .ref aCo, .ref aEa])), (aRo, .inl (y4.1, 151, .inl RO)), (aLg, .inl (y4.1, 64, .inl LG)), (aCo, .inl (y4.1, 64, .inl CO)), (aAs, .inl (y4.1, 151, .inl AS))]) (va_runV (As := [.int ce, .int kd]) (rest := []) ⟨hx, hb, hml, hown, hts⟩ (met_X8_mayPut l D y4 aM aRo aHi aSn aAs aLg aPd aCo aEa H.size ms sv ml RO ce kd) (cwV 2 hts gX8_ifPut_X8_mayPut rfl rfl rfl (by decide +kernel) ⟨Nat.le_of_ble_eq_true rfl, Nat.le_of_ble_eq_true rfl⟩) ⟨preW_blind, va_recv hK hP (ci := 7) (q0 := 0) rfl rfl, preW_at (hP.sub (ws' := [(aM, .inr (7, [.ref aRo, .ref aHi, .int ms, .ref aSn, .int (bI sv), .ref aAs, .ref aLg, .ref aPd, .int ml, .ref aCo, .ref aEa])), (aRo, .inl (y4.1, 151, .inl RO))]) [0, 1] rfl) hK (hD.sub (ws' := [(aM, .inr (7, [.ref aRo, .ref aHi, .int ms, .ref aSn, .int (bI sv), .ref aAs, .ref aLg, .ref aPd, .int ml, .ref aCo, .ref aEa])), (aRo, .inl (y4.1, 151, .inl RO))]) [0, 1] (by decide) rfl) hNW⟩ rfl rfl hl.1 rfl (lv_room (Nat.le_of_ble_eq_true rfl)) dX8_ifPut_30 ⟨Nat.zero_le _, Nat.zero_le _⟩) hP hD hS hA [0, 1] [2, 3, 4] [3, 4, 0, 1, 2] rfl rfl (by decide) (by decide) (fun _ => rfl) (by decide) (fun r u4 H locs hw hP hD hS => ?_)
        replace hw := Eq.symm hw
        subst hw
        have hP : va_P D vwCl [(aM, .inr (7, [.ref aRo, .ref aHi, .int ms, .ref aSn, .int (bI sv), .ref aAs, .ref aLg, .ref aPd, .int ml, .ref aCo, .ref aEa])), (aRo, .inl (y4.1, 151, .inl RO)), (aLg, .inl (y4.1, 64, .inl LG)), (aCo, .inl (y4.1, 64, .inl CO)), (aAs, .inl (y4.1, 151, .inl AS))] H := hP
        have hD : va_D A [(aM, .inr (7, [.ref aRo, .ref aHi, .int ms, .ref aSn, .int (bI sv), .ref aAs, .ref aLg, .ref aPd, .int ml, .ref aCo, .ref aEa])), (aRo, .inl (y4.1, 151, .inl RO)), (aLg, .inl (y4.1, 64, .inl LG)), (aCo, .inl (y4.1, 64, .inl CO)), (aAs, .inl (y4.1, 151, .inl AS))] := hD
        refine lb_if_ne (tgt := 39) hx hb dX8_ifPut_33 (by decide) (fun c5 => ?_) (fun c5 => ?_)
        · refine lv_aload_n hx hb dX8_ifPut_39 rfl (lv_at hl 0 rfl) ?_
          refine callW_v (wr := [(aLg, .inl (y4.1, 64, .inl LG)), (aCo, .inl (y4.1, 64, .inl CO))]) (wn := fun u => [(aM, .inr (7, [.ref aRo, .ref aHi, .int ms, .ref aSn, .int (bI sv), .ref aAs, .ref aLg, .ref aPd, .int ml, .ref aCo, .ref aEa])), (aRo, .inl (y4.1, 151, .inl RO)), (aLg, .inl (y4.1, 64, .inl LG)), (aCo, .inl (y4.1, 64, .inl CO)), (aAs, .inl (y4.1, 151, .inl (m_X8_putAside RO AS)))]) (va_runV (As := []) (rest := []) ⟨hx, hb, hml, hown, hts⟩ (met_X8_putAside l D y4 aM aRo aHi aSn aAs aLg aPd aCo aEa H.size ms sv ml RO AS) (cwV 0 hts gX8_ifPut_X8_putAside rfl rfl rfl (by decide +kernel) ⟨Nat.le_of_ble_eq_true rfl, Nat.le_of_ble_eq_true rfl⟩) ⟨preW_blind, va_recv hK hP (ci := 7) (q0 := 0) rfl rfl, preW_at (hP.sub (ws' := [(aM, .inr (7, [.ref aRo, .ref aHi, .int ms, .ref aSn, .int (bI sv), .ref aAs, .ref aLg, .ref aPd, .int ml, .ref aCo, .ref aEa])), (aRo, .inl (y4.1, 151, .inl RO)), (aAs, .inl (y4.1, 151, .inl AS))]) [0, 1, 4] rfl) hK (hD.sub (ws' := [(aM, .inr (7, [.ref aRo, .ref aHi, .int ms, .ref aSn, .int (bI sv), .ref aAs, .ref aLg, .ref aPd, .int ml, .ref aCo, .ref aEa])), (aRo, .inl (y4.1, 151, .inl RO)), (aAs, .inl (y4.1, 151, .inl AS))]) [0, 1, 4] (by decide) rfl) hNW⟩ rfl rfl hl.1 rfl (lv_room (Nat.le_of_ble_eq_true rfl)) dX8_ifPut_40 ⟨Nat.zero_le _, Nat.zero_le _⟩) hP hD hS hA [0, 1, 4] [2, 3] [2, 3, 0, 1, 4] rfl rfl (by decide) (by decide) (fun _ => rfl) (by decide) (fun u6 H locs hw hP hD hS => ?_)
          have hP : va_P D vwCl [(aM, .inr (7, [.ref aRo, .ref aHi, .int ms, .ref aSn, .int (bI sv), .ref aAs, .ref aLg, .ref aPd, .int ml, .ref aCo, .ref aEa])), (aRo, .inl (y4.1, 151, .inl RO)), (aLg, .inl (y4.1, 64, .inl LG)), (aCo, .inl (y4.1, 64, .inl CO)), (aAs, .inl (y4.1, 151, .inl (m_X8_putAside RO AS)))] H := hP
          have hD : va_D A [(aM, .inr (7, [.ref aRo, .ref aHi, .int ms, .ref aSn, .int (bI sv), .ref aAs, .ref aLg, .ref aPd, .int ml, .ref aCo, .ref aEa])), (aRo, .inl (y4.1, 151, .inl RO)), (aLg, .inl (y4.1, 64, .inl LG)), (aCo, .inl (y4.1, 64, .inl CO)), (aAs, .inl (y4.1, 151, .inl (m_X8_putAside RO AS)))] := hD
          refine lv_aload_n hx hb dX8_ifPut_43 rfl (lv_at hl 0 rfl) ?_
          refine lv_iload_n hx hb dX8_ifPut_44 rfl (lv_at hl 1 rfl) ?_
          refine lv_iload_n hx hb dX8_ifPut_45 rfl (lv_at hl 2 rfl) ?_
          refine callW_v (wr := [(aLg, .inl (y4.1, 64, .inl LG)), (aCo, .inl (y4.1, 64, .inl CO)), (aAs, .inl (y4.1, 151, .inl (m_X8_putAside RO AS)))]) (wn := fun u => [(aM, .inr (7, [.ref aRo, .ref aHi, .int ms, .ref aSn, .int (bI sv), .ref aAs, .ref aLg, .ref aPd, .int ml, .ref aCo, .ref aEa])), (aRo, .inl (y4.1, 151, .inl (m_X8_lay RO ce kd))), (aLg, .inl (y4.1, 64, .inl LG)), (aCo, .inl (y4.1, 64, .inl CO)), (aAs, .inl (y4.1, 151, .inl (m_X8_putAside RO AS)))]) (va_runV (As := [.int ce, .int kd]) (rest := []) ⟨hx, hb, hml, hown, hts⟩ (met_X8_lay l D y4 aM aRo aHi aSn aAs aLg aPd aCo aEa H.size ms sv ml RO ce kd hM (isCell8_in (by assumption))) (cwV 2 hts gX8_ifPut_X8_lay rfl rfl rfl (by decide +kernel) ⟨Nat.le_of_ble_eq_true rfl, Nat.le_of_ble_eq_true rfl⟩) ⟨preW_blind, va_recv hK hP (ci := 7) (q0 := 0) rfl rfl, preW_at (hP.sub (ws' := [(aM, .inr (7, [.ref aRo, .ref aHi, .int ms, .ref aSn, .int (bI sv), .ref aAs, .ref aLg, .ref aPd, .int ml, .ref aCo, .ref aEa])), (aRo, .inl (y4.1, 151, .inl RO))]) [0, 1] rfl) hK (hD.sub (ws' := [(aM, .inr (7, [.ref aRo, .ref aHi, .int ms, .ref aSn, .int (bI sv), .ref aAs, .ref aLg, .ref aPd, .int ml, .ref aCo, .ref aEa])), (aRo, .inl (y4.1, 151, .inl RO))]) [0, 1] (by decide) rfl) hNW⟩ rfl rfl hl.1 rfl (lv_room (Nat.le_of_ble_eq_true rfl)) dX8_ifPut_46 ⟨Nat.zero_le _, Nat.zero_le _⟩) hP hD hS hA [0, 1] [2, 3, 4] [3, 4, 0, 1, 2] rfl rfl (by decide) (by decide) (fun _ => rfl) (by decide) (fun u7 H locs hw hP hD hS => ?_)
          have hP : va_P D vwCl [(aM, .inr (7, [.ref aRo, .ref aHi, .int ms, .ref aSn, .int (bI sv), .ref aAs, .ref aLg, .ref aPd, .int ml, .ref aCo, .ref aEa])), (aRo, .inl (y4.1, 151, .inl (m_X8_lay RO ce kd))), (aLg, .inl (y4.1, 64, .inl LG)), (aCo, .inl (y4.1, 64, .inl CO)), (aAs, .inl (y4.1, 151, .inl (m_X8_putAside RO AS)))] H := hP
          have hD : va_D A [(aM, .inr (7, [.ref aRo, .ref aHi, .int ms, .ref aSn, .int (bI sv), .ref aAs, .ref aLg, .ref aPd, .int ml, .ref aCo, .ref aEa])), (aRo, .inl (y4.1, 151, .inl (m_X8_lay RO ce kd))), (aLg, .inl (y4.1, 64, .inl LG)), (aCo, .inl (y4.1, 64, .inl CO)), (aAs, .inl (y4.1, 151, .inl (m_X8_putAside RO AS)))] := hD
          refine lv_iload_n hx hb dX8_ifPut_49 rfl (lv_at hl 3 rfl) ?_
          refine cutW (X := Int32) 76 (fun x H locs ls => ∃ h14 : Nat → Int32, ∃ h15 : Nat → Int32, x = (if wh = 0 then (m_X8_litCells (m_X8_lay RO ce kd) LG) else (if wh = 1 then (m_X8_seenCells (m_X8_lay RO ce kd)) else (m_X8_reached (m_X8_lay RO ce kd) LG CO))) ∧ va_P D vwCl [(aM, .inr (7, [.ref aRo, .ref aHi, .int ms, .ref aSn, .int (bI sv), .ref aAs, .ref aLg, .ref aPd, .int ml, .ref aCo, .ref aEa])), (aRo, .inl (y4.1, 151, .inl (m_X8_lay RO ce kd))), (aLg, .inl (y4.1, 64, .inl h14)), (aCo, .inl (y4.1, 64, .inl h15)), (aAs, .inl (y4.1, 151, .inl (m_X8_putAside RO AS)))] H ∧ va_D A [(aM, .inr (7, [.ref aRo, .ref aHi, .int ms, .ref aSn, .int (bI sv), .ref aAs, .ref aLg, .ref aPd, .int ml, .ref aCo, .ref aEa])), (aRo, .inl (y4.1, 151, .inl (m_X8_lay RO ce kd))), (aLg, .inl (y4.1, 64, .inl h14)), (aCo, .inl (y4.1, 64, .inl h15)), (aAs, .inl (y4.1, 151, .inl (m_X8_putAside RO AS)))] ∧ va_S A s.heap H locs ∧ lv_has ls 5 [(0, .ref aM)]) (fun x => [.int x]) ?_ (fun K76 => ?_)
          · rintro v13 H locs ls ⟨h14, h15, ev13, hP, hD, hS, hl⟩
            have ev13 : v13 = (if wh = 0 then (m_X8_litCells (m_X8_lay RO ce kd) LG) else (if wh = 1 then (m_X8_seenCells (m_X8_lay RO ce kd)) else (m_X8_reached (m_X8_lay RO ce kd) LG CO))) := ev13
            have hP : va_P D vwCl [(aM, .inr (7, [.ref aRo, .ref aHi, .int ms, .ref aSn, .int (bI sv), .ref aAs, .ref aLg, .ref aPd, .int ml, .ref aCo, .ref aEa])), (aRo, .inl (y4.1, 151, .inl (m_X8_lay RO ce kd))), (aLg, .inl (y4.1, 64, .inl h14)), (aCo, .inl (y4.1, 64, .inl h15)), (aAs, .inl (y4.1, 151, .inl (m_X8_putAside RO AS)))] H := hP
            have hD : va_D A [(aM, .inr (7, [.ref aRo, .ref aHi, .int ms, .ref aSn, .int (bI sv), .ref aAs, .ref aLg, .ref aPd, .int ml, .ref aCo, .ref aEa])), (aRo, .inl (y4.1, 151, .inl (m_X8_lay RO ce kd))), (aLg, .inl (y4.1, 64, .inl h14)), (aCo, .inl (y4.1, 64, .inl h15)), (aAs, .inl (y4.1, 151, .inl (m_X8_putAside RO AS)))] := hD
            have hl : lv_has ls 5 [(0, .ref aM)] := hl
            refine lv_istore (lv' := [(4, .int v13), (0, .ref aM)]) hx hb dX8_ifPut_76 hl (by decide) rfl (fun ls hl => ?_)
            refine lv_aload_n hx hb dX8_ifPut_78 rfl (lv_at hl 1 rfl) ?_
            refine callW_v (wr := [(aLg, .inl (y4.1, 64, .inl h14)), (aCo, .inl (y4.1, 64, .inl h15))]) (wn := fun u => [(aM, .inr (7, [.ref aRo, .ref aHi, .int ms, .ref aSn, .int (bI sv), .ref aAs, .ref aLg, .ref aPd, .int ml, .ref aCo, .ref aEa])), (aRo, .inl (y4.1, 151, .inl (m_X8_putBack (m_X8_lay RO ce kd) (m_X8_putAside RO AS)))), (aLg, .inl (y4.1, 64, .inl h14)), (aCo, .inl (y4.1, 64, .inl h15)), (aAs, .inl (y4.1, 151, .inl (m_X8_putAside RO AS)))]) (va_runV (As := []) (rest := []) ⟨hx, hb, hml, hown, hts⟩ (met_X8_putBack l D y4 aM aRo aHi aSn aAs aLg aPd aCo aEa H.size ms sv ml (m_X8_lay RO ce kd) (m_X8_putAside RO AS)) (cwV 0 hts gX8_ifPut_X8_putBack rfl rfl rfl (by decide +kernel) ⟨Nat.le_of_ble_eq_true rfl, Nat.le_of_ble_eq_true rfl⟩) ⟨preW_blind, va_recv hK hP (ci := 7) (q0 := 0) rfl rfl, preW_at (hP.sub (ws' := [(aM, .inr (7, [.ref aRo, .ref aHi, .int ms, .ref aSn, .int (bI sv), .ref aAs, .ref aLg, .ref aPd, .int ml, .ref aCo, .ref aEa])), (aRo, .inl (y4.1, 151, .inl (m_X8_lay RO ce kd))), (aAs, .inl (y4.1, 151, .inl (m_X8_putAside RO AS)))]) [0, 1, 4] rfl) hK (hD.sub (ws' := [(aM, .inr (7, [.ref aRo, .ref aHi, .int ms, .ref aSn, .int (bI sv), .ref aAs, .ref aLg, .ref aPd, .int ml, .ref aCo, .ref aEa])), (aRo, .inl (y4.1, 151, .inl (m_X8_lay RO ce kd))), (aAs, .inl (y4.1, 151, .inl (m_X8_putAside RO AS)))]) [0, 1, 4] (by decide) rfl) hNW⟩ rfl rfl hl.1 rfl (lv_room (Nat.le_of_ble_eq_true rfl)) dX8_ifPut_79 ⟨Nat.zero_le _, Nat.zero_le _⟩) hP hD hS hA [0, 1, 4] [2, 3] [2, 3, 0, 1, 4] rfl rfl (by decide) (by decide) (fun _ => rfl) (by decide) (fun u16 H locs hw hP hD hS => ?_)
            have hP : va_P D vwCl [(aM, .inr (7, [.ref aRo, .ref aHi, .int ms, .ref aSn, .int (bI sv), .ref aAs, .ref aLg, .ref aPd, .int ml, .ref aCo, .ref aEa])), (aRo, .inl (y4.1, 151, .inl (m_X8_putBack (m_X8_lay RO ce kd) (m_X8_putAside RO AS)))), (aLg, .inl (y4.1, 64, .inl h14)), (aCo, .inl (y4.1, 64, .inl h15)), (aAs, .inl (y4.1, 151, .inl (m_X8_putAside RO AS)))] H := hP
            have hD : va_D A [(aM, .inr (7, [.ref aRo, .ref aHi, .int ms, .ref aSn, .int (bI sv), .ref aAs, .ref aLg, .ref aPd, .int ml, .ref aCo, .ref aEa])), (aRo, .inl (y4.1, 151, .inl (m_X8_putBack (m_X8_lay RO ce kd) (m_X8_putAside RO AS)))), (aLg, .inl (y4.1, 64, .inl h14)), (aCo, .inl (y4.1, 64, .inl h15)), (aAs, .inl (y4.1, 151, .inl (m_X8_putAside RO AS)))] := hD
            refine lv_iload hx hb dX8_ifPut_82 (lv_at hl 0 rfl) ?_
            have em : m_X8_ifPut RO LG CO AS ce kd wh = (v13, (m_X8_putBack (m_X8_lay RO ce kd) (m_X8_putAside RO AS))) := (by replace ev13 := Eq.symm ev13; subst ev13; first | (simp only [m_X8_ifPut, if_neg c1, if_neg c2, if_neg c3, if_neg c5]; done) | (simp only [m_X8_ifPut, if_neg c1, if_neg c2, if_neg c3, if_neg c5]; rfl))
            exact W.iret (v := v13) hx hb hr (fun t ht hW => ⟨⟨v13, (h14, h15, (m_X8_putAside RO AS)), rfl, (by rw [em]), ⟨by rw [ht, em]; exact hP, by rw [em]; exact hD⟩⟩, hS.F ht⟩) hS.2.2 dX8_ifPut_84
          · refine lv_if_ne (tgt := 60) hx hb dX8_ifPut_50 (by decide) (fun c8 => ?_) (fun c8 => ?_)
            · refine lv_iload_n hx hb dX8_ifPut_60 rfl (lv_at hl 3 rfl) ?_
              refine lv_iconst (v := 1) hx hb dX8_ifPut_61 (by decide) ?_
              refine lv_icmp_ne (tgt := 72) hx hb dX8_ifPut_62 (by decide) (fun c9 => ?_) (fun c9 => ?_)
              · refine lv_aload_n hx hb dX8_ifPut_72 rfl (lv_at hl 0 rfl) ?_
                refine callW_i (wr := [(aAs, .inl (y4.1, 151, .inl (m_X8_putAside RO AS)))]) (wn := fun u => [(aM, .inr (7, [.ref aRo, .ref aHi, .int ms, .ref aSn, .int (bI sv), .ref aAs, .ref aLg, .ref aPd, .int ml, .ref aCo, .ref aEa])), (aRo, .inl (y4.1, 151, .inl (m_X8_lay RO ce kd))), (aLg, .inl (y4.1, 64, .inl u.1)), (aCo, .inl (y4.1, 64, .inl u.2)), (aAs, .inl (y4.1, 151, .inl (m_X8_putAside RO AS)))]) (va_runV (As := []) (rest := []) ⟨hx, hb, hml, hown, hts⟩ (met_X8_reached l D y4 aM aRo aHi aSn aAs aLg aPd aCo aEa H.size ms sv ml (m_X8_lay RO ce kd) LG CO (MI_lay hM (isCell8_in (by assumption))) (hSL (isCell8_in (by assumption)))) (cwV 0 hts gX8_ifPut_X8_reached rfl rfl rfl (by decide +kernel) ⟨Nat.le_of_ble_eq_true rfl, Nat.le_of_ble_eq_true rfl⟩) ⟨preW_blind, va_recv hK hP (ci := 7) (q0 := 0) rfl rfl, preW_at (hP.sub (ws' := [(aM, .inr (7, [.ref aRo, .ref aHi, .int ms, .ref aSn, .int (bI sv), .ref aAs, .ref aLg, .ref aPd, .int ml, .ref aCo, .ref aEa])), (aRo, .inl (y4.1, 151, .inl (m_X8_lay RO ce kd))), (aLg, .inl (y4.1, 64, .inl LG)), (aCo, .inl (y4.1, 64, .inl CO))]) [0, 1, 2, 3] rfl) hK (hD.sub (ws' := [(aM, .inr (7, [.ref aRo, .ref aHi, .int ms, .ref aSn, .int (bI sv), .ref aAs, .ref aLg, .ref aPd, .int ml, .ref aCo, .ref aEa])), (aRo, .inl (y4.1, 151, .inl (m_X8_lay RO ce kd))), (aLg, .inl (y4.1, 64, .inl LG)), (aCo, .inl (y4.1, 64, .inl CO))]) [0, 1, 2, 3] (by decide) rfl) hNW⟩ rfl rfl hl.1 rfl (lv_room (Nat.le_of_ble_eq_true rfl)) dX8_ifPut_73 ⟨Nat.zero_le _, Nat.zero_le _⟩) hP hD hS hA [0, 1, 2, 3] [4] [1, 2, 3, 4, 0] rfl rfl (by decide) (by decide) (fun _ => rfl) (by decide) (fun r u10 H locs hw hP hD hS => ?_)
                replace hw := Eq.symm hw
                subst hw
                have hP : va_P D vwCl [(aM, .inr (7, [.ref aRo, .ref aHi, .int ms, .ref aSn, .int (bI sv), .ref aAs, .ref aLg, .ref aPd, .int ml, .ref aCo, .ref aEa])), (aRo, .inl (y4.1, 151, .inl (m_X8_lay RO ce kd))), (aLg, .inl (y4.1, 64, .inl u10.1)), (aCo, .inl (y4.1, 64, .inl u10.2)), (aAs, .inl (y4.1, 151, .inl (m_X8_putAside RO AS)))] H := hP
                have hD : va_D A [(aM, .inr (7, [.ref aRo, .ref aHi, .int ms, .ref aSn, .int (bI sv), .ref aAs, .ref aLg, .ref aPd, .int ml, .ref aCo, .ref aEa])), (aRo, .inl (y4.1, 151, .inl (m_X8_lay RO ce kd))), (aLg, .inl (y4.1, 64, .inl u10.1)), (aCo, .inl (y4.1, 64, .inl u10.2)), (aAs, .inl (y4.1, 151, .inl (m_X8_putAside RO AS)))] := hD
                exact K76 (m_X8_reached (m_X8_lay RO ce kd) LG CO) H locs ls ⟨u10.1, u10.2, (by first | (simp only [if_neg c1, if_neg c2, if_neg c3, if_neg c5, if_neg c8, if_neg c9]; done) | (simp only [if_neg c1, if_neg c2, if_neg c3, if_neg c5, if_neg c8, if_neg c9]; rfl) | rfl), hP, hD, hS, lv_sub hl [0] rfl⟩
              · refine lv_aload_n hx hb dX8_ifPut_65 rfl (lv_at hl 0 rfl) ?_
                refine callW_i (wr := [(aLg, .inl (y4.1, 64, .inl LG)), (aCo, .inl (y4.1, 64, .inl CO)), (aAs, .inl (y4.1, 151, .inl (m_X8_putAside RO AS)))]) (wn := fun u => [(aM, .inr (7, [.ref aRo, .ref aHi, .int ms, .ref aSn, .int (bI sv), .ref aAs, .ref aLg, .ref aPd, .int ml, .ref aCo, .ref aEa])), (aRo, .inl (y4.1, 151, .inl (m_X8_lay RO ce kd))), (aLg, .inl (y4.1, 64, .inl LG)), (aCo, .inl (y4.1, 64, .inl CO)), (aAs, .inl (y4.1, 151, .inl (m_X8_putAside RO AS)))]) (va_runV (As := []) (rest := []) ⟨hx, hb, hml, hown, hts⟩ (met_X8_seenCells l D y4 aM aRo aHi aSn aAs aLg aPd aCo aEa H.size ms sv ml (m_X8_lay RO ce kd) (MI_lay hM (isCell8_in (by assumption)))) (cwV 0 hts gX8_ifPut_X8_seenCells rfl rfl rfl (by decide +kernel) ⟨Nat.le_of_ble_eq_true rfl, Nat.le_of_ble_eq_true rfl⟩) ⟨preW_blind, va_recv hK hP (ci := 7) (q0 := 0) rfl rfl, preW_at (hP.sub (ws' := [(aM, .inr (7, [.ref aRo, .ref aHi, .int ms, .ref aSn, .int (bI sv), .ref aAs, .ref aLg, .ref aPd, .int ml, .ref aCo, .ref aEa])), (aRo, .inl (y4.1, 151, .inl (m_X8_lay RO ce kd)))]) [0, 1] rfl) hK (hD.sub (ws' := [(aM, .inr (7, [.ref aRo, .ref aHi, .int ms, .ref aSn, .int (bI sv), .ref aAs, .ref aLg, .ref aPd, .int ml, .ref aCo, .ref aEa])), (aRo, .inl (y4.1, 151, .inl (m_X8_lay RO ce kd)))]) [0, 1] (by decide) rfl) hNW⟩ rfl rfl hl.1 rfl (lv_room (Nat.le_of_ble_eq_true rfl)) dX8_ifPut_66 ⟨Nat.zero_le _, Nat.zero_le _⟩) hP hD hS hA [0, 1] [2, 3, 4] [3, 4, 0, 1, 2] rfl rfl (by decide) (by decide) (fun _ => rfl) (by decide) (fun r u11 H locs hw hP hD hS => ?_)
                replace hw := Eq.symm hw
                subst hw
                have hP : va_P D vwCl [(aM, .inr (7, [.ref aRo, .ref aHi, .int ms, .ref aSn, .int (bI sv), .ref aAs, .ref aLg, .ref aPd, .int ml, .ref aCo, .ref aEa])), (aRo, .inl (y4.1, 151, .inl (m_X8_lay RO ce kd))), (aLg, .inl (y4.1, 64, .inl LG)), (aCo, .inl (y4.1, 64, .inl CO)), (aAs, .inl (y4.1, 151, .inl (m_X8_putAside RO AS)))] H := hP
                have hD : va_D A [(aM, .inr (7, [.ref aRo, .ref aHi, .int ms, .ref aSn, .int (bI sv), .ref aAs, .ref aLg, .ref aPd, .int ml, .ref aCo, .ref aEa])), (aRo, .inl (y4.1, 151, .inl (m_X8_lay RO ce kd))), (aLg, .inl (y4.1, 64, .inl LG)), (aCo, .inl (y4.1, 64, .inl CO)), (aAs, .inl (y4.1, 151, .inl (m_X8_putAside RO AS)))] := hD
                refine lv_goto (tgt := 76) hx hb dX8_ifPut_69 (by decide) ?_
                exact K76 (m_X8_seenCells (m_X8_lay RO ce kd)) H locs ls ⟨LG, CO, (by first | (simp only [if_neg c1, if_neg c2, if_neg c3, if_neg c5, if_neg c8, if_pos c9]; done) | (simp only [if_neg c1, if_neg c2, if_neg c3, if_neg c5, if_neg c8, if_pos c9]; rfl) | rfl), hP, hD, hS, lv_sub hl [0] rfl⟩
            · refine lv_aload_n hx hb dX8_ifPut_53 rfl (lv_at hl 0 rfl) ?_
              refine callW_i (wr := [(aCo, .inl (y4.1, 64, .inl CO)), (aAs, .inl (y4.1, 151, .inl (m_X8_putAside RO AS)))]) (wn := fun u => [(aM, .inr (7, [.ref aRo, .ref aHi, .int ms, .ref aSn, .int (bI sv), .ref aAs, .ref aLg, .ref aPd, .int ml, .ref aCo, .ref aEa])), (aRo, .inl (y4.1, 151, .inl (m_X8_lay RO ce kd))), (aLg, .inl (y4.1, 64, .inl u)), (aCo, .inl (y4.1, 64, .inl CO)), (aAs, .inl (y4.1, 151, .inl (m_X8_putAside RO AS)))]) (va_runV (As := []) (rest := []) ⟨hx, hb, hml, hown, hts⟩ (met_X8_litCells l D y4 aM aRo aHi aSn aAs aLg aPd aCo aEa H.size ms sv ml (m_X8_lay RO ce kd) LG (MI_lay hM (isCell8_in (by assumption)))) (cwV 0 hts gX8_ifPut_X8_litCells rfl rfl rfl (by decide +kernel) ⟨Nat.le_of_ble_eq_true rfl, Nat.le_of_ble_eq_true rfl⟩) ⟨preW_blind, va_recv hK hP (ci := 7) (q0 := 0) rfl rfl, preW_at (hP.sub (ws' := [(aM, .inr (7, [.ref aRo, .ref aHi, .int ms, .ref aSn, .int (bI sv), .ref aAs, .ref aLg, .ref aPd, .int ml, .ref aCo, .ref aEa])), (aRo, .inl (y4.1, 151, .inl (m_X8_lay RO ce kd))), (aLg, .inl (y4.1, 64, .inl LG))]) [0, 1, 2] rfl) hK (hD.sub (ws' := [(aM, .inr (7, [.ref aRo, .ref aHi, .int ms, .ref aSn, .int (bI sv), .ref aAs, .ref aLg, .ref aPd, .int ml, .ref aCo, .ref aEa])), (aRo, .inl (y4.1, 151, .inl (m_X8_lay RO ce kd))), (aLg, .inl (y4.1, 64, .inl LG))]) [0, 1, 2] (by decide) rfl) hNW⟩ rfl rfl hl.1 rfl (lv_room (Nat.le_of_ble_eq_true rfl)) dX8_ifPut_54 ⟨Nat.zero_le _, Nat.zero_le _⟩) hP hD hS hA [0, 1, 2] [3, 4] [2, 3, 4, 0, 1] rfl rfl (by decide) (by decide) (fun _ => rfl) (by decide) (fun r u12 H locs hw hP hD hS => ?_)
              replace hw := Eq.symm hw
              subst hw
              have hP : va_P D vwCl [(aM, .inr (7, [.ref aRo, .ref aHi, .int ms, .ref aSn, .int (bI sv), .ref aAs, .ref aLg, .ref aPd, .int ml, .ref aCo, .ref aEa])), (aRo, .inl (y4.1, 151, .inl (m_X8_lay RO ce kd))), (aLg, .inl (y4.1, 64, .inl u12)), (aCo, .inl (y4.1, 64, .inl CO)), (aAs, .inl (y4.1, 151, .inl (m_X8_putAside RO AS)))] H := hP
              have hD : va_D A [(aM, .inr (7, [.ref aRo, .ref aHi, .int ms, .ref aSn, .int (bI sv), .ref aAs, .ref aLg, .ref aPd, .int ml, .ref aCo, .ref aEa])), (aRo, .inl (y4.1, 151, .inl (m_X8_lay RO ce kd))), (aLg, .inl (y4.1, 64, .inl u12)), (aCo, .inl (y4.1, 64, .inl CO)), (aAs, .inl (y4.1, 151, .inl (m_X8_putAside RO AS)))] := hD
              refine lv_goto (tgt := 76) hx hb dX8_ifPut_57 (by decide) ?_
              exact K76 (m_X8_litCells (m_X8_lay RO ce kd) LG) H locs ls ⟨u12, CO, (by first | (simp only [if_neg c1, if_neg c2, if_neg c3, if_neg c5, if_pos c8]; done) | (simp only [if_neg c1, if_neg c2, if_neg c3, if_neg c5, if_pos c8]; rfl) | rfl), hP, hD, hS, lv_sub hl [0] rfl⟩
        · refine lv_bipush (v := (-2)) hx hb dX8_ifPut_36 (by decide) ?_
          have em : m_X8_ifPut RO LG CO AS ce kd wh = ((-2 : Int32), RO) := (by first | (simp only [m_X8_ifPut, if_neg c1, if_neg c2, if_neg c3, if_pos c5]; done) | (simp only [m_X8_ifPut, if_neg c1, if_neg c2, if_neg c3, if_pos c5]; rfl))
          exact W.iret (v := (-2)) hx hb hr (fun t ht hW => ⟨⟨(-2), (LG, CO, AS), rfl, (by rw [em]), ⟨by rw [ht, em]; exact hP, by rw [em]; exact hD⟩⟩, hS.F ht⟩) hS.2.2 dX8_ifPut_38
      · refine lv_iconst (v := (-1)) hx hb dX8_ifPut_25 (by decide) ?_
        have em : m_X8_ifPut RO LG CO AS ce kd wh = ((-1 : Int32), RO) := (by first | (simp only [m_X8_ifPut, if_neg c1, if_neg c2, if_pos c3]; done) | (simp only [m_X8_ifPut, if_neg c1, if_neg c2, if_pos c3]; rfl))
        exact W.iret (v := (-1)) hx hb hr (fun t ht hW => ⟨⟨(-1), (LG, CO, AS), rfl, (by rw [em]), ⟨by rw [ht, em]; exact hP, by rw [em]; exact hD⟩⟩, hS.F ht⟩) hS.2.2 dX8_ifPut_26
