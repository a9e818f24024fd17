noncomputable def f_X8_lookTo_24 (RO : Nat → Int32) (LG : Nat → Int32) (CO : Nat → Int32) (fr : Int32) (k68 : Nat) (k100 : Nat) (t101 : Bool × (Nat → Int32)) : Bool × (Nat → Int32) := (if (m_X8_canGo RO (nI k68) (nI k100)) = false then (t101.1, t101.2) else (let v124 : Bool := (if (m_X8_next (nI k68) (nI k100)) = (-4) then t101.1 else (if (t101.2 ((m_X8_next (nI k68) (nI k100))).toNatClampNeg) = (-4) then t101.1 else (let v123 : Bool := (if t101.1 = false then (if ((m_X8_takes t101.2 (nI k68) (((t101.2 ((m_X8_next (nI k68) (nI k100))).toNatClampNeg) + 1) + (((m_X8_begin RO LG CO fr).1) ((m_X8_next (nI k68) (nI k100))).toNatClampNeg))).1) = false then false else true) else true); v123))); (let v125 : Nat → Int32 := (if (m_X8_next (nI k68) (nI k100)) = (-4) then t101.2 else (if (t101.2 ((m_X8_next (nI k68) (nI k100))).toNatClampNeg) = (-4) then t101.2 else (let v123 : Bool := (if t101.1 = false then (if ((m_X8_takes t101.2 (nI k68) (((t101.2 ((m_X8_next (nI k68) (nI k100))).toNatClampNeg) + 1) + (((m_X8_begin RO LG CO fr).1) ((m_X8_next (nI k68) (nI k100))).toNatClampNeg))).1) = false then false else true) else true); (m_X8_takes t101.2 (nI k68) (((t101.2 ((m_X8_next (nI k68) (nI k100))).toNatClampNeg) + 1) + (((m_X8_begin RO LG CO fr).1) ((m_X8_next (nI k68) (nI k100))).toNatClampNeg))).2))); (v124, v125))))
noncomputable def f_X8_lookTo_15 (RO : Nat → Int32) (LG : Nat → Int32) (CO : Nat → Int32) (fr : Int32) (k68 : Nat) (t69 : Bool × (Nat → Int32)) : Bool × (Nat → Int32) := (let t126 : Bool × (Nat → Int32) := itr (f_X8_lookTo_24 RO LG CO fr k68) 4 (t69.1, t69.2); (t126.1, t126.2))
noncomputable def f_X8_lookTo_7 (RO : Nat → Int32) (LG : Nat → Int32) (CO : Nat → Int32) (fr : Int32) (k2 : Nat) (t3 : Bool × (Nat → Int32)) : (((Nat → Int32) × (Nat → Int32)) ⊕ (Bool × (Nat → Int32))) ⊕ (Bool × (Nat → Int32)) := (if t3.1 = false then (.inl (.inr (t3.1, t3.2))) else (let t128 : Bool × (Nat → Int32) := itr (f_X8_lookTo_15 RO LG CO fr) 64 (false, t3.2); (.inr (t128.1, t128.2))))
noncomputable def m_X8_lookTo (RO : Nat → Int32) (LG : Nat → Int32) (CO : Nat → Int32) (fr : Int32) : (Nat → Int32) × (Nat → Int32) := (lpr (lpx (f_X8_lookTo_7 RO LG CO fr) fuelN 0 (true, (m_X8_begin RO LG CO fr).2)) id (fun t131 => ((m_X8_begin RO LG CO fr).1, t131.2)))
theorem lt24 {RO LG CO : Nat → Int32} {fr : Int32} (hL : ∀ c : Nat, c < 64 → 0 ≤ ((m_X8_begin RO LG CO fr).1 c).toInt ∧ ((m_X8_begin RO LG CO fr).1 c).toInt ≤ 216) {kc : Nat} (hk : kc < 64) {m : Nat} (kd : Nat) (s : Bool × (Nat → Int32)) (h : RC m s) :
    RC m (f_X8_lookTo_24 RO LG CO fr kc kd s) := by
  obtain ⟨mo, C⟩ := s
  obtain ⟨hJ, hm, ht⟩ := h
  unfold f_X8_lookTo_24
  by_cases h2 : m_X8_canGo RO (nI kc) (nI kd) = false
  · simp only [if_pos h2]
    exact ⟨hJ, hm, ht⟩
  simp only [if_neg h2]
  have hx := canGo_in (vp_in_nI hk (by decide)) h2
  by_cases h3 : m_X8_next (nI kc) (nI kd) = -4
  · simp only [if_pos h3]
    exact ⟨hJ, hm, ht⟩
  simp only [if_neg h3]
  obtain ⟨j, hj, ej⟩ := vp_in_of hx (by decide)
  by_cases h1 : C (m_X8_next (nI kc) (nI kd)).toNatClampNeg = -4
  · simp only [if_pos h1]
    exact ⟨hJ, hm, ht⟩
  simp only [if_neg h1]
  have hc : 0 ≤ ((C (m_X8_next (nI kc) (nI kd)).toNatClampNeg + 1) + (m_X8_begin RO LG CO fr).1 (m_X8_next (nI kc) (nI kd)).toNatClampNeg).toInt ∧ ((C (m_X8_next (nI kc) (nI kd)).toNatClampNeg + 1) + (m_X8_begin RO LG CO fr).1 (m_X8_next (nI kc) (nI kd)).toNatClampNeg).toInt ≤ 217 * (cntC C 64 : Int) := by
    have q := step_cost (L := (m_X8_begin RO LG CO fr).1) hJ hL hj (by rw [ej, nI_clamp (by omega)] at h1; exact h1) hx
    rw [ej, nI_clamp (by omega)] at q ⊢
    exact q
  have T := takes_ok hJ (vp_in_nI hk (by decide)) hc
  generalize m_X8_takes C (nI kc) ((C (m_X8_next (nI kc) (nI kd)).toNatClampNeg + 1) + (m_X8_begin RO LG CO fr).1 (m_X8_next (nI kc) (nI kd)).toNatClampNeg) = z at T
  obtain ⟨is, C'⟩ := z
  obtain ⟨t1, t2, t3⟩ := T
  refine ⟨t1, Nat.le_trans t2 hm, fun hv => ?_⟩
  cases mo with
  | true => exact Nat.lt_of_le_of_lt t2 (ht rfl)
  | false =>
    cases is with
    | true => exact Nat.lt_of_lt_of_le (t3 rfl) hm
    | false => simp at hv
theorem lookTo_ends {RO LG CO : Nat → Int32} {fr : Int32} (hL : ∀ c : Nat, c < 64 → 0 ≤ (m_X8_shine RO LG c).toInt ∧ (m_X8_shine RO LG c).toInt ≤ 216) (hf : vp_in fr 64) : ∀ t, lpx (f_X8_lookTo_7 RO LG CO fr) fuelN 0 (true, (m_X8_begin RO LG CO fr).2) ≠ .inr t := by
  refine rounds_end (fun k s s' hJ he => ?_) (begin_J RO LG CO hf) fuelN_ge
  obtain ⟨mo, C⟩ := s
  unfold f_X8_lookTo_7 at he
  cases mo with
  | false => simp at he
  | true =>
    refine ⟨rfl, ?_⟩
    simp only [Bool.true_eq_false, if_false] at he
    rw [← Sum.inr.inj he]
    have hz : RC (muC C 64) (itr (f_X8_lookTo_15 RO LG CO fr) 64 (false, C)) := by
      refine itr_ind (f := f_X8_lookTo_15 RO LG CO fr) (RC (muC C 64)) 64 (fun kc s hkc hs => ?_) (false, C) ⟨hJ, Nat.le_refl _, fun z => by cases z⟩
      have hy := itr_ind (f := f_X8_lookTo_24 RO LG CO fr kc) (RC (muC C 64)) 4 (fun kd s _ hs => lt24 hL hkc kd s hs) (s.1, s.2) hs
      unfold f_X8_lookTo_15
      generalize itr (f_X8_lookTo_24 RO LG CO fr kc) 4 (s.1, s.2) = z at hy ⊢
      exact hy
    generalize itr (f_X8_lookTo_15 RO LG CO fr) 64 (false, C) = z at hz ⊢
    exact hz

set_option maxHeartbeats 4000000 in
set_option maxRecDepth 100000 in
theorem met_X8_lookTo (l : Launch) (D : va_G) (y4 : vT) (aM aRo aHi aSn aAs aLg aPd aCo aEa : Nat) (sz : Nat) (ms : Int32) (sv : Bool) (ml : Int32) (RO : Nat → Int32) (LG : Nat → Int32) (CO : Nat → Int32) (fr : Int32) (hM : MI RO) (hfr : vp_in fr 64) (hSH : ∀ (LG : Nat → Int32) (c : Nat), c < 64 → 0 ≤ (m_X8_shine RO LG c).toInt ∧ (m_X8_shine RO LG c).toInt ≤ 216) : Met l yX8_lookTo wsX8_lookTo ({ frames := 8, cells := 0, slots := 0, locals := 187 }) (va_Pc [.ref aM, .int fr] (PreW D y4 [(aM, .inr (7, [.ref aRo, .ref aHi, .int ms, .ref aSn, .int (bI sv), .ref aAs, .ref aLg, .ref aPd, .int ml, .ref aCo, .ref aEa])), (aRo, .inl (y4.1, 151, .inl RO)), (aLg, .inl (y4.1, 64, .inl LG)), (aCo, .inl (y4.1, 64, .inl CO))] sz)) (va_Qv (fun (_ : Unit) => True) (fun _ t => PostW D (va_A [(aM, .inr (7, [.ref aRo, .ref aHi, .int ms, .ref aSn, .int (bI sv), .ref aAs, .ref aLg, .ref aPd, .int ml, .ref aCo, .ref aEa])), (aRo, .inl (y4.1, 151, .inl RO)), (aLg, .inl (y4.1, 64, .inl LG)), (aCo, .inl (y4.1, 64, .inl CO))] sz) [(aM, .inr (7, [.ref aRo, .ref aHi, .int ms, .ref aSn, .int (bI sv), .ref aAs, .ref aLg, .ref aPd, .int ml, .ref aCo, .ref aEa])), (aRo, .inl (y4.1, 151, .inl RO)), (aLg, .inl (y4.1, 64, .inl ((m_X8_lookTo RO LG CO fr).1))), (aCo, .inl (y4.1, 64, .inl ((m_X8_lookTo RO LG CO fr).2)))] t) (va_A [(aM, .inr (7, [.ref aRo, .ref aHi, .int ms, .ref aSn, .int (bI sv), .ref aAs, .ref aLg, .ref aPd, .int ml, .ref aCo, .ref aEa])), (aRo, .inl (y4.1, 151, .inl RO)), (aLg, .inl (y4.1, 64, .inl LG)), (aCo, .inl (y4.1, 64, .inl CO))] sz)) 0 0 (va_A [(aM, .inr (7, [.ref aRo, .ref aHi, .int ms, .ref aSn, .int (bI sv), .ref aAs, .ref aLg, .ref aPd, .int ml, .ref aCo, .ref aEa])), (aRo, .inl (y4.1, 151, .inl RO)), (aLg, .inl (y4.1, 64, .inl LG)), (aCo, .inl (y4.1, 64, .inl CO))] sz) := by
  refine Met.ofW (cc := cX8_lookTo) (maxL := 7) (ret := none) (by decide) rfl ?_
  intro p e s m args below meth c s₁ B hml hv
  obtain ⟨rfl, hsz, hP, hK, hD0, hNW⟩ := hv
  have hx := B.exec
  have hb := B.bytes
  have hr := B.returns
  have hts := atoms_spec (ws := wsX8_lookTo) B.pre
  have hown : s.vm.findClass RX8 = some m.cls := findClass_of_methodNamed B.named
  have hlocks := B.notSynchronized
  subst hsz
  have hD := hD0.self (sz := s.heap.size)
  generalize hAe : va_A [(aM, .inr (7, [.ref aRo, .ref aHi, .int ms, .ref aSn, .int (bI sv), .ref aAs, .ref aLg, .ref aPd, .int ml, .ref aCo, .ref aEa])), (aRo, .inl (y4.1, 151, .inl RO)), (aLg, .inl (y4.1, 64, .inl LG)), (aCo, .inl (y4.1, 64, .inl CO))] s.heap.size = A at hD ⊢
  have hA : ∀ q : Nat, s.heap.size ≤ q → A q := fun q h => by rw [← hAe]; exact Or.inr h
  have hS : va_S A s.heap s.heap [] := va_S.rf
  have hl := lv_entry ([.ref aM, .int fr]) (n := 7) (Nat.le_of_ble_eq_true rfl)
  rw [lg_entry_eq]
  generalize (lg_sl ([.ref aM, .int fr]) ++ List.replicate (7 - (lg_sl ([.ref aM, .int fr])).length) Slot.unset).toArray = ls at hl ⊢
  have hl : lv_has ls 7 [(0, .ref aM), (1, .int fr)] := hl
  have f28 := hts (.fieldLink RX8 28 "PillarLightModel" "cost" "[I") (List.mem_of_getElem? (i := 1) rfl)
  have iX8 : ∀ w ∈ wsX80, w ∈ wsX8_lookTo := fun _ h => List.mem_cons_of_mem _ (List.mem_append_right _ h)
  have f22 := hts (.fieldLink RX8 22 "PillarLightModel" "light" "[I") (List.mem_of_getElem? (i := 2) rfl)
  refine startW (fun H locs hP hS => ?_) hP hS
  refine lv_aload_n hx hb dX8_lookTo_0 rfl (lv_at hl 0 rfl) ?_
  refine lv_iload_n hx hb dX8_lookTo_1 rfl (lv_at hl 1 rfl) ?_
  refine callW_v (wr := []) (wn := fun u => [(aM, .inr (7, [.ref aRo, .ref aHi, .int ms, .ref aSn, .int (bI sv), .ref aAs, .ref aLg, .ref aPd, .int ml, .ref aCo, .ref aEa])), (aRo, .inl (y4.1, 151, .inl RO)), (aLg, .inl (y4.1, 64, .inl ((m_X8_begin RO LG CO fr).1))), (aCo, .inl (y4.1, 64, .inl ((m_X8_begin RO LG CO fr).2)))]) (va_runV (As := [.int fr]) (rest := []) ⟨hx, hb, hml, hown, hts⟩ (met_X8_begin l D y4 aM aRo aHi aSn aAs aLg aPd aCo aEa H.size ms sv ml RO LG CO fr hM hfr) (cwV 1 hts gX8_lookTo_X8_begin rfl rfl rfl (by decide +kernel) ⟨Nat.le_of_ble_eq_true rfl, Nat.le_of_ble_eq_true rfl⟩) ⟨preW_blind, va_recv hK hP (ci := 7) (q0 := 0) rfl rfl, preW_at (hP.sub (ws' := [(aM, .inr (7, [.ref aRo, .ref aHi, .int ms, .ref aSn, .int (bI sv), .ref aAs, .ref aLg, .ref aPd, .int ml, .ref aCo, .ref aEa])), (aRo, .inl (y4.1, 151, .inl RO)), (aLg, .inl (y4.1, 64, .inl LG)), (aCo, .inl (y4.1, 64, .inl CO))]) [0, 1, 2, 3] rfl) hK (hD.sub (ws' := [(aM, .inr (7, [.ref aRo, .ref aHi, .int ms, .ref aSn, .int (bI sv), .ref aAs, .ref aLg, .ref aPd, .int ml, .ref aCo, .ref aEa])), (aRo, .inl (y4.1, 151, .inl RO)), (aLg, .inl (y4.1, 64, .inl LG)), (aCo, .inl (y4.1, 64, .inl CO))]) [0, 1, 2, 3] (by decide) rfl) hNW⟩ rfl rfl hl.1 rfl (lv_room (Nat.le_of_ble_eq_true rfl)) dX8_lookTo_2 ⟨Nat.zero_le _, Nat.zero_le _⟩) hP hD hS hA [0, 1, 2, 3] [] [0, 1, 2, 3] rfl rfl (by decide) (by decide) (fun _ => rfl) (by decide) (fun u1 H locs hw hP hD hS => ?_)
  have hP : va_P D vwCl [(aM, .inr (7, [.ref aRo, .ref aHi, .int ms, .ref aSn, .int (bI sv), .ref aAs, .ref aLg, .ref aPd, .int ml, .ref aCo, .ref aEa])), (aRo, .inl (y4.1, 151, .inl RO)), (aLg, .inl (y4.1, 64, .inl ((m_X8_begin RO LG CO fr).1))), (aCo, .inl (y4.1, 64, .inl ((m_X8_begin RO LG CO fr).2)))] H := hP
  have hD : va_D A [(aM, .inr (7, [.ref aRo, .ref aHi, .int ms, .ref aSn, .int (bI sv), .ref aAs, .ref aLg, .ref aPd, .int ml, .ref aCo, .ref aEa])), (aRo, .inl (y4.1, 151, .inl RO)), (aLg, .inl (y4.1, 64, .inl ((m_X8_begin RO LG CO fr).1))), (aCo, .inl (y4.1, 64, .inl ((m_X8_begin RO LG CO fr).2)))] := hD
  refine lv_iconst (v := 1) hx hb dX8_lookTo_5 (by decide) ?_
  refine lv_istore_n (lv' := [(2, .int 1), (0, .ref aM), (1, .int fr)]) hx hb dX8_lookTo_6 rfl hl (by decide) rfl (fun ls hl => ?_)
  refine cutW (X := Bool × (Nat → Int32)) 126 (fun x H locs ls => ((lpx (f_X8_lookTo_7 RO LG CO fr) fuelN 0 (true, (m_X8_begin RO LG CO fr).2)) = .inl (.inr x) ∨ (lpx (f_X8_lookTo_7 RO LG CO fr) fuelN 0 (true, (m_X8_begin RO LG CO fr).2)) = .inr x) ∧ va_P D vwCl [(aM, .inr (7, [.ref aRo, .ref aHi, .int ms, .ref aSn, .int (bI sv), .ref aAs, .ref aLg, .ref aPd, .int ml, .ref aCo, .ref aEa])), (aRo, .inl (y4.1, 151, .inl RO)), (aLg, .inl (y4.1, 64, .inl ((m_X8_begin RO LG CO fr).1))), (aCo, .inl (y4.1, 64, .inl x.2))] H ∧ va_D A [(aM, .inr (7, [.ref aRo, .ref aHi, .int ms, .ref aSn, .int (bI sv), .ref aAs, .ref aLg, .ref aPd, .int ml, .ref aCo, .ref aEa])), (aRo, .inl (y4.1, 151, .inl RO)), (aLg, .inl (y4.1, 64, .inl ((m_X8_begin RO LG CO fr).1))), (aCo, .inl (y4.1, 64, .inl x.2))] ∧ va_S A s.heap H locs ∧ lv_has ls 7 []) (fun x => []) ?_ (fun K126 => ?_)
  · rintro t131 H locs ls ⟨et131, hP, hD, hS, hl⟩
    have hP : va_P D vwCl [(aM, .inr (7, [.ref aRo, .ref aHi, .int ms, .ref aSn, .int (bI sv), .ref aAs, .ref aLg, .ref aPd, .int ml, .ref aCo, .ref aEa])), (aRo, .inl (y4.1, 151, .inl RO)), (aLg, .inl (y4.1, 64, .inl ((m_X8_begin RO LG CO fr).1))), (aCo, .inl (y4.1, 64, .inl t131.2))] H := hP
    have hD : va_D A [(aM, .inr (7, [.ref aRo, .ref aHi, .int ms, .ref aSn, .int (bI sv), .ref aAs, .ref aLg, .ref aPd, .int ml, .ref aCo, .ref aEa])), (aRo, .inl (y4.1, 151, .inl RO)), (aLg, .inl (y4.1, 64, .inl ((m_X8_begin RO LG CO fr).1))), (aCo, .inl (y4.1, 64, .inl t131.2))] := hD
    have hl : lv_has ls 7 [] := hl
    have em : m_X8_lookTo RO LG CO fr = ((m_X8_begin RO LG CO fr).1, t131.2) := (by first | (simp only [m_X8_lookTo, lpr_k et131]; done) | (simp only [m_X8_lookTo, lpr_k et131]; rfl))
    exact W.vret hx hb hr (fun t ht hW => ⟨⟨(), rfl, trivial, ⟨by rw [ht, em]; exact hP, by rw [em]; exact hD⟩⟩, hS.F ht⟩) hS.2.2 dX8_lookTo_126
  · refine loopX (σ := Bool × (Nat → Int32)) (ρ := ((Nat → Int32) × (Nat → Int32)) ⊕ (Bool × (Nat → Int32))) 7 (f_X8_lookTo_7 RO LG CO fr) (fun _ _ => True) fuelN 0 (true, (m_X8_begin RO LG CO fr).2) (fun k2 t3 H locs ls => va_P D vwCl [(aM, .inr (7, [.ref aRo, .ref aHi, .int ms, .ref aSn, .int (bI sv), .ref aAs, .ref aLg, .ref aPd, .int ml, .ref aCo, .ref aEa])), (aRo, .inl (y4.1, 151, .inl RO)), (aLg, .inl (y4.1, 64, .inl ((m_X8_begin RO LG CO fr).1))), (aCo, .inl (y4.1, 64, .inl t3.2))] H ∧ va_D A [(aM, .inr (7, [.ref aRo, .ref aHi, .int ms, .ref aSn, .int (bI sv), .ref aAs, .ref aLg, .ref aPd, .int ml, .ref aCo, .ref aEa])), (aRo, .inl (y4.1, 151, .inl RO)), (aLg, .inl (y4.1, 64, .inl ((m_X8_begin RO LG CO fr).1))), (aCo, .inl (y4.1, 64, .inl t3.2))] ∧ va_S A s.heap H locs ∧ lv_has ls 7 [(2, .int (bI t3.1)), (0, .ref aM)]) trivial ⟨hP, hD, hS, lv_sub hl [0, 1] rfl⟩ (fun t130 H locs ls et130 hit130 hh => ?_) (fun k2 t3 hkk2 hjk2 hik2 hretk2 ihk2 H locs ls hh => ?_)
    · exact absurd et130 (lookTo_ends (hSH LG) hfr _)
    · obtain ⟨hP, hD, hS, hl⟩ := hh
      have hP : va_P D vwCl [(aM, .inr (7, [.ref aRo, .ref aHi, .int ms, .ref aSn, .int (bI sv), .ref aAs, .ref aLg, .ref aPd, .int ml, .ref aCo, .ref aEa])), (aRo, .inl (y4.1, 151, .inl RO)), (aLg, .inl (y4.1, 64, .inl ((m_X8_begin RO LG CO fr).1))), (aCo, .inl (y4.1, 64, .inl t3.2))] H := hP
      have hD : va_D A [(aM, .inr (7, [.ref aRo, .ref aHi, .int ms, .ref aSn, .int (bI sv), .ref aAs, .ref aLg, .ref aPd, .int ml, .ref aCo, .ref aEa])), (aRo, .inl (y4.1, 151, .inl RO)), (aLg, .inl (y4.1, 64, .inl ((m_X8_begin RO LG CO fr).1))), (aCo, .inl (y4.1, 64, .inl t3.2))] := hD
      have hl : lv_has ls 7 [(2, .int (bI t3.1)), (0, .ref aM)] := hl
      refine lv_iload_n hx hb dX8_lookTo_7 rfl (lv_at hl 0 rfl) ?_
      refine lb_if_eq (tgt := 126) hx hb dX8_lookTo_8 (by decide) (fun c67 => ?_) (fun c67 => ?_)
      · have ef : (f_X8_lookTo_7 RO LG CO fr) k2 t3 = .inl (.inr (t3.1, t3.2)) := (by first | (simp only [f_X8_lookTo_7, if_pos c67]; done) | (simp only [f_X8_lookTo_7, if_pos c67]; rfl))
        exact K126 (t3.1, t3.2) H locs ls ⟨Or.inl (hretk2 _ ef), hP, hD, hS, lv_sub hl [] rfl⟩
      · refine lv_iconst (v := 0) hx hb dX8_lookTo_11 (by decide) ?_
        refine lv_istore_n (lv' := [(2, .int 0), (0, .ref aM)]) hx hb dX8_lookTo_12 rfl hl (by decide) rfl (fun ls hl => ?_)
        refine lv_iconst (v := 0) hx hb dX8_lookTo_13 (by decide) ?_
        refine lv_istore_n (lv' := [(3, .int 0), (2, .int 0), (0, .ref aM)]) hx hb dX8_lookTo_14 rfl hl (by decide) rfl (fun ls hl => ?_)
        refine loopW (σ := Bool × (Nat → Int32)) 15 (f_X8_lookTo_15 RO LG CO fr) 64 (false, t3.2) (fun k68 t69 H locs ls => va_P D vwCl [(aM, .inr (7, [.ref aRo, .ref aHi, .int ms, .ref aSn, .int (bI sv), .ref aAs, .ref aLg, .ref aPd, .int ml, .ref aCo, .ref aEa])), (aRo, .inl (y4.1, 151, .inl RO)), (aLg, .inl (y4.1, 64, .inl ((m_X8_begin RO LG CO fr).1))), (aCo, .inl (y4.1, 64, .inl t69.2))] H ∧ va_D A [(aM, .inr (7, [.ref aRo, .ref aHi, .int ms, .ref aSn, .int (bI sv), .ref aAs, .ref aLg, .ref aPd, .int ml, .ref aCo, .ref aEa])), (aRo, .inl (y4.1, 151, .inl RO)), (aLg, .inl (y4.1, 64, .inl ((m_X8_begin RO LG CO fr).1))), (aCo, .inl (y4.1, 64, .inl t69.2))] ∧ va_S A s.heap H locs ∧ lv_has ls 7 [(3, .int (nI k68)), (2, .int (bI t69.1)), (0, .ref aM)]) ⟨hP, hD, hS, lv_sub hl [0, 1, 2] rfl⟩ (fun t128 H locs ls et128 hh => ?_) (fun k68 t69 hkk68 hek68 ihk68 H locs ls hh => ?_)
        · obtain ⟨hP, hD, hS, hl⟩ := hh
          have hP : va_P D vwCl [(aM, .inr (7, [.ref aRo, .ref aHi, .int ms, .ref aSn, .int (bI sv), .ref aAs, .ref aLg, .ref aPd, .int ml, .ref aCo, .ref aEa])), (aRo, .inl (y4.1, 151, .inl RO)), (aLg, .inl (y4.1, 64, .inl ((m_X8_begin RO LG CO fr).1))), (aCo, .inl (y4.1, 64, .inl t128.2))] H := hP
          have hD : va_D A [(aM, .inr (7, [.ref aRo, .ref aHi, .int ms, .ref aSn, .int (bI sv), .ref aAs, .ref aLg, .ref aPd, .int ml, .ref aCo, .ref aEa])), (aRo, .inl (y4.1, 151, .inl RO)), (aLg, .inl (y4.1, 64, .inl ((m_X8_begin RO LG CO fr).1))), (aCo, .inl (y4.1, 64, .inl t128.2))] := hD
          have hl : lv_has ls 7 [(3, .int (nI 64)), (2, .int (bI t128.1)), (0, .ref aM)] := hl
          refine lv_iload_n hx hb dX8_lookTo_15 rfl (lv_at hl 0 rfl) ?_
          refine lv_bipush (v := 64) hx hb dX8_lookTo_16 (by decide) ?_
          refine lv_icmp_ge (tgt := 123) hx hb dX8_lookTo_18 (by decide) (fun c129 => ?_) (fun c129 => absurd (nI_le (a := 64) (by omega) (by omega)) c129)
          refine lv_goto (tgt := 7) hx hb dX8_lookTo_123 (by decide) ?_
          have ef : (f_X8_lookTo_7 RO LG CO fr) k2 t3 = .inr (t128.1, t128.2) := (by replace et128 := Eq.symm et128; subst et128; first | (simp only [f_X8_lookTo_7, if_neg c67]; done) | (simp only [f_X8_lookTo_7, if_neg c67]; rfl))
          exact ihk2 _ ef trivial H locs ls ⟨hP, hD, hS, lv_sub hl [1, 2] rfl⟩
        · obtain ⟨hP, hD, hS, hl⟩ := hh
          have hP : va_P D vwCl [(aM, .inr (7, [.ref aRo, .ref aHi, .int ms, .ref aSn, .int (bI sv), .ref aAs, .ref aLg, .ref aPd, .int ml, .ref aCo, .ref aEa])), (aRo, .inl (y4.1, 151, .inl RO)), (aLg, .inl (y4.1, 64, .inl ((m_X8_begin RO LG CO fr).1))), (aCo, .inl (y4.1, 64, .inl t69.2))] H := hP
          have hD : va_D A [(aM, .inr (7, [.ref aRo, .ref aHi, .int ms, .ref aSn, .int (bI sv), .ref aAs, .ref aLg, .ref aPd, .int ml, .ref aCo, .ref aEa])), (aRo, .inl (y4.1, 151, .inl RO)), (aLg, .inl (y4.1, 64, .inl ((m_X8_begin RO LG CO fr).1))), (aCo, .inl (y4.1, 64, .inl t69.2))] := hD
          have hl : lv_has ls 7 [(3, .int (nI k68)), (2, .int (bI t69.1)), (0, .ref aM)] := hl
          refine lv_iload_n hx hb dX8_lookTo_15 rfl (lv_at hl 0 rfl) ?_
          refine lv_bipush (v := 64) hx hb dX8_lookTo_16 (by decide) ?_
          refine lv_icmp_ge (tgt := 123) hx hb dX8_lookTo_18 (by decide) (fun c99 => absurd c99 (nI_ge (b := 64) (by omega) (by omega))) (fun c99 => ?_)
          refine lv_iconst (v := 0) hx hb dX8_lookTo_21 (by decide) ?_
          refine lv_istore (lv' := [(4, .int 0), (3, .int (nI k68)), (2, .int (bI t69.1)), (0, .ref aM)]) hx hb dX8_lookTo_22 hl (by decide) rfl (fun ls hl => ?_)
          refine loopW (σ := Bool × (Nat → Int32)) 24 (f_X8_lookTo_24 RO LG CO fr k68) 4 (t69.1, t69.2) (fun k100 t101 H locs ls => va_P D vwCl [(aM, .inr (7, [.ref aRo, .ref aHi, .int ms, .ref aSn, .int (bI sv), .ref aAs, .ref aLg, .ref aPd, .int ml, .ref aCo, .ref aEa])), (aRo, .inl (y4.1, 151, .inl RO)), (aLg, .inl (y4.1, 64, .inl ((m_X8_begin RO LG CO fr).1))), (aCo, .inl (y4.1, 64, .inl t101.2))] H ∧ va_D A [(aM, .inr (7, [.ref aRo, .ref aHi, .int ms, .ref aSn, .int (bI sv), .ref aAs, .ref aLg, .ref aPd, .int ml, .ref aCo, .ref aEa])), (aRo, .inl (y4.1, 151, .inl RO)), (aLg, .inl (y4.1, 64, .inl ((m_X8_begin RO LG CO fr).1))), (aCo, .inl (y4.1, 64, .inl t101.2))] ∧ va_S A s.heap H locs ∧ lv_has ls 7 [(4, .int (nI k100)), (3, .int (nI k68)), (2, .int (bI t101.1)), (0, .ref aM)]) ⟨hP, hD, hS, lv_sub hl [0, 1, 2, 3] rfl⟩ (fun t126 H locs ls et126 hh => ?_) (fun k100 t101 hkk100 hek100 ihk100 H locs ls hh => ?_)
          · obtain ⟨hP, hD, hS, hl⟩ := hh
            have hP : va_P D vwCl [(aM, .inr (7, [.ref aRo, .ref aHi, .int ms, .ref aSn, .int (bI sv), .ref aAs, .ref aLg, .ref aPd, .int ml, .ref aCo, .ref aEa])), (aRo, .inl (y4.1, 151, .inl RO)), (aLg, .inl (y4.1, 64, .inl ((m_X8_begin RO LG CO fr).1))), (aCo, .inl (y4.1, 64, .inl t126.2))] H := hP
            have hD : va_D A [(aM, .inr (7, [.ref aRo, .ref aHi, .int ms, .ref aSn, .int (bI sv), .ref aAs, .ref aLg, .ref aPd, .int ml, .ref aCo, .ref aEa])), (aRo, .inl (y4.1, 151, .inl RO)), (aLg, .inl (y4.1, 64, .inl ((m_X8_begin RO LG CO fr).1))), (aCo, .inl (y4.1, 64, .inl t126.2))] := hD
            have hl : lv_has ls 7 [(4, .int (nI 4)), (3, .int (nI k68)), (2, .int (bI t126.1)), (0, .ref aM)] := hl
            refine lv_iload hx hb dX8_lookTo_24 (lv_at hl 0 rfl) ?_
            refine lv_iconst (v := 4) hx hb dX8_lookTo_26 (by decide) ?_
            refine lv_icmp_ge (tgt := 117) hx hb dX8_lookTo_27 (by decide) (fun c127 => ?_) (fun c127 => absurd (nI_le (a := 4) (by omega) (by omega)) c127)
            refine lv_iinc (v := nI (k68 + 1)) (lv' := [(3, .int (nI (k68 + 1))), (4, .int (nI 4)), (2, .int (bI t126.1)), (0, .ref aM)]) hx hb dX8_lookTo_117 hl (k := 1) rfl (nI_1 _) (by decide) rfl (fun ls hl => ?_)
            refine lv_goto (tgt := 15) hx hb dX8_lookTo_120 (by decide) ?_
            have ef : (f_X8_lookTo_15 RO LG CO fr) k68 t69 = (t126.1, t126.2) := (by replace et126 := Eq.symm et126; subst et126; first | (simp only [f_X8_lookTo_15]; done) | (unfold f_X8_lookTo_15; rfl) | rfl)
            rw [ef] at ihk68
            exact ihk68 H locs ls ⟨hP, hD, hS, lv_sub hl [0, 2, 3] rfl⟩
          · obtain ⟨hP, hD, hS, hl⟩ := hh
            have hP : va_P D vwCl [(aM, .inr (7, [.ref aRo, .ref aHi, .int ms, .ref aSn, .int (bI sv), .ref aAs, .ref aLg, .ref aPd, .int ml, .ref aCo, .ref aEa])), (aRo, .inl (y4.1, 151, .inl RO)), (aLg, .inl (y4.1, 64, .inl ((m_X8_begin RO LG CO fr).1))), (aCo, .inl (y4.1, 64, .inl t101.2))] H := hP
            have hD : va_D A [(aM, .inr (7, [.ref aRo, .ref aHi, .int ms, .ref aSn, .int (bI sv), .ref aAs, .ref aLg, .ref aPd, .int ml, .ref aCo, .ref aEa])), (aRo, .inl (y4.1, 151, .inl RO)), (aLg, .inl (y4.1, 64, .inl ((m_X8_begin RO LG CO fr).1))), (aCo, .inl (y4.1, 64, .inl t101.2))] := hD
            have hl : lv_has ls 7 [(4, .int (nI k100)), (3, .int (nI k68)), (2, .int (bI t101.1)), (0, .ref aM)] := hl
            refine lv_iload hx hb dX8_lookTo_24 (lv_at hl 0 rfl) ?_
            refine lv_iconst (v := 4) hx hb dX8_lookTo_26 (by decide) ?_
            refine lv_icmp_ge (tgt := 117) hx hb dX8_lookTo_27 (by decide) (fun c114 => absurd c114 (nI_ge (b := 4) (by omega) (by omega))) (fun c114 => ?_)
            refine lv_aload_n hx hb dX8_lookTo_30 rfl (lv_at hl 3 rfl) ?_
            refine lv_iload_n hx hb dX8_lookTo_31 rfl (lv_at hl 1 rfl) ?_
            refine lv_iload hx hb dX8_lookTo_32 (lv_at hl 0 rfl) ?_
            refine callW_i (wr := [(aLg, .inl (y4.1, 64, .inl ((m_X8_begin RO LG CO fr).1))), (aCo, .inl (y4.1, 64, .inl t101.2))]) (wn := fun u => [(aM, .inr (7, [.ref aRo, .ref aHi, .int ms, .ref aSn, .int (bI sv), .ref aAs, .ref aLg, .ref aPd, .int ml, .ref aCo, .ref aEa])), (aRo, .inl (y4.1, 151, .inl RO)), (aLg, .inl (y4.1, 64, .inl ((m_X8_begin RO LG CO fr).1))), (aCo, .inl (y4.1, 64, .inl t101.2))]) (va_runV (As := [.int (nI k68), .int (nI k100)]) (rest := []) ⟨hx, hb, hml, hown, hts⟩ (met_X8_canGo l D y4 aM aRo aHi aSn aAs aLg aPd aCo aEa H.size ms sv ml RO (nI k68) (nI k100) (vp_in_nI (by omega) (by decide))) (cwV 2 hts gX8_lookTo_X8_canGo rfl rfl rfl (by decide +kernel) ⟨Nat.le_of_ble_eq_true rfl, Nat.le_of_ble_eq_true rfl⟩) ⟨preW_blind, va_recv hK hP (ci := 7) (q0 := 0) rfl rfl, preW_at (hP.sub (ws' := [(aM, .inr (7, [.ref aRo, .ref aHi, .int ms, .ref aSn, .int (bI sv), .ref aAs, .ref aLg, .ref aPd, .int ml, .ref aCo, .ref aEa])), (aRo, .inl (y4.1, 151, .inl RO))]) [0, 1] rfl) hK (hD.sub (ws' := [(aM, .inr (7, [.ref aRo, .ref aHi, .int ms, .ref aSn, .int (bI sv), .ref aAs, .ref aLg, .ref aPd, .int ml, .ref aCo, .ref aEa])), (aRo, .inl (y4.1, 151, .inl RO))]) [0, 1] (by decide) rfl) hNW⟩ rfl rfl hl.1 rfl (lv_room (Nat.le_of_ble_eq_true rfl)) dX8_lookTo_34 ⟨Nat.zero_le _, Nat.zero_le _⟩) hP hD hS hA [0, 1] [2, 3] [2, 3, 0, 1] rfl rfl (by decide) (by decide) (fun _ => rfl) (by decide) (fun r u115 H locs hw hP hD hS => ?_)
            replace hw := Eq.symm hw
            subst hw
            have hP : va_P D vwCl [(aM, .inr (7, [.ref aRo, .ref aHi, .int ms, .ref aSn, .int (bI sv), .ref aAs, .ref aLg, .ref aPd, .int ml, .ref aCo, .ref aEa])), (aRo, .inl (y4.1, 151, .inl RO)), (aLg, .inl (y4.1, 64, .inl ((m_X8_begin RO LG CO fr).1))), (aCo, .inl (y4.1, 64, .inl t101.2))] H := hP
            have hD : va_D A [(aM, .inr (7, [.ref aRo, .ref aHi, .int ms, .ref aSn, .int (bI sv), .ref aAs, .ref aLg, .ref aPd, .int ml, .ref aCo, .ref aEa])), (aRo, .inl (y4.1, 151, .inl RO)), (aLg, .inl (y4.1, 64, .inl ((m_X8_begin RO LG CO fr).1))), (aCo, .inl (y4.1, 64, .inl t101.2))] := hD
            refine lb_if_eq (tgt := 49) hx hb dX8_lookTo_37 (by decide) (fun c116 => ?_) (fun c116 => ?_)
            · refine lv_bipush (v := (-4)) hx hb dX8_lookTo_49 (by decide) ?_
              refine lv_istore (lv' := [(5, .int (-4)), (4, .int (nI k100)), (3, .int (nI k68)), (2, .int (bI t101.1)), (0, .ref aM)]) hx hb dX8_lookTo_51 hl (by decide) rfl (fun ls hl => ?_)
              refine lv_iload hx hb dX8_lookTo_53 (lv_at hl 0 rfl) ?_
              refine lv_bipush (v := (-4)) hx hb dX8_lookTo_55 (by decide) ?_
              refine cutW (X := Unit) 111 (fun x H locs ls => va_P D vwCl [(aM, .inr (7, [.ref aRo, .ref aHi, .int ms, .ref aSn, .int (bI sv), .ref aAs, .ref aLg, .ref aPd, .int ml, .ref aCo, .ref aEa])), (aRo, .inl (y4.1, 151, .inl RO)), (aLg, .inl (y4.1, 64, .inl ((m_X8_begin RO LG CO fr).1))), (aCo, .inl (y4.1, 64, .inl t101.2))] H ∧ va_D A [(aM, .inr (7, [.ref aRo, .ref aHi, .int ms, .ref aSn, .int (bI sv), .ref aAs, .ref aLg, .ref aPd, .int ml, .ref aCo, .ref aEa])), (aRo, .inl (y4.1, 151, .inl RO)), (aLg, .inl (y4.1, 64, .inl ((m_X8_begin RO LG CO fr).1))), (aCo, .inl (y4.1, 64, .inl t101.2))] ∧ va_S A s.heap H locs ∧ lv_has ls 7 [(4, .int (nI k100)), (3, .int (nI k68)), (2, .int (bI t101.1)), (0, .ref aM)]) (fun x => []) ?_ (fun K111 => ?_)
              · rintro _ H locs ls ⟨hP, hD, hS, hl⟩
                have hP : va_P D vwCl [(aM, .inr (7, [.ref aRo, .ref aHi, .int ms, .ref aSn, .int (bI sv), .ref aAs, .ref aLg, .ref aPd, .int ml, .ref aCo, .ref aEa])), (aRo, .inl (y4.1, 151, .inl RO)), (aLg, .inl (y4.1, 64, .inl ((m_X8_begin RO LG CO fr).1))), (aCo, .inl (y4.1, 64, .inl t101.2))] H := hP
                have hD : va_D A [(aM, .inr (7, [.ref aRo, .ref aHi, .int ms, .ref aSn, .int (bI sv), .ref aAs, .ref aLg, .ref aPd, .int ml, .ref aCo, .ref aEa])), (aRo, .inl (y4.1, 151, .inl RO)), (aLg, .inl (y4.1, 64, .inl ((m_X8_begin RO LG CO fr).1))), (aCo, .inl (y4.1, 64, .inl t101.2))] := hD
                have hl : lv_has ls 7 [(4, .int (nI k100)), (3, .int (nI k68)), (2, .int (bI t101.1)), (0, .ref aM)] := hl
                refine lv_iinc (v := nI (k100 + 1)) (lv' := [(4, .int (nI (k100 + 1))), (3, .int (nI k68)), (2, .int (bI t101.1)), (0, .ref aM)]) hx hb dX8_lookTo_111 hl (k := 0) rfl (nI_1 _) (by decide) rfl (fun ls hl => ?_)
                refine lv_goto (tgt := 24) hx hb dX8_lookTo_114 (by decide) ?_
                have ef : (f_X8_lookTo_24 RO LG CO fr k68) k100 t101 = (t101.1, t101.2) := (by first | (simp only [f_X8_lookTo_24, if_pos c116]; done) | (simp only [f_X8_lookTo_24, if_pos c116]; rfl))
                rw [ef] at ihk100
                exact ihk100 H locs ls ⟨hP, hD, hS, lv_sub hl [0, 1, 2, 3] rfl⟩
              · refine lv_icmp_eq (tgt := 111) hx hb dX8_lookTo_57 (by decide) (fun c117 => ?_) (fun c117 => absurd (by decide) c117)
                exact K111 () H locs ls ⟨hP, hD, hS, lv_sub hl [1, 2, 3, 4] rfl⟩
            · refine lv_iload_n hx hb dX8_lookTo_40 rfl (lv_at hl 1 rfl) ?_
              refine lv_iload hx hb dX8_lookTo_41 (lv_at hl 0 rfl) ?_
              refine callK_i (va_runS (As := [.int (nI k68), .int (nI k100)]) (rest := []) ⟨hx, hb, hml, hown, hts⟩ (met_X8_next l  (nI k68) (nI k100)) (va_cwS 2 hts gX8_lookTo_X8_next rfl rfl rfl (by decide +kernel) ⟨Nat.le_of_ble_eq_true rfl, Nat.le_of_ble_eq_true rfl⟩) ⟨preS_blind, fun U hU hW => ⟨rfl, trivial⟩⟩ rfl rfl hl.1 rfl (lv_room (Nat.le_of_ble_eq_true rfl)) dX8_lookTo_43 ⟨Nat.zero_le _, Nat.zero_le _⟩) hP hS (fun r u H locs hw hP hS => ?_)
              replace hw := Eq.symm hw
              subst hw
              refine lv_goto (tgt := 51) hx hb dX8_lookTo_46 (by decide) ?_
              refine lv_istore (lv' := [(5, .int (m_X8_next (nI k68) (nI k100))), (4, .int (nI k100)), (3, .int (nI k68)), (2, .int (bI t101.1)), (0, .ref aM)]) hx hb dX8_lookTo_51 hl (by decide) rfl (fun ls hl => ?_)
              refine lv_iload hx hb dX8_lookTo_53 (lv_at hl 0 rfl) ?_
              refine lv_bipush (v := (-4)) hx hb dX8_lookTo_55 (by decide) ?_
              refine cutW (X := Bool × (Nat → Int32)) 111 (fun x H locs ls => x.1 = (if (m_X8_next (nI k68) (nI k100)) = (-4) then t101.1 else (if (t101.2 ((m_X8_next (nI k68) (nI k100))).toNatClampNeg) = (-4) then t101.1 else (let v123 : Bool := (if t101.1 = false then (if ((m_X8_takes t101.2 (nI k68) (((t101.2 ((m_X8_next (nI k68) (nI k100))).toNatClampNeg) + 1) + (((m_X8_begin RO LG CO fr).1) ((m_X8_next (nI k68) (nI k100))).toNatClampNeg))).1) = false then false else true) else true); v123))) ∧ x.2 = (if (m_X8_next (nI k68) (nI k100)) = (-4) then t101.2 else (if (t101.2 ((m_X8_next (nI k68) (nI k100))).toNatClampNeg) = (-4) then t101.2 else (let v123 : Bool := (if t101.1 = false then (if ((m_X8_takes t101.2 (nI k68) (((t101.2 ((m_X8_next (nI k68) (nI k100))).toNatClampNeg) + 1) + (((m_X8_begin RO LG CO fr).1) ((m_X8_next (nI k68) (nI k100))).toNatClampNeg))).1) = false then false else true) else true); (m_X8_takes t101.2 (nI k68) (((t101.2 ((m_X8_next (nI k68) (nI k100))).toNatClampNeg) + 1) + (((m_X8_begin RO LG CO fr).1) ((m_X8_next (nI k68) (nI k100))).toNatClampNeg))).2))) ∧ va_P D vwCl [(aM, .inr (7, [.ref aRo, .ref aHi, .int ms, .ref aSn, .int (bI sv), .ref aAs, .ref aLg, .ref aPd, .int ml, .ref aCo, .ref aEa])), (aRo, .inl (y4.1, 151, .inl RO)), (aLg, .inl (y4.1, 64, .inl ((m_X8_begin RO LG CO fr).1))), (aCo, .inl (y4.1, 64, .inl x.2))] H ∧ va_D A [(aM, .inr (7, [.ref aRo, .ref aHi, .int ms, .ref aSn, .int (bI sv), .ref aAs, .ref aLg, .ref aPd, .int ml, .ref aCo, .ref aEa])), (aRo, .inl (y4.1, 151, .inl RO)), (aLg, .inl (y4.1, 64, .inl ((m_X8_begin RO LG CO fr).1))), (aCo, .inl (y4.1, 64, .inl x.2))] ∧ va_S A s.heap H locs ∧ lv_has ls 7 [(4, .int (nI k100)), (3, .int (nI k68)), (2, .int (bI x.1)), (0, .ref aM)]) (fun x => []) ?_ (fun K111 => ?_)
              · rintro ⟨v124, v125⟩ H locs ls ⟨ev124, ev125, hP, hD, hS, hl⟩
                have ev124 : v124 = (if (m_X8_next (nI k68) (nI k100)) = (-4) then t101.1 else (if (t101.2 ((m_X8_next (nI k68) (nI k100))).toNatClampNeg) = (-4) then t101.1 else (let v123 : Bool := (if t101.1 = false then (if ((m_X8_takes t101.2 (nI k68) (((t101.2 ((m_X8_next (nI k68) (nI k100))).toNatClampNeg) + 1) + (((m_X8_begin RO LG CO fr).1) ((m_X8_next (nI k68) (nI k100))).toNatClampNeg))).1) = false then false else true) else true); v123))) := ev124
                have ev125 : v125 = (if (m_X8_next (nI k68) (nI k100)) = (-4) then t101.2 else (if (t101.2 ((m_X8_next (nI k68) (nI k100))).toNatClampNeg) = (-4) then t101.2 else (let v123 : Bool := (if t101.1 = false then (if ((m_X8_takes t101.2 (nI k68) (((t101.2 ((m_X8_next (nI k68) (nI k100))).toNatClampNeg) + 1) + (((m_X8_begin RO LG CO fr).1) ((m_X8_next (nI k68) (nI k100))).toNatClampNeg))).1) = false then false else true) else true); (m_X8_takes t101.2 (nI k68) (((t101.2 ((m_X8_next (nI k68) (nI k100))).toNatClampNeg) + 1) + (((m_X8_begin RO LG CO fr).1) ((m_X8_next (nI k68) (nI k100))).toNatClampNeg))).2))) := ev125
                have hP : va_P D vwCl [(aM, .inr (7, [.ref aRo, .ref aHi, .int ms, .ref aSn, .int (bI sv), .ref aAs, .ref aLg, .ref aPd, .int ml, .ref aCo, .ref aEa])), (aRo, .inl (y4.1, 151, .inl RO)), (aLg, .inl (y4.1, 64, .inl ((m_X8_begin RO LG CO fr).1))), (aCo, .inl (y4.1, 64, .inl v125))] H := hP
                have hD : va_D A [(aM, .inr (7, [.ref aRo, .ref aHi, .int ms, .ref aSn, .int (bI sv), .ref aAs, .ref aLg, .ref aPd, .int ml, .ref aCo, .ref aEa])), (aRo, .inl (y4.1, 151, .inl RO)), (aLg, .inl (y4.1, 64, .inl ((m_X8_begin RO LG CO fr).1))), (aCo, .inl (y4.1, 64, .inl v125))] := hD
                have hl : lv_has ls 7 [(4, .int (nI k100)), (3, .int (nI k68)), (2, .int (bI v124)), (0, .ref aM)] := hl
                refine lv_iinc (v := nI (k100 + 1)) (lv' := [(4, .int (nI (k100 + 1))), (3, .int (nI k68)), (2, .int (bI v124)), (0, .ref aM)]) hx hb dX8_lookTo_111 hl (k := 0) rfl (nI_1 _) (by decide) rfl (fun ls hl => ?_)
                refine lv_goto (tgt := 24) hx hb dX8_lookTo_114 (by decide) ?_
                have ef : (f_X8_lookTo_24 RO LG CO fr k68) k100 t101 = (v124, v125) := (by replace ev125 := Eq.symm ev125; subst ev125; replace ev124 := Eq.symm ev124; subst ev124; first | (simp only [f_X8_lookTo_24, if_neg c116]; done) | (simp only [f_X8_lookTo_24, if_neg c116]; rfl))
                rw [ef] at ihk100
                exact ihk100 H locs ls ⟨hP, hD, hS, lv_sub hl [0, 1, 2, 3] rfl⟩
              · refine lv_icmp_eq (tgt := 111) hx hb dX8_lookTo_57 (by decide) (fun c118 => ?_) (fun c118 => ?_)
                · exact K111 (t101.1, t101.2) H locs ls ⟨(by first | (simp only [if_neg c67, if_neg c116, if_pos c118]; done) | (simp only [if_neg c67, if_neg c116, if_pos c118]; rfl) | rfl), (by first | (simp only [if_neg c67, if_neg c116, if_pos c118]; done) | (simp only [if_neg c67, if_neg c116, if_pos c118]; rfl) | rfl), hP, hD, hS, lv_sub hl [1, 2, 3, 4] rfl⟩
                · refine lv_aload_n hx hb dX8_lookTo_60 rfl (lv_at hl 4 rfl) ?_
                  refine va_get (ci := 7) (v := .ref aCo) (C := RX8) (T := TX8) (N := 11) hx hb hts iX8 hown hK hP 0 rfl rfl 9 (by decide) f28 (fun _ h9 => h9) rfl dX8_lookTo_61 ?_
                  refine lv_iload hx hb dX8_lookTo_64 (lv_at hl 0 rfl) ?_
                  refine va_iald hx hb hK hP 3 0 rfl rfl (canGo_in (vp_in_nI (by omega) (by decide)) (by assumption)) dX8_lookTo_66 ?_
                  refine lv_bipush (v := (-4)) hx hb dX8_lookTo_67 (by decide) ?_
                  refine lv_icmp_eq (tgt := 111) hx hb dX8_lookTo_69 (by decide) (fun c119 => ?_) (fun c119 => ?_)
                  · exact K111 (t101.1, t101.2) H locs ls ⟨(by first | (simp only [if_neg c67, if_neg c116, if_neg c118, if_pos c119]; done) | (simp only [if_neg c67, if_neg c116, if_neg c118, if_pos c119]; rfl) | rfl), (by first | (simp only [if_neg c67, if_neg c116, if_neg c118, if_pos c119]; done) | (simp only [if_neg c67, if_neg c116, if_neg c118, if_pos c119]; rfl) | rfl), hP, hD, hS, lv_sub hl [1, 2, 3, 4] rfl⟩
                  · refine lv_aload_n hx hb dX8_lookTo_72 rfl (lv_at hl 4 rfl) ?_
                    refine lv_iload_n hx hb dX8_lookTo_73 rfl (lv_at hl 2 rfl) ?_
                    refine lv_aload_n hx hb dX8_lookTo_74 rfl (lv_at hl 4 rfl) ?_
                    refine va_get (ci := 7) (v := .ref aCo) (C := RX8) (T := TX8) (N := 11) hx hb hts iX8 hown hK hP 0 rfl rfl 9 (by decide) f28 (fun _ h9 => h9) rfl dX8_lookTo_75 ?_
                    refine lv_iload hx hb dX8_lookTo_78 (lv_at hl 0 rfl) ?_
                    refine va_iald hx hb hK hP 3 0 rfl rfl (canGo_in (vp_in_nI (by omega) (by decide)) (by assumption)) dX8_lookTo_80 ?_
                    refine lv_iconst (v := 1) hx hb dX8_lookTo_81 (by decide) ?_
                    refine lv_iadd hx hb dX8_lookTo_82 ?_
                    refine lv_aload_n hx hb dX8_lookTo_83 rfl (lv_at hl 4 rfl) ?_
                    refine va_get (ci := 7) (v := .ref aLg) (C := RX8) (T := TX8) (N := 11) hx hb hts iX8 hown hK hP 0 rfl rfl 6 (by decide) f22 (fun _ h9 => h9) rfl dX8_lookTo_84 ?_
                    refine lv_iload hx hb dX8_lookTo_87 (lv_at hl 0 rfl) ?_
                    refine va_iald hx hb hK hP 2 0 rfl rfl (canGo_in (vp_in_nI (by omega) (by decide)) (by assumption)) dX8_lookTo_89 ?_
                    refine lv_iadd hx hb dX8_lookTo_90 ?_
                    refine callW_i (wr := [(aRo, .inl (y4.1, 151, .inl RO)), (aLg, .inl (y4.1, 64, .inl ((m_X8_begin RO LG CO fr).1)))]) (wn := fun u => [(aM, .inr (7, [.ref aRo, .ref aHi, .int ms, .ref aSn, .int (bI sv), .ref aAs, .ref aLg, .ref aPd, .int ml, .ref aCo, .ref aEa])), (aRo, .inl (y4.1, 151, .inl RO)), (aLg, .inl (y4.1, 64, .inl ((m_X8_begin RO LG CO fr).1))), (aCo, .inl (y4.1, 64, .inl ((m_X8_takes t101.2 (nI k68) (((t101.2 ((m_X8_next (nI k68) (nI k100))).toNatClampNeg) + 1) + (((m_X8_begin RO LG CO fr).1) ((m_X8_next (nI k68) (nI k100))).toNatClampNeg))).2)))]) (va_runV (As := [.int (nI k68), .int (((t101.2 ((m_X8_next (nI k68) (nI k100))).toNatClampNeg) + 1) + (((m_X8_begin RO LG CO fr).1) ((m_X8_next (nI k68) (nI k100))).toNatClampNeg))]) (rest := []) ⟨hx, hb, hml, hown, hts⟩ (met_X8_takes l D y4 aM aRo aHi aSn aAs aLg aPd aCo aEa H.size ms sv ml t101.2 (nI k68) (((t101.2 ((m_X8_next (nI k68) (nI k100))).toNatClampNeg) + 1) + (((m_X8_begin RO LG CO fr).1) ((m_X8_next (nI k68) (nI k100))).toNatClampNeg)) (vp_in_nI (by omega) (by decide))) (cwV 2 hts gX8_lookTo_X8_takes rfl rfl rfl (by decide +kernel) ⟨Nat.le_of_ble_eq_true rfl, Nat.le_of_ble_eq_true rfl⟩) ⟨preW_blind, va_recv hK hP (ci := 7) (q0 := 0) rfl rfl, preW_at (hP.sub (ws' := [(aM, .inr (7, [.ref aRo, .ref aHi, .int ms, .ref aSn, .int (bI sv), .ref aAs, .ref aLg, .ref aPd, .int ml, .ref aCo, .ref aEa])), (aCo, .inl (y4.1, 64, .inl t101.2))]) [0, 3] rfl) hK (hD.sub (ws' := [(aM, .inr (7, [.ref aRo, .ref aHi, .int ms, .ref aSn, .int (bI sv), .ref aAs, .ref aLg, .ref aPd, .int ml, .ref aCo, .ref aEa])), (aCo, .inl (y4.1, 64, .inl t101.2))]) [0, 3] (by decide) rfl) hNW⟩ rfl rfl hl.1 rfl (lv_room (Nat.le_of_ble_eq_true rfl)) dX8_lookTo_91 ⟨Nat.zero_le _, Nat.zero_le _⟩) hP hD hS hA [0, 3] [1, 2] [2, 0, 1, 3] rfl rfl (by decide) (by decide) (fun _ => rfl) (by decide) (fun r u120 H locs hw hP hD hS => ?_)
                    replace hw := Eq.symm hw
                    subst hw
                    have hP : va_P D vwCl [(aM, .inr (7, [.ref aRo, .ref aHi, .int ms, .ref aSn, .int (bI sv), .ref aAs, .ref aLg, .ref aPd, .int ml, .ref aCo, .ref aEa])), (aRo, .inl (y4.1, 151, .inl RO)), (aLg, .inl (y4.1, 64, .inl ((m_X8_begin RO LG CO fr).1))), (aCo, .inl (y4.1, 64, .inl ((m_X8_takes t101.2 (nI k68) (((t101.2 ((m_X8_next (nI k68) (nI k100))).toNatClampNeg) + 1) + (((m_X8_begin RO LG CO fr).1) ((m_X8_next (nI k68) (nI k100))).toNatClampNeg))).2)))] H := hP
                    have hD : va_D A [(aM, .inr (7, [.ref aRo, .ref aHi, .int ms, .ref aSn, .int (bI sv), .ref aAs, .ref aLg, .ref aPd, .int ml, .ref aCo, .ref aEa])), (aRo, .inl (y4.1, 151, .inl RO)), (aLg, .inl (y4.1, 64, .inl ((m_X8_begin RO LG CO fr).1))), (aCo, .inl (y4.1, 64, .inl ((m_X8_takes t101.2 (nI k68) (((t101.2 ((m_X8_next (nI k68) (nI k100))).toNatClampNeg) + 1) + (((m_X8_begin RO LG CO fr).1) ((m_X8_next (nI k68) (nI k100))).toNatClampNeg))).2)))] := hD
                    refine lv_istore (lv' := [(6, .int (bI ((m_X8_takes t101.2 (nI k68) (((t101.2 ((m_X8_next (nI k68) (nI k100))).toNatClampNeg) + 1) + (((m_X8_begin RO LG CO fr).1) ((m_X8_next (nI k68) (nI k100))).toNatClampNeg))).1))), (5, .int (m_X8_next (nI k68) (nI k100))), (4, .int (nI k100)), (3, .int (nI k68)), (2, .int (bI t101.1)), (0, .ref aM)]) hx hb dX8_lookTo_94 hl (by decide) rfl (fun ls hl => ?_)
                    refine lv_iload_n hx hb dX8_lookTo_96 rfl (lv_at hl 4 rfl) ?_
                    refine cutW (X := Bool) 110 (fun x H locs ls => x = (if t101.1 = false then (if ((m_X8_takes t101.2 (nI k68) (((t101.2 ((m_X8_next (nI k68) (nI k100))).toNatClampNeg) + 1) + (((m_X8_begin RO LG CO fr).1) ((m_X8_next (nI k68) (nI k100))).toNatClampNeg))).1) = false then false else true) else true) ∧ va_P D vwCl [(aM, .inr (7, [.ref aRo, .ref aHi, .int ms, .ref aSn, .int (bI sv), .ref aAs, .ref aLg, .ref aPd, .int ml, .ref aCo, .ref aEa])), (aRo, .inl (y4.1, 151, .inl RO)), (aLg, .inl (y4.1, 64, .inl ((m_X8_begin RO LG CO fr).1))), (aCo, .inl (y4.1, 64, .inl ((m_X8_takes t101.2 (nI k68) (((t101.2 ((m_X8_next (nI k68) (nI k100))).toNatClampNeg) + 1) + (((m_X8_begin RO LG CO fr).1) ((m_X8_next (nI k68) (nI k100))).toNatClampNeg))).2)))] H ∧ va_D A [(aM, .inr (7, [.ref aRo, .ref aHi, .int ms, .ref aSn, .int (bI sv), .ref aAs, .ref aLg, .ref aPd, .int ml, .ref aCo, .ref aEa])), (aRo, .inl (y4.1, 151, .inl RO)), (aLg, .inl (y4.1, 64, .inl ((m_X8_begin RO LG CO fr).1))), (aCo, .inl (y4.1, 64, .inl ((m_X8_takes t101.2 (nI k68) (((t101.2 ((m_X8_next (nI k68) (nI k100))).toNatClampNeg) + 1) + (((m_X8_begin RO LG CO fr).1) ((m_X8_next (nI k68) (nI k100))).toNatClampNeg))).2)))] ∧ va_S A s.heap H locs ∧ lv_has ls 7 [(4, .int (nI k100)), (3, .int (nI k68)), (0, .ref aM)]) (fun x => [.int (bI x)]) ?_ (fun K110 => ?_)
                    · rintro v123 H locs ls ⟨ev123, hP, hD, hS, hl⟩
                      have ev123 : v123 = (if t101.1 = false then (if ((m_X8_takes t101.2 (nI k68) (((t101.2 ((m_X8_next (nI k68) (nI k100))).toNatClampNeg) + 1) + (((m_X8_begin RO LG CO fr).1) ((m_X8_next (nI k68) (nI k100))).toNatClampNeg))).1) = false then false else true) else true) := ev123
                      have hP : va_P D vwCl [(aM, .inr (7, [.ref aRo, .ref aHi, .int ms, .ref aSn, .int (bI sv), .ref aAs, .ref aLg, .ref aPd, .int ml, .ref aCo, .ref aEa])), (aRo, .inl (y4.1, 151, .inl RO)), (aLg, .inl (y4.1, 64, .inl ((m_X8_begin RO LG CO fr).1))), (aCo, .inl (y4.1, 64, .inl ((m_X8_takes t101.2 (nI k68) (((t101.2 ((m_X8_next (nI k68) (nI k100))).toNatClampNeg) + 1) + (((m_X8_begin RO LG CO fr).1) ((m_X8_next (nI k68) (nI k100))).toNatClampNeg))).2)))] H := hP
                      have hD : va_D A [(aM, .inr (7, [.ref aRo, .ref aHi, .int ms, .ref aSn, .int (bI sv), .ref aAs, .ref aLg, .ref aPd, .int ml, .ref aCo, .ref aEa])), (aRo, .inl (y4.1, 151, .inl RO)), (aLg, .inl (y4.1, 64, .inl ((m_X8_begin RO LG CO fr).1))), (aCo, .inl (y4.1, 64, .inl ((m_X8_takes t101.2 (nI k68) (((t101.2 ((m_X8_next (nI k68) (nI k100))).toNatClampNeg) + 1) + (((m_X8_begin RO LG CO fr).1) ((m_X8_next (nI k68) (nI k100))).toNatClampNeg))).2)))] := hD
                      have hl : lv_has ls 7 [(4, .int (nI k100)), (3, .int (nI k68)), (0, .ref aM)] := hl
                      refine lv_istore_n (lv' := [(2, .int (bI v123)), (4, .int (nI k100)), (3, .int (nI k68)), (0, .ref aM)]) hx hb dX8_lookTo_110 rfl hl (by decide) rfl (fun ls hl => ?_)
                      exact K111 (v123, (m_X8_takes t101.2 (nI k68) (((t101.2 ((m_X8_next (nI k68) (nI k100))).toNatClampNeg) + 1) + (((m_X8_begin RO LG CO fr).1) ((m_X8_next (nI k68) (nI k100))).toNatClampNeg))).2) H locs ls ⟨(by replace ev123 := Eq.symm ev123; subst ev123; first | (simp only [if_neg c67, if_neg c116, if_neg c118, if_neg c119]; done) | (simp only [if_neg c67, if_neg c116, if_neg c118, if_neg c119]; rfl) | rfl), (by replace ev123 := Eq.symm ev123; subst ev123; first | (simp only [if_neg c67, if_neg c116, if_neg c118, if_neg c119]; done) | (simp only [if_neg c67, if_neg c116, if_neg c118, if_neg c119]; rfl) | rfl), hP, hD, hS, lv_sub hl [1, 2, 0, 3] rfl⟩
                    · refine lb_if_ne (tgt := 105) hx hb dX8_lookTo_97 (by decide) (fun c121 => ?_) (fun c121 => ?_)
                      · refine lv_iconst (v := 1) hx hb dX8_lookTo_105 (by decide) ?_
                        refine lv_goto (tgt := 110) hx hb dX8_lookTo_106 (by decide) ?_
                        exact K110 true H locs ls ⟨(by first | (simp only [if_neg c67, if_neg c116, if_neg c118, if_neg c119, if_neg c121]; done) | (simp only [if_neg c67, if_neg c116, if_neg c118, if_neg c119, if_neg c121]; rfl) | rfl), hP, hD, hS, lv_sub hl [2, 3, 5] rfl⟩
                      · refine lv_iload hx hb dX8_lookTo_100 (lv_at hl 0 rfl) ?_
                        refine lb_if_eq (tgt := 109) hx hb dX8_lookTo_102 (by decide) (fun c122 => ?_) (fun c122 => ?_)
                        · refine lv_iconst (v := 0) hx hb dX8_lookTo_109 (by decide) ?_
                          exact K110 false H locs ls ⟨(by first | (simp only [if_neg c67, if_neg c116, if_neg c118, if_neg c119, if_pos c121, if_pos c122]; done) | (simp only [if_neg c67, if_neg c116, if_neg c118, if_neg c119, if_pos c121, if_pos c122]; rfl) | rfl), hP, hD, hS, lv_sub hl [2, 3, 5] rfl⟩
                        · refine lv_iconst (v := 1) hx hb dX8_lookTo_105 (by decide) ?_
                          refine lv_goto (tgt := 110) hx hb dX8_lookTo_106 (by decide) ?_
                          exact K110 true H locs ls ⟨(by first | (simp only [if_neg c67, if_neg c116, if_neg c118, if_neg c119, if_pos c121, if_neg c122]; done) | (simp only [if_neg c67, if_neg c116, if_neg c118, if_neg c119, if_pos c121, if_neg c122]; rfl) | rfl), hP, hD, hS, lv_sub hl [2, 3, 5] rfl⟩
noncomputable def m_X8_exposure (RO : Nat → Int32) (LG : Nat → Int32) (CO : Nat → Int32) (ce : Int32) (wy : Int32) : Int32 := (if (m_X8_isCell ce) = false then (-1 : Int32) else (if (m_X8_in wy 0 1) = false then (-1 : Int32) else (let q3 : (Nat → Int32) × (Nat → Int32) := m_X8_lookFrom RO LG CO (RO 147); q3.2 (ce).toNatClampNeg)))
set_option maxHeartbeats 4000000 in
set_option maxRecDepth 100000 in
theorem met_X8_exposure (l : Launch) (D : va_G) (y4 : vT) (aM aRo aHi aSn aAs aLg aPd aCo aEa : Nat) (sz : Nat) (ms : Int32) (sv : Bool) (ml : Int32) (RO : Nat → Int32) (LG : Nat → Int32) (CO : Nat → Int32) (ce : Int32) (wy : Int32) (hM : MI RO) (hSH : ∀ (LG : Nat → Int32) (c : Nat), c < 64 → 0 ≤ (m_X8_shine RO LG c).toInt ∧ (m_X8_shine RO LG c).toInt ≤ 216) : Met l yX8_exposure wsX8_exposure ({ frames := 9, cells := 0, slots := 0, locals := 213 }) (va_Pc [.ref aM, .int ce, .int wy] (PreW D y4 [(aM, .inr (7, [.ref aRo, .ref aHi, .int ms, .ref aSn, .int (bI sv), .ref aAs, .ref aLg, .ref aPd, .int ml, .ref aCo, .ref aEa])), (aRo, .inl (y4.1, 151, .inl RO)), (aLg, .inl (y4.1, 64, .inl LG)), (aCo, .inl (y4.1, 64, .inl CO))] sz)) (va_Qi (fun (r : Int32) (_ : (Nat → Int32) × (Nat → Int32)) => r = (m_X8_exposure RO LG CO ce wy)) (fun u t => PostW D (va_A [(aM, .inr (7, [.ref aRo, .ref aHi, .int ms, .ref aSn, .int (bI sv), .ref aAs, .ref aLg, .ref aPd, .int ml, .ref aCo, .ref aEa])), (aRo, .inl (y4.1, 151, .inl RO)), (aLg, .inl (y4.1, 64, .inl LG)), (aCo, .inl (y4.1, 64, .inl CO))] sz) [(aM, .inr (7, [.ref aRo, .ref aHi, .int ms, .ref aSn, .int (bI sv), .ref aAs, .ref aLg, .ref aPd, .int ml, .ref aCo, .ref aEa])), (aRo, .inl (y4.1, 151, .inl RO)), (aLg, .inl (y4.1, 64, .inl u.1)), (aCo, .inl (y4.1, 64, .inl u.2))] t) (va_A [(aM, .inr (7, [.ref aRo, .ref aHi, .int ms, .ref aSn, .int (bI sv), .ref aAs, .ref aLg, .ref aPd, .int ml, .ref aCo, .ref aEa])), (aRo, .inl (y4.1, 151, .inl RO)), (aLg, .inl (y4.1, 64, .inl LG)), (aCo, .inl (y4.1, 64, .inl CO))] sz)) 0 0 (va_A [(aM, .inr (7, [.ref aRo, .ref aHi, .int ms, .ref aSn, .int (bI sv), .ref aAs, .ref aLg, .ref aPd, .int ml, .ref aCo, .ref aEa])), (aRo, .inl (y4.1, 151, .inl RO)), (aLg, .inl (y4.1, 64, .inl LG)), (aCo, .inl (y4.1, 64, .inl CO))] sz) := by
  refine Met.ofW (cc := cX8_exposure) (maxL := 3) (ret := (some .int)) (by decide) rfl ?_
  intro p e s m args below meth c s₁ B hml hv
  obtain ⟨rfl, hsz, hP, hK, hD0, hNW⟩ := hv
  have hx := B.exec
  have hb := B.bytes
  have hr := B.returns
  have hts := atoms_spec (ws := wsX8_exposure) B.pre
  have hown : s.vm.findClass RX8 = some m.cls := findClass_of_methodNamed B.named
  have hlocks := B.notSynchronized
  subst hsz
  have hD := hD0.self (sz := s.heap.size)
  generalize hAe : va_A [(aM, .inr (7, [.ref aRo, .ref aHi, .int ms, .ref aSn, .int (bI sv), .ref aAs, .ref aLg, .ref aPd, .int ml, .ref aCo, .ref aEa])), (aRo, .inl (y4.1, 151, .inl RO)), (aLg, .inl (y4.1, 64, .inl LG)), (aCo, .inl (y4.1, 64, .inl CO))] s.heap.size = A at hD ⊢
  have hA : ∀ q : Nat, s.heap.size ≤ q → A q := fun q h => by rw [← hAe]; exact Or.inr h
  have hS : va_S A s.heap s.heap [] := va_S.rf
  have hl := lv_entry ([.ref aM, .int ce, .int wy]) (n := 3) (Nat.le_of_ble_eq_true rfl)
  rw [lg_entry_eq]
  generalize (lg_sl ([.ref aM, .int ce, .int wy]) ++ List.replicate (3 - (lg_sl ([.ref aM, .int ce, .int wy])).length) Slot.unset).toArray = ls at hl ⊢
  have hl : lv_has ls 3 [(0, .ref aM), (1, .int ce), (2, .int wy)] := hl
  have f7 := hts (.fieldLink RX8 7 "PillarLightModel" "row" "[I") (List.mem_of_getElem? (i := 1) rfl)
  have iX8 : ∀ w ∈ wsX80, w ∈ wsX8_exposure := fun _ h => List.mem_cons_of_mem _ (List.mem_append_right _ h)
  have f28 := hts (.fieldLink RX8 28 "PillarLightModel" "cost" "[I") (List.mem_of_getElem? (i := 2) rfl)
  refine startW (fun H locs hP hS => ?_) hP hS
  refine lv_iload_n hx hb dX8_exposure_0 rfl (lv_at hl 1 rfl) ?_
  refine callK_i (va_runS (As := [.int ce]) (rest := []) ⟨hx, hb, hml, hown, hts⟩ (met_X8_isCell l  ce) (va_cwS 1 hts gX8_exposure_X8_isCell rfl rfl rfl (by decide +kernel) ⟨Nat.le_of_ble_eq_true rfl, Nat.le_of_ble_eq_true rfl⟩) ⟨preS_blind, fun U hU hW => ⟨rfl, trivial⟩⟩ rfl rfl hl.1 rfl (lv_room (Nat.le_of_ble_eq_true rfl)) dX8_exposure_1 ⟨Nat.zero_le _, Nat.zero_le _⟩) hP hS (fun r u H locs hw hP hS => ?_)
  replace hw := Eq.symm hw
  subst hw
  refine lb_if_eq (tgt := 16) hx hb dX8_exposure_4 (by decide) (fun c1 => ?_) (fun c1 => ?_)
  · refine lv_iconst (v := (-1)) hx hb dX8_exposure_16 (by decide) ?_
    have em : m_X8_exposure RO LG CO ce wy = (-1 : Int32) := (by first | (simp only [m_X8_exposure, if_pos c1]; done) | (simp only [m_X8_exposure, if_pos c1]; rfl))
    exact W.iret (v := (-1)) hx hb hr (fun t ht hW => ⟨⟨(-1), (LG, CO), rfl, (by rw [em]), ⟨by rw [ht]; exact hP, by exact hD⟩⟩, hS.F ht⟩) hS.2.2 dX8_exposure_17
  · refine lv_iload_n hx hb dX8_exposure_7 rfl (lv_at hl 2 rfl) ?_
    refine lv_iconst (v := 0) hx hb dX8_exposure_8 (by decide) ?_
    refine lv_iconst (v := 1) hx hb dX8_exposure_9 (by decide) ?_
    refine callK_i (va_runS (As := [.int wy, .int 0, .int 1]) (rest := []) ⟨hx, hb, hml, hown, hts⟩ (met_X8_in l  wy 0 1) (va_cwS 3 hts gX8_exposure_X8_in rfl rfl rfl (by decide +kernel) ⟨Nat.le_of_ble_eq_true rfl, Nat.le_of_ble_eq_true rfl⟩) ⟨preS_blind, fun U hU hW => ⟨rfl, trivial⟩⟩ rfl rfl hl.1 rfl (lv_room (Nat.le_of_ble_eq_true rfl)) dX8_exposure_10 ⟨Nat.zero_le _, Nat.zero_le _⟩) hP hS (fun r u H locs hw hP hS => ?_)
    replace hw := Eq.symm hw
    subst hw
    refine lb_if_ne (tgt := 18) hx hb dX8_exposure_13 (by decide) (fun c2 => ?_) (fun c2 => ?_)
    · refine lv_aload_n hx hb dX8_exposure_18 rfl (lv_at hl 0 rfl) ?_
      refine lv_aload_n hx hb dX8_exposure_19 rfl (lv_at hl 0 rfl) ?_
      refine va_get (ci := 7) (v := .ref aRo) (C := RX8) (T := TX8) (N := 11) hx hb hts iX8 hown hK hP 0 rfl rfl 0 (by decide) f7 (fun _ h9 => h9) rfl dX8_exposure_20 ?_
      refine lv_sipush (v := 147) hx hb dX8_exposure_23 (by decide) ?_
      refine va_iald hx hb hK hP 1 0 rfl rfl (vp_in_nI (n := 147) (by decide) (by decide)) dX8_exposure_26 ?_
      refine W.ofeqi (y := RO 147) (congrArg RO (by decide : (147 : Int32).toNatClampNeg = 147)) ?_
      refine callW_v (wr := []) (wn := fun u => [(aM, .inr (7, [.ref aRo, .ref aHi, .int ms, .ref aSn, .int (bI sv), .ref aAs, .ref aLg, .ref aPd, .int ml, .ref aCo, .ref aEa])), (aRo, .inl (y4.1, 151, .inl RO)), (aLg, .inl (y4.1, 64, .inl ((m_X8_lookFrom RO LG CO (RO 147)).1))), (aCo, .inl (y4.1, 64, .inl ((m_X8_lookFrom RO LG CO (RO 147)).2)))]) (va_runV (As := [.int (RO 147)]) (rest := []) ⟨hx, hb, hml, hown, hts⟩ (met_X8_lookFrom l D y4 aM aRo aHi aSn aAs aLg aPd aCo aEa H.size ms sv ml RO LG CO (RO 147) hM hM.2.2 hSH) (cwV 1 hts gX8_exposure_X8_lookFrom rfl rfl rfl (by decide +kernel) ⟨Nat.le_of_ble_eq_true rfl, Nat.le_of_ble_eq_true rfl⟩) ⟨preW_blind, va_recv hK hP (ci := 7) (q0 := 0) rfl rfl, preW_at (hP.sub (ws' := [(aM, .inr (7, [.ref aRo, .ref aHi, .int ms, .ref aSn, .int (bI sv), .ref aAs, .ref aLg, .ref aPd, .int ml, .ref aCo, .ref aEa])), (aRo, .inl (y4.1, 151, .inl RO)), (aLg, .inl (y4.1, 64, .inl LG)), (aCo, .inl (y4.1, 64, .inl CO))]) [0, 1, 2, 3] rfl) hK (hD.sub (ws' := [(aM, .inr (7, [.ref aRo, .ref aHi, .int ms, .ref aSn, .int (bI sv), .ref aAs, .ref aLg, .ref aPd, .int ml, .ref aCo, .ref aEa])), (aRo, .inl (y4.1, 151, .inl RO)), (aLg, .inl (y4.1, 64, .inl LG)), (aCo, .inl (y4.1, 64, .inl CO))]) [0, 1, 2, 3] (by decide) rfl) hNW⟩ rfl rfl hl.1 rfl (lv_room (Nat.le_of_ble_eq_true rfl)) dX8_exposure_27 ⟨Nat.zero_le _, Nat.zero_le _⟩) hP hD hS hA [0, 1, 2, 3] [] [0, 1, 2, 3] rfl rfl (by decide) (by decide) (fun _ => rfl) (by decide) (fun u4 H locs hw hP hD hS => ?_)
      obtain ⟨q3, eq3⟩ : ∃ z, z = m_X8_lookFrom RO LG CO (RO 147) := ⟨_, rfl⟩
      rw [← eq3] at hP hD
      have hP : va_P D vwCl [(aM, .inr (7, [.ref aRo, .ref aHi, .int ms, .ref aSn, .int (bI sv), .ref aAs, .ref aLg, .ref aPd, .int ml, .ref aCo, .ref aEa])), (aRo, .inl (y4.1, 151, .inl RO)), (aLg, .inl (y4.1, 64, .inl q3.1)), (aCo, .inl (y4.1, 64, .inl q3.2))] H := hP
      have hD : va_D A [(aM, .inr (7, [.ref aRo, .ref aHi, .int ms, .ref aSn, .int (bI sv), .ref aAs, .ref aLg, .ref aPd, .int ml, .ref aCo, .ref aEa])), (aRo, .inl (y4.1, 151, .inl RO)), (aLg, .inl (y4.1, 64, .inl q3.1)), (aCo, .inl (y4.1, 64, .inl q3.2))] := hD
      refine lv_aload_n hx hb dX8_exposure_30 rfl (lv_at hl 0 rfl) ?_
      refine va_get (ci := 7) (v := .ref aCo) (C := RX8) (T := TX8) (N := 11) hx hb hts iX8 hown hK hP 0 rfl rfl 9 (by decide) f28 (fun _ h9 => h9) rfl dX8_exposure_31 ?_
      refine lv_iload_n hx hb dX8_exposure_34 rfl (lv_at hl 1 rfl) ?_
      refine va_iald hx hb hK hP 3 0 rfl rfl (isCell8_in (by assumption)) dX8_exposure_35 ?_
      have em : m_X8_exposure RO LG CO ce wy = q3.2 (ce).toNatClampNeg := (by replace eq3 := Eq.symm eq3; subst eq3; first | (simp only [m_X8_exposure, if_neg c1, if_neg c2]; done) | (simp only [m_X8_exposure, if_neg c1, if_neg c2]; rfl))
      exact W.iret (v := q3.2 (ce).toNatClampNeg) hx hb hr (fun t ht hW => ⟨⟨q3.2 (ce).toNatClampNeg, (q3.1, q3.2), rfl, (by rw [em]), ⟨by rw [ht]; exact hP, by exact hD⟩⟩, hS.F ht⟩) hS.2.2 dX8_exposure_36
    · refine lv_iconst (v := (-1)) hx hb dX8_exposure_16 (by decide) ?_
      have em : m_X8_exposure RO LG CO ce wy = (-1 : Int32) := (by first | (simp only [m_X8_exposure, if_neg c1, if_pos c2]; done) | (simp only [m_X8_exposure, if_neg c1, if_pos c2]; rfl))
      exact W.iret (v := (-1)) hx hb hr (fun t ht hW => ⟨⟨(-1), (LG, CO), rfl, (by rw [em]), ⟨by rw [ht]; exact hP, by exact hD⟩⟩, hS.F ht⟩) hS.2.2 dX8_exposure_17
noncomputable def f_X8_reached_16 (q1 : (Nat → Int32) × (Nat → Int32)) (k3 : Nat) (t4 : Int32) : Int32 := (let v10 : Bool := (if (q1.2 (nI k3).toNatClampNeg) = (-4) then false else true); t4 + (bI v10))
noncomputable def m_X8_reached (RO : Nat → Int32) (LG : Nat → Int32) (CO : Nat → Int32) : Int32 := (let q1 : (Nat → Int32) × (Nat → Int32) := m_X8_lookFrom RO LG CO (RO 147); (let t11 : Int32 := itr (f_X8_reached_16 q1) 64 (0 : Int32); t11))
set_option maxHeartbeats 4000000 in
set_option maxRecDepth 100000 in
theorem met_X8_reached (l : Launch) (D : va_G) (y4 : vT) (aM aRo aHi aSn aAs aLg aPd aCo aEa : Nat) (sz : Nat) (ms : Int32) (sv : Bool) (ml : Int32) (RO : Nat → Int32) (LG : Nat → Int32) (CO : Nat → Int32) (hM : MI RO) (hSH : ∀ (LG : Nat → Int32) (c : Nat), c < 64 → 0 ≤ (m_X8_shine RO LG c).toInt ∧ (m_X8_shine RO LG c).toInt ≤ 216) : Met l yX8_reached wsX8_reached ({ frames := 9, cells := 0, slots := 0, locals := 213 }) (va_Pc [.ref aM] (PreW D y4 [(aM, .inr (7, [.ref aRo, .ref aHi, .int ms, .ref aSn, .int (bI sv), .ref aAs, .ref aLg, .ref aPd, .int ml, .ref aCo, .ref aEa])), (aRo, .inl (y4.1, 151, .inl RO)), (aLg, .inl (y4.1, 64, .inl LG)), (aCo, .inl (y4.1, 64, .inl CO))] sz)) (va_Qi (fun (r : Int32) (_ : (Nat → Int32) × (Nat → Int32)) => r = (m_X8_reached RO LG CO)) (fun u t => PostW D (va_A [(aM, .inr (7, [.ref aRo, .ref aHi, .int ms, .ref aSn, .int (bI sv), .ref aAs, .ref aLg, .ref aPd, .int ml, .ref aCo, .ref aEa])), (aRo, .inl (y4.1, 151, .inl RO)), (aLg, .inl (y4.1, 64, .inl LG)), (aCo, .inl (y4.1, 64, .inl CO))] sz) [(aM, .inr (7, [.ref aRo, .ref aHi, .int ms, .ref aSn, .int (bI sv), .ref aAs, .ref aLg, .ref aPd, .int ml, .ref aCo, .ref aEa])), (aRo, .inl (y4.1, 151, .inl RO)), (aLg, .inl (y4.1, 64, .inl u.1)), (aCo, .inl (y4.1, 64, .inl u.2))] t) (va_A [(aM, .inr (7, [.ref aRo, .ref aHi, .int ms, .ref aSn, .int (bI sv), .ref aAs, .ref aLg, .ref aPd, .int ml, .ref aCo, .ref aEa])), (aRo, .inl (y4.1, 151, .inl RO)), (aLg, .inl (y4.1, 64, .inl LG)), (aCo, .inl (y4.1, 64, .inl CO))] sz)) 0 0 (va_A [(aM, .inr (7, [.ref aRo, .ref aHi, .int ms, .ref aSn, .int (bI sv), .ref aAs, .ref aLg, .ref aPd, .int ml, .ref aCo, .ref aEa])), (aRo, .inl (y4.1, 151, .inl RO)), (aLg, .inl (y4.1, 64, .inl LG)), (aCo, .inl (y4.1, 64, .inl CO))] sz) := by
  refine Met.ofW (cc := cX8_reached) (maxL := 3) (ret := (some .int)) (by decide) rfl ?_
  intro p e s m args below meth c s₁ B hml hv
  obtain ⟨rfl, hsz, hP, hK, hD0, hNW⟩ := hv
  have hx := B.exec
  have hb := B.bytes
  have hr := B.returns
  have hts := atoms_spec (ws := wsX8_reached) B.pre
  have hown : s.vm.findClass RX8 = some m.cls := findClass_of_methodNamed B.named
  have hlocks := B.notSynchronized
  subst hsz
  have hD := hD0.self (sz := s.heap.size)
  generalize hAe : va_A [(aM, .inr (7, [.ref aRo, .ref aHi, .int ms, .ref aSn, .int (bI sv), .ref aAs, .ref aLg, .ref aPd, .int ml, .ref aCo, .ref aEa])), (aRo, .inl (y4.1, 151, .inl RO)), (aLg, .inl (y4.1, 64, .inl LG)), (aCo, .inl (y4.1, 64, .inl CO))] s.heap.size = A at hD ⊢
  have hA : ∀ q : Nat, s.heap.size ≤ q → A q := fun q h => by rw [← hAe]; exact Or.inr h
  have hS : va_S A s.heap s.heap [] := va_S.rf
  have hl := lv_entry ([.ref aM]) (n := 3) (Nat.le_of_ble_eq_true rfl)
  rw [lg_entry_eq]
  generalize (lg_sl ([.ref aM]) ++ List.replicate (3 - (lg_sl ([.ref aM])).length) Slot.unset).toArray = ls at hl ⊢
  have hl : lv_has ls 3 [(0, .ref aM)] := hl
  have f7 := hts (.fieldLink RX8 7 "PillarLightModel" "row" "[I") (List.mem_of_getElem? (i := 1) rfl)
  have iX8 : ∀ w ∈ wsX80, w ∈ wsX8_reached := fun _ h => List.mem_cons_of_mem _ (List.mem_append_right _ h)
  have f28 := hts (.fieldLink RX8 28 "PillarLightModel" "cost" "[I") (List.mem_of_getElem? (i := 2) rfl)
  refine startW (fun H locs hP hS => ?_) hP hS
  refine lv_aload_n hx hb dX8_reached_0 rfl (lv_at hl 0 rfl) ?_
  refine lv_aload_n hx hb dX8_reached_1 rfl (lv_at hl 0 rfl) ?_
  refine va_get (ci := 7) (v := .ref aRo) (C := RX8) (T := TX8) (N := 11) hx hb hts iX8 hown hK hP 0 rfl rfl 0 (by decide) f7 (fun _ h9 => h9) rfl dX8_reached_2 ?_
  refine lv_sipush (v := 147) hx hb dX8_reached_5 (by decide) ?_
  refine va_iald hx hb hK hP 1 0 rfl rfl (vp_in_nI (n := 147) (by decide) (by decide)) dX8_reached_8 ?_
  refine W.ofeqi (y := RO 147) (congrArg RO (by decide : (147 : Int32).toNatClampNeg = 147)) ?_
  refine callW_v (wr := []) (wn := fun u => [(aM, .inr (7, [.ref aRo, .ref aHi, .int ms, .ref aSn, .int (bI sv), .ref aAs, .ref aLg, .ref aPd, .int ml, .ref aCo, .ref aEa])), (aRo, .inl (y4.1, 151, .inl RO)), (aLg, .inl (y4.1, 64, .inl ((m_X8_lookFrom RO LG CO (RO 147)).1))), (aCo, .inl (y4.1, 64, .inl ((m_X8_lookFrom RO LG CO (RO 147)).2)))]) (va_runV (As := [.int (RO 147)]) (rest := []) ⟨hx, hb, hml, hown, hts⟩ (met_X8_lookFrom l D y4 aM aRo aHi aSn aAs aLg aPd aCo aEa H.size ms sv ml RO LG CO (RO 147) hM hM.2.2 hSH) (cwV 1 hts gX8_reached_X8_lookFrom rfl rfl rfl (by decide +kernel) ⟨Nat.le_of_ble_eq_true rfl, Nat.le_of_ble_eq_true rfl⟩) ⟨preW_blind, va_recv hK hP (ci := 7) (q0 := 0) rfl rfl, preW_at (hP.sub (ws' := [(aM, .inr (7, [.ref aRo, .ref aHi, .int ms, .ref aSn, .int (bI sv), .ref aAs, .ref aLg, .ref aPd, .int ml, .ref aCo, .ref aEa])), (aRo, .inl (y4.1, 151, .inl RO)), (aLg, .inl (y4.1, 64, .inl LG)), (aCo, .inl (y4.1, 64, .inl CO))]) [0, 1, 2, 3] rfl) hK (hD.sub (ws' := [(aM, .inr (7, [.ref aRo, .ref aHi, .int ms, .ref aSn, .int (bI sv), .ref aAs, .ref aLg, .ref aPd, .int ml, .ref aCo, .ref aEa])), (aRo, .inl (y4.1, 151, .inl RO)), (aLg, .inl (y4.1, 64, .inl LG)), (aCo, .inl (y4.1, 64, .inl CO))]) [0, 1, 2, 3] (by decide) rfl) hNW⟩ rfl rfl hl.1 rfl (lv_room (Nat.le_of_ble_eq_true rfl)) dX8_reached_9 ⟨Nat.zero_le _, Nat.zero_le _⟩) hP hD hS hA [0, 1, 2, 3] [] [0, 1, 2, 3] rfl rfl (by decide) (by decide) (fun _ => rfl) (by decide) (fun u2 H locs hw hP hD hS => ?_)
  obtain ⟨q1, eq1⟩ : ∃ z, z = m_X8_lookFrom RO LG CO (RO 147) := ⟨_, rfl⟩
  rw [← eq1] at hP hD
  have hP : va_P D vwCl [(aM, .inr (7, [.ref aRo, .ref aHi, .int ms, .ref aSn, .int (bI sv), .ref aAs, .ref aLg, .ref aPd, .int ml, .ref aCo, .ref aEa])), (aRo, .inl (y4.1, 151, .inl RO)), (aLg, .inl (y4.1, 64, .inl q1.1)), (aCo, .inl (y4.1, 64, .inl q1.2))] H := hP
  have hD : va_D A [(aM, .inr (7, [.ref aRo, .ref aHi, .int ms, .ref aSn, .int (bI sv), .ref aAs, .ref aLg, .ref aPd, .int ml, .ref aCo, .ref aEa])), (aRo, .inl (y4.1, 151, .inl RO)), (aLg, .inl (y4.1, 64, .inl q1.1)), (aCo, .inl (y4.1, 64, .inl q1.2))] := hD
  refine lv_iconst (v := 0) hx hb dX8_reached_12 (by decide) ?_
  refine lv_istore_n (lv' := [(1, .int 0), (0, .ref aM)]) hx hb dX8_reached_13 rfl hl (by decide) rfl (fun ls hl => ?_)
  refine lv_iconst (v := 0) hx hb dX8_reached_14 (by decide) ?_
  refine lv_istore_n (lv' := [(2, .int 0), (1, .int 0), (0, .ref aM)]) hx hb dX8_reached_15 rfl hl (by decide) rfl (fun ls hl => ?_)
  refine loopW (σ := Int32) 16 (f_X8_reached_16 q1) 64 (0 : Int32) (fun k3 t4 H locs ls => va_P D vwCl [(aM, .inr (7, [.ref aRo, .ref aHi, .int ms, .ref aSn, .int (bI sv), .ref aAs, .ref aLg, .ref aPd, .int ml, .ref aCo, .ref aEa])), (aRo, .inl (y4.1, 151, .inl RO)), (aLg, .inl (y4.1, 64, .inl q1.1)), (aCo, .inl (y4.1, 64, .inl q1.2))] H ∧ va_D A [(aM, .inr (7, [.ref aRo, .ref aHi, .int ms, .ref aSn, .int (bI sv), .ref aAs, .ref aLg, .ref aPd, .int ml, .ref aCo, .ref aEa])), (aRo, .inl (y4.1, 151, .inl RO)), (aLg, .inl (y4.1, 64, .inl q1.1)), (aCo, .inl (y4.1, 64, .inl q1.2))] ∧ va_S A s.heap H locs ∧ lv_has ls 3 [(2, .int (nI k3)), (1, .int t4), (0, .ref aM)]) ⟨hP, hD, hS, lv_sub hl [0, 1, 2] rfl⟩ (fun t11 H locs ls et11 hh => ?_) (fun k3 t4 hkk3 hek3 ihk3 H locs ls hh => ?_)
  · obtain ⟨hP, hD, hS, hl⟩ := hh
    have hP : va_P D vwCl [(aM, .inr (7, [.ref aRo, .ref aHi, .int ms, .ref aSn, .int (bI sv), .ref aAs, .ref aLg, .ref aPd, .int ml, .ref aCo, .ref aEa])), (aRo, .inl (y4.1, 151, .inl RO)), (aLg, .inl (y4.1, 64, .inl q1.1)), (aCo, .inl (y4.1, 64, .inl q1.2))] H := hP
    have hD : va_D A [(aM, .inr (7, [.ref aRo, .ref aHi, .int ms, .ref aSn, .int (bI sv), .ref aAs, .ref aLg, .ref aPd, .int ml, .ref aCo, .ref aEa])), (aRo, .inl (y4.1, 151, .inl RO)), (aLg, .inl (y4.1, 64, .inl q1.1)), (aCo, .inl (y4.1, 64, .inl q1.2))] := hD
    have hl : lv_has ls 3 [(2, .int (nI 64)), (1, .int t11), (0, .ref aM)] := hl
    refine lv_iload_n hx hb dX8_reached_16 rfl (lv_at hl 0 rfl) ?_
    refine lv_bipush (v := 64) hx hb dX8_reached_17 (by decide) ?_
    refine lv_icmp_ge (tgt := 47) hx hb dX8_reached_19 (by decide) (fun c12 => ?_) (fun c12 => absurd (nI_le (a := 64) (by omega) (by omega)) c12)
    refine lv_iload_n hx hb dX8_reached_47 rfl (lv_at hl 1 rfl) ?_
    have em : m_X8_reached RO LG CO = t11 := (by replace et11 := Eq.symm et11; subst et11; replace eq1 := Eq.symm eq1; subst eq1; first | (simp only [m_X8_reached]; done) | (unfold m_X8_reached; rfl) | rfl)
    exact W.iret (v := t11) hx hb hr (fun t ht hW => ⟨⟨t11, (q1.1, q1.2), rfl, (by rw [em]), ⟨by rw [ht]; exact hP, by exact hD⟩⟩, hS.F ht⟩) hS.2.2 dX8_reached_48
  · obtain ⟨hP, hD, hS, hl⟩ := hh
    have hP : va_P D vwCl [(aM, .inr (7, [.ref aRo, .ref aHi, .int ms, .ref aSn, .int (bI sv), .ref aAs, .ref aLg, .ref aPd, .int ml, .ref aCo, .ref aEa])), (aRo, .inl (y4.1, 151, .inl RO)), (aLg, .inl (y4.1, 64, .inl q1.1)), (aCo, .inl (y4.1, 64, .inl q1.2))] H := hP
    have hD : va_D A [(aM, .inr (7, [.ref aRo, .ref aHi, .int ms, .ref aSn, .int (bI sv), .ref aAs, .ref aLg, .ref aPd, .int ml, .ref aCo, .ref aEa])), (aRo, .inl (y4.1, 151, .inl RO)), (aLg, .inl (y4.1, 64, .inl q1.1)), (aCo, .inl (y4.1, 64, .inl q1.2))] := hD
    have hl : lv_has ls 3 [(2, .int (nI k3)), (1, .int t4), (0, .ref aM)] := hl
    refine lv_iload_n hx hb dX8_reached_16 rfl (lv_at hl 0 rfl) ?_
    refine lv_bipush (v := 64) hx hb dX8_reached_17 (by decide) ?_
    refine lv_icmp_ge (tgt := 47) hx hb dX8_reached_19 (by decide) (fun c8 => absurd c8 (nI_ge (b := 64) (by omega) (by omega))) (fun c8 => ?_)
    refine lv_iload_n hx hb dX8_reached_22 rfl (lv_at hl 1 rfl) ?_
    refine lv_aload_n hx hb dX8_reached_23 rfl (lv_at hl 2 rfl) ?_
    refine va_get (ci := 7) (v := .ref aCo) (C := RX8) (T := TX8) (N := 11) hx hb hts iX8 hown hK hP 0 rfl rfl 9 (by decide) f28 (fun _ h9 => h9) rfl dX8_reached_24 ?_
    refine lv_iload_n hx hb dX8_reached_27 rfl (lv_at hl 0 rfl) ?_
    refine va_iald hx hb hK hP 3 0 rfl rfl (vp_in_nI (by omega) (by decide)) dX8_reached_28 ?_
    refine lv_bipush (v := (-4)) hx hb dX8_reached_29 (by decide) ?_
    refine cutW (X := Bool) 39 (fun x H locs ls => x = (if (q1.2 (nI k3).toNatClampNeg) = (-4) then false else true) ∧ va_P D vwCl [(aM, .inr (7, [.ref aRo, .ref aHi, .int ms, .ref aSn, .int (bI sv), .ref aAs, .ref aLg, .ref aPd, .int ml, .ref aCo, .ref aEa])), (aRo, .inl (y4.1, 151, .inl RO)), (aLg, .inl (y4.1, 64, .inl q1.1)), (aCo, .inl (y4.1, 64, .inl q1.2))] H ∧ va_D A [(aM, .inr (7, [.ref aRo, .ref aHi, .int ms, .ref aSn, .int (bI sv), .ref aAs, .ref aLg, .ref aPd, .int ml, .ref aCo, .ref aEa])), (aRo, .inl (y4.1, 151, .inl RO)), (aLg, .inl (y4.1, 64, .inl q1.1)), (aCo, .inl (y4.1, 64, .inl q1.2))] ∧ va_S A s.heap H locs ∧ lv_has ls 3 [(2, .int (nI k3)), (0, .ref aM)]) (fun x => [.int (bI x), .int t4]) ?_ (fun K39 => ?_)
    · rintro v10 H locs ls ⟨ev10, hP, hD, hS, hl⟩
      have ev10 : v10 = (if (q1.2 (nI k3).toNatClampNeg) = (-4) then false else true) := ev10
      have hP : va_P D vwCl [(aM, .inr (7, [.ref aRo, .ref aHi, .int ms, .ref aSn, .int (bI sv), .ref aAs, .ref aLg, .ref aPd, .int ml, .ref aCo, .ref aEa])), (aRo, .inl (y4.1, 151, .inl RO)), (aLg, .inl (y4.1, 64, .inl q1.1)), (aCo, .inl (y4.1, 64, .inl q1.2))] H := hP
      have hD : va_D A [(aM, .inr (7, [.ref aRo, .ref aHi, .int ms, .ref aSn, .int (bI sv), .ref aAs, .ref aLg, .ref aPd, .int ml, .ref aCo, .ref aEa])), (aRo, .inl (y4.1, 151, .inl RO)), (aLg, .inl (y4.1, 64, .inl q1.1)), (aCo, .inl (y4.1, 64, .inl q1.2))] := hD
      have hl : lv_has ls 3 [(2, .int (nI k3)), (0, .ref aM)] := hl
      refine lv_iadd hx hb dX8_reached_39 ?_
      refine lv_istore_n (lv' := [(1, .int (t4 + (bI v10))), (2, .int (nI k3)), (0, .ref aM)]) hx hb dX8_reached_40 rfl hl (by decide) rfl (fun ls hl => ?_)
      refine lv_iinc (v := nI (k3 + 1)) (lv' := [(2, .int (nI (k3 + 1))), (1, .int (t4 + (bI v10))), (0, .ref aM)]) hx hb dX8_reached_41 hl (k := 1) rfl (nI_1 _) (by decide) rfl (fun ls hl => ?_)
      refine lv_goto (tgt := 16) hx hb dX8_reached_44 (by decide) ?_
      have ef : (f_X8_reached_16 q1) k3 t4 = t4 + (bI v10) := (by replace ev10 := Eq.symm ev10; subst ev10; first | (simp only [f_X8_reached_16]; done) | (unfold f_X8_reached_16; rfl) | rfl)
      rw [ef] at ihk3
      exact ihk3 H locs ls ⟨hP, hD, hS, lv_sub hl [0, 1, 2] rfl⟩
    · refine lv_icmp_eq (tgt := 38) hx hb dX8_reached_31 (by decide) (fun c9 => ?_) (fun c9 => ?_)
      · refine lv_iconst (v := 0) hx hb dX8_reached_38 (by decide) ?_
        exact K39 false H locs ls ⟨(by replace eq1 := Eq.symm eq1; subst eq1; first | (simp only [if_pos c9]; done) | (simp only [if_pos c9]; rfl) | rfl), hP, hD, hS, lv_sub hl [0, 2] rfl⟩
      · refine lv_iconst (v := 1) hx hb dX8_reached_34 (by decide) ?_
        refine lv_goto (tgt := 39) hx hb dX8_reached_35 (by decide) ?_
        exact K39 true H locs ls ⟨(by replace eq1 := Eq.symm eq1; subst eq1; first | (simp only [if_neg c9]; done) | (simp only [if_neg c9]; rfl) | rfl), hP, hD, hS, lv_sub hl [0, 2] rfl⟩
theorem ow_in {RO LG CO : Nat → Int32} {c : Int32} (h : vp_in c 64) : m_X8_onward RO LG CO c = -4 ∨ vp_in (m_X8_onward RO LG CO c) 64 := by
  unfold m_X8_onward
  generalize hx : lpx (f_X8_onward_2 RO LG CO c) 4 0 () = x
  rcases x with (r | t) | t
  · have := lpx_out (f := f_X8_onward_2 RO LG CO c) (fun _ _ => True) (fun z => ∀ r, z = .inl r → vp_in r 64) (fun k s _ => ⟨fun z hz r e => (by
      subst e
      unfold f_X8_onward_2 at hz
      by_cases h1 : m_X8_canGo RO c (nI k) = false
      · rw [if_pos h1] at hz; cases hz
      rw [if_neg h1] at hz
      have hin := canGo_in h h1
      by_cases h2 : m_X8_next c (nI k) = -4
      · rw [if_pos h2] at hz; cases hz
      rw [if_neg h2] at hz
      by_cases h3 : CO (m_X8_next c (nI k)).toNatClampNeg = -4
      · rw [if_pos h3] at hz; cases hz
      rw [if_neg h3] at hz
      split at hz
      · rw [← Sum.inl.inj (Sum.inl.inj hz)]; exact hin
      · cases hz), fun _ _ => trivial⟩) 4 0 () trivial (.inl r) hx r rfl
    exact Or.inr this
  · exact Or.inl rfl
  · exact Or.inl rfl

theorem ix_ok {b : Int32} (h : 0 ≤ b) : 0 ≤ b.toInt ∧ b.toInt ≤ (2147483647 : Nat) := by
  rw [Int32.le_iff_toInt_le, Int32.toInt_zero] at h
  have := fb_hi b
  omega
theorem br_step (RO LG : Nat → Int32) (k : Nat) (t : Int32) : f_X8_brightest_8 RO LG k t = .inr t ∨ f_X8_brightest_8 RO LG k t = .inr (nI k) := by
  unfold f_X8_brightest_8
  split
  · exact Or.inl rfl
  · exact Or.inr rfl
theorem br_in (RO LG : Nat → Int32) : vp_in (m_X8_brightest RO LG) 64 := by
  obtain ⟨t, e, hi⟩ := lpx_all (f := f_X8_brightest_8 RO LG) (fun k t => k ≤ 64 → vp_in t 64) (fun k s hs => by
    rcases br_step RO LG k s with q | q
    · exact ⟨s, q, fun hk => hs (by omega)⟩
    · exact ⟨nI k, q, fun hk => vp_in_nI (by omega) (by decide)⟩) 63 1 0 (fun _ => vp_in_nI (n := 0) (by decide) (by decide))
  unfold m_X8_brightest
  rw [e]
  exact hi (by decide)
theorem ct_14 {w : Int32} (h : w = 14) : vp_in ((149 + w) - 14) 151 := by subst h; exact vp_in_nI (n := 149) (by decide) (by decide)
theorem ct_15 {w : Int32} (h : w = 15) : vp_in ((149 + w) - 14) 151 := by subst h; exact vp_in_nI (n := 150) (by decide) (by decide)

noncomputable def f_X8_way_53 (RO : Nat → Int32) (ce : Int32) (q3 : (Nat → Int32) × (Nat → Int32)) (k7 : Nat) (t8 : Int32) : (Int32 ⊕ Int32) ⊕ Int32 := (if t8 = (-4) then (.inl (.inr t8)) else (if t8 = ce then (.inr (-4 : Int32)) else (.inr (m_X8_onward RO q3.1 q3.2 t8))))
noncomputable def m_X8_way (RO : Nat → Int32) (LG : Nat → Int32) (CO : Nat → Int32) (ce : Int32) (ix : Int32) : Int32 := (if (m_X8_isCell ce) = false then (-1 : Int32) else (if 0 ≤ ix then (let q3 : (Nat → Int32) × (Nat → Int32) := m_X8_lookTo RO LG CO ce; (let v6 : Int32 := (if (q3.2 (RO 147).toNatClampNeg) = (-4) then (-4 : Int32) else RO 147); (lpr (lpx (f_X8_way_53 RO ce q3) ((ix).toNatClampNeg) 0 v6) id (fun t19 => t19)))) else (-1 : Int32)))
set_option maxHeartbeats 4000000 in
set_option maxRecDepth 100000 in
theorem met_X8_way (l : Launch) (D : va_G) (y4 : vT) (aM aRo aHi aSn aAs aLg aPd aCo aEa : Nat) (sz : Nat) (ms : Int32) (sv : Bool) (ml : Int32) (RO : Nat → Int32) (LG : Nat → Int32) (CO : Nat → Int32) (ce : Int32) (ix : Int32) (hM : MI RO) (hSH : ∀ (LG : Nat → Int32) (c : Nat), c < 64 → 0 ≤ (m_X8_shine RO LG c).toInt ∧ (m_X8_shine RO LG c).toInt ≤ 216) : Met l yX8_way wsX8_way ({ frames := 9, cells := 0, slots := 0, locals := 213 }) (va_Pc [.ref aM, .int ce, .int ix] (PreW D y4 [(aM, .inr (7, [.ref aRo, .ref aHi, .int ms, .ref aSn, .int (bI sv), .ref aAs, .ref aLg, .ref aPd, .int ml, .ref aCo, .ref aEa])), (aRo, .inl (y4.1, 151, .inl RO)), (aLg, .inl (y4.1, 64, .inl LG)), (aCo, .inl (y4.1, 64, .inl CO))] sz)) (va_Qi (fun (r : Int32) (_ : (Nat → Int32) × (Nat → Int32)) => r = (m_X8_way RO LG CO ce ix)) (fun u t => PostW D (va_A [(aM, .inr (7, [.ref aRo, .ref aHi, .int ms, .ref aSn, .int (bI sv), .ref aAs, .ref aLg, .ref aPd, .int ml, .ref aCo, .ref aEa])), (aRo, .inl (y4.1, 151, .inl RO)), (aLg, .inl (y4.1, 64, .inl LG)), (aCo, .inl (y4.1, 64, .inl CO))] sz) [(aM, .inr (7, [.ref aRo, .ref aHi, .int ms, .ref aSn, .int (bI sv), .ref aAs, .ref aLg, .ref aPd, .int ml, .ref aCo, .ref aEa])), (aRo, .inl (y4.1, 151, .inl RO)), (aLg, .inl (y4.1, 64, .inl u.1)), (aCo, .inl (y4.1, 64, .inl u.2))] t) (va_A [(aM, .inr (7, [.ref aRo, .ref aHi, .int ms, .ref aSn, .int (bI sv), .ref aAs, .ref aLg, .ref aPd, .int ml, .ref aCo, .ref aEa])), (aRo, .inl (y4.1, 151, .inl RO)), (aLg, .inl (y4.1, 64, .inl LG)), (aCo, .inl (y4.1, 64, .inl CO))] sz)) 0 0 (va_A [(aM, .inr (7, [.ref aRo, .ref aHi, .int ms, .ref aSn, .int (bI sv), .ref aAs, .ref aLg, .ref aPd, .int ml, .ref aCo, .ref aEa])), (aRo, .inl (y4.1, 151, .inl RO)), (aLg, .inl (y4.1, 64, .inl LG)), (aCo, .inl (y4.1, 64, .inl CO))] sz) := by
  refine Met.ofW (cc := cX8_way) (maxL := 5) (ret := (some .int)) (by decide) rfl ?_
  intro p e s m args below meth c s₁ B hml hv
  obtain ⟨rfl, hsz, hP, hK, hD0, hNW⟩ := hv
  have hx := B.exec
  have hb := B.bytes
  have hr := B.returns
  have hts := atoms_spec (ws := wsX8_way) B.pre
  have hown : s.vm.findClass RX8 = some m.cls := findClass_of_methodNamed B.named
  have hlocks := B.notSynchronized
  subst hsz
  have hD := hD0.self (sz := s.heap.size)
  generalize hAe : va_A [(aM, .inr (7, [.ref aRo, .ref aHi, .int ms, .ref aSn, .int (bI sv), .ref aAs, .ref aLg, .ref aPd, .int ml, .ref aCo, .ref aEa])), (aRo, .inl (y4.1, 151, .inl RO)), (aLg, .inl (y4.1, 64, .inl LG)), (aCo, .inl (y4.1, 64, .inl CO))] s.heap.size = A at hD ⊢
  have hA : ∀ q : Nat, s.heap.size ≤ q → A q := fun q h => by rw [← hAe]; exact Or.inr h
  have hS : va_S A s.heap s.heap [] := va_S.rf
  have hl := lv_entry ([.ref aM, .int ce, .int ix]) (n := 5) (Nat.le_of_ble_eq_true rfl)
  rw [lg_entry_eq]
  generalize (lg_sl ([.ref aM, .int ce, .int ix]) ++ List.replicate (5 - (lg_sl ([.ref aM, .int ce, .int ix])).length) Slot.unset).toArray = ls at hl ⊢
  have hl : lv_has ls 5 [(0, .ref aM), (1, .int ce), (2, .int ix)] := hl
  have f28 := hts (.fieldLink RX8 28 "PillarLightModel" "cost" "[I") (List.mem_of_getElem? (i := 1) rfl)
  have iX8 : ∀ w ∈ wsX80, w ∈ wsX8_way := fun _ h => List.mem_cons_of_mem _ (List.mem_append_right _ h)
  have f7 := hts (.fieldLink RX8 7 "PillarLightModel" "row" "[I") (List.mem_of_getElem? (i := 2) rfl)
  refine startW (fun H locs hP hS => ?_) hP hS
  refine lv_iload_n hx hb dX8_way_0 rfl (lv_at hl 1 rfl) ?_
  refine callK_i (va_runS (As := [.int ce]) (rest := []) ⟨hx, hb, hml, hown, hts⟩ (met_X8_isCell l  ce) (va_cwS 1 hts gX8_way_X8_isCell rfl rfl rfl (by decide +kernel) ⟨Nat.le_of_ble_eq_true rfl, Nat.le_of_ble_eq_true rfl⟩) ⟨preS_blind, fun U hU hW => ⟨rfl, trivial⟩⟩ rfl rfl hl.1 rfl (lv_room (Nat.le_of_ble_eq_true rfl)) dX8_way_1 ⟨Nat.zero_le _, Nat.zero_le _⟩) hP hS (fun r u H locs hw hP hS => ?_)
  replace hw := Eq.symm hw
  subst hw
  refine lb_if_eq (tgt := 11) hx hb dX8_way_4 (by decide) (fun c1 => ?_) (fun c1 => ?_)
  · refine lv_iconst (v := (-1)) hx hb dX8_way_11 (by decide) ?_
    have em : m_X8_way RO LG CO ce ix = (-1 : Int32) := (by first | (simp only [m_X8_way, if_pos c1]; done) | (simp only [m_X8_way, if_pos c1]; rfl))
    exact W.iret (v := (-1)) hx hb hr (fun t ht hW => ⟨⟨(-1), (LG, CO), rfl, (by rw [em]), ⟨by rw [ht]; exact hP, by exact hD⟩⟩, hS.F ht⟩) hS.2.2 dX8_way_12
  · refine lv_iload_n hx hb dX8_way_7 rfl (lv_at hl 2 rfl) ?_
    refine lv_if_ge (tgt := 13) hx hb dX8_way_8 (by decide) (fun c2 => ?_) (fun c2 => ?_)
    · refine lv_aload_n hx hb dX8_way_13 rfl (lv_at hl 0 rfl) ?_
      refine lv_iload_n hx hb dX8_way_14 rfl (lv_at hl 1 rfl) ?_
      refine callW_v (wr := []) (wn := fun u => [(aM, .inr (7, [.ref aRo, .ref aHi, .int ms, .ref aSn, .int (bI sv), .ref aAs, .ref aLg, .ref aPd, .int ml, .ref aCo, .ref aEa])), (aRo, .inl (y4.1, 151, .inl RO)), (aLg, .inl (y4.1, 64, .inl ((m_X8_lookTo RO LG CO ce).1))), (aCo, .inl (y4.1, 64, .inl ((m_X8_lookTo RO LG CO ce).2)))]) (va_runV (As := [.int ce]) (rest := []) ⟨hx, hb, hml, hown, hts⟩ (met_X8_lookTo l D y4 aM aRo aHi aSn aAs aLg aPd aCo aEa H.size ms sv ml RO LG CO ce hM (isCell8_in (by assumption)) hSH) (cwV 1 hts gX8_way_X8_lookTo rfl rfl rfl (by decide +kernel) ⟨Nat.le_of_ble_eq_true rfl, Nat.le_of_ble_eq_true rfl⟩) ⟨preW_blind, va_recv hK hP (ci := 7) (q0 := 0) rfl rfl, preW_at (hP.sub (ws' := [(aM, .inr (7, [.ref aRo, .ref aHi, .int ms, .ref aSn, .int (bI sv), .ref aAs, .ref aLg, .ref aPd, .int ml, .ref aCo, .ref aEa])), (aRo, .inl (y4.1, 151, .inl RO)), (aLg, .inl (y4.1, 64, .inl LG)), (aCo, .inl (y4.1, 64, .inl CO))]) [0, 1, 2, 3] rfl) hK (hD.sub (ws' := [(aM, .inr (7, [.ref aRo, .ref aHi, .int ms, .ref aSn, .int (bI sv), .ref aAs, .ref aLg, .ref aPd, .int ml, .ref aCo, .ref aEa])), (aRo, .inl (y4.1, 151, .inl RO)), (aLg, .inl (y4.1, 64, .inl LG)), (aCo, .inl (y4.1, 64, .inl CO))]) [0, 1, 2, 3] (by decide) rfl) hNW⟩ rfl rfl hl.1 rfl (lv_room (Nat.le_of_ble_eq_true rfl)) dX8_way_15 ⟨Nat.zero_le _, Nat.zero_le _⟩) hP hD hS hA [0, 1, 2, 3] [] [0, 1, 2, 3] rfl rfl (by decide) (by decide) (fun _ => rfl) (by decide) (fun u4 H locs hw hP hD hS => ?_)
      obtain ⟨q3, eq3⟩ : ∃ z, z = m_X8_lookTo RO LG CO ce := ⟨_, rfl⟩
      rw [← eq3] at hP hD
      have hP : va_P D vwCl [(aM, .inr (7, [.ref aRo, .ref aHi, .int ms, .ref aSn, .int (bI sv), .ref aAs, .ref aLg, .ref aPd, .int ml, .ref aCo, .ref aEa])), (aRo, .inl (y4.1, 151, .inl RO)), (aLg, .inl (y4.1, 64, .inl q3.1)), (aCo, .inl (y4.1, 64, .inl q3.2))] H := hP
      have hD : va_D A [(aM, .inr (7, [.ref aRo, .ref aHi, .int ms, .ref aSn, .int (bI sv), .ref aAs, .ref aLg, .ref aPd, .int ml, .ref aCo, .ref aEa])), (aRo, .inl (y4.1, 151, .inl RO)), (aLg, .inl (y4.1, 64, .inl q3.1)), (aCo, .inl (y4.1, 64, .inl q3.2))] := hD
      refine lv_aload_n hx hb dX8_way_18 rfl (lv_at hl 0 rfl) ?_
      refine va_get (ci := 7) (v := .ref aCo) (C := RX8) (T := TX8) (N := 11) hx hb hts iX8 hown hK hP 0 rfl rfl 9 (by decide) f28 (fun _ h9 => h9) rfl dX8_way_19 ?_
      refine lv_aload_n hx hb dX8_way_22 rfl (lv_at hl 0 rfl) ?_
      refine va_get (ci := 7) (v := .ref aRo) (C := RX8) (T := TX8) (N := 11) hx hb hts iX8 hown hK hP 0 rfl rfl 0 (by decide) f7 (fun _ h9 => h9) rfl dX8_way_23 ?_
      refine lv_sipush (v := 147) hx hb dX8_way_26 (by decide) ?_
      refine va_iald hx hb hK hP 1 0 rfl rfl (vp_in_nI (n := 147) (by decide) (by decide)) dX8_way_29 ?_
      refine W.ofeqi (y := RO 147) (congrArg RO (by decide : (147 : Int32).toNatClampNeg = 147)) ?_
      refine va_iald hx hb hK hP 3 0 rfl rfl hM.2.2 dX8_way_30 ?_
      refine lv_bipush (v := (-4)) hx hb dX8_way_31 (by decide) ?_
      refine cutW (X := Int32) 49 (fun x H locs ls => x = (if (q3.2 (RO 147).toNatClampNeg) = (-4) then (-4 : Int32) else RO 147) ∧ va_P D vwCl [(aM, .inr (7, [.ref aRo, .ref aHi, .int ms, .ref aSn, .int (bI sv), .ref aAs, .ref aLg, .ref aPd, .int ml, .ref aCo, .ref aEa])), (aRo, .inl (y4.1, 151, .inl RO)), (aLg, .inl (y4.1, 64, .inl q3.1)), (aCo, .inl (y4.1, 64, .inl q3.2))] H ∧ va_D A [(aM, .inr (7, [.ref aRo, .ref aHi, .int ms, .ref aSn, .int (bI sv), .ref aAs, .ref aLg, .ref aPd, .int ml, .ref aCo, .ref aEa])), (aRo, .inl (y4.1, 151, .inl RO)), (aLg, .inl (y4.1, 64, .inl q3.1)), (aCo, .inl (y4.1, 64, .inl q3.2))] ∧ va_S A s.heap H locs ∧ lv_has ls 5 [(0, .ref aM), (1, .int ce), (2, .int ix)]) (fun x => [.int x]) ?_ (fun K49 => ?_)
      · rintro v6 H locs ls ⟨ev6, hP, hD, hS, hl⟩
        have ev6 : v6 = (if (q3.2 (RO 147).toNatClampNeg) = (-4) then (-4 : Int32) else RO 147) := ev6
        have hP : va_P D vwCl [(aM, .inr (7, [.ref aRo, .ref aHi, .int ms, .ref aSn, .int (bI sv), .ref aAs, .ref aLg, .ref aPd, .int ml, .ref aCo, .ref aEa])), (aRo, .inl (y4.1, 151, .inl RO)), (aLg, .inl (y4.1, 64, .inl q3.1)), (aCo, .inl (y4.1, 64, .inl q3.2))] H := hP
        have hD : va_D A [(aM, .inr (7, [.ref aRo, .ref aHi, .int ms, .ref aSn, .int (bI sv), .ref aAs, .ref aLg, .ref aPd, .int ml, .ref aCo, .ref aEa])), (aRo, .inl (y4.1, 151, .inl RO)), (aLg, .inl (y4.1, 64, .inl q3.1)), (aCo, .inl (y4.1, 64, .inl q3.2))] := hD
        have hl : lv_has ls 5 [(0, .ref aM), (1, .int ce), (2, .int ix)] := hl
        refine lv_istore_n (lv' := [(3, .int v6), (0, .ref aM), (1, .int ce), (2, .int ix)]) hx hb dX8_way_49 rfl hl (by decide) rfl (fun ls hl => ?_)
        refine lv_iconst (v := 0) hx hb dX8_way_50 (by decide) ?_
        refine lv_istore (lv' := [(4, .int 0), (3, .int v6), (0, .ref aM), (1, .int ce), (2, .int ix)]) hx hb dX8_way_51 hl (by decide) rfl (fun ls hl => ?_)
        refine cutW (X := Int32) 87 (fun x H locs ls => ((lpx (f_X8_way_53 RO ce q3) ((ix).toNatClampNeg) 0 v6) = .inl (.inr x) ∨ (lpx (f_X8_way_53 RO ce q3) ((ix).toNatClampNeg) 0 v6) = .inr x) ∧ va_P D vwCl [(aM, .inr (7, [.ref aRo, .ref aHi, .int ms, .ref aSn, .int (bI sv), .ref aAs, .ref aLg, .ref aPd, .int ml, .ref aCo, .ref aEa])), (aRo, .inl (y4.1, 151, .inl RO)), (aLg, .inl (y4.1, 64, .inl q3.1)), (aCo, .inl (y4.1, 64, .inl q3.2))] H ∧ va_D A [(aM, .inr (7, [.ref aRo, .ref aHi, .int ms, .ref aSn, .int (bI sv), .ref aAs, .ref aLg, .ref aPd, .int ml, .ref aCo, .ref aEa])), (aRo, .inl (y4.1, 151, .inl RO)), (aLg, .inl (y4.1, 64, .inl q3.1)), (aCo, .inl (y4.1, 64, .inl q3.2))] ∧ va_S A s.heap H locs ∧ lv_has ls 5 [(3, .int x)]) (fun x => []) ?_ (fun K87 => ?_)
        · rintro t19 H locs ls ⟨et19, hP, hD, hS, hl⟩
          have hP : va_P D vwCl [(aM, .inr (7, [.ref aRo, .ref aHi, .int ms, .ref aSn, .int (bI sv), .ref aAs, .ref aLg, .ref aPd, .int ml, .ref aCo, .ref aEa])), (aRo, .inl (y4.1, 151, .inl RO)), (aLg, .inl (y4.1, 64, .inl q3.1)), (aCo, .inl (y4.1, 64, .inl q3.2))] H := hP
          have hD : va_D A [(aM, .inr (7, [.ref aRo, .ref aHi, .int ms, .ref aSn, .int (bI sv), .ref aAs, .ref aLg, .ref aPd, .int ml, .ref aCo, .ref aEa])), (aRo, .inl (y4.1, 151, .inl RO)), (aLg, .inl (y4.1, 64, .inl q3.1)), (aCo, .inl (y4.1, 64, .inl q3.2))] := hD
          have hl : lv_has ls 5 [(3, .int t19)] := hl
          refine lv_iload_n hx hb dX8_way_87 rfl (lv_at hl 0 rfl) ?_
          have em : m_X8_way RO LG CO ce ix = t19 := (by replace ev6 := Eq.symm ev6; subst ev6; replace eq3 := Eq.symm eq3; subst eq3; first | (simp only [m_X8_way, if_neg c1, if_pos c2, lpr_k et19]; done) | (simp only [m_X8_way, if_neg c1, if_pos c2, lpr_k et19]; rfl))
          exact W.iret (v := t19) hx hb hr (fun t ht hW => ⟨⟨t19, (q3.1, q3.2), rfl, (by rw [em]), ⟨by rw [ht]; exact hP, by exact hD⟩⟩, hS.F ht⟩) hS.2.2 dX8_way_88
        · refine loopX (σ := Int32) (ρ := Int32 ⊕ Int32) 53 (f_X8_way_53 RO ce q3) (fun _ t => t = -4 ∨ vp_in t 64) ((ix).toNatClampNeg) 0 v6 (fun k7 t8 H locs ls => va_P D vwCl [(aM, .inr (7, [.ref aRo, .ref aHi, .int ms, .ref aSn, .int (bI sv), .ref aAs, .ref aLg, .ref aPd, .int ml, .ref aCo, .ref aEa])), (aRo, .inl (y4.1, 151, .inl RO)), (aLg, .inl (y4.1, 64, .inl q3.1)), (aCo, .inl (y4.1, 64, .inl q3.2))] H ∧ va_D A [(aM, .inr (7, [.ref aRo, .ref aHi, .int ms, .ref aSn, .int (bI sv), .ref aAs, .ref aLg, .ref aPd, .int ml, .ref aCo, .ref aEa])), (aRo, .inl (y4.1, 151, .inl RO)), (aLg, .inl (y4.1, 64, .inl q3.1)), (aCo, .inl (y4.1, 64, .inl q3.2))] ∧ va_S A s.heap H locs ∧ lv_has ls 5 [(4, .int (nI k7)), (3, .int t8), (0, .ref aM), (1, .int ce), (2, .int ix)]) (by subst_vars; show _ = _ ∨ vp_in _ 64; split <;> first | exact Or.inl rfl | exact Or.inr hM.2.2) ⟨hP, hD, hS, lv_sub hl [0, 1, 2, 3, 4] rfl⟩ (fun t17 H locs ls et17 hit17 hh => ?_) (fun k7 t8 hkk7 hjk7 hik7 hretk7 ihk7 H locs ls hh => ?_)
          · obtain ⟨hP, hD, hS, hl⟩ := hh
            have hP : va_P D vwCl [(aM, .inr (7, [.ref aRo, .ref aHi, .int ms, .ref aSn, .int (bI sv), .ref aAs, .ref aLg, .ref aPd, .int ml, .ref aCo, .ref aEa])), (aRo, .inl (y4.1, 151, .inl RO)), (aLg, .inl (y4.1, 64, .inl q3.1)), (aCo, .inl (y4.1, 64, .inl q3.2))] H := hP
            have hD : va_D A [(aM, .inr (7, [.ref aRo, .ref aHi, .int ms, .ref aSn, .int (bI sv), .ref aAs, .ref aLg, .ref aPd, .int ml, .ref aCo, .ref aEa])), (aRo, .inl (y4.1, 151, .inl RO)), (aLg, .inl (y4.1, 64, .inl q3.1)), (aCo, .inl (y4.1, 64, .inl q3.2))] := hD
            have hl : lv_has ls 5 [(4, .int (nI (0 + (ix).toNatClampNeg))), (3, .int t17), (0, .ref aM), (1, .int ce), (2, .int ix)] := hl
            refine lv_iload hx hb dX8_way_53 (lv_at hl 0 rfl) ?_
            refine lv_iload_n hx hb dX8_way_55 rfl (lv_at hl 4 rfl) ?_
            refine lv_icmp_ge (tgt := 87) hx hb dX8_way_56 (by decide) (fun c18 => ?_) (fun c18 => absurd (cl_le (ix_ok (by assumption)) (by omega) (by have := cl_lt (ix_ok (by assumption)); omega)) c18)
            exact K87 t17 H locs ls ⟨Or.inr et17, hP, hD, hS, lv_sub hl [1] rfl⟩
          · obtain ⟨hP, hD, hS, hl⟩ := hh
            have hP : va_P D vwCl [(aM, .inr (7, [.ref aRo, .ref aHi, .int ms, .ref aSn, .int (bI sv), .ref aAs, .ref aLg, .ref aPd, .int ml, .ref aCo, .ref aEa])), (aRo, .inl (y4.1, 151, .inl RO)), (aLg, .inl (y4.1, 64, .inl q3.1)), (aCo, .inl (y4.1, 64, .inl q3.2))] H := hP
            have hD : va_D A [(aM, .inr (7, [.ref aRo, .ref aHi, .int ms, .ref aSn, .int (bI sv), .ref aAs, .ref aLg, .ref aPd, .int ml, .ref aCo, .ref aEa])), (aRo, .inl (y4.1, 151, .inl RO)), (aLg, .inl (y4.1, 64, .inl q3.1)), (aCo, .inl (y4.1, 64, .inl q3.2))] := hD
            have hl : lv_has ls 5 [(4, .int (nI k7)), (3, .int t8), (0, .ref aM), (1, .int ce), (2, .int ix)] := hl
            have hin : t8 = -4 ∨ vp_in t8 64 := hik7
            refine lv_iload hx hb dX8_way_53 (lv_at hl 0 rfl) ?_
            refine lv_iload_n hx hb dX8_way_55 rfl (lv_at hl 4 rfl) ?_
            refine lv_icmp_ge (tgt := 87) hx hb dX8_way_56 (by decide) (fun c13 => absurd c13 (cl_ge (ix_ok (by assumption)) (by omega))) (fun c13 => ?_)
            refine lv_iload_n hx hb dX8_way_59 rfl (lv_at hl 1 rfl) ?_
            refine lv_bipush (v := (-4)) hx hb dX8_way_60 (by decide) ?_
            refine lv_icmp_eq (tgt := 87) hx hb dX8_way_62 (by decide) (fun c14 => ?_) (fun c14 => ?_)
            · have ef : (f_X8_way_53 RO ce q3) k7 t8 = .inl (.inr t8) := (by first | (simp only [f_X8_way_53, if_pos c14]; done) | (simp only [f_X8_way_53, if_pos c14]; rfl))
              exact K87 t8 H locs ls ⟨Or.inl (hretk7 _ ef), hP, hD, hS, lv_sub hl [1] rfl⟩
            · refine lv_iload_n hx hb dX8_way_65 rfl (lv_at hl 1 rfl) ?_
              refine lv_iload_n hx hb dX8_way_66 rfl (lv_at hl 3 rfl) ?_
              refine lv_icmp_ne (tgt := 75) hx hb dX8_way_67 (by decide) (fun c15 => ?_) (fun c15 => ?_)
              · refine lv_aload_n hx hb dX8_way_75 rfl (lv_at hl 2 rfl) ?_
                refine lv_iload_n hx hb dX8_way_76 rfl (lv_at hl 1 rfl) ?_
                refine callW_i (wr := []) (wn := fun u => [(aM, .inr (7, [.ref aRo, .ref aHi, .int ms, .ref aSn, .int (bI sv), .ref aAs, .ref aLg, .ref aPd, .int ml, .ref aCo, .ref aEa])), (aRo, .inl (y4.1, 151, .inl RO)), (aLg, .inl (y4.1, 64, .inl q3.1)), (aCo, .inl (y4.1, 64, .inl q3.2))]) (va_runV (As := [.int t8]) (rest := []) ⟨hx, hb, hml, hown, hts⟩ (met_X8_onward l D y4 aM aRo aHi aSn aAs aLg aPd aCo aEa H.size ms sv ml RO q3.1 q3.2 t8 (hin.resolve_left (by assumption))) (cwV 1 hts gX8_way_X8_onward rfl rfl rfl (by decide +kernel) ⟨Nat.le_of_ble_eq_true rfl, Nat.le_of_ble_eq_true rfl⟩) ⟨preW_blind, va_recv hK hP (ci := 7) (q0 := 0) rfl rfl, preW_at (hP.sub (ws' := [(aM, .inr (7, [.ref aRo, .ref aHi, .int ms, .ref aSn, .int (bI sv), .ref aAs, .ref aLg, .ref aPd, .int ml, .ref aCo, .ref aEa])), (aRo, .inl (y4.1, 151, .inl RO)), (aLg, .inl (y4.1, 64, .inl q3.1)), (aCo, .inl (y4.1, 64, .inl q3.2))]) [0, 1, 2, 3] rfl) hK (hD.sub (ws' := [(aM, .inr (7, [.ref aRo, .ref aHi, .int ms, .ref aSn, .int (bI sv), .ref aAs, .ref aLg, .ref aPd, .int ml, .ref aCo, .ref aEa])), (aRo, .inl (y4.1, 151, .inl RO)), (aLg, .inl (y4.1, 64, .inl q3.1)), (aCo, .inl (y4.1, 64, .inl q3.2))]) [0, 1, 2, 3] (by decide) rfl) hNW⟩ rfl rfl hl.1 rfl (lv_room (Nat.le_of_ble_eq_true rfl)) dX8_way_77 ⟨Nat.zero_le _, Nat.zero_le _⟩) hP hD hS hA [0, 1, 2, 3] [] [0, 1, 2, 3] rfl rfl (by decide) (by decide) (fun _ => rfl) (by decide) (fun r u16 H locs hw hP hD hS => ?_)
                replace hw := Eq.symm hw
                subst hw
                have hP : va_P D vwCl [(aM, .inr (7, [.ref aRo, .ref aHi, .int ms, .ref aSn, .int (bI sv), .ref aAs, .ref aLg, .ref aPd, .int ml, .ref aCo, .ref aEa])), (aRo, .inl (y4.1, 151, .inl RO)), (aLg, .inl (y4.1, 64, .inl q3.1)), (aCo, .inl (y4.1, 64, .inl q3.2))] H := hP
                have hD : va_D A [(aM, .inr (7, [.ref aRo, .ref aHi, .int ms, .ref aSn, .int (bI sv), .ref aAs, .ref aLg, .ref aPd, .int ml, .ref aCo, .ref aEa])), (aRo, .inl (y4.1, 151, .inl RO)), (aLg, .inl (y4.1, 64, .inl q3.1)), (aCo, .inl (y4.1, 64, .inl q3.2))] := hD
                refine lv_istore_n (lv' := [(3, .int (m_X8_onward RO q3.1 q3.2 t8)), (4, .int (nI k7)), (0, .ref aM), (1, .int ce), (2, .int ix)]) hx hb dX8_way_80 rfl hl (by decide) rfl (fun ls hl => ?_)
                refine lv_iinc (v := nI (k7 + 1)) (lv' := [(4, .int (nI (k7 + 1))), (3, .int (m_X8_onward RO q3.1 q3.2 t8)), (0, .ref aM), (1, .int ce), (2, .int ix)]) hx hb dX8_way_81 hl (k := 1) rfl (nI_1 _) (by decide) rfl (fun ls hl => ?_)
                refine lv_goto (tgt := 53) hx hb dX8_way_84 (by decide) ?_
                have ef : (f_X8_way_53 RO ce q3) k7 t8 = .inr (m_X8_onward RO q3.1 q3.2 t8) := (by first | (simp only [f_X8_way_53, if_neg c14, if_neg c15]; done) | (simp only [f_X8_way_53, if_neg c14, if_neg c15]; rfl))
                exact ihk7 _ ef (by show _ = _ ∨ vp_in _ 64; first | exact Or.inl (by with_reducible rfl) | exact ow_in (hin.resolve_left (by assumption))) H locs ls ⟨hP, hD, hS, lv_sub hl [0, 1, 2, 3, 4] rfl⟩
              · refine lv_bipush (v := (-4)) hx hb dX8_way_70 (by decide) ?_
                refine lv_goto (tgt := 80) hx hb dX8_way_72 (by decide) ?_
                refine lv_istore_n (lv' := [(3, .int (-4)), (4, .int (nI k7)), (0, .ref aM), (1, .int ce), (2, .int ix)]) hx hb dX8_way_80 rfl hl (by decide) rfl (fun ls hl => ?_)
                refine lv_iinc (v := nI (k7 + 1)) (lv' := [(4, .int (nI (k7 + 1))), (3, .int (-4)), (0, .ref aM), (1, .int ce), (2, .int ix)]) hx hb dX8_way_81 hl (k := 1) rfl (nI_1 _) (by decide) rfl (fun ls hl => ?_)
                refine lv_goto (tgt := 53) hx hb dX8_way_84 (by decide) ?_
                have ef : (f_X8_way_53 RO ce q3) k7 t8 = .inr (-4 : Int32) := (by first | (simp only [f_X8_way_53, if_neg c14, if_pos c15]; done) | (simp only [f_X8_way_53, if_neg c14, if_pos c15]; rfl))
                exact ihk7 _ ef (by show _ = _ ∨ vp_in _ 64; first | exact Or.inl (by with_reducible rfl) | exact ow_in (hin.resolve_left (by assumption))) H locs ls ⟨hP, hD, hS, lv_sub hl [0, 1, 2, 3, 4] rfl⟩
      · refine lv_icmp_ne (tgt := 41) hx hb dX8_way_33 (by decide) (fun c5 => ?_) (fun c5 => ?_)
        · refine lv_aload_n hx hb dX8_way_41 rfl (lv_at hl 0 rfl) ?_
          refine va_get (ci := 7) (v := .ref aRo) (C := RX8) (T := TX8) (N := 11) hx hb hts iX8 hown hK hP 0 rfl rfl 0 (by decide) f7 (fun _ h9 => h9) rfl dX8_way_42 ?_
          refine lv_sipush (v := 147) hx hb dX8_way_45 (by decide) ?_
          refine va_iald hx hb hK hP 1 0 rfl rfl (vp_in_nI (n := 147) (by decide) (by decide)) dX8_way_48 ?_
          refine W.ofeqi (y := RO 147) (congrArg RO (by decide : (147 : Int32).toNatClampNeg = 147)) ?_
          exact K49 (RO 147) H locs ls ⟨(by replace eq3 := Eq.symm eq3; subst eq3; first | (simp only [if_neg c1, if_pos c2, if_neg c5]; done) | (simp only [if_neg c1, if_pos c2, if_neg c5]; rfl) | rfl), hP, hD, hS, lv_sub hl [0, 1, 2] rfl⟩
        · refine lv_bipush (v := (-4)) hx hb dX8_way_36 (by decide) ?_
          refine lv_goto (tgt := 49) hx hb dX8_way_38 (by decide) ?_
          exact K49 (-4 : Int32) H locs ls ⟨(by replace eq3 := Eq.symm eq3; subst eq3; first | (simp only [if_neg c1, if_pos c2, if_pos c5]; done) | (simp only [if_neg c1, if_pos c2, if_pos c5]; rfl) | rfl), hP, hD, hS, lv_sub hl [0, 1, 2] rfl⟩
    · refine lv_iconst (v := (-1)) hx hb dX8_way_11 (by decide) ?_
      have em : m_X8_way RO LG CO ce ix = (-1 : Int32) := (by first | (simp only [m_X8_way, if_neg c1, if_neg c2]; done) | (simp only [m_X8_way, if_neg c1, if_neg c2]; rfl))
      exact W.iret (v := (-1)) hx hb hr (fun t ht hW => ⟨⟨(-1), (LG, CO), rfl, (by rw [em]), ⟨by rw [ht]; exact hP, by exact hD⟩⟩, hS.F ht⟩) hS.2.2 dX8_way_12
noncomputable def m_X8_count (ms : Int32) (ml : Int32) (RO : Nat → Int32) (LG : Nat → Int32) (CO : Nat → Int32) (wh : Int32) : Int32 := (if wh = 0 then (m_X8_kinds RO wh) else (if wh = 1 then (m_X8_kinds RO wh) else (if wh = 2 then (m_X8_kinds RO wh) else (if wh = 3 then (m_X8_kinds RO wh) else (if wh = 4 then (m_X8_litCells RO LG) else (if wh = 5 then (m_X8_seenCells RO) else (if wh = 6 then (m_X8_knownCells RO) else (if wh = 7 then (m_X8_reached RO LG CO) else (if wh = 8 then RO 128 else (if wh = 9 then RO 147 else (if wh = 10 then RO 148 else (if wh = 11 then (m_X8_allLight RO LG) else (if wh = 12 then (m_X8_lightAt RO (m_X8_brightest RO LG)) else (if wh = 13 then (m_X8_brightest RO LG) else (if wh = 14 then RO ((149 + wh) - 14).toNatClampNeg else (if wh = 15 then RO ((149 + wh) - 14).toNatClampNeg else (if wh = 16 then ml else (if wh = 17 then ms else (-1 : Int32)))))))))))))))))))
set_option maxHeartbeats 4000000 in
set_option maxRecDepth 100000 in
theorem met_X8_count (l : Launch) (D : va_G) (y4 : vT) (aM aRo aHi aSn aAs aLg aPd aCo aEa : Nat) (sz : Nat) (ms : Int32) (sv : Bool) (ml : Int32) (RO : Nat → Int32) (LG : Nat → Int32) (CO : Nat → Int32) (wh : Int32) (hM : MI RO) (hSH : ∀ (LG : Nat → Int32) (c : Nat), c < 64 → 0 ≤ (m_X8_shine RO LG c).toInt ∧ (m_X8_shine RO LG c).toInt ≤ 216) : Met l yX8_count wsX8_count ({ frames := 10, cells := 0, slots := 0, locals := 235 }) (va_Pc [.ref aM, .int wh] (PreW D y4 [(aM, .inr (7, [.ref aRo, .ref aHi, .int ms, .ref aSn, .int (bI sv), .ref aAs, .ref aLg, .ref aPd, .int ml, .ref aCo, .ref aEa])), (aRo, .inl (y4.1, 151, .inl RO)), (aLg, .inl (y4.1, 64, .inl LG)), (aCo, .inl (y4.1, 64, .inl CO))] sz)) (va_Qi (fun (r : Int32) (_ : (Nat → Int32) × (Nat → Int32)) => r = (m_X8_count ms ml RO LG CO wh)) (fun u t => PostW D (va_A [(aM, .inr (7, [.ref aRo, .ref aHi, .int ms, .ref aSn, .int (bI sv), .ref aAs, .ref aLg, .ref aPd, .int ml, .ref aCo, .ref aEa])), (aRo, .inl (y4.1, 151, .inl RO)), (aLg, .inl (y4.1, 64, .inl LG)), (aCo, .inl (y4.1, 64, .inl CO))] sz) [(aM, .inr (7, [.ref aRo, .ref aHi, .int ms, .ref aSn, .int (bI sv), .ref aAs, .ref aLg, .ref aPd, .int ml, .ref aCo, .ref aEa])), (aRo, .inl (y4.1, 151, .inl RO)), (aLg, .inl (y4.1, 64, .inl u.1)), (aCo, .inl (y4.1, 64, .inl u.2))] t) (va_A [(aM, .inr (7, [.ref aRo, .ref aHi, .int ms, .ref aSn, .int (bI sv), .ref aAs, .ref aLg, .ref aPd, .int ml, .ref aCo, .ref aEa])), (aRo, .inl (y4.1, 151, .inl RO)), (aLg, .inl (y4.1, 64, .inl LG)), (aCo, .inl (y4.1, 64, .inl CO))] sz)) 0 0 (va_A [(aM, .inr (7, [.ref aRo, .ref aHi, .int ms, .ref aSn, .int (bI sv), .ref aAs, .ref aLg, .ref aPd, .int ml, .ref aCo, .ref aEa])), (aRo, .inl (y4.1, 151, .inl RO)), (aLg, .inl (y4.1, 64, .inl LG)), (aCo, .inl (y4.1, 64, .inl CO))] sz) := by
  refine Met.ofW (cc := cX8_count) (maxL := 2) (ret := (some .int)) (by decide) rfl ?_
  intro p e s m args below meth c s₁ B hml hv
  obtain ⟨rfl, hsz, hP, hK, hD0, hNW⟩ := hv
  have hx := B.exec
  have hb := B.bytes
  have hr := B.returns
  have hts := atoms_spec (ws := wsX8_count) B.pre
  have hown : s.vm.findClass RX8 = some m.cls := findClass_of_methodNamed B.named
  have hlocks := B.notSynchronized
  subst hsz
  have hD := hD0.self (sz := s.heap.size)
  generalize hAe : va_A [(aM, .inr (7, [.ref aRo, .ref aHi, .int ms, .ref aSn, .int (bI sv), .ref aAs, .ref aLg, .ref aPd, .int ml, .ref aCo, .ref aEa])), (aRo, .inl (y4.1, 151, .inl RO)), (aLg, .inl (y4.1, 64, .inl LG)), (aCo, .inl (y4.1, 64, .inl CO))] s.heap.size = A at hD ⊢
  have hA : ∀ q : Nat, s.heap.size ≤ q → A q := fun q h => by rw [← hAe]; exact Or.inr h
  have hS : va_S A s.heap s.heap [] := va_S.rf
  have hl := lv_entry ([.ref aM, .int wh]) (n := 2) (Nat.le_of_ble_eq_true rfl)
  rw [lg_entry_eq]
  generalize (lg_sl ([.ref aM, .int wh]) ++ List.replicate (2 - (lg_sl ([.ref aM, .int wh])).length) Slot.unset).toArray = ls at hl ⊢
  have hl : lv_has ls 2 [(0, .ref aM), (1, .int wh)] := hl
  have f7 := hts (.fieldLink RX8 7 "PillarLightModel" "row" "[I") (List.mem_of_getElem? (i := 1) rfl)
  have iX8 : ∀ w ∈ wsX80, w ∈ wsX8_count := fun _ h => List.mem_cons_of_mem _ (List.mem_append_right _ h)
  have f146 := hts (.fieldLink RX8 146 "PillarLightModel" "length" "I") (List.mem_of_getElem? (i := 2) rfl)
  have f41 := hts (.fieldLink RX8 41 "PillarLightModel" "states" "I") (List.mem_of_getElem? (i := 3) rfl)
  refine startW (fun H locs hP hS => ?_) hP hS
  refine lv_iload_n hx hb dX8_count_0 rfl (lv_at hl 1 rfl) ?_
  by_cases c1 : wh = 0
  · refine lv_tableIn (off := 87) (tgt := 88) hx hb dX8_count_1 (by rw [c1]; decide) (by rw [c1]; decide) (by rw [c1]; rfl) (by decide) ?_
    refine lv_aload_n hx hb dX8_count_88 rfl (lv_at hl 0 rfl) ?_
    refine lv_iload_n hx hb dX8_count_89 rfl (lv_at hl 1 rfl) ?_
    refine callW_i (wr := [(aLg, .inl (y4.1, 64, .inl LG)), (aCo, .inl (y4.1, 64, .inl CO))]) (wn := fun u => [(aM, .inr (7, [.ref aRo, .ref aHi, .int ms, .ref aSn, .int (bI sv), .ref aAs, .ref aLg, .ref aPd, .int ml, .ref aCo, .ref aEa])), (aRo, .inl (y4.1, 151, .inl RO)), (aLg, .inl (y4.1, 64, .inl LG)), (aCo, .inl (y4.1, 64, .inl CO))]) (va_runV (As := [.int wh]) (rest := []) ⟨hx, hb, hml, hown, hts⟩ (met_X8_kinds l D y4 aM aRo aHi aSn aAs aLg aPd aCo aEa H.size ms sv ml RO wh) (cwV 1 hts gX8_count_X8_kinds rfl rfl rfl (by decide +kernel) ⟨Nat.le_of_ble_eq_true rfl, Nat.le_of_ble_eq_true rfl⟩) ⟨preW_blind, va_recv hK hP (ci := 7) (q0 := 0) rfl rfl, preW_at (hP.sub (ws' := [(aM, .inr (7, [.ref aRo, .ref aHi, .int ms, .ref aSn, .int (bI sv), .ref aAs, .ref aLg, .ref aPd, .int ml, .ref aCo, .ref aEa])), (aRo, .inl (y4.1, 151, .inl RO))]) [0, 1] rfl) hK (hD.sub (ws' := [(aM, .inr (7, [.ref aRo, .ref aHi, .int ms, .ref aSn, .int (bI sv), .ref aAs, .ref aLg, .ref aPd, .int ml, .ref aCo, .ref aEa])), (aRo, .inl (y4.1, 151, .inl RO))]) [0, 1] (by decide) rfl) hNW⟩ rfl rfl hl.1 rfl (lv_room (Nat.le_of_ble_eq_true rfl)) dX8_count_90 ⟨Nat.zero_le _, Nat.zero_le _⟩) hP hD hS hA [0, 1] [2, 3] [2, 3, 0, 1] rfl rfl (by decide) (by decide) (fun _ => rfl) (by decide) (fun r u2 H locs hw hP hD hS => ?_)
    replace hw := Eq.symm hw
    subst hw
    have hP : va_P D vwCl [(aM, .inr (7, [.ref aRo, .ref aHi, .int ms, .ref aSn, .int (bI sv), .ref aAs, .ref aLg, .ref aPd, .int ml, .ref aCo, .ref aEa])), (aRo, .inl (y4.1, 151, .inl RO)), (aLg, .inl (y4.1, 64, .inl LG)), (aCo, .inl (y4.1, 64, .inl CO))] H := hP
    have hD : va_D A [(aM, .inr (7, [.ref aRo, .ref aHi, .int ms, .ref aSn, .int (bI sv), .ref aAs, .ref aLg, .ref aPd, .int ml, .ref aCo, .ref aEa])), (aRo, .inl (y4.1, 151, .inl RO)), (aLg, .inl (y4.1, 64, .inl LG)), (aCo, .inl (y4.1, 64, .inl CO))] := hD
    have em : m_X8_count ms ml RO LG CO wh = (m_X8_kinds RO wh) := (by first | (simp only [m_X8_count, if_pos c1]; done) | (simp only [m_X8_count, if_pos c1]; rfl))
    exact W.iret (v := (m_X8_kinds RO wh)) hx hb hr (fun t ht hW => ⟨⟨(m_X8_kinds RO wh), (LG, CO), rfl, (by rw [em]), ⟨by rw [ht]; exact hP, by exact hD⟩⟩, hS.F ht⟩) hS.2.2 dX8_count_93
  · by_cases c3 : wh = 1
    · refine lv_tableIn (off := 87) (tgt := 88) hx hb dX8_count_1 (by rw [c3]; decide) (by rw [c3]; decide) (by rw [c3]; rfl) (by decide) ?_
      refine lv_aload_n hx hb dX8_count_88 rfl (lv_at hl 0 rfl) ?_
      refine lv_iload_n hx hb dX8_count_89 rfl (lv_at hl 1 rfl) ?_
      refine callW_i (wr := [(aLg, .inl (y4.1, 64, .inl LG)), (aCo, .inl (y4.1, 64, .inl CO))]) (wn := fun u => [(aM, .inr (7, [.ref aRo, .ref aHi, .int ms, .ref aSn, .int (bI sv), .ref aAs, .ref aLg, .ref aPd, .int ml, .ref aCo, .ref aEa])), (aRo, .inl (y4.1, 151, .inl RO)), (aLg, .inl (y4.1, 64, .inl LG)), (aCo, .inl (y4.1, 64, .inl CO))]) (va_runV (As := [.int wh]) (rest := []) ⟨hx, hb, hml, hown, hts⟩ (met_X8_kinds l D y4 aM aRo aHi aSn aAs aLg aPd aCo aEa H.size ms sv ml RO wh) (cwV 1 hts gX8_count_X8_kinds rfl rfl rfl (by decide +kernel) ⟨Nat.le_of_ble_eq_true rfl, Nat.le_of_ble_eq_true rfl⟩) ⟨preW_blind, va_recv hK hP (ci := 7) (q0 := 0) rfl rfl, preW_at (hP.sub (ws' := [(aM, .inr (7, [.ref aRo, .ref aHi, .int ms, .ref aSn, .int (bI sv), .ref aAs, .ref aLg, .ref aPd, .int ml, .ref aCo, .ref aEa])), (aRo, .inl (y4.1, 151, .inl RO))]) [0, 1] rfl) hK (hD.sub (ws' := [(aM, .inr (7, [.ref aRo, .ref aHi, .int ms, .ref aSn, .int (bI sv), .ref aAs, .ref aLg, .ref aPd, .int ml, .ref aCo, .ref aEa])), (aRo, .inl (y4.1, 151, .inl RO))]) [0, 1] (by decide) rfl) hNW⟩ rfl rfl hl.1 rfl (lv_room (Nat.le_of_ble_eq_true rfl)) dX8_count_90 ⟨Nat.zero_le _, Nat.zero_le _⟩) hP hD hS hA [0, 1] [2, 3] [2, 3, 0, 1] rfl rfl (by decide) (by decide) (fun _ => rfl) (by decide) (fun r u4 H locs hw hP hD hS => ?_)
      replace hw := Eq.symm hw
      subst hw
      have hP : va_P D vwCl [(aM, .inr (7, [.ref aRo, .ref aHi, .int ms, .ref aSn, .int (bI sv), .ref aAs, .ref aLg, .ref aPd, .int ml, .ref aCo, .ref aEa])), (aRo, .inl (y4.1, 151, .inl RO)), (aLg, .inl (y4.1, 64, .inl LG)), (aCo, .inl (y4.1, 64, .inl CO))] H := hP
      have hD : va_D A [(aM, .inr (7, [.ref aRo, .ref aHi, .int ms, .ref aSn, .int (bI sv), .ref aAs, .ref aLg, .ref aPd, .int ml, .ref aCo, .ref aEa])), (aRo, .inl (y4.1, 151, .inl RO)), (aLg, .inl (y4.1, 64, .inl LG)), (aCo, .inl (y4.1, 64, .inl CO))] := hD
      have em : m_X8_count ms ml RO LG CO wh = (m_X8_kinds RO wh) := (by first | (simp only [m_X8_count, if_neg c1, if_pos c3]; done) | (simp only [m_X8_count, if_neg c1, if_pos c3]; rfl))
      exact W.iret (v := (m_X8_kinds RO wh)) hx hb hr (fun t ht hW => ⟨⟨(m_X8_kinds RO wh), (LG, CO), rfl, (by rw [em]), ⟨by rw [ht]; exact hP, by exact hD⟩⟩, hS.F ht⟩) hS.2.2 dX8_count_93
    · by_cases c5 : wh = 2
      · refine lv_tableIn (off := 87) (tgt := 88) hx hb dX8_count_1 (by rw [c5]; decide) (by rw [c5]; decide) (by rw [c5]; rfl) (by decide) ?_
        refine lv_aload_n hx hb dX8_count_88 rfl (lv_at hl 0 rfl) ?_
        refine lv_iload_n hx hb dX8_count_89 rfl (lv_at hl 1 rfl) ?_
        refine callW_i (wr := [(aLg, .inl (y4.1, 64, .inl LG)), (aCo, .inl (y4.1, 64, .inl CO))]) (wn := fun u => [(aM, .inr (7, [.ref aRo, .ref aHi, .int ms, .ref aSn, .int (bI sv), .ref aAs, .ref aLg, .ref aPd, .int ml, .ref aCo, .ref aEa])), (aRo, .inl (y4.1, 151, .inl RO)), (aLg, .inl (y4.1, 64, .inl LG)), (aCo, .inl (y4.1, 64, .inl CO))]) (va_runV (As := [.int wh]) (rest := []) ⟨hx, hb, hml, hown, hts⟩ (met_X8_kinds l D y4 aM aRo aHi aSn aAs aLg aPd aCo aEa H.size ms sv ml RO wh) (cwV 1 hts gX8_count_X8_kinds rfl rfl rfl (by decide +kernel) ⟨Nat.le_of_ble_eq_true rfl, Nat.le_of_ble_eq_true rfl⟩) ⟨preW_blind, va_recv hK hP (ci := 7) (q0 := 0) rfl rfl, preW_at (hP.sub (ws' := [(aM, .inr (7, [.ref aRo, .ref aHi, .int ms, .ref aSn, .int (bI sv), .ref aAs, .ref aLg, .ref aPd, .int ml, .ref aCo, .ref aEa])), (aRo, .inl (y4.1, 151, .inl RO))]) [0, 1] rfl) hK (hD.sub (ws' := [(aM, .inr (7, [.ref aRo, .ref aHi, .int ms, .ref aSn, .int (bI sv), .ref aAs, .ref aLg, .ref aPd, .int ml, .ref aCo, .ref aEa])), (aRo, .inl (y4.1, 151, .inl RO))]) [0, 1] (by decide) rfl) hNW⟩ rfl rfl hl.1 rfl (lv_room (Nat.le_of_ble_eq_true rfl)) dX8_count_90 ⟨Nat.zero_le _, Nat.zero_le _⟩) hP hD hS hA [0, 1] [2, 3] [2, 3, 0, 1] rfl rfl (by decide) (by decide) (fun _ => rfl) (by decide) (fun r u6 H locs hw hP hD hS => ?_)
        replace hw := Eq.symm hw
        subst hw
        have hP : va_P D vwCl [(aM, .inr (7, [.ref aRo, .ref aHi, .int ms, .ref aSn, .int (bI sv), .ref aAs, .ref aLg, .ref aPd, .int ml, .ref aCo, .ref aEa])), (aRo, .inl (y4.1, 151, .inl RO)), (aLg, .inl (y4.1, 64, .inl LG)), (aCo, .inl (y4.1, 64, .inl CO))] H := hP
        have hD : va_D A [(aM, .inr (7, [.ref aRo, .ref aHi, .int ms, .ref aSn, .int (bI sv), .ref aAs, .ref aLg, .ref aPd, .int ml, .ref aCo, .ref aEa])), (aRo, .inl (y4.1, 151, .inl RO)), (aLg, .inl (y4.1, 64, .inl LG)), (aCo, .inl (y4.1, 64, .inl CO))] := hD
        have em : m_X8_count ms ml RO LG CO wh = (m_X8_kinds RO wh) := (by first | (simp only [m_X8_count, if_neg c1, if_neg c3, if_pos c5]; done) | (simp only [m_X8_count, if_neg c1, if_neg c3, if_pos c5]; rfl))
        exact W.iret (v := (m_X8_kinds RO wh)) hx hb hr (fun t ht hW => ⟨⟨(m_X8_kinds RO wh), (LG, CO), rfl, (by rw [em]), ⟨by rw [ht]; exact hP, by exact hD⟩⟩, hS.F ht⟩) hS.2.2 dX8_count_93
      · by_cases c7 : wh = 3
        · refine lv_tableIn (off := 87) (tgt := 88) hx hb dX8_count_1 (by rw [c7]; decide) (by rw [c7]; decide) (by rw [c7]; rfl) (by decide) ?_
          refine lv_aload_n hx hb dX8_count_88 rfl (lv_at hl 0 rfl) ?_
          refine lv_iload_n hx hb dX8_count_89 rfl (lv_at hl 1 rfl) ?_
          refine callW_i (wr := [(aLg, .inl (y4.1, 64, .inl LG)), (aCo, .inl (y4.1, 64, .inl CO))]) (wn := fun u => [(aM, .inr (7, [.ref aRo, .ref aHi, .int ms, .ref aSn, .int (bI sv), .ref aAs, .ref aLg, .ref aPd, .int ml, .ref aCo, .ref aEa])), (aRo, .inl (y4.1, 151, .inl RO)), (aLg, .inl (y4.1, 64, .inl LG)), (aCo, .inl (y4.1, 64, .inl CO))]) (va_runV (As := [.int wh]) (rest := []) ⟨hx, hb, hml, hown, hts⟩ (met_X8_kinds l D y4 aM aRo aHi aSn aAs aLg aPd aCo aEa H.size ms sv ml RO wh) (cwV 1 hts gX8_count_X8_kinds rfl rfl rfl (by decide +kernel) ⟨Nat.le_of_ble_eq_true rfl, Nat.le_of_ble_eq_true rfl⟩) ⟨preW_blind, va_recv hK hP (ci := 7) (q0 := 0) rfl rfl, preW_at (hP.sub (ws' := [(aM, .inr (7, [.ref aRo, .ref aHi, .int ms, .ref aSn, .int (bI sv), .ref aAs, .ref aLg, .ref aPd, .int ml, .ref aCo, .ref aEa])), (aRo, .inl (y4.1, 151, .inl RO))]) [0, 1] rfl) hK (hD.sub (ws' := [(aM, .inr (7, [.ref aRo, .ref aHi, .int ms, .ref aSn, .int (bI sv), .ref aAs, .ref aLg, .ref aPd, .int ml, .ref aCo, .ref aEa])), (aRo, .inl (y4.1, 151, .inl RO))]) [0, 1] (by decide) rfl) hNW⟩ rfl rfl hl.1 rfl (lv_room (Nat.le_of_ble_eq_true rfl)) dX8_count_90 ⟨Nat.zero_le _, Nat.zero_le _⟩) hP hD hS hA [0, 1] [2, 3] [2, 3, 0, 1] rfl rfl (by decide) (by decide) (fun _ => rfl) (by decide) (fun r u8 H locs hw hP hD hS => ?_)
          replace hw := Eq.symm hw
          subst hw
          have hP : va_P D vwCl [(aM, .inr (7, [.ref aRo, .ref aHi, .int ms, .ref aSn, .int (bI sv), .ref aAs, .ref aLg, .ref aPd, .int ml, .ref aCo, .ref aEa])), (aRo, .inl (y4.1, 151, .inl RO)), (aLg, .inl (y4.1, 64, .inl LG)), (aCo, .inl (y4.1, 64, .inl CO))] H := hP
          have hD : va_D A [(aM, .inr (7, [.ref aRo, .ref aHi, .int ms, .ref aSn, .int (bI sv), .ref aAs, .ref aLg, .ref aPd, .int ml, .ref aCo, .ref aEa])), (aRo, .inl (y4.1, 151, .inl RO)), (aLg, .inl (y4.1, 64, .inl LG)), (aCo, .inl (y4.1, 64, .inl CO))] := hD
          have em : m_X8_count ms ml RO LG CO wh = (m_X8_kinds RO wh) := (by first | (simp only [m_X8_count, if_neg c1, if_neg c3, if_neg c5, if_pos c7]; done) | (simp only [m_X8_count, if_neg c1, if_neg c3, if_neg c5, if_pos c7]; rfl))
          exact W.iret (v := (m_X8_kinds RO wh)) hx hb hr (fun t ht hW => ⟨⟨(m_X8_kinds RO wh), (LG, CO), rfl, (by rw [em]), ⟨by rw [ht]; exact hP, by exact hD⟩⟩, hS.F ht⟩) hS.2.2 dX8_count_93
        · by_cases c9 : wh = 4
          · refine lv_tableIn (off := 93) (tgt := 94) hx hb dX8_count_1 (by rw [c9]; decide) (by rw [c9]; decide) (by rw [c9]; rfl) (by decide) ?_
            refine lv_aload_n hx hb dX8_count_94 rfl (lv_at hl 0 rfl) ?_
            refine callW_i (wr := [(aCo, .inl (y4.1, 64, .inl CO))]) (wn := fun u => [(aM, .inr (7, [.ref aRo, .ref aHi, .int ms, .ref aSn, .int (bI sv), .ref aAs, .ref aLg, .ref aPd, .int ml, .ref aCo, .ref aEa])), (aRo, .inl (y4.1, 151, .inl RO)), (aLg, .inl (y4.1, 64, .inl u)), (aCo, .inl (y4.1, 64, .inl CO))]) (va_runV (As := []) (rest := []) ⟨hx, hb, hml, hown, hts⟩ (met_X8_litCells l D y4 aM aRo aHi aSn aAs aLg aPd aCo aEa H.size ms sv ml RO LG hM) (cwV 0 hts gX8_count_X8_litCells rfl rfl rfl (by decide +kernel) ⟨Nat.le_of_ble_eq_true rfl, Nat.le_of_ble_eq_true rfl⟩) ⟨preW_blind, va_recv hK hP (ci := 7) (q0 := 0) rfl rfl, preW_at (hP.sub (ws' := [(aM, .inr (7, [.ref aRo, .ref aHi, .int ms, .ref aSn, .int (bI sv), .ref aAs, .ref aLg, .ref aPd, .int ml, .ref aCo, .ref aEa])), (aRo, .inl (y4.1, 151, .inl RO)), (aLg, .inl (y4.1, 64, .inl LG))]) [0, 1, 2] rfl) hK (hD.sub (ws' := [(aM, .inr (7, [.ref aRo, .ref aHi, .int ms, .ref aSn, .int (bI sv), .ref aAs, .ref aLg, .ref aPd, .int ml, .ref aCo, .ref aEa])), (aRo, .inl (y4.1, 151, .inl RO)), (aLg, .inl (y4.1, 64, .inl LG))]) [0, 1, 2] (by decide) rfl) hNW⟩ rfl rfl hl.1 rfl (lv_room (Nat.le_of_ble_eq_true rfl)) dX8_count_95 ⟨Nat.zero_le _, Nat.zero_le _⟩) hP hD hS hA [0, 1, 2] [3] [1, 2, 3, 0] rfl rfl (by decide) (by decide) (fun _ => rfl) (by decide) (fun r u10 H locs hw hP hD hS => ?_)
            replace hw := Eq.symm hw
            subst hw
            have hP : va_P D vwCl [(aM, .inr (7, [.ref aRo, .ref aHi, .int ms, .ref aSn, .int (bI sv), .ref aAs, .ref aLg, .ref aPd, .int ml, .ref aCo, .ref aEa])), (aRo, .inl (y4.1, 151, .inl RO)), (aLg, .inl (y4.1, 64, .inl u10)), (aCo, .inl (y4.1, 64, .inl CO))] H := hP
            have hD : va_D A [(aM, .inr (7, [.ref aRo, .ref aHi, .int ms, .ref aSn, .int (bI sv), .ref aAs, .ref aLg, .ref aPd, .int ml, .ref aCo, .ref aEa])), (aRo, .inl (y4.1, 151, .inl RO)), (aLg, .inl (y4.1, 64, .inl u10)), (aCo, .inl (y4.1, 64, .inl CO))] := hD
            have em : m_X8_count ms ml RO LG CO wh = (m_X8_litCells RO LG) := (by first | (simp only [m_X8_count, if_neg c1, if_neg c3, if_neg c5, if_neg c7, if_pos c9]; done) | (simp only [m_X8_count, if_neg c1, if_neg c3, if_neg c5, if_neg c7, if_pos c9]; rfl))
            exact W.iret (v := (m_X8_litCells RO LG)) hx hb hr (fun t ht hW => ⟨⟨(m_X8_litCells RO LG), (u10, CO), rfl, (by rw [em]), ⟨by rw [ht]; exact hP, by exact hD⟩⟩, hS.F ht⟩) hS.2.2 dX8_count_98
          · by_cases c11 : wh = 5
            · refine lv_tableIn (off := 98) (tgt := 99) hx hb dX8_count_1 (by rw [c11]; decide) (by rw [c11]; decide) (by rw [c11]; rfl) (by decide) ?_
              refine lv_aload_n hx hb dX8_count_99 rfl (lv_at hl 0 rfl) ?_
              refine callW_i (wr := [(aLg, .inl (y4.1, 64, .inl LG)), (aCo, .inl (y4.1, 64, .inl CO))]) (wn := fun u => [(aM, .inr (7, [.ref aRo, .ref aHi, .int ms, .ref aSn, .int (bI sv), .ref aAs, .ref aLg, .ref aPd, .int ml, .ref aCo, .ref aEa])), (aRo, .inl (y4.1, 151, .inl RO)), (aLg, .inl (y4.1, 64, .inl LG)), (aCo, .inl (y4.1, 64, .inl CO))]) (va_runV (As := []) (rest := []) ⟨hx, hb, hml, hown, hts⟩ (met_X8_seenCells l D y4 aM aRo aHi aSn aAs aLg aPd aCo aEa H.size ms sv ml RO hM) (cwV 0 hts gX8_count_X8_seenCells rfl rfl rfl (by decide +kernel) ⟨Nat.le_of_ble_eq_true rfl, Nat.le_of_ble_eq_true rfl⟩) ⟨preW_blind, va_recv hK hP (ci := 7) (q0 := 0) rfl rfl, preW_at (hP.sub (ws' := [(aM, .inr (7, [.ref aRo, .ref aHi, .int ms, .ref aSn, .int (bI sv), .ref aAs, .ref aLg, .ref aPd, .int ml, .ref aCo, .ref aEa])), (aRo, .inl (y4.1, 151, .inl RO))]) [0, 1] rfl) hK (hD.sub (ws' := [(aM, .inr (7, [.ref aRo, .ref aHi, .int ms, .ref aSn, .int (bI sv), .ref aAs, .ref aLg, .ref aPd, .int ml, .ref aCo, .ref aEa])), (aRo, .inl (y4.1, 151, .inl RO))]) [0, 1] (by decide) rfl) hNW⟩ rfl rfl hl.1 rfl (lv_room (Nat.le_of_ble_eq_true rfl)) dX8_count_100 ⟨Nat.zero_le _, Nat.zero_le _⟩) hP hD hS hA [0, 1] [2, 3] [2, 3, 0, 1] rfl rfl (by decide) (by decide) (fun _ => rfl) (by decide) (fun r u12 H locs hw hP hD hS => ?_)
              replace hw := Eq.symm hw
              subst hw
              have hP : va_P D vwCl [(aM, .inr (7, [.ref aRo, .ref aHi, .int ms, .ref aSn, .int (bI sv), .ref aAs, .ref aLg, .ref aPd, .int ml, .ref aCo, .ref aEa])), (aRo, .inl (y4.1, 151, .inl RO)), (aLg, .inl (y4.1, 64, .inl LG)), (aCo, .inl (y4.1, 64, .inl CO))] H := hP
              have hD : va_D A [(aM, .inr (7, [.ref aRo, .ref aHi, .int ms, .ref aSn, .int (bI sv), .ref aAs, .ref aLg, .ref aPd, .int ml, .ref aCo, .ref aEa])), (aRo, .inl (y4.1, 151, .inl RO)), (aLg, .inl (y4.1, 64, .inl LG)), (aCo, .inl (y4.1, 64, .inl CO))] := hD
              have em : m_X8_count ms ml RO LG CO wh = (m_X8_seenCells RO) := (by first | (simp only [m_X8_count, if_neg c1, if_neg c3, if_neg c5, if_neg c7, if_neg c9, if_pos c11]; done) | (simp only [m_X8_count, if_neg c1, if_neg c3, if_neg c5, if_neg c7, if_neg c9, if_pos c11]; rfl))
              exact W.iret (v := (m_X8_seenCells RO)) hx hb hr (fun t ht hW => ⟨⟨(m_X8_seenCells RO), (LG, CO), rfl, (by rw [em]), ⟨by rw [ht]; exact hP, by exact hD⟩⟩, hS.F ht⟩) hS.2.2 dX8_count_103
            · by_cases c13 : wh = 6
              · refine lv_tableIn (off := 103) (tgt := 104) hx hb dX8_count_1 (by rw [c13]; decide) (by rw [c13]; decide) (by rw [c13]; rfl) (by decide) ?_
                refine lv_aload_n hx hb dX8_count_104 rfl (lv_at hl 0 rfl) ?_
                refine callW_i (wr := [(aLg, .inl (y4.1, 64, .inl LG)), (aCo, .inl (y4.1, 64, .inl CO))]) (wn := fun u => [(aM, .inr (7, [.ref aRo, .ref aHi, .int ms, .ref aSn, .int (bI sv), .ref aAs, .ref aLg, .ref aPd, .int ml, .ref aCo, .ref aEa])), (aRo, .inl (y4.1, 151, .inl RO)), (aLg, .inl (y4.1, 64, .inl LG)), (aCo, .inl (y4.1, 64, .inl CO))]) (va_runV (As := []) (rest := []) ⟨hx, hb, hml, hown, hts⟩ (met_X8_knownCells l D y4 aM aRo aHi aSn aAs aLg aPd aCo aEa H.size ms sv ml RO) (cwV 0 hts gX8_count_X8_knownCells rfl rfl rfl (by decide +kernel) ⟨Nat.le_of_ble_eq_true rfl, Nat.le_of_ble_eq_true rfl⟩) ⟨preW_blind, va_recv hK hP (ci := 7) (q0 := 0) rfl rfl, preW_at (hP.sub (ws' := [(aM, .inr (7, [.ref aRo, .ref aHi, .int ms, .ref aSn, .int (bI sv), .ref aAs, .ref aLg, .ref aPd, .int ml, .ref aCo, .ref aEa])), (aRo, .inl (y4.1, 151, .inl RO))]) [0, 1] rfl) hK (hD.sub (ws' := [(aM, .inr (7, [.ref aRo, .ref aHi, .int ms, .ref aSn, .int (bI sv), .ref aAs, .ref aLg, .ref aPd, .int ml, .ref aCo, .ref aEa])), (aRo, .inl (y4.1, 151, .inl RO))]) [0, 1] (by decide) rfl) hNW⟩ rfl rfl hl.1 rfl (lv_room (Nat.le_of_ble_eq_true rfl)) dX8_count_105 ⟨Nat.zero_le _, Nat.zero_le _⟩) hP hD hS hA [0, 1] [2, 3] [2, 3, 0, 1] rfl rfl (by decide) (by decide) (fun _ => rfl) (by decide) (fun r u14 H locs hw hP hD hS => ?_)
                replace hw := Eq.symm hw
                subst hw
                have hP : va_P D vwCl [(aM, .inr (7, [.ref aRo, .ref aHi, .int ms, .ref aSn, .int (bI sv), .ref aAs, .ref aLg, .ref aPd, .int ml, .ref aCo, .ref aEa])), (aRo, .inl (y4.1, 151, .inl RO)), (aLg, .inl (y4.1, 64, .inl LG)), (aCo, .inl (y4.1, 64, .inl CO))] H := hP
                have hD : va_D A [(aM, .inr (7, [.ref aRo, .ref aHi, .int ms, .ref aSn, .int (bI sv), .ref aAs, .ref aLg, .ref aPd, .int ml, .ref aCo, .ref aEa])), (aRo, .inl (y4.1, 151, .inl RO)), (aLg, .inl (y4.1, 64, .inl LG)), (aCo, .inl (y4.1, 64, .inl CO))] := hD
                have em : m_X8_count ms ml RO LG CO wh = (m_X8_knownCells RO) := (by first | (simp only [m_X8_count, if_neg c1, if_neg c3, if_neg c5, if_neg c7, if_neg c9, if_neg c11, if_pos c13]; done) | (simp only [m_X8_count, if_neg c1, if_neg c3, if_neg c5, if_neg c7, if_neg c9, if_neg c11, if_pos c13]; rfl))
                exact W.iret (v := (m_X8_knownCells RO)) hx hb hr (fun t ht hW => ⟨⟨(m_X8_knownCells RO), (LG, CO), rfl, (by rw [em]), ⟨by rw [ht]; exact hP, by exact hD⟩⟩, hS.F ht⟩) hS.2.2 dX8_count_108
              · by_cases c15 : wh = 7
                · refine lv_tableIn (off := 108) (tgt := 109) hx hb dX8_count_1 (by rw [c15]; decide) (by rw [c15]; decide) (by rw [c15]; rfl) (by decide) ?_
                  refine lv_aload_n hx hb dX8_count_109 rfl (lv_at hl 0 rfl) ?_
                  refine callW_i (wr := []) (wn := fun u => [(aM, .inr (7, [.ref aRo, .ref aHi, .int ms, .ref aSn, .int (bI sv), .ref aAs, .ref aLg, .ref aPd, .int ml, .ref aCo, .ref aEa])), (aRo, .inl (y4.1, 151, .inl RO)), (aLg, .inl (y4.1, 64, .inl u.1)), (aCo, .inl (y4.1, 64, .inl u.2))]) (va_runV (As := []) (rest := []) ⟨hx, hb, hml, hown, hts⟩ (met_X8_reached l D y4 aM aRo aHi aSn aAs aLg aPd aCo aEa H.size ms sv ml RO LG CO hM hSH) (cwV 0 hts gX8_count_X8_reached rfl rfl rfl (by decide +kernel) ⟨Nat.le_of_ble_eq_true rfl, Nat.le_of_ble_eq_true rfl⟩) ⟨preW_blind, va_recv hK hP (ci := 7) (q0 := 0) rfl rfl, preW_at (hP.sub (ws' := [(aM, .inr (7, [.ref aRo, .ref aHi, .int ms, .ref aSn, .int (bI sv), .ref aAs, .ref aLg, .ref aPd, .int ml, .ref aCo, .ref aEa])), (aRo, .inl (y4.1, 151, .inl RO)), (aLg, .inl (y4.1, 64, .inl LG)), (aCo, .inl (y4.1, 64, .inl CO))]) [0, 1, 2, 3] rfl) hK (hD.sub (ws' := [(aM, .inr (7, [.ref aRo, .ref aHi, .int ms, .ref aSn, .int (bI sv), .ref aAs, .ref aLg, .ref aPd, .int ml, .ref aCo, .ref aEa])), (aRo, .inl (y4.1, 151, .inl RO)), (aLg, .inl (y4.1, 64, .inl LG)), (aCo, .inl (y4.1, 64, .inl CO))]) [0, 1, 2, 3] (by decide) rfl) hNW⟩ rfl rfl hl.1 rfl (lv_room (Nat.le_of_ble_eq_true rfl)) dX8_count_110 ⟨Nat.zero_le _, Nat.zero_le _⟩) hP hD hS hA [0, 1, 2, 3] [] [0, 1, 2, 3] rfl rfl (by decide) (by decide) (fun _ => rfl) (by decide) (fun r u16 H locs hw hP hD hS => ?_)
                  replace hw := Eq.symm hw
                  subst hw
                  have hP : va_P D vwCl [(aM, .inr (7, [.ref aRo, .ref aHi, .int ms, .ref aSn, .int (bI sv), .ref aAs, .ref aLg, .ref aPd, .int ml, .ref aCo, .ref aEa])), (aRo, .inl (y4.1, 151, .inl RO)), (aLg, .inl (y4.1, 64, .inl u16.1)), (aCo, .inl (y4.1, 64, .inl u16.2))] H := hP
                  have hD : va_D A [(aM, .inr (7, [.ref aRo, .ref aHi, .int ms, .ref aSn, .int (bI sv), .ref aAs, .ref aLg, .ref aPd, .int ml, .ref aCo, .ref aEa])), (aRo, .inl (y4.1, 151, .inl RO)), (aLg, .inl (y4.1, 64, .inl u16.1)), (aCo, .inl (y4.1, 64, .inl u16.2))] := hD
                  have em : m_X8_count ms ml RO LG CO wh = (m_X8_reached RO LG CO) := (by first | (simp only [m_X8_count, if_neg c1, if_neg c3, if_neg c5, if_neg c7, if_neg c9, if_neg c11, if_neg c13, if_pos c15]; done) | (simp only [m_X8_count, if_neg c1, if_neg c3, if_neg c5, if_neg c7, if_neg c9, if_neg c11, if_neg c13, if_pos c15]; rfl))
                  exact W.iret (v := (m_X8_reached RO LG CO)) hx hb hr (fun t ht hW => ⟨⟨(m_X8_reached RO LG CO), (u16.1, u16.2), rfl, (by rw [em]), ⟨by rw [ht]; exact hP, by exact hD⟩⟩, hS.F ht⟩) hS.2.2 dX8_count_113
                · by_cases c17 : wh = 8
                  · refine lv_tableIn (off := 113) (tgt := 114) hx hb dX8_count_1 (by rw [c17]; decide) (by rw [c17]; decide) (by rw [c17]; rfl) (by decide) ?_
                    refine lv_aload_n hx hb dX8_count_114 rfl (lv_at hl 0 rfl) ?_
                    refine va_get (ci := 7) (v := .ref aRo) (C := RX8) (T := TX8) (N := 11) hx hb hts iX8 hown hK hP 0 rfl rfl 0 (by decide) f7 (fun _ h9 => h9) rfl dX8_count_115 ?_
                    refine lv_sipush (v := 128) hx hb dX8_count_118 (by decide) ?_
                    refine va_iald hx hb hK hP 1 0 rfl rfl (vp_in_nI (n := 128) (by decide) (by decide)) dX8_count_121 ?_
                    refine W.ofeqi (y := RO 128) (congrArg RO (by decide : (128 : Int32).toNatClampNeg = 128)) ?_
                    have em : m_X8_count ms ml RO LG CO wh = RO 128 := (by first | (simp only [m_X8_count, if_neg c1, if_neg c3, if_neg c5, if_neg c7, if_neg c9, if_neg c11, if_neg c13, if_neg c15, if_pos c17]; done) | (simp only [m_X8_count, if_neg c1, if_neg c3, if_neg c5, if_neg c7, if_neg c9, if_neg c11, if_neg c13, if_neg c15, if_pos c17]; rfl))
                    exact W.iret (v := RO 128) hx hb hr (fun t ht hW => ⟨⟨RO 128, (LG, CO), rfl, (by rw [em]), ⟨by rw [ht]; exact hP, by exact hD⟩⟩, hS.F ht⟩) hS.2.2 dX8_count_122
                  · by_cases c18 : wh = 9
                    · refine lv_tableIn (off := 122) (tgt := 123) hx hb dX8_count_1 (by rw [c18]; decide) (by rw [c18]; decide) (by rw [c18]; rfl) (by decide) ?_
                      refine lv_aload_n hx hb dX8_count_123 rfl (lv_at hl 0 rfl) ?_
                      refine va_get (ci := 7) (v := .ref aRo) (C := RX8) (T := TX8) (N := 11) hx hb hts iX8 hown hK hP 0 rfl rfl 0 (by decide) f7 (fun _ h9 => h9) rfl dX8_count_124 ?_
                      refine lv_sipush (v := 147) hx hb dX8_count_127 (by decide) ?_
                      refine va_iald hx hb hK hP 1 0 rfl rfl (vp_in_nI (n := 147) (by decide) (by decide)) dX8_count_130 ?_
                      refine W.ofeqi (y := RO 147) (congrArg RO (by decide : (147 : Int32).toNatClampNeg = 147)) ?_
                      have em : m_X8_count ms ml RO LG CO wh = RO 147 := (by first | (simp only [m_X8_count, if_neg c1, if_neg c3, if_neg c5, if_neg c7, if_neg c9, if_neg c11, if_neg c13, if_neg c15, if_neg c17, if_pos c18]; done) | (simp only [m_X8_count, if_neg c1, if_neg c3, if_neg c5, if_neg c7, if_neg c9, if_neg c11, if_neg c13, if_neg c15, if_neg c17, if_pos c18]; rfl))
                      exact W.iret (v := RO 147) hx hb hr (fun t ht hW => ⟨⟨RO 147, (LG, CO), rfl, (by rw [em]), ⟨by rw [ht]; exact hP, by exact hD⟩⟩, hS.F ht⟩) hS.2.2 dX8_count_131
                    · by_cases c19 : wh = 10
                      · refine lv_tableIn (off := 131) (tgt := 132) hx hb dX8_count_1 (by rw [c19]; decide) (by rw [c19]; decide) (by rw [c19]; rfl) (by decide) ?_
                        refine lv_aload_n hx hb dX8_count_132 rfl (lv_at hl 0 rfl) ?_
                        refine va_get (ci := 7) (v := .ref aRo) (C := RX8) (T := TX8) (N := 11) hx hb hts iX8 hown hK hP 0 rfl rfl 0 (by decide) f7 (fun _ h9 => h9) rfl dX8_count_133 ?_
                        refine lv_sipush (v := 148) hx hb dX8_count_136 (by decide) ?_
                        refine va_iald hx hb hK hP 1 0 rfl rfl (vp_in_nI (n := 148) (by decide) (by decide)) dX8_count_139 ?_
                        refine W.ofeqi (y := RO 148) (congrArg RO (by decide : (148 : Int32).toNatClampNeg = 148)) ?_
                        have em : m_X8_count ms ml RO LG CO wh = RO 148 := (by first | (simp only [m_X8_count, if_neg c1, if_neg c3, if_neg c5, if_neg c7, if_neg c9, if_neg c11, if_neg c13, if_neg c15, if_neg c17, if_neg c18, if_pos c19]; done) | (simp only [m_X8_count, if_neg c1, if_neg c3, if_neg c5, if_neg c7, if_neg c9, if_neg c11, if_neg c13, if_neg c15, if_neg c17, if_neg c18, if_pos c19]; rfl))
                        exact W.iret (v := RO 148) hx hb hr (fun t ht hW => ⟨⟨RO 148, (LG, CO), rfl, (by rw [em]), ⟨by rw [ht]; exact hP, by exact hD⟩⟩, hS.F ht⟩) hS.2.2 dX8_count_140
                      · by_cases c20 : wh = 11
                        · refine lv_tableIn (off := 140) (tgt := 141) hx hb dX8_count_1 (by rw [c20]; decide) (by rw [c20]; decide) (by rw [c20]; rfl) (by decide) ?_
                          refine lv_aload_n hx hb dX8_count_141 rfl (lv_at hl 0 rfl) ?_
                          refine callW_i (wr := [(aCo, .inl (y4.1, 64, .inl CO))]) (wn := fun u => [(aM, .inr (7, [.ref aRo, .ref aHi, .int ms, .ref aSn, .int (bI sv), .ref aAs, .ref aLg, .ref aPd, .int ml, .ref aCo, .ref aEa])), (aRo, .inl (y4.1, 151, .inl RO)), (aLg, .inl (y4.1, 64, .inl u)), (aCo, .inl (y4.1, 64, .inl CO))]) (va_runV (As := []) (rest := []) ⟨hx, hb, hml, hown, hts⟩ (met_X8_allLight l D y4 aM aRo aHi aSn aAs aLg aPd aCo aEa H.size ms sv ml RO LG hM) (cwV 0 hts gX8_count_X8_allLight rfl rfl rfl (by decide +kernel) ⟨Nat.le_of_ble_eq_true rfl, Nat.le_of_ble_eq_true rfl⟩) ⟨preW_blind, va_recv hK hP (ci := 7) (q0 := 0) rfl rfl, preW_at (hP.sub (ws' := [(aM, .inr (7, [.ref aRo, .ref aHi, .int ms, .ref aSn, .int (bI sv), .ref aAs, .ref aLg, .ref aPd, .int ml, .ref aCo, .ref aEa])), (aRo, .inl (y4.1, 151, .inl RO)), (aLg, .inl (y4.1, 64, .inl LG))]) [0, 1, 2] rfl) hK (hD.sub (ws' := [(aM, .inr (7, [.ref aRo, .ref aHi, .int ms, .ref aSn, .int (bI sv), .ref aAs, .ref aLg, .ref aPd, .int ml, .ref aCo, .ref aEa])), (aRo, .inl (y4.1, 151, .inl RO)), (aLg, .inl (y4.1, 64, .inl LG))]) [0, 1, 2] (by decide) rfl) hNW⟩ rfl rfl hl.1 rfl (lv_room (Nat.le_of_ble_eq_true rfl)) dX8_count_142 ⟨Nat.zero_le _, Nat.zero_le _⟩) hP hD hS hA [0, 1, 2] [3] [1, 2, 3, 0] rfl rfl (by decide) (by decide) (fun _ => rfl) (by decide) (fun r u21 H locs hw hP hD hS => ?_)
                          replace hw := Eq.symm hw
                          subst hw
                          have hP : va_P D vwCl [(aM, .inr (7, [.ref aRo, .ref aHi, .int ms, .ref aSn, .int (bI sv), .ref aAs, .ref aLg, .ref aPd, .int ml, .ref aCo, .ref aEa])), (aRo, .inl (y4.1, 151, .inl RO)), (aLg, .inl (y4.1, 64, .inl u21)), (aCo, .inl (y4.1, 64, .inl CO))] H := hP
                          have hD : va_D A [(aM, .inr (7, [.ref aRo, .ref aHi, .int ms, .ref aSn, .int (bI sv), .ref aAs, .ref aLg, .ref aPd, .int ml, .ref aCo, .ref aEa])), (aRo, .inl (y4.1, 151, .inl RO)), (aLg, .inl (y4.1, 64, .inl u21)), (aCo, .inl (y4.1, 64, .inl CO))] := hD
                          have em : m_X8_count ms ml RO LG CO wh = (m_X8_allLight RO LG) := (by first | (simp only [m_X8_count, if_neg c1, if_neg c3, if_neg c5, if_neg c7, if_neg c9, if_neg c11, if_neg c13, if_neg c15, if_neg c17, if_neg c18, if_neg c19, if_pos c20]; done) | (simp only [m_X8_count, if_neg c1, if_neg c3, if_neg c5, if_neg c7, if_neg c9, if_neg c11, if_neg c13, if_neg c15, if_neg c17, if_neg c18, if_neg c19, if_pos c20]; rfl))
                          exact W.iret (v := (m_X8_allLight RO LG)) hx hb hr (fun t ht hW => ⟨⟨(m_X8_allLight RO LG), (u21, CO), rfl, (by rw [em]), ⟨by rw [ht]; exact hP, by exact hD⟩⟩, hS.F ht⟩) hS.2.2 dX8_count_145
                        · by_cases c22 : wh = 12
                          · refine lv_tableIn (off := 145) (tgt := 146) hx hb dX8_count_1 (by rw [c22]; decide) (by rw [c22]; decide) (by rw [c22]; rfl) (by decide) ?_
                            refine lv_aload_n hx hb dX8_count_146 rfl (lv_at hl 0 rfl) ?_
                            refine lv_aload_n hx hb dX8_count_147 rfl (lv_at hl 0 rfl) ?_
                            refine callW_i (wr := [(aCo, .inl (y4.1, 64, .inl CO))]) (wn := fun u => [(aM, .inr (7, [.ref aRo, .ref aHi, .int ms, .ref aSn, .int (bI sv), .ref aAs, .ref aLg, .ref aPd, .int ml, .ref aCo, .ref aEa])), (aRo, .inl (y4.1, 151, .inl RO)), (aLg, .inl (y4.1, 64, .inl u)), (aCo, .inl (y4.1, 64, .inl CO))]) (va_runV (As := []) (rest := [.ref aM]) ⟨hx, hb, hml, hown, hts⟩ (met_X8_brightest l D y4 aM aRo aHi aSn aAs aLg aPd aCo aEa H.size ms sv ml RO LG hM) (cwV 0 hts gX8_count_X8_brightest rfl rfl rfl (by decide +kernel) ⟨Nat.le_of_ble_eq_true rfl, Nat.le_of_ble_eq_true rfl⟩) ⟨preW_blind, va_recv hK hP (ci := 7) (q0 := 0) rfl rfl, preW_at (hP.sub (ws' := [(aM, .inr (7, [.ref aRo, .ref aHi, .int ms, .ref aSn, .int (bI sv), .ref aAs, .ref aLg, .ref aPd, .int ml, .ref aCo, .ref aEa])), (aRo, .inl (y4.1, 151, .inl RO)), (aLg, .inl (y4.1, 64, .inl LG))]) [0, 1, 2] rfl) hK (hD.sub (ws' := [(aM, .inr (7, [.ref aRo, .ref aHi, .int ms, .ref aSn, .int (bI sv), .ref aAs, .ref aLg, .ref aPd, .int ml, .ref aCo, .ref aEa])), (aRo, .inl (y4.1, 151, .inl RO)), (aLg, .inl (y4.1, 64, .inl LG))]) [0, 1, 2] (by decide) rfl) hNW⟩ rfl rfl hl.1 rfl (lv_room (Nat.le_of_ble_eq_true rfl)) dX8_count_148 ⟨Nat.zero_le _, Nat.zero_le _⟩) hP hD hS hA [0, 1, 2] [3] [1, 2, 3, 0] rfl rfl (by decide) (by decide) (fun _ => rfl) (by decide) (fun r u23 H locs hw hP hD hS => ?_)
                            replace hw := Eq.symm hw
                            subst hw
                            have hP : va_P D vwCl [(aM, .inr (7, [.ref aRo, .ref aHi, .int ms, .ref aSn, .int (bI sv), .ref aAs, .ref aLg, .ref aPd, .int ml, .ref aCo, .ref aEa])), (aRo, .inl (y4.1, 151, .inl RO)), (aLg, .inl (y4.1, 64, .inl u23)), (aCo, .inl (y4.1, 64, .inl CO))] H := hP
                            have hD : va_D A [(aM, .inr (7, [.ref aRo, .ref aHi, .int ms, .ref aSn, .int (bI sv), .ref aAs, .ref aLg, .ref aPd, .int ml, .ref aCo, .ref aEa])), (aRo, .inl (y4.1, 151, .inl RO)), (aLg, .inl (y4.1, 64, .inl u23)), (aCo, .inl (y4.1, 64, .inl CO))] := hD
                            refine callW_i (wr := [(aLg, .inl (y4.1, 64, .inl u23)), (aCo, .inl (y4.1, 64, .inl CO))]) (wn := fun u => [(aM, .inr (7, [.ref aRo, .ref aHi, .int ms, .ref aSn, .int (bI sv), .ref aAs, .ref aLg, .ref aPd, .int ml, .ref aCo, .ref aEa])), (aRo, .inl (y4.1, 151, .inl RO)), (aLg, .inl (y4.1, 64, .inl u23)), (aCo, .inl (y4.1, 64, .inl CO))]) (va_runV (As := [.int (m_X8_brightest RO LG)]) (rest := []) ⟨hx, hb, hml, hown, hts⟩ (met_X8_lightAt l D y4 aM aRo aHi aSn aAs aLg aPd aCo aEa H.size ms sv ml RO (m_X8_brightest RO LG) hM (br_in RO LG)) (cwV 1 hts gX8_count_X8_lightAt rfl rfl rfl (by decide +kernel) ⟨Nat.le_of_ble_eq_true rfl, Nat.le_of_ble_eq_true rfl⟩) ⟨preW_blind, va_recv hK hP (ci := 7) (q0 := 0) rfl rfl, preW_at (hP.sub (ws' := [(aM, .inr (7, [.ref aRo, .ref aHi, .int ms, .ref aSn, .int (bI sv), .ref aAs, .ref aLg, .ref aPd, .int ml, .ref aCo, .ref aEa])), (aRo, .inl (y4.1, 151, .inl RO))]) [0, 1] rfl) hK (hD.sub (ws' := [(aM, .inr (7, [.ref aRo, .ref aHi, .int ms, .ref aSn, .int (bI sv), .ref aAs, .ref aLg, .ref aPd, .int ml, .ref aCo, .ref aEa])), (aRo, .inl (y4.1, 151, .inl RO))]) [0, 1] (by decide) rfl) hNW⟩ rfl rfl hl.1 rfl (lv_room (Nat.le_of_ble_eq_true rfl)) dX8_count_151 ⟨Nat.zero_le _, Nat.zero_le _⟩) hP hD hS hA [0, 1] [2, 3] [2, 3, 0, 1] rfl rfl (by decide) (by decide) (fun _ => rfl) (by decide) (fun r u24 H locs hw hP hD hS => ?_)
                            replace hw := Eq.symm hw
                            subst hw
                            have hP : va_P D vwCl [(aM, .inr (7, [.ref aRo, .ref aHi, .int ms, .ref aSn, .int (bI sv), .ref aAs, .ref aLg, .ref aPd, .int ml, .ref aCo, .ref aEa])), (aRo, .inl (y4.1, 151, .inl RO)), (aLg, .inl (y4.1, 64, .inl u23)), (aCo, .inl (y4.1, 64, .inl CO))] H := hP
                            have hD : va_D A [(aM, .inr (7, [.ref aRo, .ref aHi, .int ms, .ref aSn, .int (bI sv), .ref aAs, .ref aLg, .ref aPd, .int ml, .ref aCo, .ref aEa])), (aRo, .inl (y4.1, 151, .inl RO)), (aLg, .inl (y4.1, 64, .inl u23)), (aCo, .inl (y4.1, 64, .inl CO))] := hD
                            have em : m_X8_count ms ml RO LG CO wh = (m_X8_lightAt RO (m_X8_brightest RO LG)) := (by first | (simp only [m_X8_count, if_neg c1, if_neg c3, if_neg c5, if_neg c7, if_neg c9, if_neg c11, if_neg c13, if_neg c15, if_neg c17, if_neg c18, if_neg c19, if_neg c20, if_pos c22]; done) | (simp only [m_X8_count, if_neg c1, if_neg c3, if_neg c5, if_neg c7, if_neg c9, if_neg c11, if_neg c13, if_neg c15, if_neg c17, if_neg c18, if_neg c19, if_neg c20, if_pos c22]; rfl))
                            exact W.iret (v := (m_X8_lightAt RO (m_X8_brightest RO LG))) hx hb hr (fun t ht hW => ⟨⟨(m_X8_lightAt RO (m_X8_brightest RO LG)), (u23, CO), rfl, (by rw [em]), ⟨by rw [ht]; exact hP, by exact hD⟩⟩, hS.F ht⟩) hS.2.2 dX8_count_154
                          · by_cases c25 : wh = 13
                            · refine lv_tableIn (off := 154) (tgt := 155) hx hb dX8_count_1 (by rw [c25]; decide) (by rw [c25]; decide) (by rw [c25]; rfl) (by decide) ?_
                              refine lv_aload_n hx hb dX8_count_155 rfl (lv_at hl 0 rfl) ?_
                              refine callW_i (wr := [(aCo, .inl (y4.1, 64, .inl CO))]) (wn := fun u => [(aM, .inr (7, [.ref aRo, .ref aHi, .int ms, .ref aSn, .int (bI sv), .ref aAs, .ref aLg, .ref aPd, .int ml, .ref aCo, .ref aEa])), (aRo, .inl (y4.1, 151, .inl RO)), (aLg, .inl (y4.1, 64, .inl u)), (aCo, .inl (y4.1, 64, .inl CO))]) (va_runV (As := []) (rest := []) ⟨hx, hb, hml, hown, hts⟩ (met_X8_brightest l D y4 aM aRo aHi aSn aAs aLg aPd aCo aEa H.size ms sv ml RO LG hM) (cwV 0 hts gX8_count_X8_brightest rfl rfl rfl (by decide +kernel) ⟨Nat.le_of_ble_eq_true rfl, Nat.le_of_ble_eq_true rfl⟩) ⟨preW_blind, va_recv hK hP (ci := 7) (q0 := 0) rfl rfl, preW_at (hP.sub (ws' := [(aM, .inr (7, [.ref aRo, .ref aHi, .int ms, .ref aSn, .int (bI sv), .ref aAs, .ref aLg, .ref aPd, .int ml, .ref aCo, .ref aEa])), (aRo, .inl (y4.1, 151, .inl RO)), (aLg, .inl (y4.1, 64, .inl LG))]) [0, 1, 2] rfl) hK (hD.sub (ws' := [(aM, .inr (7, [.ref aRo, .ref aHi, .int ms, .ref aSn, .int (bI sv), .ref aAs, .ref aLg, .ref aPd, .int ml, .ref aCo, .ref aEa])), (aRo, .inl (y4.1, 151, .inl RO)), (aLg, .inl (y4.1, 64, .inl LG))]) [0, 1, 2] (by decide) rfl) hNW⟩ rfl rfl hl.1 rfl (lv_room (Nat.le_of_ble_eq_true rfl)) dX8_count_156 ⟨Nat.zero_le _, Nat.zero_le _⟩) hP hD hS hA [0, 1, 2] [3] [1, 2, 3, 0] rfl rfl (by decide) (by decide) (fun _ => rfl) (by decide) (fun r u26 H locs hw hP hD hS => ?_)
                              replace hw := Eq.symm hw
                              subst hw
                              have hP : va_P D vwCl [(aM, .inr (7, [.ref aRo, .ref aHi, .int ms, .ref aSn, .int (bI sv), .ref aAs, .ref aLg, .ref aPd, .int ml, .ref aCo, .ref aEa])), (aRo, .inl (y4.1, 151, .inl RO)), (aLg, .inl (y4.1, 64, .inl u26)), (aCo, .inl (y4.1, 64, .inl CO))] H := hP
                              have hD : va_D A [(aM, .inr (7, [.ref aRo, .ref aHi, .int ms, .ref aSn, .int (bI sv), .ref aAs, .ref aLg, .ref aPd, .int ml, .ref aCo, .ref aEa])), (aRo, .inl (y4.1, 151, .inl RO)), (aLg, .inl (y4.1, 64, .inl u26)), (aCo, .inl (y4.1, 64, .inl CO))] := hD
                              have em : m_X8_count ms ml RO LG CO wh = (m_X8_brightest RO LG) := (by first | (simp only [m_X8_count, if_neg c1, if_neg c3, if_neg c5, if_neg c7, if_neg c9, if_neg c11, if_neg c13, if_neg c15, if_neg c17, if_neg c18, if_neg c19, if_neg c20, if_neg c22, if_pos c25]; done) | (simp only [m_X8_count, if_neg c1, if_neg c3, if_neg c5, if_neg c7, if_neg c9, if_neg c11, if_neg c13, if_neg c15, if_neg c17, if_neg c18, if_neg c19, if_neg c20, if_neg c22, if_pos c25]; rfl))
                              exact W.iret (v := (m_X8_brightest RO LG)) hx hb hr (fun t ht hW => ⟨⟨(m_X8_brightest RO LG), (u26, CO), rfl, (by rw [em]), ⟨by rw [ht]; exact hP, by exact hD⟩⟩, hS.F ht⟩) hS.2.2 dX8_count_159
                            · by_cases c27 : wh = 14
                              · refine lv_tableIn (off := 159) (tgt := 160) hx hb dX8_count_1 (by rw [c27]; decide) (by rw [c27]; decide) (by rw [c27]; rfl) (by decide) ?_
                                refine lv_aload_n hx hb dX8_count_160 rfl (lv_at hl 0 rfl) ?_
                                refine va_get (ci := 7) (v := .ref aRo) (C := RX8) (T := TX8) (N := 11) hx hb hts iX8 hown hK hP 0 rfl rfl 0 (by decide) f7 (fun _ h9 => h9) rfl dX8_count_161 ?_
                                refine lv_sipush (v := 149) hx hb dX8_count_164 (by decide) ?_
                                refine lv_iload_n hx hb dX8_count_167 rfl (lv_at hl 1 rfl) ?_
                                refine lv_iadd hx hb dX8_count_168 ?_
                                refine lv_bipush (v := 14) hx hb dX8_count_169 (by decide) ?_
                                refine lv_isub hx hb dX8_count_171 ?_
                                refine va_iald hx hb hK hP 1 0 rfl rfl (by first | exact ct_14 (by assumption) | exact ct_15 (by assumption)) dX8_count_172 ?_
                                have em : m_X8_count ms ml RO LG CO wh = RO ((149 + wh) - 14).toNatClampNeg := (by first | (simp only [m_X8_count, if_neg c1, if_neg c3, if_neg c5, if_neg c7, if_neg c9, if_neg c11, if_neg c13, if_neg c15, if_neg c17, if_neg c18, if_neg c19, if_neg c20, if_neg c22, if_neg c25, if_pos c27]; done) | (simp only [m_X8_count, if_neg c1, if_neg c3, if_neg c5, if_neg c7, if_neg c9, if_neg c11, if_neg c13, if_neg c15, if_neg c17, if_neg c18, if_neg c19, if_neg c20, if_neg c22, if_neg c25, if_pos c27]; rfl))
                                exact W.iret (v := RO ((149 + wh) - 14).toNatClampNeg) hx hb hr (fun t ht hW => ⟨⟨RO ((149 + wh) - 14).toNatClampNeg, (LG, CO), rfl, (by rw [em]), ⟨by rw [ht]; exact hP, by exact hD⟩⟩, hS.F ht⟩) hS.2.2 dX8_count_173
                              · by_cases c28 : wh = 15
                                · refine lv_tableIn (off := 159) (tgt := 160) hx hb dX8_count_1 (by rw [c28]; decide) (by rw [c28]; decide) (by rw [c28]; rfl) (by decide) ?_
                                  refine lv_aload_n hx hb dX8_count_160 rfl (lv_at hl 0 rfl) ?_
                                  refine va_get (ci := 7) (v := .ref aRo) (C := RX8) (T := TX8) (N := 11) hx hb hts iX8 hown hK hP 0 rfl rfl 0 (by decide) f7 (fun _ h9 => h9) rfl dX8_count_161 ?_
                                  refine lv_sipush (v := 149) hx hb dX8_count_164 (by decide) ?_
                                  refine lv_iload_n hx hb dX8_count_167 rfl (lv_at hl 1 rfl) ?_
                                  refine lv_iadd hx hb dX8_count_168 ?_
                                  refine lv_bipush (v := 14) hx hb dX8_count_169 (by decide) ?_
                                  refine lv_isub hx hb dX8_count_171 ?_
                                  refine va_iald hx hb hK hP 1 0 rfl rfl (by first | exact ct_14 (by assumption) | exact ct_15 (by assumption)) dX8_count_172 ?_
                                  have em : m_X8_count ms ml RO LG CO wh = RO ((149 + wh) - 14).toNatClampNeg := (by first | (simp only [m_X8_count, if_neg c1, if_neg c3, if_neg c5, if_neg c7, if_neg c9, if_neg c11, if_neg c13, if_neg c15, if_neg c17, if_neg c18, if_neg c19, if_neg c20, if_neg c22, if_neg c25, if_neg c27, if_pos c28]; done) | (simp only [m_X8_count, if_neg c1, if_neg c3, if_neg c5, if_neg c7, if_neg c9, if_neg c11, if_neg c13, if_neg c15, if_neg c17, if_neg c18, if_neg c19, if_neg c20, if_neg c22, if_neg c25, if_neg c27, if_pos c28]; rfl))
                                  exact W.iret (v := RO ((149 + wh) - 14).toNatClampNeg) hx hb hr (fun t ht hW => ⟨⟨RO ((149 + wh) - 14).toNatClampNeg, (LG, CO), rfl, (by rw [em]), ⟨by rw [ht]; exact hP, by exact hD⟩⟩, hS.F ht⟩) hS.2.2 dX8_count_173
                                · by_cases c29 : wh = 16
                                  · refine lv_tableIn (off := 173) (tgt := 174) hx hb dX8_count_1 (by rw [c29]; decide) (by rw [c29]; decide) (by rw [c29]; rfl) (by decide) ?_
                                    refine lv_aload_n hx hb dX8_count_174 rfl (lv_at hl 0 rfl) ?_
                                    refine va_get (ci := 7) (v := .int ml) (C := RX8) (T := TX8) (N := 11) hx hb hts iX8 hown hK hP 0 rfl rfl 8 (by decide) f146 (fun _ h9 => h9) rfl dX8_count_175 ?_
                                    have em : m_X8_count ms ml RO LG CO wh = ml := (by first | (simp only [m_X8_count, if_neg c1, if_neg c3, if_neg c5, if_neg c7, if_neg c9, if_neg c11, if_neg c13, if_neg c15, if_neg c17, if_neg c18, if_neg c19, if_neg c20, if_neg c22, if_neg c25, if_neg c27, if_neg c28, if_pos c29]; done) | (simp only [m_X8_count, if_neg c1, if_neg c3, if_neg c5, if_neg c7, if_neg c9, if_neg c11, if_neg c13, if_neg c15, if_neg c17, if_neg c18, if_neg c19, if_neg c20, if_neg c22, if_neg c25, if_neg c27, if_neg c28, if_pos c29]; rfl))
                                    exact W.iret (v := ml) hx hb hr (fun t ht hW => ⟨⟨ml, (LG, CO), rfl, (by rw [em]), ⟨by rw [ht]; exact hP, by exact hD⟩⟩, hS.F ht⟩) hS.2.2 dX8_count_178
                                  · by_cases c30 : wh = 17
                                    · refine lv_tableIn (off := 178) (tgt := 179) hx hb dX8_count_1 (by rw [c30]; decide) (by rw [c30]; decide) (by rw [c30]; rfl) (by decide) ?_
                                      refine lv_aload_n hx hb dX8_count_179 rfl (lv_at hl 0 rfl) ?_
                                      refine va_get (ci := 7) (v := .int ms) (C := RX8) (T := TX8) (N := 11) hx hb hts iX8 hown hK hP 0 rfl rfl 2 (by decide) f41 (fun _ h9 => h9) rfl dX8_count_180 ?_
                                      have em : m_X8_count ms ml RO LG CO wh = ms := (by first | (simp only [m_X8_count, if_neg c1, if_neg c3, if_neg c5, if_neg c7, if_neg c9, if_neg c11, if_neg c13, if_neg c15, if_neg c17, if_neg c18, if_neg c19, if_neg c20, if_neg c22, if_neg c25, if_neg c27, if_neg c28, if_neg c29, if_pos c30]; done) | (simp only [m_X8_count, if_neg c1, if_neg c3, if_neg c5, if_neg c7, if_neg c9, if_neg c11, if_neg c13, if_neg c15, if_neg c17, if_neg c18, if_neg c19, if_neg c20, if_neg c22, if_neg c25, if_neg c27, if_neg c28, if_neg c29, if_pos c30]; rfl))
                                      exact W.iret (v := ms) hx hb hr (fun t ht hW => ⟨⟨ms, (LG, CO), rfl, (by rw [em]), ⟨by rw [ht]; exact hP, by exact hD⟩⟩, hS.F ht⟩) hS.2.2 dX8_count_183
                                    · refine lv_tableOut (tgt := 184) hx hb dX8_count_1 (sw_out 0 17 [0, 1, 2, 3, 4, 5, 6, 7, 8, 9, 10, 11, 12, 13, 14, 15, 16, 17] (by decide) (by simp only [List.mem_cons, List.not_mem_nil, or_false, forall_eq_or_imp, forall_eq]; exact ⟨c1, c3, c5, c7, c9, c11, c13, c15, c17, c18, c19, c20, c22, c25, c27, c28, c29, c30⟩) (by decide)) (by decide) ?_
                                      refine lv_iconst (v := (-1)) hx hb dX8_count_184 (by decide) ?_
                                      have em : m_X8_count ms ml RO LG CO wh = (-1 : Int32) := (by first | (simp only [m_X8_count, if_neg c1, if_neg c3, if_neg c5, if_neg c7, if_neg c9, if_neg c11, if_neg c13, if_neg c15, if_neg c17, if_neg c18, if_neg c19, if_neg c20, if_neg c22, if_neg c25, if_neg c27, if_neg c28, if_neg c29, if_neg c30]; done) | (simp only [m_X8_count, if_neg c1, if_neg c3, if_neg c5, if_neg c7, if_neg c9, if_neg c11, if_neg c13, if_neg c15, if_neg c17, if_neg c18, if_neg c19, if_neg c20, if_neg c22, if_neg c25, if_neg c27, if_neg c28, if_neg c29, if_neg c30]; rfl))
                                      exact W.iret (v := (-1)) hx hb hr (fun t ht hW => ⟨⟨(-1), (LG, CO), rfl, (by rw [em]), ⟨by rw [ht]; exact hP, by exact hD⟩⟩, hS.F ht⟩) hS.2.2 dX8_count_185
