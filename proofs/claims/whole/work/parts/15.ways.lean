def m_X7_bitOf (bs : Int64) (ce : Int32) : Int32 := Int64.toInt32 ((lushr64 bs ce) &&& 1)
set_option maxHeartbeats 4000000 in
set_option maxRecDepth 100000 in
theorem met_X7_bitOf (l : Launch) (bs : Int64) (ce : Int32) : Met l yX7_bitOf wsX7_bitOf ({ frames := 0, cells := 0, slots := 0, locals := 0 }) (va_Pc [.long bs, .int ce] (fun _ => True)) (va_Qi (fun (r : Int32) (_ : Unit) => r = (m_X7_bitOf bs ce)) (fun _ _ => True) (fun _ => False)) 0 0 (fun _ => False) := by
  refine Met.ofW (cc := cX7_bitOf) (maxL := 3) (ret := (some .int)) (by decide) rfl ?_
  intro p e s m args below meth c s₁ B hml hv
  obtain ⟨rfl, -⟩ := hv
  have hx := B.exec
  have hb := B.bytes
  have hr := B.returns
  have hts := atoms_spec (ws := wsX7_bitOf) B.pre
  have hown : s.vm.findClass RX7 = some m.cls := findClass_of_methodNamed B.named
  have hlocks := B.notSynchronized
  have hS : va_S (fun _ => False) s.heap s.heap [] := va_S.rf
  have hl := lv_entry ([.long bs, .int ce]) (n := 3) (Nat.le_of_ble_eq_true rfl)
  rw [lg_entry_eq]
  generalize (lg_sl ([.long bs, .int ce]) ++ List.replicate (3 - (lg_sl ([.long bs, .int ce])).length) Slot.unset).toArray = ls at hl ⊢
  have hl : lv_has ls 3 [(0, .long bs), (2, .int ce)] := hl
  refine startS (fun H locs hS => ?_) hS
  refine lv_lload_n hx hb dX7_bitOf_0 rfl (lv_at hl 0 rfl) ?_
  refine lv_iload_n hx hb dX7_bitOf_1 rfl (lv_at hl 1 rfl) ?_
  refine lv_lushr (v := lushr64 bs ce) hx hb dX7_bitOf_2 rfl ?_
  refine lv_lconst (v := 1) hx hb dX7_bitOf_3 (by decide) ?_
  refine lv_land hx hb dX7_bitOf_4 ?_
  refine lv_l2i (v := Int64.toInt32 ((lushr64 bs ce) &&& 1)) hx hb dX7_bitOf_5 rfl ?_
  have em : m_X7_bitOf bs ce = Int64.toInt32 ((lushr64 bs ce) &&& 1) := (by first | (simp only [m_X7_bitOf]; done) | (unfold m_X7_bitOf; rfl) | rfl)
  exact W.iret (v := Int64.toInt32 ((lushr64 bs ce) &&& 1)) hx hb hr (fun t ht hW => ⟨⟨Int64.toInt32 ((lushr64 bs ce) &&& 1), (), rfl, (by rw [em]), trivial⟩, hS.F ht⟩) hS.2.2 dX7_bitOf_6
def f_X6_weigh_2 (lm : Int32) (K : Nat → Int32) (LC : Nat → Int32) (LS : Nat → Int32) (LF : Nat → Int32) (k1 : Nat) (t2 : (Nat → Int32)) : (Nat → Int32) := (let v24 : Int32 := (if (m_X0_stopsFeet (K (nI k1).toNatClampNeg)) = false then 1 + (m_X2_at lm K LC LS LF (nI k1)) else (0 : Int32)); upd t2 (nI k1).toNatClampNeg v24)
def m_X6_weigh (PR : Nat → Int32) (lm : Int32) (K : Nat → Int32) (LC : Nat → Int32) (LS : Nat → Int32) (LF : Nat → Int32) : (Nat → Int32) := (let t39 : (Nat → Int32) := itr (f_X6_weigh_2 lm K LC LS LF) 64 PR; t39)
set_option maxHeartbeats 4000000 in
set_option maxRecDepth 100000 in
theorem met_X6_weigh (l : Launch) (D : va_G) (y4 : vT) (aW aPr aLe aSe aRe aG aLi aA aSc aK aC aS aF : Nat) (sz : Nat) (PR : Nat → Int32) (L0 : Int32) (L1 : Int32) (L2 : Int32) (L3 : Int32) (L4 : Int32) (L5 : Int32) (L6 : Int32) (lm : Int32) (wk : Int32) (stp : Int32) (dm : Int32) (tc : Int32) (rm : Int64) (K : Nat → Int32) (LC : Nat → Int32) (LS : Nat → Int32) (LF : Nat → Int32) (hlm : 0 ≤ lm.toInt ∧ lm.toInt ≤ (6 : Nat)) (hLC : ∀ i : Nat, i < lm.toNatClampNeg → vp_in (LC (nI i).toNatClampNeg) 64) : Met l yX6_weigh wsX6_weigh ({ frames := 4, cells := 0, slots := 0, locals := 98 }) (va_Pc [.ref aW, .ref aSc, .ref aG] (PreW D y4 [(aW, .inr (5, [.ref aPr, .ref aLe, .ref aSe, .ref aRe])), (aPr, .inl (y4.1, 64, .inl PR)), (aG, .inr (1, [.ref aLi, .ref aA])), (aLi, .inr (2, [.int L0, .int L1, .int L2, .int L3, .int L4, .int L5, .int L6])), (aSc, .inr (4, [.ref aK, .ref aC, .ref aS, .ref aF, .int lm, .int wk, .int stp, .int dm, .int tc, .long rm])), (aK, .inl (y4.1, 64, .inl K)), (aC, .inl (y4.1, 6, .inl LC)), (aS, .inl (y4.1, 6, .inl LS)), (aF, .inl (y4.1, 6, .inl LF))] sz)) (va_Qv (fun (_ : Int32 × Int32 × Int32 × Int32 × Int32 × Int32 × Int32) => True) (fun u t => PostW D (va_A [(aW, .inr (5, [.ref aPr, .ref aLe, .ref aSe, .ref aRe])), (aPr, .inl (y4.1, 64, .inl PR)), (aG, .inr (1, [.ref aLi, .ref aA])), (aLi, .inr (2, [.int L0, .int L1, .int L2, .int L3, .int L4, .int L5, .int L6])), (aSc, .inr (4, [.ref aK, .ref aC, .ref aS, .ref aF, .int lm, .int wk, .int stp, .int dm, .int tc, .long rm])), (aK, .inl (y4.1, 64, .inl K)), (aC, .inl (y4.1, 6, .inl LC)), (aS, .inl (y4.1, 6, .inl LS)), (aF, .inl (y4.1, 6, .inl LF))] sz) [(aW, .inr (5, [.ref aPr, .ref aLe, .ref aSe, .ref aRe])), (aPr, .inl (y4.1, 64, .inl (m_X6_weigh PR lm K LC LS LF))), (aG, .inr (1, [.ref aLi, .ref aA])), (aLi, .inr (2, [.int u.1, .int u.2.1, .int u.2.2.1, .int u.2.2.2.1, .int u.2.2.2.2.1, .int u.2.2.2.2.2.1, .int u.2.2.2.2.2.2])), (aSc, .inr (4, [.ref aK, .ref aC, .ref aS, .ref aF, .int lm, .int wk, .int stp, .int dm, .int tc, .long rm])), (aK, .inl (y4.1, 64, .inl K)), (aC, .inl (y4.1, 6, .inl LC)), (aS, .inl (y4.1, 6, .inl LS)), (aF, .inl (y4.1, 6, .inl LF))] t) (va_A [(aW, .inr (5, [.ref aPr, .ref aLe, .ref aSe, .ref aRe])), (aPr, .inl (y4.1, 64, .inl PR)), (aG, .inr (1, [.ref aLi, .ref aA])), (aLi, .inr (2, [.int L0, .int L1, .int L2, .int L3, .int L4, .int L5, .int L6])), (aSc, .inr (4, [.ref aK, .ref aC, .ref aS, .ref aF, .int lm, .int wk, .int stp, .int dm, .int tc, .long rm])), (aK, .inl (y4.1, 64, .inl K)), (aC, .inl (y4.1, 6, .inl LC)), (aS, .inl (y4.1, 6, .inl LS)), (aF, .inl (y4.1, 6, .inl LF))] sz)) 0 0 (va_A [(aW, .inr (5, [.ref aPr, .ref aLe, .ref aSe, .ref aRe])), (aPr, .inl (y4.1, 64, .inl PR)), (aG, .inr (1, [.ref aLi, .ref aA])), (aLi, .inr (2, [.int L0, .int L1, .int L2, .int L3, .int L4, .int L5, .int L6])), (aSc, .inr (4, [.ref aK, .ref aC, .ref aS, .ref aF, .int lm, .int wk, .int stp, .int dm, .int tc, .long rm])), (aK, .inl (y4.1, 64, .inl K)), (aC, .inl (y4.1, 6, .inl LC)), (aS, .inl (y4.1, 6, .inl LS)), (aF, .inl (y4.1, 6, .inl LF))] sz) := by
  refine Met.ofW (cc := cX6_weigh) (maxL := 4) (ret := none) (by decide) rfl ?_
  intro p e s m args below meth c s₁ B hml hv
  obtain ⟨rfl, hsz, hP, hK, hD0, hNW⟩ := hv
  have hx := B.exec
  have hb := B.bytes
  have hr := B.returns
  have hts := atoms_spec (ws := wsX6_weigh) B.pre
  have hown : s.vm.findClass RX6 = some m.cls := findClass_of_methodNamed B.named
  have hlocks := B.notSynchronized
  subst hsz
  have hD := hD0.self (sz := s.heap.size)
  generalize hAe : va_A [(aW, .inr (5, [.ref aPr, .ref aLe, .ref aSe, .ref aRe])), (aPr, .inl (y4.1, 64, .inl PR)), (aG, .inr (1, [.ref aLi, .ref aA])), (aLi, .inr (2, [.int L0, .int L1, .int L2, .int L3, .int L4, .int L5, .int L6])), (aSc, .inr (4, [.ref aK, .ref aC, .ref aS, .ref aF, .int lm, .int wk, .int stp, .int dm, .int tc, .long rm])), (aK, .inl (y4.1, 64, .inl K)), (aC, .inl (y4.1, 6, .inl LC)), (aS, .inl (y4.1, 6, .inl LS)), (aF, .inl (y4.1, 6, .inl LF))] s.heap.size = A at hD ⊢
  have hA : ∀ q : Nat, s.heap.size ≤ q → A q := fun q h => by rw [← hAe]; exact Or.inr h
  have hS : va_S A s.heap s.heap [] := va_S.rf
  have hl := lv_entry ([.ref aW, .ref aSc, .ref aG]) (n := 4) (Nat.le_of_ble_eq_true rfl)
  rw [lg_entry_eq]
  generalize (lg_sl ([.ref aW, .ref aSc, .ref aG]) ++ List.replicate (4 - (lg_sl ([.ref aW, .ref aSc, .ref aG])).length) Slot.unset).toArray = ls at hl ⊢
  have hl : lv_has ls 4 [(0, .ref aW), (1, .ref aSc), (2, .ref aG)] := hl
  have f9 := hts (.fieldLink RX6 9 "PillarLight$Ways" "price" "[I") (List.mem_of_getElem? (i := 1) rfl)
  have iX6 : ∀ w ∈ wsX60, w ∈ wsX6_weigh := fun _ h => List.mem_cons_of_mem _ (List.mem_append_left _ (List.mem_append_left _ (List.mem_append_left _ (List.mem_append_right _ h))))
  have f25 := hts (.fieldLink RX6 25 "PillarLight$Scene" "kinds" "[I") (List.mem_of_getElem? (i := 2) rfl)
  have iX5 : ∀ w ∈ wsX50, w ∈ wsX6_weigh := fun _ h => List.mem_cons_of_mem _ (List.mem_append_left _ (List.mem_append_left _ (List.mem_append_right _ h)))
  refine startW (fun H locs hP hS => ?_) hP hS
  refine lv_iconst (v := 0) hx hb dX6_weigh_0 (by decide) ?_
  refine lv_istore_n (lv' := [(3, .int 0), (0, .ref aW), (1, .ref aSc), (2, .ref aG)]) hx hb dX6_weigh_1 rfl hl (by decide) rfl (fun ls hl => ?_)
  refine loopW (σ := (Nat → Int32)) 2 (f_X6_weigh_2 lm K LC LS LF) 64 PR (fun k1 t2 H locs ls => ∃ h14 : Int32, ∃ h15 : Int32, ∃ h16 : Int32, ∃ h17 : Int32, ∃ h18 : Int32, ∃ h19 : Int32, ∃ h20 : Int32, va_P D vwCl [(aW, .inr (5, [.ref aPr, .ref aLe, .ref aSe, .ref aRe])), (aPr, .inl (y4.1, 64, .inl t2)), (aG, .inr (1, [.ref aLi, .ref aA])), (aLi, .inr (2, [.int h14, .int h15, .int h16, .int h17, .int h18, .int h19, .int h20])), (aSc, .inr (4, [.ref aK, .ref aC, .ref aS, .ref aF, .int lm, .int wk, .int stp, .int dm, .int tc, .long rm])), (aK, .inl (y4.1, 64, .inl K)), (aC, .inl (y4.1, 6, .inl LC)), (aS, .inl (y4.1, 6, .inl LS)), (aF, .inl (y4.1, 6, .inl LF))] H ∧ va_D A [(aW, .inr (5, [.ref aPr, .ref aLe, .ref aSe, .ref aRe])), (aPr, .inl (y4.1, 64, .inl t2)), (aG, .inr (1, [.ref aLi, .ref aA])), (aLi, .inr (2, [.int h14, .int h15, .int h16, .int h17, .int h18, .int h19, .int h20])), (aSc, .inr (4, [.ref aK, .ref aC, .ref aS, .ref aF, .int lm, .int wk, .int stp, .int dm, .int tc, .long rm])), (aK, .inl (y4.1, 64, .inl K)), (aC, .inl (y4.1, 6, .inl LC)), (aS, .inl (y4.1, 6, .inl LS)), (aF, .inl (y4.1, 6, .inl LF))] ∧ va_S A s.heap H locs ∧ lv_has ls 4 [(3, .int (nI k1)), (0, .ref aW), (1, .ref aSc), (2, .ref aG)]) ⟨L0, L1, L2, L3, L4, L5, L6, hP, hD, hS, lv_sub hl [0, 1, 2, 3] rfl⟩ (fun t39 H locs ls et39 hh => ?_) (fun k1 t2 hkk1 hek1 ihk1 H locs ls hh => ?_)
  · obtain ⟨h47, h48, h49, h50, h51, h52, h53, hP, hD, hS, hl⟩ := hh
    have hP : va_P D vwCl [(aW, .inr (5, [.ref aPr, .ref aLe, .ref aSe, .ref aRe])), (aPr, .inl (y4.1, 64, .inl t39)), (aG, .inr (1, [.ref aLi, .ref aA])), (aLi, .inr (2, [.int h47, .int h48, .int h49, .int h50, .int h51, .int h52, .int h53])), (aSc, .inr (4, [.ref aK, .ref aC, .ref aS, .ref aF, .int lm, .int wk, .int stp, .int dm, .int tc, .long rm])), (aK, .inl (y4.1, 64, .inl K)), (aC, .inl (y4.1, 6, .inl LC)), (aS, .inl (y4.1, 6, .inl LS)), (aF, .inl (y4.1, 6, .inl LF))] H := hP
    have hD : va_D A [(aW, .inr (5, [.ref aPr, .ref aLe, .ref aSe, .ref aRe])), (aPr, .inl (y4.1, 64, .inl t39)), (aG, .inr (1, [.ref aLi, .ref aA])), (aLi, .inr (2, [.int h47, .int h48, .int h49, .int h50, .int h51, .int h52, .int h53])), (aSc, .inr (4, [.ref aK, .ref aC, .ref aS, .ref aF, .int lm, .int wk, .int stp, .int dm, .int tc, .long rm])), (aK, .inl (y4.1, 64, .inl K)), (aC, .inl (y4.1, 6, .inl LC)), (aS, .inl (y4.1, 6, .inl LS)), (aF, .inl (y4.1, 6, .inl LF))] := hD
    have hl : lv_has ls 4 [(3, .int (nI 64)), (0, .ref aW), (1, .ref aSc), (2, .ref aG)] := hl
    refine lv_iload_n hx hb dX6_weigh_2 rfl (lv_at hl 0 rfl) ?_
    refine lv_bipush (v := 64) hx hb dX6_weigh_3 (by decide) ?_
    refine lv_icmp_ge (tgt := 44) hx hb dX6_weigh_5 (by decide) (fun c54 => ?_) (fun c54 => absurd (nI_le (a := 64) (by omega) (by omega)) c54)
    have em : m_X6_weigh PR lm K LC LS LF = t39 := (by replace et39 := Eq.symm et39; subst et39; first | (simp only [m_X6_weigh]; done) | (unfold m_X6_weigh; rfl) | rfl)
    exact W.vret hx hb hr (fun t ht hW => ⟨⟨(h47, h48, h49, h50, h51, h52, h53), rfl, trivial, ⟨by rw [ht, em]; exact hP, by rw [em]; exact hD⟩⟩, hS.F ht⟩) hS.2.2 dX6_weigh_44
  · obtain ⟨h14, h15, h16, h17, h18, h19, h20, hP, hD, hS, hl⟩ := hh
    have hP : va_P D vwCl [(aW, .inr (5, [.ref aPr, .ref aLe, .ref aSe, .ref aRe])), (aPr, .inl (y4.1, 64, .inl t2)), (aG, .inr (1, [.ref aLi, .ref aA])), (aLi, .inr (2, [.int h14, .int h15, .int h16, .int h17, .int h18, .int h19, .int h20])), (aSc, .inr (4, [.ref aK, .ref aC, .ref aS, .ref aF, .int lm, .int wk, .int stp, .int dm, .int tc, .long rm])), (aK, .inl (y4.1, 64, .inl K)), (aC, .inl (y4.1, 6, .inl LC)), (aS, .inl (y4.1, 6, .inl LS)), (aF, .inl (y4.1, 6, .inl LF))] H := hP
    have hD : va_D A [(aW, .inr (5, [.ref aPr, .ref aLe, .ref aSe, .ref aRe])), (aPr, .inl (y4.1, 64, .inl t2)), (aG, .inr (1, [.ref aLi, .ref aA])), (aLi, .inr (2, [.int h14, .int h15, .int h16, .int h17, .int h18, .int h19, .int h20])), (aSc, .inr (4, [.ref aK, .ref aC, .ref aS, .ref aF, .int lm, .int wk, .int stp, .int dm, .int tc, .long rm])), (aK, .inl (y4.1, 64, .inl K)), (aC, .inl (y4.1, 6, .inl LC)), (aS, .inl (y4.1, 6, .inl LS)), (aF, .inl (y4.1, 6, .inl LF))] := hD
    have hl : lv_has ls 4 [(3, .int (nI k1)), (0, .ref aW), (1, .ref aSc), (2, .ref aG)] := hl
    refine lv_iload_n hx hb dX6_weigh_2 rfl (lv_at hl 0 rfl) ?_
    refine lv_bipush (v := 64) hx hb dX6_weigh_3 (by decide) ?_
    refine lv_icmp_ge (tgt := 44) hx hb dX6_weigh_5 (by decide) (fun c21 => absurd c21 (nI_ge (b := 64) (by omega) (by omega))) (fun c21 => ?_)
    refine lv_aload_n hx hb dX6_weigh_8 rfl (lv_at hl 1 rfl) ?_
    refine va_get (ci := 5) (v := .ref aPr) (C := RX6) (T := TX6) (N := 4) hx hb hts iX6 hown hK hP 0 rfl rfl 0 (by decide) f9 (fun _ h9 => h9) rfl dX6_weigh_9 ?_
    refine lv_iload_n hx hb dX6_weigh_12 rfl (lv_at hl 0 rfl) ?_
    refine lv_aload_n hx hb dX6_weigh_13 rfl (lv_at hl 2 rfl) ?_
    refine va_get (ci := 4) (v := .ref aK) (C := RX5) (T := TX5) (N := 10) hx hb hts iX5 hown hK hP 4 rfl rfl 0 (by decide) f25 (fun _ h9 => h9) rfl dX6_weigh_14 ?_
    refine lv_iload_n hx hb dX6_weigh_17 rfl (lv_at hl 0 rfl) ?_
    refine va_iald hx hb hK hP 5 0 rfl rfl (vp_in_nI (by omega) (by decide)) dX6_weigh_18 ?_
    refine callK_i (va_runS (As := [.int (K (nI k1).toNatClampNeg)]) (rest := [.int (nI k1), .ref aPr]) ⟨hx, hb, hml, hown, hts⟩ (met_X0_stopsFeet l  (K (nI k1).toNatClampNeg)) (va_cwS 1 hts gX6_weigh_X0_stopsFeet rfl rfl rfl (by decide +kernel) ⟨Nat.le_of_ble_eq_true rfl, Nat.le_of_ble_eq_true rfl⟩) ⟨preS_blind, fun U hU hW => ⟨rfl, trivial⟩⟩ rfl rfl hl.1 rfl (lv_room (Nat.le_of_ble_eq_true rfl)) dX6_weigh_19 ⟨Nat.zero_le _, Nat.zero_le _⟩) hP hS (fun r u H locs hw hP hS => ?_)
    replace hw := Eq.symm hw
    subst hw
    refine cutW (X := Int32) 37 (fun x H locs ls => ∃ h25 : Int32, ∃ h26 : Int32, ∃ h27 : Int32, ∃ h28 : Int32, ∃ h29 : Int32, ∃ h30 : Int32, ∃ h31 : Int32, x = (if (m_X0_stopsFeet (K (nI k1).toNatClampNeg)) = false then 1 + (m_X2_at lm K LC LS LF (nI k1)) else (0 : Int32)) ∧ va_P D vwCl [(aW, .inr (5, [.ref aPr, .ref aLe, .ref aSe, .ref aRe])), (aPr, .inl (y4.1, 64, .inl t2)), (aG, .inr (1, [.ref aLi, .ref aA])), (aLi, .inr (2, [.int h25, .int h26, .int h27, .int h28, .int h29, .int h30, .int h31])), (aSc, .inr (4, [.ref aK, .ref aC, .ref aS, .ref aF, .int lm, .int wk, .int stp, .int dm, .int tc, .long rm])), (aK, .inl (y4.1, 64, .inl K)), (aC, .inl (y4.1, 6, .inl LC)), (aS, .inl (y4.1, 6, .inl LS)), (aF, .inl (y4.1, 6, .inl LF))] H ∧ va_D A [(aW, .inr (5, [.ref aPr, .ref aLe, .ref aSe, .ref aRe])), (aPr, .inl (y4.1, 64, .inl t2)), (aG, .inr (1, [.ref aLi, .ref aA])), (aLi, .inr (2, [.int h25, .int h26, .int h27, .int h28, .int h29, .int h30, .int h31])), (aSc, .inr (4, [.ref aK, .ref aC, .ref aS, .ref aF, .int lm, .int wk, .int stp, .int dm, .int tc, .long rm])), (aK, .inl (y4.1, 64, .inl K)), (aC, .inl (y4.1, 6, .inl LC)), (aS, .inl (y4.1, 6, .inl LS)), (aF, .inl (y4.1, 6, .inl LF))] ∧ va_S A s.heap H locs ∧ lv_has ls 4 [(3, .int (nI k1)), (0, .ref aW), (1, .ref aSc), (2, .ref aG)]) (fun x => [.int x, .int (nI k1), .ref aPr]) ?_ (fun K37 => ?_)
    · rintro v24 H locs ls ⟨h25, h26, h27, h28, h29, h30, h31, ev24, hP, hD, hS, hl⟩
      have ev24 : v24 = (if (m_X0_stopsFeet (K (nI k1).toNatClampNeg)) = false then 1 + (m_X2_at lm K LC LS LF (nI k1)) else (0 : Int32)) := ev24
      have hP : va_P D vwCl [(aW, .inr (5, [.ref aPr, .ref aLe, .ref aSe, .ref aRe])), (aPr, .inl (y4.1, 64, .inl t2)), (aG, .inr (1, [.ref aLi, .ref aA])), (aLi, .inr (2, [.int h25, .int h26, .int h27, .int h28, .int h29, .int h30, .int h31])), (aSc, .inr (4, [.ref aK, .ref aC, .ref aS, .ref aF, .int lm, .int wk, .int stp, .int dm, .int tc, .long rm])), (aK, .inl (y4.1, 64, .inl K)), (aC, .inl (y4.1, 6, .inl LC)), (aS, .inl (y4.1, 6, .inl LS)), (aF, .inl (y4.1, 6, .inl LF))] H := hP
      have hD : va_D A [(aW, .inr (5, [.ref aPr, .ref aLe, .ref aSe, .ref aRe])), (aPr, .inl (y4.1, 64, .inl t2)), (aG, .inr (1, [.ref aLi, .ref aA])), (aLi, .inr (2, [.int h25, .int h26, .int h27, .int h28, .int h29, .int h30, .int h31])), (aSc, .inr (4, [.ref aK, .ref aC, .ref aS, .ref aF, .int lm, .int wk, .int stp, .int dm, .int tc, .long rm])), (aK, .inl (y4.1, 64, .inl K)), (aC, .inl (y4.1, 6, .inl LC)), (aS, .inl (y4.1, 6, .inl LS)), (aF, .inl (y4.1, 6, .inl LF))] := hD
      have hl : lv_has ls 4 [(3, .int (nI k1)), (0, .ref aW), (1, .ref aSc), (2, .ref aG)] := hl
      refine va_iast hx hb hK hP hD hS 1 0 rfl rfl (vp_in_nI (by omega) (by decide)) dX6_weigh_37 (fun H locs hP hD hS => ?_)
      have hP : va_P D vwCl [(aW, .inr (5, [.ref aPr, .ref aLe, .ref aSe, .ref aRe])), (aPr, .inl (y4.1, 64, .inl (upd t2 (nI k1).toNatClampNeg v24))), (aG, .inr (1, [.ref aLi, .ref aA])), (aLi, .inr (2, [.int h25, .int h26, .int h27, .int h28, .int h29, .int h30, .int h31])), (aSc, .inr (4, [.ref aK, .ref aC, .ref aS, .ref aF, .int lm, .int wk, .int stp, .int dm, .int tc, .long rm])), (aK, .inl (y4.1, 64, .inl K)), (aC, .inl (y4.1, 6, .inl LC)), (aS, .inl (y4.1, 6, .inl LS)), (aF, .inl (y4.1, 6, .inl LF))] H := hP
      have hD : va_D A [(aW, .inr (5, [.ref aPr, .ref aLe, .ref aSe, .ref aRe])), (aPr, .inl (y4.1, 64, .inl (upd t2 (nI k1).toNatClampNeg v24))), (aG, .inr (1, [.ref aLi, .ref aA])), (aLi, .inr (2, [.int h25, .int h26, .int h27, .int h28, .int h29, .int h30, .int h31])), (aSc, .inr (4, [.ref aK, .ref aC, .ref aS, .ref aF, .int lm, .int wk, .int stp, .int dm, .int tc, .long rm])), (aK, .inl (y4.1, 64, .inl K)), (aC, .inl (y4.1, 6, .inl LC)), (aS, .inl (y4.1, 6, .inl LS)), (aF, .inl (y4.1, 6, .inl LF))] := hD
      refine lv_iinc (v := nI (k1 + 1)) (lv' := [(3, .int (nI (k1 + 1))), (0, .ref aW), (1, .ref aSc), (2, .ref aG)]) hx hb dX6_weigh_38 hl (k := 0) rfl (nI_1 _) (by decide) rfl (fun ls hl => ?_)
      refine lv_goto (tgt := 2) hx hb dX6_weigh_41 (by decide) ?_
      have ef : (f_X6_weigh_2 lm K LC LS LF) k1 t2 = upd t2 (nI k1).toNatClampNeg v24 := (by replace ev24 := Eq.symm ev24; subst ev24; first | (simp only [f_X6_weigh_2]; done) | (unfold f_X6_weigh_2; rfl) | rfl)
      rw [ef] at ihk1
      exact ihk1 H locs ls ⟨h25, h26, h27, h28, h29, h30, h31, hP, hD, hS, lv_sub hl [0, 1, 2, 3] rfl⟩
    · refine lb_if_eq (tgt := 29) hx hb dX6_weigh_22 (by decide) (fun c22 => ?_) (fun c22 => ?_)
      · refine lv_iconst (v := 1) hx hb dX6_weigh_29 (by decide) ?_
        refine lv_aload_n hx hb dX6_weigh_30 rfl (lv_at hl 3 rfl) ?_
        refine lv_aload_n hx hb dX6_weigh_31 rfl (lv_at hl 2 rfl) ?_
        refine lv_iload_n hx hb dX6_weigh_32 rfl (lv_at hl 0 rfl) ?_
        refine callW_i (wr := [(aW, .inr (5, [.ref aPr, .ref aLe, .ref aSe, .ref aRe])), (aPr, .inl (y4.1, 64, .inl t2))]) (wn := fun u => [(aW, .inr (5, [.ref aPr, .ref aLe, .ref aSe, .ref aRe])), (aPr, .inl (y4.1, 64, .inl t2)), (aG, .inr (1, [.ref aLi, .ref aA])), (aLi, .inr (2, [.int u.1, .int u.2.1, .int u.2.2.1, .int u.2.2.2.1, .int u.2.2.2.2.1, .int u.2.2.2.2.2.1, .int u.2.2.2.2.2.2])), (aSc, .inr (4, [.ref aK, .ref aC, .ref aS, .ref aF, .int lm, .int wk, .int stp, .int dm, .int tc, .long rm])), (aK, .inl (y4.1, 64, .inl K)), (aC, .inl (y4.1, 6, .inl LC)), (aS, .inl (y4.1, 6, .inl LS)), (aF, .inl (y4.1, 6, .inl LF))]) (va_runV (As := [.ref aSc, .int (nI k1)]) (rest := [.int 1, .int (nI k1), .ref aPr]) ⟨hx, hb, hml, hown, hts⟩ (met_X2_at l D y4 aG aLi aA aSc aK aC aS aF H.size h14 h15 h16 h17 h18 h19 h20 lm wk stp dm tc rm K LC LS LF (nI k1) hlm hLC (vp_in_nI (by omega) (by decide))) (cwV 2 hts gX6_weigh_X2_at rfl rfl rfl (by decide +kernel) ⟨Nat.le_of_ble_eq_true rfl, Nat.le_of_ble_eq_true rfl⟩) ⟨preW_blind, va_recv hK hP (ci := 1) (q0 := 2) rfl rfl, preW_at (hP.sub (ws' := [(aG, .inr (1, [.ref aLi, .ref aA])), (aLi, .inr (2, [.int h14, .int h15, .int h16, .int h17, .int h18, .int h19, .int h20])), (aSc, .inr (4, [.ref aK, .ref aC, .ref aS, .ref aF, .int lm, .int wk, .int stp, .int dm, .int tc, .long rm])), (aK, .inl (y4.1, 64, .inl K)), (aC, .inl (y4.1, 6, .inl LC)), (aS, .inl (y4.1, 6, .inl LS)), (aF, .inl (y4.1, 6, .inl LF))]) [2, 3, 4, 5, 6, 7, 8] rfl) hK (hD.sub (ws' := [(aG, .inr (1, [.ref aLi, .ref aA])), (aLi, .inr (2, [.int h14, .int h15, .int h16, .int h17, .int h18, .int h19, .int h20])), (aSc, .inr (4, [.ref aK, .ref aC, .ref aS, .ref aF, .int lm, .int wk, .int stp, .int dm, .int tc, .long rm])), (aK, .inl (y4.1, 64, .inl K)), (aC, .inl (y4.1, 6, .inl LC)), (aS, .inl (y4.1, 6, .inl LS)), (aF, .inl (y4.1, 6, .inl LF))]) [2, 3, 4, 5, 6, 7, 8] (by decide) rfl) hNW⟩ rfl rfl hl.1 rfl (lv_room (Nat.le_of_ble_eq_true rfl)) dX6_weigh_33 ⟨Nat.zero_le _, Nat.zero_le _⟩) hP hD hS hA [2, 3, 4, 5, 6, 7, 8] [0, 1] [0, 1, 2, 3, 4, 5, 6, 7, 8] rfl rfl (by decide) (by decide) (fun _ => rfl) (by decide) (fun r u23 H locs hw hP hD hS => ?_)
        replace hw := Eq.symm hw
        subst hw
        have hP : va_P D vwCl [(aW, .inr (5, [.ref aPr, .ref aLe, .ref aSe, .ref aRe])), (aPr, .inl (y4.1, 64, .inl t2)), (aG, .inr (1, [.ref aLi, .ref aA])), (aLi, .inr (2, [.int u23.1, .int u23.2.1, .int u23.2.2.1, .int u23.2.2.2.1, .int u23.2.2.2.2.1, .int u23.2.2.2.2.2.1, .int u23.2.2.2.2.2.2])), (aSc, .inr (4, [.ref aK, .ref aC, .ref aS, .ref aF, .int lm, .int wk, .int stp, .int dm, .int tc, .long rm])), (aK, .inl (y4.1, 64, .inl K)), (aC, .inl (y4.1, 6, .inl LC)), (aS, .inl (y4.1, 6, .inl LS)), (aF, .inl (y4.1, 6, .inl LF))] H := hP
        have hD : va_D A [(aW, .inr (5, [.ref aPr, .ref aLe, .ref aSe, .ref aRe])), (aPr, .inl (y4.1, 64, .inl t2)), (aG, .inr (1, [.ref aLi, .ref aA])), (aLi, .inr (2, [.int u23.1, .int u23.2.1, .int u23.2.2.1, .int u23.2.2.2.1, .int u23.2.2.2.2.1, .int u23.2.2.2.2.2.1, .int u23.2.2.2.2.2.2])), (aSc, .inr (4, [.ref aK, .ref aC, .ref aS, .ref aF, .int lm, .int wk, .int stp, .int dm, .int tc, .long rm])), (aK, .inl (y4.1, 64, .inl K)), (aC, .inl (y4.1, 6, .inl LC)), (aS, .inl (y4.1, 6, .inl LS)), (aF, .inl (y4.1, 6, .inl LF))] := hD
        refine lv_iadd hx hb dX6_weigh_36 ?_
        exact K37 (1 + (m_X2_at lm K LC LS LF (nI k1))) H locs ls ⟨u23.1, u23.2.1, u23.2.2.1, u23.2.2.2.1, u23.2.2.2.2.1, u23.2.2.2.2.2.1, u23.2.2.2.2.2.2, (by first | (simp only [if_pos c22]; done) | (simp only [if_pos c22]; rfl) | rfl), hP, hD, hS, lv_sub hl [0, 1, 2, 3] rfl⟩
      · refine lv_iconst (v := 0) hx hb dX6_weigh_25 (by decide) ?_
        refine lv_goto (tgt := 37) hx hb dX6_weigh_26 (by decide) ?_
        exact K37 (0 : Int32) H locs ls ⟨h14, h15, h16, h17, h18, h19, h20, (by first | (simp only [if_neg c22]; done) | (simp only [if_neg c22]; rfl) | rfl), hP, hD, hS, lv_sub hl [0, 1, 2, 3] rfl⟩
def f_X6_startFrom_2 (fr : Int32) (k1 : Nat) (t2 : (Nat → Int32) × (Nat → Int32)) : (Nat → Int32) × (Nat → Int32) := (let v8 : Int32 := (if (nI k1) = fr then (0 : Int32) else (1000000 : Int32)); (upd t2.1 (nI k1).toNatClampNeg v8, upd t2.2 (nI k1).toNatClampNeg (vp_nar .boolean 0)))
def m_X6_startFrom (LE : Nat → Int32) (SE : Nat → Int32) (fr : Int32) : (Nat → Int32) × (Nat → Int32) := (let t9 : (Nat → Int32) × (Nat → Int32) := itr (f_X6_startFrom_2 fr) 64 (LE, SE); (t9.1, t9.2))
set_option maxHeartbeats 4000000 in
set_option maxRecDepth 100000 in
theorem met_X6_startFrom (l : Launch) (D : va_G) (y4 : vT) (aW aPr aLe aSe aRe : Nat) (sz : Nat) (LE : Nat → Int32) (SE : Nat → Int32) (fr : Int32) : Met l yX6_startFrom wsX6_startFrom ({ frames := 0, cells := 0, slots := 0, locals := 0 }) (va_Pc [.ref aW, .int fr] (PreW D y4 [(aW, .inr (5, [.ref aPr, .ref aLe, .ref aSe, .ref aRe])), (aLe, .inl (y4.1, 64, .inl LE)), (aSe, .inl (y4.2.2.1, 64, .inl SE))] sz)) (va_Qv (fun (_ : Unit) => True) (fun _ t => PostW D (va_A [(aW, .inr (5, [.ref aPr, .ref aLe, .ref aSe, .ref aRe])), (aLe, .inl (y4.1, 64, .inl LE)), (aSe, .inl (y4.2.2.1, 64, .inl SE))] sz) [(aW, .inr (5, [.ref aPr, .ref aLe, .ref aSe, .ref aRe])), (aLe, .inl (y4.1, 64, .inl ((m_X6_startFrom LE SE fr).1))), (aSe, .inl (y4.2.2.1, 64, .inl ((m_X6_startFrom LE SE fr).2)))] t) (va_A [(aW, .inr (5, [.ref aPr, .ref aLe, .ref aSe, .ref aRe])), (aLe, .inl (y4.1, 64, .inl LE)), (aSe, .inl (y4.2.2.1, 64, .inl SE))] sz)) 0 0 (va_A [(aW, .inr (5, [.ref aPr, .ref aLe, .ref aSe, .ref aRe])), (aLe, .inl (y4.1, 64, .inl LE)), (aSe, .inl (y4.2.2.1, 64, .inl SE))] sz) := by
  refine Met.ofW (cc := cX6_startFrom) (maxL := 3) (ret := none) (by decide) rfl ?_
  intro p e s m args below meth c s₁ B hml hv
  obtain ⟨rfl, hsz, hP, hK, hD0, hNW⟩ := hv
  have hx := B.exec
  have hb := B.bytes
  have hr := B.returns
  have hts := atoms_spec (ws := wsX6_startFrom) B.pre
  have hown : s.vm.findClass RX6 = some m.cls := findClass_of_methodNamed B.named
  have hlocks := B.notSynchronized
  subst hsz
  have hD := hD0.self (sz := s.heap.size)
  generalize hAe : va_A [(aW, .inr (5, [.ref aPr, .ref aLe, .ref aSe, .ref aRe])), (aLe, .inl (y4.1, 64, .inl LE)), (aSe, .inl (y4.2.2.1, 64, .inl SE))] s.heap.size = A at hD ⊢
  have hA : ∀ q : Nat, s.heap.size ≤ q → A q := fun q h => by rw [← hAe]; exact Or.inr h
  have hS : va_S A s.heap s.heap [] := va_S.rf
  have hl := lv_entry ([.ref aW, .int fr]) (n := 3) (Nat.le_of_ble_eq_true rfl)
  rw [lg_entry_eq]
  generalize (lg_sl ([.ref aW, .int fr]) ++ List.replicate (3 - (lg_sl ([.ref aW, .int fr])).length) Slot.unset).toArray = ls at hl ⊢
  have hl : lv_has ls 3 [(0, .ref aW), (1, .int fr)] := hl
  have f15 := hts (.fieldLink RX6 15 "PillarLight$Ways" "least" "[I") (List.mem_of_getElem? (i := 1) rfl)
  have iX6 : ∀ w ∈ wsX60, w ∈ wsX6_startFrom := fun _ h => List.mem_cons_of_mem _ (List.mem_append_right _ h)
  have f42 := hts (.constant RX6 42 (1000000)) (List.mem_of_getElem? (i := 2) rfl)
  have f18 := hts (.fieldLink RX6 18 "PillarLight$Ways" "settled" "[Z") (List.mem_of_getElem? (i := 3) rfl)
  refine startW (fun H locs hP hS => ?_) hP hS
  refine lv_iconst (v := 0) hx hb dX6_startFrom_0 (by decide) ?_
  refine lv_istore_n (lv' := [(2, .int 0), (0, .ref aW), (1, .int fr)]) hx hb dX6_startFrom_1 rfl hl (by decide) rfl (fun ls hl => ?_)
  refine loopW (σ := (Nat → Int32) × (Nat → Int32)) 2 (f_X6_startFrom_2 fr) 64 (LE, SE) (fun k1 t2 H locs ls => va_P D vwCl [(aW, .inr (5, [.ref aPr, .ref aLe, .ref aSe, .ref aRe])), (aLe, .inl (y4.1, 64, .inl t2.1)), (aSe, .inl (y4.2.2.1, 64, .inl t2.2))] H ∧ va_D A [(aW, .inr (5, [.ref aPr, .ref aLe, .ref aSe, .ref aRe])), (aLe, .inl (y4.1, 64, .inl t2.1)), (aSe, .inl (y4.2.2.1, 64, .inl t2.2))] ∧ va_S A s.heap H locs ∧ lv_has ls 3 [(2, .int (nI k1)), (0, .ref aW), (1, .int fr)]) ⟨hP, hD, hS, lv_sub hl [0, 1, 2] rfl⟩ (fun t9 H locs ls et9 hh => ?_) (fun k1 t2 hkk1 hek1 ihk1 H locs ls hh => ?_)
  · obtain ⟨hP, hD, hS, hl⟩ := hh
    have hP : va_P D vwCl [(aW, .inr (5, [.ref aPr, .ref aLe, .ref aSe, .ref aRe])), (aLe, .inl (y4.1, 64, .inl t9.1)), (aSe, .inl (y4.2.2.1, 64, .inl t9.2))] H := hP
    have hD : va_D A [(aW, .inr (5, [.ref aPr, .ref aLe, .ref aSe, .ref aRe])), (aLe, .inl (y4.1, 64, .inl t9.1)), (aSe, .inl (y4.2.2.1, 64, .inl t9.2))] := hD
    have hl : lv_has ls 3 [(2, .int (nI 64)), (0, .ref aW), (1, .int fr)] := hl
    refine lv_iload_n hx hb dX6_startFrom_2 rfl (lv_at hl 0 rfl) ?_
    refine lv_bipush (v := 64) hx hb dX6_startFrom_3 (by decide) ?_
    refine lv_icmp_ge (tgt := 38) hx hb dX6_startFrom_5 (by decide) (fun c10 => ?_) (fun c10 => absurd (nI_le (a := 64) (by omega) (by omega)) c10)
    have em : m_X6_startFrom LE SE fr = (t9.1, t9.2) := (by replace et9 := Eq.symm et9; subst et9; first | (simp only [m_X6_startFrom]; done) | (unfold m_X6_startFrom; rfl) | rfl)
    exact W.vret hx hb hr (fun t ht hW => ⟨⟨(), rfl, trivial, ⟨by rw [ht, em]; exact hP, by rw [em]; exact hD⟩⟩, hS.F ht⟩) hS.2.2 dX6_startFrom_38
  · obtain ⟨hP, hD, hS, hl⟩ := hh
    have hP : va_P D vwCl [(aW, .inr (5, [.ref aPr, .ref aLe, .ref aSe, .ref aRe])), (aLe, .inl (y4.1, 64, .inl t2.1)), (aSe, .inl (y4.2.2.1, 64, .inl t2.2))] H := hP
    have hD : va_D A [(aW, .inr (5, [.ref aPr, .ref aLe, .ref aSe, .ref aRe])), (aLe, .inl (y4.1, 64, .inl t2.1)), (aSe, .inl (y4.2.2.1, 64, .inl t2.2))] := hD
    have hl : lv_has ls 3 [(2, .int (nI k1)), (0, .ref aW), (1, .int fr)] := hl
    refine lv_iload_n hx hb dX6_startFrom_2 rfl (lv_at hl 0 rfl) ?_
    refine lv_bipush (v := 64) hx hb dX6_startFrom_3 (by decide) ?_
    refine lv_icmp_ge (tgt := 38) hx hb dX6_startFrom_5 (by decide) (fun c6 => absurd c6 (nI_ge (b := 64) (by omega) (by omega))) (fun c6 => ?_)
    refine lv_aload_n hx hb dX6_startFrom_8 rfl (lv_at hl 1 rfl) ?_
    refine va_get (ci := 5) (v := .ref aLe) (C := RX6) (T := TX6) (N := 4) hx hb hts iX6 hown hK hP 0 rfl rfl 1 (by decide) f15 (fun _ h9 => h9) rfl dX6_startFrom_9 ?_
    refine lv_iload_n hx hb dX6_startFrom_12 rfl (lv_at hl 0 rfl) ?_
    refine lv_iload_n hx hb dX6_startFrom_13 rfl (lv_at hl 0 rfl) ?_
    refine lv_iload_n hx hb dX6_startFrom_14 rfl (lv_at hl 2 rfl) ?_
    refine cutW (X := Int32) 24 (fun x H locs ls => x = (if (nI k1) = fr then (0 : Int32) else (1000000 : Int32)) ∧ va_P D vwCl [(aW, .inr (5, [.ref aPr, .ref aLe, .ref aSe, .ref aRe])), (aLe, .inl (y4.1, 64, .inl t2.1)), (aSe, .inl (y4.2.2.1, 64, .inl t2.2))] H ∧ va_D A [(aW, .inr (5, [.ref aPr, .ref aLe, .ref aSe, .ref aRe])), (aLe, .inl (y4.1, 64, .inl t2.1)), (aSe, .inl (y4.2.2.1, 64, .inl t2.2))] ∧ va_S A s.heap H locs ∧ lv_has ls 3 [(2, .int (nI k1)), (0, .ref aW), (1, .int fr)]) (fun x => [.int x, .int (nI k1), .ref aLe]) ?_ (fun K24 => ?_)
    · rintro v8 H locs ls ⟨ev8, hP, hD, hS, hl⟩
      have ev8 : v8 = (if (nI k1) = fr then (0 : Int32) else (1000000 : Int32)) := ev8
      have hP : va_P D vwCl [(aW, .inr (5, [.ref aPr, .ref aLe, .ref aSe, .ref aRe])), (aLe, .inl (y4.1, 64, .inl t2.1)), (aSe, .inl (y4.2.2.1, 64, .inl t2.2))] H := hP
      have hD : va_D A [(aW, .inr (5, [.ref aPr, .ref aLe, .ref aSe, .ref aRe])), (aLe, .inl (y4.1, 64, .inl t2.1)), (aSe, .inl (y4.2.2.1, 64, .inl t2.2))] := hD
      have hl : lv_has ls 3 [(2, .int (nI k1)), (0, .ref aW), (1, .int fr)] := hl
      refine va_iast hx hb hK hP hD hS 1 0 rfl rfl (vp_in_nI (by omega) (by decide)) dX6_startFrom_24 (fun H locs hP hD hS => ?_)
      have hP : va_P D vwCl [(aW, .inr (5, [.ref aPr, .ref aLe, .ref aSe, .ref aRe])), (aLe, .inl (y4.1, 64, .inl (upd t2.1 (nI k1).toNatClampNeg v8))), (aSe, .inl (y4.2.2.1, 64, .inl t2.2))] H := hP
      have hD : va_D A [(aW, .inr (5, [.ref aPr, .ref aLe, .ref aSe, .ref aRe])), (aLe, .inl (y4.1, 64, .inl (upd t2.1 (nI k1).toNatClampNeg v8))), (aSe, .inl (y4.2.2.1, 64, .inl t2.2))] := hD
      refine lv_aload_n hx hb dX6_startFrom_25 rfl (lv_at hl 1 rfl) ?_
      refine va_get (ci := 5) (v := .ref aSe) (C := RX6) (T := TX6) (N := 4) hx hb hts iX6 hown hK hP 0 rfl rfl 2 (by decide) f18 (fun _ h9 => h9) rfl dX6_startFrom_26 ?_
      refine lv_iload_n hx hb dX6_startFrom_29 rfl (lv_at hl 0 rfl) ?_
      refine lv_iconst (v := 0) hx hb dX6_startFrom_30 (by decide) ?_
      refine va_zast hx hb hK hP hD hS 2 2 rfl rfl (vp_in_nI (by omega) (by decide)) dX6_startFrom_31 (fun H locs hP hD hS => ?_)
      have hP : va_P D vwCl [(aW, .inr (5, [.ref aPr, .ref aLe, .ref aSe, .ref aRe])), (aLe, .inl (y4.1, 64, .inl (upd t2.1 (nI k1).toNatClampNeg v8))), (aSe, .inl (y4.2.2.1, 64, .inl (upd t2.2 (nI k1).toNatClampNeg (vp_nar .boolean 0))))] H := hP
      have hD : va_D A [(aW, .inr (5, [.ref aPr, .ref aLe, .ref aSe, .ref aRe])), (aLe, .inl (y4.1, 64, .inl (upd t2.1 (nI k1).toNatClampNeg v8))), (aSe, .inl (y4.2.2.1, 64, .inl (upd t2.2 (nI k1).toNatClampNeg (vp_nar .boolean 0))))] := hD
      refine lv_iinc (v := nI (k1 + 1)) (lv' := [(2, .int (nI (k1 + 1))), (0, .ref aW), (1, .int fr)]) hx hb dX6_startFrom_32 hl (k := 0) rfl (nI_1 _) (by decide) rfl (fun ls hl => ?_)
      refine lv_goto (tgt := 2) hx hb dX6_startFrom_35 (by decide) ?_
      have ef : (f_X6_startFrom_2 fr) k1 t2 = (upd t2.1 (nI k1).toNatClampNeg v8, upd t2.2 (nI k1).toNatClampNeg (vp_nar .boolean 0)) := (by replace ev8 := Eq.symm ev8; subst ev8; first | (simp only [f_X6_startFrom_2]; done) | (unfold f_X6_startFrom_2; rfl) | rfl)
      rw [ef] at ihk1
      exact ihk1 H locs ls ⟨hP, hD, hS, lv_sub hl [0, 1, 2] rfl⟩
    · refine lv_icmp_ne (tgt := 22) hx hb dX6_startFrom_15 (by decide) (fun c7 => ?_) (fun c7 => ?_)
      · refine lv_ldc (v := 1000000) hx hb hown f42 dX6_startFrom_22 ?_
        exact K24 (1000000 : Int32) H locs ls ⟨(by first | (simp only [if_neg c7]; done) | (simp only [if_neg c7]; rfl) | rfl), hP, hD, hS, lv_sub hl [0, 1, 2] rfl⟩
      · refine lv_iconst (v := 0) hx hb dX6_startFrom_18 (by decide) ?_
        refine lv_goto (tgt := 24) hx hb dX6_startFrom_19 (by decide) ?_
        exact K24 (0 : Int32) H locs ls ⟨(by first | (simp only [if_pos c7]; done) | (simp only [if_pos c7]; rfl) | rfl), hP, hD, hS, lv_sub hl [0, 1, 2] rfl⟩
def f_X6_leastUnsettled_4 (LE : Nat → Int32) (SE : Nat → Int32) (k1 : Nat) (t2 : Int32) : (Int32 ⊕ Int32) ⊕ Int32 := (if (SE (nI k1).toNatClampNeg) = 0 then (let v10 : Int32 := (if t2 = (-1) then (1000000 : Int32) else LE (t2).toNatClampNeg); (if v10 ≤ (LE (nI k1).toNatClampNeg) then (.inr t2) else (.inr (nI k1)))) else (.inr t2))
def m_X6_leastUnsettled (LE : Nat → Int32) (SE : Nat → Int32) : Int32 := (lpr (lpx (f_X6_leastUnsettled_4 LE SE) 64 0 (-1 : Int32)) id (fun t14 => t14))
set_option maxHeartbeats 4000000 in
set_option maxRecDepth 100000 in
theorem met_X6_leastUnsettled (l : Launch) (D : va_G) (y4 : vT) (aW aPr aLe aSe aRe : Nat) (sz : Nat) (LE : Nat → Int32) (SE : Nat → Int32) : Met l yX6_leastUnsettled wsX6_leastUnsettled ({ frames := 0, cells := 0, slots := 0, locals := 0 }) (va_Pc [.ref aW] (PreW D y4 [(aW, .inr (5, [.ref aPr, .ref aLe, .ref aSe, .ref aRe])), (aLe, .inl (y4.1, 64, .inl LE)), (aSe, .inl (y4.2.2.1, 64, .inl SE))] sz)) (va_Qi (fun (r : Int32) (_ : Unit) => r = (m_X6_leastUnsettled LE SE)) (fun _ t => PostW D (va_A [(aW, .inr (5, [.ref aPr, .ref aLe, .ref aSe, .ref aRe])), (aLe, .inl (y4.1, 64, .inl LE)), (aSe, .inl (y4.2.2.1, 64, .inl SE))] sz) [(aW, .inr (5, [.ref aPr, .ref aLe, .ref aSe, .ref aRe])), (aLe, .inl (y4.1, 64, .inl LE)), (aSe, .inl (y4.2.2.1, 64, .inl SE))] t) (va_A [(aW, .inr (5, [.ref aPr, .ref aLe, .ref aSe, .ref aRe])), (aLe, .inl (y4.1, 64, .inl LE)), (aSe, .inl (y4.2.2.1, 64, .inl SE))] sz)) 0 0 (va_A [(aW, .inr (5, [.ref aPr, .ref aLe, .ref aSe, .ref aRe])), (aLe, .inl (y4.1, 64, .inl LE)), (aSe, .inl (y4.2.2.1, 64, .inl SE))] sz) := by
  refine Met.ofW (cc := cX6_leastUnsettled) (maxL := 3) (ret := (some .int)) (by decide) rfl ?_
  intro p e s m args below meth c s₁ B hml hv
  obtain ⟨rfl, hsz, hP, hK, hD0, hNW⟩ := hv
  have hx := B.exec
  have hb := B.bytes
  have hr := B.returns
  have hts := atoms_spec (ws := wsX6_leastUnsettled) B.pre
  have hown : s.vm.findClass RX6 = some m.cls := findClass_of_methodNamed B.named
  have hlocks := B.notSynchronized
  subst hsz
  have hD := hD0.self (sz := s.heap.size)
  generalize hAe : va_A [(aW, .inr (5, [.ref aPr, .ref aLe, .ref aSe, .ref aRe])), (aLe, .inl (y4.1, 64, .inl LE)), (aSe, .inl (y4.2.2.1, 64, .inl SE))] s.heap.size = A at hD ⊢
  have hA : ∀ q : Nat, s.heap.size ≤ q → A q := fun q h => by rw [← hAe]; exact Or.inr h
  have hS : va_S A s.heap s.heap [] := va_S.rf
  have hl := lv_entry ([.ref aW]) (n := 3) (Nat.le_of_ble_eq_true rfl)
  rw [lg_entry_eq]
  generalize (lg_sl ([.ref aW]) ++ List.replicate (3 - (lg_sl ([.ref aW])).length) Slot.unset).toArray = ls at hl ⊢
  have hl : lv_has ls 3 [(0, .ref aW)] := hl
  have f18 := hts (.fieldLink RX6 18 "PillarLight$Ways" "settled" "[Z") (List.mem_of_getElem? (i := 1) rfl)
  have iX6 : ∀ w ∈ wsX60, w ∈ wsX6_leastUnsettled := fun _ h => List.mem_cons_of_mem _ (List.mem_append_right _ h)
  have f15 := hts (.fieldLink RX6 15 "PillarLight$Ways" "least" "[I") (List.mem_of_getElem? (i := 2) rfl)
  have f42 := hts (.constant RX6 42 (1000000)) (List.mem_of_getElem? (i := 3) rfl)
  refine startW (fun H locs hP hS => ?_) hP hS
  refine lv_iconst (v := (-1)) hx hb dX6_leastUnsettled_0 (by decide) ?_
  refine lv_istore_n (lv' := [(1, .int (-1)), (0, .ref aW)]) hx hb dX6_leastUnsettled_1 rfl hl (by decide) rfl (fun ls hl => ?_)
  refine lv_iconst (v := 0) hx hb dX6_leastUnsettled_2 (by decide) ?_
  refine lv_istore_n (lv' := [(2, .int 0), (1, .int (-1)), (0, .ref aW)]) hx hb dX6_leastUnsettled_3 rfl hl (by decide) rfl (fun ls hl => ?_)
  refine cutW (X := Int32) 52 (fun x H locs ls => ((lpx (f_X6_leastUnsettled_4 LE SE) 64 0 (-1 : Int32)) = .inl (.inr x) ∨ (lpx (f_X6_leastUnsettled_4 LE SE) 64 0 (-1 : Int32)) = .inr x) ∧ va_P D vwCl [(aW, .inr (5, [.ref aPr, .ref aLe, .ref aSe, .ref aRe])), (aLe, .inl (y4.1, 64, .inl LE)), (aSe, .inl (y4.2.2.1, 64, .inl SE))] H ∧ va_D A [(aW, .inr (5, [.ref aPr, .ref aLe, .ref aSe, .ref aRe])), (aLe, .inl (y4.1, 64, .inl LE)), (aSe, .inl (y4.2.2.1, 64, .inl SE))] ∧ va_S A s.heap H locs ∧ lv_has ls 3 [(1, .int x)]) (fun x => []) ?_ (fun K52 => ?_)
  · rintro t14 H locs ls ⟨et14, hP, hD, hS, hl⟩
    have hP : va_P D vwCl [(aW, .inr (5, [.ref aPr, .ref aLe, .ref aSe, .ref aRe])), (aLe, .inl (y4.1, 64, .inl LE)), (aSe, .inl (y4.2.2.1, 64, .inl SE))] H := hP
    have hD : va_D A [(aW, .inr (5, [.ref aPr, .ref aLe, .ref aSe, .ref aRe])), (aLe, .inl (y4.1, 64, .inl LE)), (aSe, .inl (y4.2.2.1, 64, .inl SE))] := hD
    have hl : lv_has ls 3 [(1, .int t14)] := hl
    refine lv_iload_n hx hb dX6_leastUnsettled_52 rfl (lv_at hl 0 rfl) ?_
    have em : m_X6_leastUnsettled LE SE = t14 := (by first | (simp only [m_X6_leastUnsettled, lpr_k et14]; done) | (simp only [m_X6_leastUnsettled, lpr_k et14]; rfl))
    exact W.iret (v := t14) hx hb hr (fun t ht hW => ⟨⟨t14, (), rfl, (by rw [em]), ⟨by rw [ht]; exact hP, by exact hD⟩⟩, hS.F ht⟩) hS.2.2 dX6_leastUnsettled_53
  · refine loopX (σ := Int32) (ρ := Int32 ⊕ Int32) 4 (f_X6_leastUnsettled_4 LE SE) (fun _ t => t = -1 ∨ vp_in t 64) 64 0 (-1 : Int32) (fun k1 t2 H locs ls => va_P D vwCl [(aW, .inr (5, [.ref aPr, .ref aLe, .ref aSe, .ref aRe])), (aLe, .inl (y4.1, 64, .inl LE)), (aSe, .inl (y4.2.2.1, 64, .inl SE))] H ∧ va_D A [(aW, .inr (5, [.ref aPr, .ref aLe, .ref aSe, .ref aRe])), (aLe, .inl (y4.1, 64, .inl LE)), (aSe, .inl (y4.2.2.1, 64, .inl SE))] ∧ va_S A s.heap H locs ∧ lv_has ls 3 [(2, .int (nI k1)), (1, .int t2), (0, .ref aW)]) (Or.inl rfl) ⟨hP, hD, hS, lv_sub hl [0, 1, 2] rfl⟩ (fun t12 H locs ls et12 hit12 hh => ?_) (fun k1 t2 hkk1 hjk1 hik1 hretk1 ihk1 H locs ls hh => ?_)
    · obtain ⟨hP, hD, hS, hl⟩ := hh
      have hP : va_P D vwCl [(aW, .inr (5, [.ref aPr, .ref aLe, .ref aSe, .ref aRe])), (aLe, .inl (y4.1, 64, .inl LE)), (aSe, .inl (y4.2.2.1, 64, .inl SE))] H := hP
      have hD : va_D A [(aW, .inr (5, [.ref aPr, .ref aLe, .ref aSe, .ref aRe])), (aLe, .inl (y4.1, 64, .inl LE)), (aSe, .inl (y4.2.2.1, 64, .inl SE))] := hD
      have hl : lv_has ls 3 [(2, .int (nI 64)), (1, .int t12), (0, .ref aW)] := hl
      refine lv_iload_n hx hb dX6_leastUnsettled_4 rfl (lv_at hl 0 rfl) ?_
      refine lv_bipush (v := 64) hx hb dX6_leastUnsettled_5 (by decide) ?_
      refine lv_icmp_ge (tgt := 52) hx hb dX6_leastUnsettled_7 (by decide) (fun c13 => ?_) (fun c13 => absurd (nI_le (a := 64) (by omega) (by omega)) c13)
      exact K52 t12 H locs ls ⟨Or.inr et12, hP, hD, hS, lv_sub hl [1] rfl⟩
    · obtain ⟨hP, hD, hS, hl⟩ := hh
      have hP : va_P D vwCl [(aW, .inr (5, [.ref aPr, .ref aLe, .ref aSe, .ref aRe])), (aLe, .inl (y4.1, 64, .inl LE)), (aSe, .inl (y4.2.2.1, 64, .inl SE))] H := hP
      have hD : va_D A [(aW, .inr (5, [.ref aPr, .ref aLe, .ref aSe, .ref aRe])), (aLe, .inl (y4.1, 64, .inl LE)), (aSe, .inl (y4.2.2.1, 64, .inl SE))] := hD
      have hl : lv_has ls 3 [(2, .int (nI k1)), (1, .int t2), (0, .ref aW)] := hl
      have hin : t2 = -1 ∨ vp_in t2 64 := hik1
      refine lv_iload_n hx hb dX6_leastUnsettled_4 rfl (lv_at hl 0 rfl) ?_
      refine lv_bipush (v := 64) hx hb dX6_leastUnsettled_5 (by decide) ?_
      refine lv_icmp_ge (tgt := 52) hx hb dX6_leastUnsettled_7 (by decide) (fun c7 => absurd c7 (nI_ge (b := 64) (by omega) (by omega))) (fun c7 => ?_)
      refine lv_aload_n hx hb dX6_leastUnsettled_10 rfl (lv_at hl 2 rfl) ?_
      refine va_get (ci := 5) (v := .ref aSe) (C := RX6) (T := TX6) (N := 4) hx hb hts iX6 hown hK hP 0 rfl rfl 2 (by decide) f18 (fun _ h9 => h9) rfl dX6_leastUnsettled_11 ?_
      refine lv_iload_n hx hb dX6_leastUnsettled_14 rfl (lv_at hl 0 rfl) ?_
      refine va_zald hx hb hK hP 2 2 rfl rfl (vp_in_nI (by omega) (by decide)) dX6_leastUnsettled_15 ?_
      refine lv_if_ne (tgt := 46) hx hb dX6_leastUnsettled_16 (by decide) (fun c8 => ?_) (fun c8 => ?_)
      · refine lv_iinc (v := nI (k1 + 1)) (lv' := [(2, .int (nI (k1 + 1))), (1, .int t2), (0, .ref aW)]) hx hb dX6_leastUnsettled_46 hl (k := 0) rfl (nI_1 _) (by decide) rfl (fun ls hl => ?_)
        refine lv_goto (tgt := 4) hx hb dX6_leastUnsettled_49 (by decide) ?_
        have ef : (f_X6_leastUnsettled_4 LE SE) k1 t2 = .inr t2 := (by first | (simp only [f_X6_leastUnsettled_4, if_neg c8]; done) | (simp only [f_X6_leastUnsettled_4, if_neg c8]; rfl))
        exact ihk1 _ ef (by show _ = _ ∨ vp_in _ 64; first | assumption | exact Or.inr (vp_in_nI (by omega) (by decide))) H locs ls ⟨hP, hD, hS, lv_sub hl [0, 1, 2] rfl⟩
      · refine lv_aload_n hx hb dX6_leastUnsettled_19 rfl (lv_at hl 2 rfl) ?_
        refine va_get (ci := 5) (v := .ref aLe) (C := RX6) (T := TX6) (N := 4) hx hb hts iX6 hown hK hP 0 rfl rfl 1 (by decide) f15 (fun _ h9 => h9) rfl dX6_leastUnsettled_20 ?_
        refine lv_iload_n hx hb dX6_leastUnsettled_23 rfl (lv_at hl 0 rfl) ?_
        refine va_iald hx hb hK hP 1 0 rfl rfl (vp_in_nI (by omega) (by decide)) dX6_leastUnsettled_24 ?_
        refine lv_iload_n hx hb dX6_leastUnsettled_25 rfl (lv_at hl 1 rfl) ?_
        refine lv_iconst (v := (-1)) hx hb dX6_leastUnsettled_26 (by decide) ?_
        refine cutW (X := Int32) 41 (fun x H locs ls => x = (if t2 = (-1) then (1000000 : Int32) else LE (t2).toNatClampNeg) ∧ va_P D vwCl [(aW, .inr (5, [.ref aPr, .ref aLe, .ref aSe, .ref aRe])), (aLe, .inl (y4.1, 64, .inl LE)), (aSe, .inl (y4.2.2.1, 64, .inl SE))] H ∧ va_D A [(aW, .inr (5, [.ref aPr, .ref aLe, .ref aSe, .ref aRe])), (aLe, .inl (y4.1, 64, .inl LE)), (aSe, .inl (y4.2.2.1, 64, .inl SE))] ∧ va_S A s.heap H locs ∧ lv_has ls 3 [(2, .int (nI k1)), (1, .int t2), (0, .ref aW)]) (fun x => [.int x, .int (LE (nI k1).toNatClampNeg)]) ?_ (fun K41 => ?_)
        · rintro v10 H locs ls ⟨ev10, hP, hD, hS, hl⟩
          have ev10 : v10 = (if t2 = (-1) then (1000000 : Int32) else LE (t2).toNatClampNeg) := ev10
          have hP : va_P D vwCl [(aW, .inr (5, [.ref aPr, .ref aLe, .ref aSe, .ref aRe])), (aLe, .inl (y4.1, 64, .inl LE)), (aSe, .inl (y4.2.2.1, 64, .inl SE))] H := hP
          have hD : va_D A [(aW, .inr (5, [.ref aPr, .ref aLe, .ref aSe, .ref aRe])), (aLe, .inl (y4.1, 64, .inl LE)), (aSe, .inl (y4.2.2.1, 64, .inl SE))] := hD
          have hl : lv_has ls 3 [(2, .int (nI k1)), (1, .int t2), (0, .ref aW)] := hl
          refine lv_icmp_ge (tgt := 46) hx hb dX6_leastUnsettled_41 (by decide) (fun c11 => ?_) (fun c11 => ?_)
          · refine lv_iinc (v := nI (k1 + 1)) (lv' := [(2, .int (nI (k1 + 1))), (1, .int t2), (0, .ref aW)]) hx hb dX6_leastUnsettled_46 hl (k := 0) rfl (nI_1 _) (by decide) rfl (fun ls hl => ?_)
            refine lv_goto (tgt := 4) hx hb dX6_leastUnsettled_49 (by decide) ?_
            have ef : (f_X6_leastUnsettled_4 LE SE) k1 t2 = .inr t2 := (by replace ev10 := Eq.symm ev10; subst ev10; first | (simp only [f_X6_leastUnsettled_4, if_pos c8, if_pos c11]; done) | (simp only [f_X6_leastUnsettled_4, if_pos c8, if_pos c11]; rfl))
            exact ihk1 _ ef (by show _ = _ ∨ vp_in _ 64; first | assumption | exact Or.inr (vp_in_nI (by omega) (by decide))) H locs ls ⟨hP, hD, hS, lv_sub hl [0, 1, 2] rfl⟩
          · refine lv_iload_n hx hb dX6_leastUnsettled_44 rfl (lv_at hl 0 rfl) ?_
            refine lv_istore_n (lv' := [(1, .int (nI k1)), (2, .int (nI k1)), (0, .ref aW)]) hx hb dX6_leastUnsettled_45 rfl hl (by decide) rfl (fun ls hl => ?_)
            refine lv_iinc (v := nI (k1 + 1)) (lv' := [(2, .int (nI (k1 + 1))), (1, .int (nI k1)), (0, .ref aW)]) hx hb dX6_leastUnsettled_46 hl (k := 1) rfl (nI_1 _) (by decide) rfl (fun ls hl => ?_)
            refine lv_goto (tgt := 4) hx hb dX6_leastUnsettled_49 (by decide) ?_
            have ef : (f_X6_leastUnsettled_4 LE SE) k1 t2 = .inr (nI k1) := (by replace ev10 := Eq.symm ev10; subst ev10; first | (simp only [f_X6_leastUnsettled_4, if_pos c8, if_neg c11]; done) | (simp only [f_X6_leastUnsettled_4, if_pos c8, if_neg c11]; rfl))
            exact ihk1 _ ef (by show _ = _ ∨ vp_in _ 64; first | assumption | exact Or.inr (vp_in_nI (by omega) (by decide))) H locs ls ⟨hP, hD, hS, lv_sub hl [0, 1, 2] rfl⟩
        · refine lv_icmp_ne (tgt := 35) hx hb dX6_leastUnsettled_27 (by decide) (fun c9 => ?_) (fun c9 => ?_)
          · refine lv_aload_n hx hb dX6_leastUnsettled_35 rfl (lv_at hl 2 rfl) ?_
            refine va_get (ci := 5) (v := .ref aLe) (C := RX6) (T := TX6) (N := 4) hx hb hts iX6 hown hK hP 0 rfl rfl 1 (by decide) f15 (fun _ h9 => h9) rfl dX6_leastUnsettled_36 ?_
            refine lv_iload_n hx hb dX6_leastUnsettled_39 rfl (lv_at hl 1 rfl) ?_
            refine va_iald hx hb hK hP 1 0 rfl rfl (hin.resolve_left (by assumption)) dX6_leastUnsettled_40 ?_
            exact K41 (LE (t2).toNatClampNeg) H locs ls ⟨(by first | (simp only [if_pos c8, if_neg c9]; done) | (simp only [if_pos c8, if_neg c9]; rfl) | rfl), hP, hD, hS, lv_sub hl [0, 1, 2] rfl⟩
          · refine lv_ldc (v := 1000000) hx hb hown f42 dX6_leastUnsettled_30 ?_
            refine lv_goto (tgt := 41) hx hb dX6_leastUnsettled_32 (by decide) ?_
            exact K41 (1000000 : Int32) H locs ls ⟨(by first | (simp only [if_pos c8, if_pos c9]; done) | (simp only [if_pos c8, if_pos c9]; rfl) | rfl), hP, hD, hS, lv_sub hl [0, 1, 2] rfl⟩
theorem lu_step (LE SE : Nat → Int32) (k : Nat) (t : Int32) : f_X6_leastUnsettled_4 LE SE k t = .inr t ∨ f_X6_leastUnsettled_4 LE SE k t = .inr (nI k) := by
  unfold f_X6_leastUnsettled_4
  dsimp only
  repeat' split
  all_goals first | exact Or.inl rfl | exact Or.inr rfl
theorem lu_in (LE SE : Nat → Int32) : m_X6_leastUnsettled LE SE = -1 ∨ vp_in (m_X6_leastUnsettled LE SE) 64 := by
  unfold m_X6_leastUnsettled
  have h := lpx_ind (f := f_X6_leastUnsettled_4 LE SE) (fun k t => k ≤ 64 → t = -1 ∨ vp_in t 64) (fun k s s' hs he hk => by
    have h1 := hs (by omega)
    have h2 : vp_in (nI k) 64 := vp_in_nI (by omega) (by decide)
    rcases lu_step LE SE k s with q | q
    · rw [q] at he; have e := Sum.inr.inj he; rw [← e]; exact h1
    · rw [q] at he; have e := Sum.inr.inj he; rw [← e]; exact Or.inr h2) 64 0 (-1) (fun _ => Or.inl rfl)
  generalize hx : lpx (f_X6_leastUnsettled_4 LE SE) 64 0 (-1) = x
  rw [hx] at h
  have hn : ∀ r, x ≠ .inl r := by
    intro r hr
    rw [hr] at hx
    refine lpx_out (f := f_X6_leastUnsettled_4 LE SE) (fun _ _ => True) (fun _ => False) (fun k s _ => ⟨fun r h => ?_, fun _ _ => trivial⟩) 64 0 (-1) trivial r hx
    rcases lu_step LE SE k s with q | q <;> (rw [q] at h; cases h)
  cases x with
  | inl r => exact absurd rfl (hn r)
  | inr t => exact h t rfl (by decide)

def f_X6_lessenAround_4 (PR : Nat → Int32) (ce : Int32) (k1 : Nat) (t2 : Bool × (Nat → Int32)) : Bool × (Nat → Int32) := (let v13 : Bool := (if (m_X0_neighbour ce (nI k1)) = (-1) then t2.1 else (if (PR ((m_X0_neighbour ce (nI k1))).toNatClampNeg) ≤ 0 then t2.1 else (if (t2.2 ((m_X0_neighbour ce (nI k1))).toNatClampNeg) ≤ ((t2.2 (ce).toNatClampNeg) + (PR ((m_X0_neighbour ce (nI k1))).toNatClampNeg)) then t2.1 else true))); (let v14 : Nat → Int32 := (if (m_X0_neighbour ce (nI k1)) = (-1) then t2.2 else (if (PR ((m_X0_neighbour ce (nI k1))).toNatClampNeg) ≤ 0 then t2.2 else (if (t2.2 ((m_X0_neighbour ce (nI k1))).toNatClampNeg) ≤ ((t2.2 (ce).toNatClampNeg) + (PR ((m_X0_neighbour ce (nI k1))).toNatClampNeg)) then t2.2 else upd t2.2 ((m_X0_neighbour ce (nI k1))).toNatClampNeg ((t2.2 (ce).toNatClampNeg) + (PR ((m_X0_neighbour ce (nI k1))).toNatClampNeg))))); (v13, v14)))
def m_X6_lessenAround (PR : Nat → Int32) (LE : Nat → Int32) (ce : Int32) : Bool × (Nat → Int32) := (let t15 : Bool × (Nat → Int32) := itr (f_X6_lessenAround_4 PR ce) 4 (false, LE); (t15.1, t15.2))
set_option maxHeartbeats 4000000 in
set_option maxRecDepth 100000 in
theorem met_X6_lessenAround (l : Launch) (D : va_G) (y4 : vT) (aW aPr aLe aSe aRe : Nat) (sz : Nat) (PR : Nat → Int32) (LE : Nat → Int32) (ce : Int32) (hce : vp_in ce 64) : Met l yX6_lessenAround wsX6_lessenAround ({ frames := 2, cells := 0, slots := 0, locals := 41 }) (va_Pc [.ref aW, .int ce] (PreW D y4 [(aW, .inr (5, [.ref aPr, .ref aLe, .ref aSe, .ref aRe])), (aPr, .inl (y4.1, 64, .inl PR)), (aLe, .inl (y4.1, 64, .inl LE))] sz)) (va_Qi (fun (r : Int32) (_ : Unit) => r = bI (m_X6_lessenAround PR LE ce).1) (fun _ t => PostW D (va_A [(aW, .inr (5, [.ref aPr, .ref aLe, .ref aSe, .ref aRe])), (aPr, .inl (y4.1, 64, .inl PR)), (aLe, .inl (y4.1, 64, .inl LE))] sz) [(aW, .inr (5, [.ref aPr, .ref aLe, .ref aSe, .ref aRe])), (aPr, .inl (y4.1, 64, .inl PR)), (aLe, .inl (y4.1, 64, .inl ((m_X6_lessenAround PR LE ce).2)))] t) (va_A [(aW, .inr (5, [.ref aPr, .ref aLe, .ref aSe, .ref aRe])), (aPr, .inl (y4.1, 64, .inl PR)), (aLe, .inl (y4.1, 64, .inl LE))] sz)) 0 0 (va_A [(aW, .inr (5, [.ref aPr, .ref aLe, .ref aSe, .ref aRe])), (aPr, .inl (y4.1, 64, .inl PR)), (aLe, .inl (y4.1, 64, .inl LE))] sz) := by
  refine Met.ofW (cc := cX6_lessenAround) (maxL := 5) (ret := (some .boolean)) (by decide) rfl ?_
  intro p e s m args below meth c s₁ B hml hv
  obtain ⟨rfl, hsz, hP, hK, hD0, hNW⟩ := hv
  have hx := B.exec
  have hb := B.bytes
  have hr := B.returns
  have hts := atoms_spec (ws := wsX6_lessenAround) B.pre
  have hown : s.vm.findClass RX6 = some m.cls := findClass_of_methodNamed B.named
  have hlocks := B.notSynchronized
  subst hsz
  have hD := hD0.self (sz := s.heap.size)
  generalize hAe : va_A [(aW, .inr (5, [.ref aPr, .ref aLe, .ref aSe, .ref aRe])), (aPr, .inl (y4.1, 64, .inl PR)), (aLe, .inl (y4.1, 64, .inl LE))] s.heap.size = A at hD ⊢
  have hA : ∀ q : Nat, s.heap.size ≤ q → A q := fun q h => by rw [← hAe]; exact Or.inr h
  have hS : va_S A s.heap s.heap [] := va_S.rf
  have hl := lv_entry ([.ref aW, .int ce]) (n := 5) (Nat.le_of_ble_eq_true rfl)
  rw [lg_entry_eq]
  generalize (lg_sl ([.ref aW, .int ce]) ++ List.replicate (5 - (lg_sl ([.ref aW, .int ce])).length) Slot.unset).toArray = ls at hl ⊢
  have hl : lv_has ls 5 [(0, .ref aW), (1, .int ce)] := hl
  have f9 := hts (.fieldLink RX6 9 "PillarLight$Ways" "price" "[I") (List.mem_of_getElem? (i := 1) rfl)
  have iX6 : ∀ w ∈ wsX60, w ∈ wsX6_lessenAround := fun _ h => List.mem_cons_of_mem _ (List.mem_append_right _ h)
  have f15 := hts (.fieldLink RX6 15 "PillarLight$Ways" "least" "[I") (List.mem_of_getElem? (i := 2) rfl)
  refine startW (fun H locs hP hS => ?_) hP hS
  refine lv_iconst (v := 0) hx hb dX6_lessenAround_0 (by decide) ?_
  refine lv_istore_n (lv' := [(2, .int 0), (0, .ref aW), (1, .int ce)]) hx hb dX6_lessenAround_1 rfl hl (by decide) rfl (fun ls hl => ?_)
  refine lv_iconst (v := 0) hx hb dX6_lessenAround_2 (by decide) ?_
  refine lv_istore_n (lv' := [(3, .int 0), (2, .int 0), (0, .ref aW), (1, .int ce)]) hx hb dX6_lessenAround_3 rfl hl (by decide) rfl (fun ls hl => ?_)
  refine loopW (σ := Bool × (Nat → Int32)) 4 (f_X6_lessenAround_4 PR ce) 4 (false, LE) (fun k1 t2 H locs ls => va_P D vwCl [(aW, .inr (5, [.ref aPr, .ref aLe, .ref aSe, .ref aRe])), (aPr, .inl (y4.1, 64, .inl PR)), (aLe, .inl (y4.1, 64, .inl t2.2))] H ∧ va_D A [(aW, .inr (5, [.ref aPr, .ref aLe, .ref aSe, .ref aRe])), (aPr, .inl (y4.1, 64, .inl PR)), (aLe, .inl (y4.1, 64, .inl t2.2))] ∧ va_S A s.heap H locs ∧ lv_has ls 5 [(3, .int (nI k1)), (2, .int (bI t2.1)), (0, .ref aW), (1, .int ce)]) ⟨hP, hD, hS, lv_sub hl [0, 1, 2, 3] rfl⟩ (fun t15 H locs ls et15 hh => ?_) (fun k1 t2 hkk1 hek1 ihk1 H locs ls hh => ?_)
  · obtain ⟨hP, hD, hS, hl⟩ := hh
    have hP : va_P D vwCl [(aW, .inr (5, [.ref aPr, .ref aLe, .ref aSe, .ref aRe])), (aPr, .inl (y4.1, 64, .inl PR)), (aLe, .inl (y4.1, 64, .inl t15.2))] H := hP
    have hD : va_D A [(aW, .inr (5, [.ref aPr, .ref aLe, .ref aSe, .ref aRe])), (aPr, .inl (y4.1, 64, .inl PR)), (aLe, .inl (y4.1, 64, .inl t15.2))] := hD
    have hl : lv_has ls 5 [(3, .int (nI 4)), (2, .int (bI t15.1)), (0, .ref aW), (1, .int ce)] := hl
    refine lv_iload_n hx hb dX6_lessenAround_4 rfl (lv_at hl 0 rfl) ?_
    refine lv_iconst (v := 4) hx hb dX6_lessenAround_5 (by decide) ?_
    refine lv_icmp_ge (tgt := 85) hx hb dX6_lessenAround_6 (by decide) (fun c16 => ?_) (fun c16 => absurd (nI_le (a := 4) (by omega) (by omega)) c16)
    refine lv_iload_n hx hb dX6_lessenAround_85 rfl (lv_at hl 1 rfl) ?_
    have em : m_X6_lessenAround PR LE ce = (t15.1, t15.2) := (by replace et15 := Eq.symm et15; subst et15; first | (simp only [m_X6_lessenAround]; done) | (unfold m_X6_lessenAround; rfl) | rfl)
    exact W.zret (v := bI t15.1) hx hb hr (bI_nar _) (fun t ht hW => ⟨⟨bI t15.1, (), rfl, (by rw [em]), ⟨by rw [ht, em]; exact hP, by rw [em]; exact hD⟩⟩, hS.F ht⟩) hS.2.2 dX6_lessenAround_86
  · obtain ⟨hP, hD, hS, hl⟩ := hh
    have hP : va_P D vwCl [(aW, .inr (5, [.ref aPr, .ref aLe, .ref aSe, .ref aRe])), (aPr, .inl (y4.1, 64, .inl PR)), (aLe, .inl (y4.1, 64, .inl t2.2))] H := hP
    have hD : va_D A [(aW, .inr (5, [.ref aPr, .ref aLe, .ref aSe, .ref aRe])), (aPr, .inl (y4.1, 64, .inl PR)), (aLe, .inl (y4.1, 64, .inl t2.2))] := hD
    have hl : lv_has ls 5 [(3, .int (nI k1)), (2, .int (bI t2.1)), (0, .ref aW), (1, .int ce)] := hl
    refine lv_iload_n hx hb dX6_lessenAround_4 rfl (lv_at hl 0 rfl) ?_
    refine lv_iconst (v := 4) hx hb dX6_lessenAround_5 (by decide) ?_
    refine lv_icmp_ge (tgt := 85) hx hb dX6_lessenAround_6 (by decide) (fun c9 => absurd c9 (nI_ge (b := 4) (by omega) (by omega))) (fun c9 => ?_)
    refine lv_iload_n hx hb dX6_lessenAround_9 rfl (lv_at hl 3 rfl) ?_
    refine lv_iload_n hx hb dX6_lessenAround_10 rfl (lv_at hl 0 rfl) ?_
    refine callK_i (va_runS (As := [.int ce, .int (nI k1)]) (rest := []) ⟨hx, hb, hml, hown, hts⟩ (met_X0_neighbour l  ce (nI k1)) (va_cwS 2 hts gX6_lessenAround_X0_neighbour rfl rfl rfl (by decide +kernel) ⟨Nat.le_of_ble_eq_true rfl, Nat.le_of_ble_eq_true rfl⟩) ⟨preS_blind, fun U hU hW => ⟨rfl, trivial⟩⟩ rfl rfl hl.1 rfl (lv_room (Nat.le_of_ble_eq_true rfl)) dX6_lessenAround_11 ⟨Nat.zero_le _, Nat.zero_le _⟩) hP hS (fun r u H locs hw hP hS => ?_)
    replace hw := Eq.symm hw
    subst hw
    refine lv_istore (lv' := [(4, .int (m_X0_neighbour ce (nI k1))), (3, .int (nI k1)), (2, .int (bI t2.1)), (0, .ref aW), (1, .int ce)]) hx hb dX6_lessenAround_14 hl (by decide) rfl (fun ls hl => ?_)
    refine lv_iload hx hb dX6_lessenAround_16 (lv_at hl 0 rfl) ?_
    refine lv_iconst (v := (-1)) hx hb dX6_lessenAround_18 (by decide) ?_
    refine cutW (X := Bool × (Nat → Int32)) 79 (fun x H locs ls => x.1 = (if (m_X0_neighbour ce (nI k1)) = (-1) then t2.1 else (if (PR ((m_X0_neighbour ce (nI k1))).toNatClampNeg) ≤ 0 then t2.1 else (if (t2.2 ((m_X0_neighbour ce (nI k1))).toNatClampNeg) ≤ ((t2.2 (ce).toNatClampNeg) + (PR ((m_X0_neighbour ce (nI k1))).toNatClampNeg)) then t2.1 else true))) ∧ x.2 = (if (m_X0_neighbour ce (nI k1)) = (-1) then t2.2 else (if (PR ((m_X0_neighbour ce (nI k1))).toNatClampNeg) ≤ 0 then t2.2 else (if (t2.2 ((m_X0_neighbour ce (nI k1))).toNatClampNeg) ≤ ((t2.2 (ce).toNatClampNeg) + (PR ((m_X0_neighbour ce (nI k1))).toNatClampNeg)) then t2.2 else upd t2.2 ((m_X0_neighbour ce (nI k1))).toNatClampNeg ((t2.2 (ce).toNatClampNeg) + (PR ((m_X0_neighbour ce (nI k1))).toNatClampNeg))))) ∧ va_P D vwCl [(aW, .inr (5, [.ref aPr, .ref aLe, .ref aSe, .ref aRe])), (aPr, .inl (y4.1, 64, .inl PR)), (aLe, .inl (y4.1, 64, .inl x.2))] H ∧ va_D A [(aW, .inr (5, [.ref aPr, .ref aLe, .ref aSe, .ref aRe])), (aPr, .inl (y4.1, 64, .inl PR)), (aLe, .inl (y4.1, 64, .inl x.2))] ∧ va_S A s.heap H locs ∧ lv_has ls 5 [(3, .int (nI k1)), (2, .int (bI x.1)), (0, .ref aW), (1, .int ce)]) (fun x => []) ?_ (fun K79 => ?_)
    · rintro ⟨v13, v14⟩ H locs ls ⟨ev13, ev14, hP, hD, hS, hl⟩
      have ev13 : v13 = (if (m_X0_neighbour ce (nI k1)) = (-1) then t2.1 else (if (PR ((m_X0_neighbour ce (nI k1))).toNatClampNeg) ≤ 0 then t2.1 else (if (t2.2 ((m_X0_neighbour ce (nI k1))).toNatClampNeg) ≤ ((t2.2 (ce).toNatClampNeg) + (PR ((m_X0_neighbour ce (nI k1))).toNatClampNeg)) then t2.1 else true))) := ev13
      have ev14 : v14 = (if (m_X0_neighbour ce (nI k1)) = (-1) then t2.2 else (if (PR ((m_X0_neighbour ce (nI k1))).toNatClampNeg) ≤ 0 then t2.2 else (if (t2.2 ((m_X0_neighbour ce (nI k1))).toNatClampNeg) ≤ ((t2.2 (ce).toNatClampNeg) + (PR ((m_X0_neighbour ce (nI k1))).toNatClampNeg)) then t2.2 else upd t2.2 ((m_X0_neighbour ce (nI k1))).toNatClampNeg ((t2.2 (ce).toNatClampNeg) + (PR ((m_X0_neighbour ce (nI k1))).toNatClampNeg))))) := ev14
      have hP : va_P D vwCl [(aW, .inr (5, [.ref aPr, .ref aLe, .ref aSe, .ref aRe])), (aPr, .inl (y4.1, 64, .inl PR)), (aLe, .inl (y4.1, 64, .inl v14))] H := hP
      have hD : va_D A [(aW, .inr (5, [.ref aPr, .ref aLe, .ref aSe, .ref aRe])), (aPr, .inl (y4.1, 64, .inl PR)), (aLe, .inl (y4.1, 64, .inl v14))] := hD
      have hl : lv_has ls 5 [(3, .int (nI k1)), (2, .int (bI v13)), (0, .ref aW), (1, .int ce)] := hl
      refine lv_iinc (v := nI (k1 + 1)) (lv' := [(3, .int (nI (k1 + 1))), (2, .int (bI v13)), (0, .ref aW), (1, .int ce)]) hx hb dX6_lessenAround_79 hl (k := 0) rfl (nI_1 _) (by decide) rfl (fun ls hl => ?_)
      refine lv_goto (tgt := 4) hx hb dX6_lessenAround_82 (by decide) ?_
      have ef : (f_X6_lessenAround_4 PR ce) k1 t2 = (v13, v14) := (by replace ev14 := Eq.symm ev14; subst ev14; replace ev13 := Eq.symm ev13; subst ev13; first | (simp only [f_X6_lessenAround_4]; done) | (unfold f_X6_lessenAround_4; rfl) | rfl)
      rw [ef] at ihk1
      exact ihk1 H locs ls ⟨hP, hD, hS, lv_sub hl [0, 1, 2, 3] rfl⟩
    · refine lv_icmp_eq (tgt := 79) hx hb dX6_lessenAround_19 (by decide) (fun c10 => ?_) (fun c10 => ?_)
      · exact K79 (t2.1, t2.2) H locs ls ⟨(by first | (simp only [if_pos c10]; done) | (simp only [if_pos c10]; rfl) | rfl), (by first | (simp only [if_pos c10]; done) | (simp only [if_pos c10]; rfl) | rfl), hP, hD, hS, lv_sub hl [1, 2, 3, 4] rfl⟩
      · refine lv_aload_n hx hb dX6_lessenAround_22 rfl (lv_at hl 3 rfl) ?_
        refine va_get (ci := 5) (v := .ref aPr) (C := RX6) (T := TX6) (N := 4) hx hb hts iX6 hown hK hP 0 rfl rfl 0 (by decide) f9 (fun _ h9 => h9) rfl dX6_lessenAround_23 ?_
        refine lv_iload hx hb dX6_lessenAround_26 (lv_at hl 0 rfl) ?_
        refine va_iald hx hb hK hP 1 0 rfl rfl ((nb_in hce).resolve_left (by assumption)) dX6_lessenAround_28 ?_
        refine lv_if_le (tgt := 79) hx hb dX6_lessenAround_29 (by decide) (fun c11 => ?_) (fun c11 => ?_)
        · exact K79 (t2.1, t2.2) H locs ls ⟨(by first | (simp only [if_neg c10, if_pos c11]; done) | (simp only [if_neg c10, if_pos c11]; rfl) | rfl), (by first | (simp only [if_neg c10, if_pos c11]; done) | (simp only [if_neg c10, if_pos c11]; rfl) | rfl), hP, hD, hS, lv_sub hl [1, 2, 3, 4] rfl⟩
        · refine lv_aload_n hx hb dX6_lessenAround_32 rfl (lv_at hl 3 rfl) ?_
          refine va_get (ci := 5) (v := .ref aLe) (C := RX6) (T := TX6) (N := 4) hx hb hts iX6 hown hK hP 0 rfl rfl 1 (by decide) f15 (fun _ h9 => h9) rfl dX6_lessenAround_33 ?_
          refine lv_iload_n hx hb dX6_lessenAround_36 rfl (lv_at hl 4 rfl) ?_
          refine va_iald hx hb hK hP 2 0 rfl rfl (by first | assumption | exact vp_in_cmp (by assumption) (by assumption) (by decide)) dX6_lessenAround_37 ?_
          refine lv_aload_n hx hb dX6_lessenAround_38 rfl (lv_at hl 3 rfl) ?_
          refine va_get (ci := 5) (v := .ref aPr) (C := RX6) (T := TX6) (N := 4) hx hb hts iX6 hown hK hP 0 rfl rfl 0 (by decide) f9 (fun _ h9 => h9) rfl dX6_lessenAround_39 ?_
          refine lv_iload hx hb dX6_lessenAround_42 (lv_at hl 0 rfl) ?_
          refine va_iald hx hb hK hP 1 0 rfl rfl ((nb_in hce).resolve_left (by assumption)) dX6_lessenAround_44 ?_
          refine lv_iadd hx hb dX6_lessenAround_45 ?_
          refine lv_aload_n hx hb dX6_lessenAround_46 rfl (lv_at hl 3 rfl) ?_
          refine va_get (ci := 5) (v := .ref aLe) (C := RX6) (T := TX6) (N := 4) hx hb hts iX6 hown hK hP 0 rfl rfl 1 (by decide) f15 (fun _ h9 => h9) rfl dX6_lessenAround_47 ?_
          refine lv_iload hx hb dX6_lessenAround_50 (lv_at hl 0 rfl) ?_
          refine va_iald hx hb hK hP 2 0 rfl rfl ((nb_in hce).resolve_left (by assumption)) dX6_lessenAround_52 ?_
          refine lv_icmp_ge (tgt := 79) hx hb dX6_lessenAround_53 (by decide) (fun c12 => ?_) (fun c12 => ?_)
          · exact K79 (t2.1, t2.2) H locs ls ⟨(by first | (simp only [if_neg c10, if_neg c11, if_pos c12]; done) | (simp only [if_neg c10, if_neg c11, if_pos c12]; rfl) | rfl), (by first | (simp only [if_neg c10, if_neg c11, if_pos c12]; done) | (simp only [if_neg c10, if_neg c11, if_pos c12]; rfl) | rfl), hP, hD, hS, lv_sub hl [1, 2, 3, 4] rfl⟩
          · refine lv_aload_n hx hb dX6_lessenAround_56 rfl (lv_at hl 3 rfl) ?_
            refine va_get (ci := 5) (v := .ref aLe) (C := RX6) (T := TX6) (N := 4) hx hb hts iX6 hown hK hP 0 rfl rfl 1 (by decide) f15 (fun _ h9 => h9) rfl dX6_lessenAround_57 ?_
            refine lv_iload hx hb dX6_lessenAround_60 (lv_at hl 0 rfl) ?_
            refine lv_aload_n hx hb dX6_lessenAround_62 rfl (lv_at hl 3 rfl) ?_
            refine va_get (ci := 5) (v := .ref aLe) (C := RX6) (T := TX6) (N := 4) hx hb hts iX6 hown hK hP 0 rfl rfl 1 (by decide) f15 (fun _ h9 => h9) rfl dX6_lessenAround_63 ?_
            refine lv_iload_n hx hb dX6_lessenAround_66 rfl (lv_at hl 4 rfl) ?_
            refine va_iald hx hb hK hP 2 0 rfl rfl (by first | assumption | exact vp_in_cmp (by assumption) (by assumption) (by decide)) dX6_lessenAround_67 ?_
            refine lv_aload_n hx hb dX6_lessenAround_68 rfl (lv_at hl 3 rfl) ?_
            refine va_get (ci := 5) (v := .ref aPr) (C := RX6) (T := TX6) (N := 4) hx hb hts iX6 hown hK hP 0 rfl rfl 0 (by decide) f9 (fun _ h9 => h9) rfl dX6_lessenAround_69 ?_
            refine lv_iload hx hb dX6_lessenAround_72 (lv_at hl 0 rfl) ?_
            refine va_iald hx hb hK hP 1 0 rfl rfl ((nb_in hce).resolve_left (by assumption)) dX6_lessenAround_74 ?_
            refine lv_iadd hx hb dX6_lessenAround_75 ?_
            refine va_iast hx hb hK hP hD hS 2 0 rfl rfl ((nb_in hce).resolve_left (by assumption)) dX6_lessenAround_76 (fun H locs hP hD hS => ?_)
            have hP : va_P D vwCl [(aW, .inr (5, [.ref aPr, .ref aLe, .ref aSe, .ref aRe])), (aPr, .inl (y4.1, 64, .inl PR)), (aLe, .inl (y4.1, 64, .inl (upd t2.2 ((m_X0_neighbour ce (nI k1))).toNatClampNeg ((t2.2 (ce).toNatClampNeg) + (PR ((m_X0_neighbour ce (nI k1))).toNatClampNeg)))))] H := hP
            have hD : va_D A [(aW, .inr (5, [.ref aPr, .ref aLe, .ref aSe, .ref aRe])), (aPr, .inl (y4.1, 64, .inl PR)), (aLe, .inl (y4.1, 64, .inl (upd t2.2 ((m_X0_neighbour ce (nI k1))).toNatClampNeg ((t2.2 (ce).toNatClampNeg) + (PR ((m_X0_neighbour ce (nI k1))).toNatClampNeg)))))] := hD
            refine lv_iconst (v := 1) hx hb dX6_lessenAround_77 (by decide) ?_
            refine lv_istore_n (lv' := [(2, .int 1), (4, .int (m_X0_neighbour ce (nI k1))), (3, .int (nI k1)), (0, .ref aW), (1, .int ce)]) hx hb dX6_lessenAround_78 rfl hl (by decide) rfl (fun ls hl => ?_)
            exact K79 (true, upd t2.2 ((m_X0_neighbour ce (nI k1))).toNatClampNeg ((t2.2 (ce).toNatClampNeg) + (PR ((m_X0_neighbour ce (nI k1))).toNatClampNeg))) H locs ls ⟨(by first | (simp only [if_neg c10, if_neg c11, if_neg c12]; done) | (simp only [if_neg c10, if_neg c11, if_neg c12]; rfl) | rfl), (by first | (simp only [if_neg c10, if_neg c11, if_neg c12]; done) | (simp only [if_neg c10, if_neg c11, if_neg c12]; rfl) | rfl), hP, hD, hS, lv_sub hl [2, 0, 3, 4] rfl⟩
def f_X6_settleFrom_7 (PR : Nat → Int32) (k3 : Nat) (t4 : (Nat → Int32) × (Nat → Int32)) : (((Nat → Int32) × (Nat → Int32)) ⊕ ((Nat → Int32) × (Nat → Int32))) ⊕ ((Nat → Int32) × (Nat → Int32)) := (if (m_X6_leastUnsettled t4.1 t4.2) = (-1) then (.inl (.inl (t4.1, t4.2))) else (let q13 : Bool × (Nat → Int32) := m_X6_lessenAround PR t4.1 (m_X6_leastUnsettled t4.1 t4.2); (.inr (q13.2, upd t4.2 ((m_X6_leastUnsettled t4.1 t4.2)).toNatClampNeg (vp_nar .boolean 1)))))
def m_X6_settleFrom (PR : Nat → Int32) (LE : Nat → Int32) (SE : Nat → Int32) (fr : Int32) : (Nat → Int32) × (Nat → Int32) := (let q1 : (Nat → Int32) × (Nat → Int32) := m_X6_startFrom LE SE fr; (lpr (lpx (f_X6_settleFrom_7 PR) 64 0 (q1.1, q1.2)) id (fun t17 => (t17.1, t17.2))))
set_option maxHeartbeats 4000000 in
set_option maxRecDepth 100000 in
theorem met_X6_settleFrom (l : Launch) (D : va_G) (y4 : vT) (aW aPr aLe aSe aRe : Nat) (sz : Nat) (PR : Nat → Int32) (LE : Nat → Int32) (SE : Nat → Int32) (fr : Int32) : Met l yX6_settleFrom wsX6_settleFrom ({ frames := 3, cells := 0, slots := 0, locals := 65 }) (va_Pc [.ref aW, .int fr] (PreW D y4 [(aW, .inr (5, [.ref aPr, .ref aLe, .ref aSe, .ref aRe])), (aPr, .inl (y4.1, 64, .inl PR)), (aLe, .inl (y4.1, 64, .inl LE)), (aSe, .inl (y4.2.2.1, 64, .inl SE))] sz)) (va_Qv (fun (_ : Unit) => True) (fun _ t => PostW D (va_A [(aW, .inr (5, [.ref aPr, .ref aLe, .ref aSe, .ref aRe])), (aPr, .inl (y4.1, 64, .inl PR)), (aLe, .inl (y4.1, 64, .inl LE)), (aSe, .inl (y4.2.2.1, 64, .inl SE))] sz) [(aW, .inr (5, [.ref aPr, .ref aLe, .ref aSe, .ref aRe])), (aPr, .inl (y4.1, 64, .inl PR)), (aLe, .inl (y4.1, 64, .inl ((m_X6_settleFrom PR LE SE fr).1))), (aSe, .inl (y4.2.2.1, 64, .inl ((m_X6_settleFrom PR LE SE fr).2)))] t) (va_A [(aW, .inr (5, [.ref aPr, .ref aLe, .ref aSe, .ref aRe])), (aPr, .inl (y4.1, 64, .inl PR)), (aLe, .inl (y4.1, 64, .inl LE)), (aSe, .inl (y4.2.2.1, 64, .inl SE))] sz)) 0 0 (va_A [(aW, .inr (5, [.ref aPr, .ref aLe, .ref aSe, .ref aRe])), (aPr, .inl (y4.1, 64, .inl PR)), (aLe, .inl (y4.1, 64, .inl LE)), (aSe, .inl (y4.2.2.1, 64, .inl SE))] sz) := by
  refine Met.ofW (cc := cX6_settleFrom) (maxL := 4) (ret := none) (by decide) rfl ?_
  intro p e s m args below meth c s₁ B hml hv
  obtain ⟨rfl, hsz, hP, hK, hD0, hNW⟩ := hv
  have hx := B.exec
  have hb := B.bytes
  have hr := B.returns
  have hts := atoms_spec (ws := wsX6_settleFrom) B.pre
  have hown : s.vm.findClass RX6 = some m.cls := findClass_of_methodNamed B.named
  have hlocks := B.notSynchronized
  subst hsz
  have hD := hD0.self (sz := s.heap.size)
  generalize hAe : va_A [(aW, .inr (5, [.ref aPr, .ref aLe, .ref aSe, .ref aRe])), (aPr, .inl (y4.1, 64, .inl PR)), (aLe, .inl (y4.1, 64, .inl LE)), (aSe, .inl (y4.2.2.1, 64, .inl SE))] s.heap.size = A at hD ⊢
  have hA : ∀ q : Nat, s.heap.size ≤ q → A q := fun q h => by rw [← hAe]; exact Or.inr h
  have hS : va_S A s.heap s.heap [] := va_S.rf
  have hl := lv_entry ([.ref aW, .int fr]) (n := 4) (Nat.le_of_ble_eq_true rfl)
  rw [lg_entry_eq]
  generalize (lg_sl ([.ref aW, .int fr]) ++ List.replicate (4 - (lg_sl ([.ref aW, .int fr])).length) Slot.unset).toArray = ls at hl ⊢
  have hl : lv_has ls 4 [(0, .ref aW), (1, .int fr)] := hl
  have f18 := hts (.fieldLink RX6 18 "PillarLight$Ways" "settled" "[Z") (List.mem_of_getElem? (i := 1) rfl)
  have iX6 : ∀ w ∈ wsX60, w ∈ wsX6_settleFrom := fun _ h => List.mem_cons_of_mem _ (List.mem_append_right _ h)
  refine startW (fun H locs hP hS => ?_) hP hS
  refine lv_aload_n hx hb dX6_settleFrom_0 rfl (lv_at hl 0 rfl) ?_
  refine lv_iload_n hx hb dX6_settleFrom_1 rfl (lv_at hl 1 rfl) ?_
  refine callW_v (wr := [(aPr, .inl (y4.1, 64, .inl PR))]) (wn := fun u => [(aW, .inr (5, [.ref aPr, .ref aLe, .ref aSe, .ref aRe])), (aPr, .inl (y4.1, 64, .inl PR)), (aLe, .inl (y4.1, 64, .inl ((m_X6_startFrom LE SE fr).1))), (aSe, .inl (y4.2.2.1, 64, .inl ((m_X6_startFrom LE SE fr).2)))]) (va_runV (As := [.int fr]) (rest := []) ⟨hx, hb, hml, hown, hts⟩ (met_X6_startFrom l D y4 aW aPr aLe aSe aRe H.size LE SE fr) (cwV 1 hts gX6_settleFrom_X6_startFrom rfl rfl rfl (by decide +kernel) ⟨Nat.le_of_ble_eq_true rfl, Nat.le_of_ble_eq_true rfl⟩) ⟨preW_blind, va_recv hK hP (ci := 5) (q0 := 0) rfl rfl, preW_at (hP.sub (ws' := [(aW, .inr (5, [.ref aPr, .ref aLe, .ref aSe, .ref aRe])), (aLe, .inl (y4.1, 64, .inl LE)), (aSe, .inl (y4.2.2.1, 64, .inl SE))]) [0, 2, 3] rfl) hK (hD.sub (ws' := [(aW, .inr (5, [.ref aPr, .ref aLe, .ref aSe, .ref aRe])), (aLe, .inl (y4.1, 64, .inl LE)), (aSe, .inl (y4.2.2.1, 64, .inl SE))]) [0, 2, 3] (by decide) rfl) hNW⟩ rfl rfl hl.1 rfl (lv_room (Nat.le_of_ble_eq_true rfl)) dX6_settleFrom_2 ⟨Nat.zero_le _, Nat.zero_le _⟩) hP hD hS hA [0, 2, 3] [1] [1, 0, 2, 3] rfl rfl (by decide) (by decide) (fun _ => rfl) (by decide) (fun u2 H locs hw hP hD hS => ?_)
  obtain ⟨q1, eq1⟩ : ∃ z, z = m_X6_startFrom LE SE fr := ⟨_, rfl⟩
  rw [← eq1] at hP hD
  have hP : va_P D vwCl [(aW, .inr (5, [.ref aPr, .ref aLe, .ref aSe, .ref aRe])), (aPr, .inl (y4.1, 64, .inl PR)), (aLe, .inl (y4.1, 64, .inl q1.1)), (aSe, .inl (y4.2.2.1, 64, .inl q1.2))] H := hP
  have hD : va_D A [(aW, .inr (5, [.ref aPr, .ref aLe, .ref aSe, .ref aRe])), (aPr, .inl (y4.1, 64, .inl PR)), (aLe, .inl (y4.1, 64, .inl q1.1)), (aSe, .inl (y4.2.2.1, 64, .inl q1.2))] := hD
  refine lv_iconst (v := 0) hx hb dX6_settleFrom_5 (by decide) ?_
  refine lv_istore_n (lv' := [(2, .int 0), (0, .ref aW), (1, .int fr)]) hx hb dX6_settleFrom_6 rfl hl (by decide) rfl (fun ls hl => ?_)
  refine cutW (X := (Nat → Int32) × (Nat → Int32)) 43 (fun x H locs ls => ((lpx (f_X6_settleFrom_7 PR) 64 0 (q1.1, q1.2)) = .inl (.inr x) ∨ (lpx (f_X6_settleFrom_7 PR) 64 0 (q1.1, q1.2)) = .inr x) ∧ va_P D vwCl [(aW, .inr (5, [.ref aPr, .ref aLe, .ref aSe, .ref aRe])), (aPr, .inl (y4.1, 64, .inl PR)), (aLe, .inl (y4.1, 64, .inl x.1)), (aSe, .inl (y4.2.2.1, 64, .inl x.2))] H ∧ va_D A [(aW, .inr (5, [.ref aPr, .ref aLe, .ref aSe, .ref aRe])), (aPr, .inl (y4.1, 64, .inl PR)), (aLe, .inl (y4.1, 64, .inl x.1)), (aSe, .inl (y4.2.2.1, 64, .inl x.2))] ∧ va_S A s.heap H locs ∧ lv_has ls 4 []) (fun x => []) ?_ (fun K43 => ?_)
  · rintro t17 H locs ls ⟨et17, hP, hD, hS, hl⟩
    have hP : va_P D vwCl [(aW, .inr (5, [.ref aPr, .ref aLe, .ref aSe, .ref aRe])), (aPr, .inl (y4.1, 64, .inl PR)), (aLe, .inl (y4.1, 64, .inl t17.1)), (aSe, .inl (y4.2.2.1, 64, .inl t17.2))] H := hP
    have hD : va_D A [(aW, .inr (5, [.ref aPr, .ref aLe, .ref aSe, .ref aRe])), (aPr, .inl (y4.1, 64, .inl PR)), (aLe, .inl (y4.1, 64, .inl t17.1)), (aSe, .inl (y4.2.2.1, 64, .inl t17.2))] := hD
    have hl : lv_has ls 4 [] := hl
    have em : m_X6_settleFrom PR LE SE fr = (t17.1, t17.2) := (by replace eq1 := Eq.symm eq1; subst eq1; first | (simp only [m_X6_settleFrom, lpr_k et17]; done) | (simp only [m_X6_settleFrom, lpr_k et17]; rfl))
    exact W.vret hx hb hr (fun t ht hW => ⟨⟨(), rfl, trivial, ⟨by rw [ht, em]; exact hP, by rw [em]; exact hD⟩⟩, hS.F ht⟩) hS.2.2 dX6_settleFrom_43
  · refine loopX (σ := (Nat → Int32) × (Nat → Int32)) (ρ := ((Nat → Int32) × (Nat → Int32)) ⊕ ((Nat → Int32) × (Nat → Int32))) 7 (f_X6_settleFrom_7 PR) (fun _ _ => True) 64 0 (q1.1, q1.2) (fun k3 t4 H locs ls => va_P D vwCl [(aW, .inr (5, [.ref aPr, .ref aLe, .ref aSe, .ref aRe])), (aPr, .inl (y4.1, 64, .inl PR)), (aLe, .inl (y4.1, 64, .inl t4.1)), (aSe, .inl (y4.2.2.1, 64, .inl t4.2))] H ∧ va_D A [(aW, .inr (5, [.ref aPr, .ref aLe, .ref aSe, .ref aRe])), (aPr, .inl (y4.1, 64, .inl PR)), (aLe, .inl (y4.1, 64, .inl t4.1)), (aSe, .inl (y4.2.2.1, 64, .inl t4.2))] ∧ va_S A s.heap H locs ∧ lv_has ls 4 [(2, .int (nI k3)), (0, .ref aW)]) trivial ⟨hP, hD, hS, lv_sub hl [0, 1] rfl⟩ (fun t15 H locs ls et15 hit15 hh => ?_) (fun k3 t4 hkk3 hjk3 hik3 hretk3 ihk3 H locs ls hh => ?_)
    · obtain ⟨hP, hD, hS, hl⟩ := hh
      have hP : va_P D vwCl [(aW, .inr (5, [.ref aPr, .ref aLe, .ref aSe, .ref aRe])), (aPr, .inl (y4.1, 64, .inl PR)), (aLe, .inl (y4.1, 64, .inl t15.1)), (aSe, .inl (y4.2.2.1, 64, .inl t15.2))] H := hP
      have hD : va_D A [(aW, .inr (5, [.ref aPr, .ref aLe, .ref aSe, .ref aRe])), (aPr, .inl (y4.1, 64, .inl PR)), (aLe, .inl (y4.1, 64, .inl t15.1)), (aSe, .inl (y4.2.2.1, 64, .inl t15.2))] := hD
      have hl : lv_has ls 4 [(2, .int (nI 64)), (0, .ref aW)] := hl
      refine lv_iload_n hx hb dX6_settleFrom_7 rfl (lv_at hl 0 rfl) ?_
      refine lv_bipush (v := 64) hx hb dX6_settleFrom_8 (by decide) ?_
      refine lv_icmp_ge (tgt := 43) hx hb dX6_settleFrom_10 (by decide) (fun c16 => ?_) (fun c16 => absurd (nI_le (a := 64) (by omega) (by omega)) c16)
      exact K43 t15 H locs ls ⟨Or.inr et15, hP, hD, hS, lv_sub hl [] rfl⟩
    · obtain ⟨hP, hD, hS, hl⟩ := hh
      have hP : va_P D vwCl [(aW, .inr (5, [.ref aPr, .ref aLe, .ref aSe, .ref aRe])), (aPr, .inl (y4.1, 64, .inl PR)), (aLe, .inl (y4.1, 64, .inl t4.1)), (aSe, .inl (y4.2.2.1, 64, .inl t4.2))] H := hP
      have hD : va_D A [(aW, .inr (5, [.ref aPr, .ref aLe, .ref aSe, .ref aRe])), (aPr, .inl (y4.1, 64, .inl PR)), (aLe, .inl (y4.1, 64, .inl t4.1)), (aSe, .inl (y4.2.2.1, 64, .inl t4.2))] := hD
      have hl : lv_has ls 4 [(2, .int (nI k3)), (0, .ref aW)] := hl
      refine lv_iload_n hx hb dX6_settleFrom_7 rfl (lv_at hl 0 rfl) ?_
      refine lv_bipush (v := 64) hx hb dX6_settleFrom_8 (by decide) ?_
      refine lv_icmp_ge (tgt := 43) hx hb dX6_settleFrom_10 (by decide) (fun c10 => absurd c10 (nI_ge (b := 64) (by omega) (by omega))) (fun c10 => ?_)
      refine lv_aload_n hx hb dX6_settleFrom_13 rfl (lv_at hl 1 rfl) ?_
      refine callW_i (wr := [(aPr, .inl (y4.1, 64, .inl PR))]) (wn := fun u => [(aW, .inr (5, [.ref aPr, .ref aLe, .ref aSe, .ref aRe])), (aPr, .inl (y4.1, 64, .inl PR)), (aLe, .inl (y4.1, 64, .inl t4.1)), (aSe, .inl (y4.2.2.1, 64, .inl t4.2))]) (va_runV (As := []) (rest := []) ⟨hx, hb, hml, hown, hts⟩ (met_X6_leastUnsettled l D y4 aW aPr aLe aSe aRe H.size t4.1 t4.2) (cwV 0 hts gX6_settleFrom_X6_leastUnsettled rfl rfl rfl (by decide +kernel) ⟨Nat.le_of_ble_eq_true rfl, Nat.le_of_ble_eq_true rfl⟩) ⟨preW_blind, va_recv hK hP (ci := 5) (q0 := 0) rfl rfl, preW_at (hP.sub (ws' := [(aW, .inr (5, [.ref aPr, .ref aLe, .ref aSe, .ref aRe])), (aLe, .inl (y4.1, 64, .inl t4.1)), (aSe, .inl (y4.2.2.1, 64, .inl t4.2))]) [0, 2, 3] rfl) hK (hD.sub (ws' := [(aW, .inr (5, [.ref aPr, .ref aLe, .ref aSe, .ref aRe])), (aLe, .inl (y4.1, 64, .inl t4.1)), (aSe, .inl (y4.2.2.1, 64, .inl t4.2))]) [0, 2, 3] (by decide) rfl) hNW⟩ rfl rfl hl.1 rfl (lv_room (Nat.le_of_ble_eq_true rfl)) dX6_settleFrom_14 ⟨Nat.zero_le _, Nat.zero_le _⟩) hP hD hS hA [0, 2, 3] [1] [1, 0, 2, 3] rfl rfl (by decide) (by decide) (fun _ => rfl) (by decide) (fun r u11 H locs hw hP hD hS => ?_)
      replace hw := Eq.symm hw
      subst hw
      have hP : va_P D vwCl [(aW, .inr (5, [.ref aPr, .ref aLe, .ref aSe, .ref aRe])), (aPr, .inl (y4.1, 64, .inl PR)), (aLe, .inl (y4.1, 64, .inl t4.1)), (aSe, .inl (y4.2.2.1, 64, .inl t4.2))] H := hP
      have hD : va_D A [(aW, .inr (5, [.ref aPr, .ref aLe, .ref aSe, .ref aRe])), (aPr, .inl (y4.1, 64, .inl PR)), (aLe, .inl (y4.1, 64, .inl t4.1)), (aSe, .inl (y4.2.2.1, 64, .inl t4.2))] := hD
      refine lv_istore_n (lv' := [(3, .int (m_X6_leastUnsettled t4.1 t4.2)), (2, .int (nI k3)), (0, .ref aW)]) hx hb dX6_settleFrom_17 rfl hl (by decide) rfl (fun ls hl => ?_)
      refine lv_iload_n hx hb dX6_settleFrom_18 rfl (lv_at hl 0 rfl) ?_
      refine lv_iconst (v := (-1)) hx hb dX6_settleFrom_19 (by decide) ?_
      refine lv_icmp_ne (tgt := 24) hx hb dX6_settleFrom_20 (by decide) (fun c12 => ?_) (fun c12 => ?_)
      · refine lv_aload_n hx hb dX6_settleFrom_24 rfl (lv_at hl 2 rfl) ?_
        refine va_get (ci := 5) (v := .ref aSe) (C := RX6) (T := TX6) (N := 4) hx hb hts iX6 hown hK hP 0 rfl rfl 2 (by decide) f18 (fun _ h9 => h9) rfl dX6_settleFrom_25 ?_
        refine lv_iload_n hx hb dX6_settleFrom_28 rfl (lv_at hl 0 rfl) ?_
        refine lv_iconst (v := 1) hx hb dX6_settleFrom_29 (by decide) ?_
        refine va_zast hx hb hK hP hD hS 3 2 rfl rfl ((lu_in _ _).resolve_left (by assumption)) dX6_settleFrom_30 (fun H locs hP hD hS => ?_)
        have hP : va_P D vwCl [(aW, .inr (5, [.ref aPr, .ref aLe, .ref aSe, .ref aRe])), (aPr, .inl (y4.1, 64, .inl PR)), (aLe, .inl (y4.1, 64, .inl t4.1)), (aSe, .inl (y4.2.2.1, 64, .inl (upd t4.2 ((m_X6_leastUnsettled t4.1 t4.2)).toNatClampNeg (vp_nar .boolean 1))))] H := hP
        have hD : va_D A [(aW, .inr (5, [.ref aPr, .ref aLe, .ref aSe, .ref aRe])), (aPr, .inl (y4.1, 64, .inl PR)), (aLe, .inl (y4.1, 64, .inl t4.1)), (aSe, .inl (y4.2.2.1, 64, .inl (upd t4.2 ((m_X6_leastUnsettled t4.1 t4.2)).toNatClampNeg (vp_nar .boolean 1))))] := hD
        refine lv_aload_n hx hb dX6_settleFrom_31 rfl (lv_at hl 2 rfl) ?_
        refine lv_iload_n hx hb dX6_settleFrom_32 rfl (lv_at hl 0 rfl) ?_
        refine callW_i (wr := [(aSe, .inl (y4.2.2.1, 64, .inl (upd t4.2 ((m_X6_leastUnsettled t4.1 t4.2)).toNatClampNeg (vp_nar .boolean 1))))]) (wn := fun u => [(aW, .inr (5, [.ref aPr, .ref aLe, .ref aSe, .ref aRe])), (aPr, .inl (y4.1, 64, .inl PR)), (aLe, .inl (y4.1, 64, .inl ((m_X6_lessenAround PR t4.1 (m_X6_leastUnsettled t4.1 t4.2)).2))), (aSe, .inl (y4.2.2.1, 64, .inl (upd t4.2 ((m_X6_leastUnsettled t4.1 t4.2)).toNatClampNeg (vp_nar .boolean 1))))]) (va_runV (As := [.int (m_X6_leastUnsettled t4.1 t4.2)]) (rest := []) ⟨hx, hb, hml, hown, hts⟩ (met_X6_lessenAround l D y4 aW aPr aLe aSe aRe H.size PR t4.1 (m_X6_leastUnsettled t4.1 t4.2) ((lu_in _ _).resolve_left (by assumption))) (cwV 1 hts gX6_settleFrom_X6_lessenAround rfl rfl rfl (by decide +kernel) ⟨Nat.le_of_ble_eq_true rfl, Nat.le_of_ble_eq_true rfl⟩) ⟨preW_blind, va_recv hK hP (ci := 5) (q0 := 0) rfl rfl, preW_at (hP.sub (ws' := [(aW, .inr (5, [.ref aPr, .ref aLe, .ref aSe, .ref aRe])), (aPr, .inl (y4.1, 64, .inl PR)), (aLe, .inl (y4.1, 64, .inl t4.1))]) [0, 1, 2] rfl) hK (hD.sub (ws' := [(aW, .inr (5, [.ref aPr, .ref aLe, .ref aSe, .ref aRe])), (aPr, .inl (y4.1, 64, .inl PR)), (aLe, .inl (y4.1, 64, .inl t4.1))]) [0, 1, 2] (by decide) rfl) hNW⟩ rfl rfl hl.1 rfl (lv_room (Nat.le_of_ble_eq_true rfl)) dX6_settleFrom_33 ⟨Nat.zero_le _, Nat.zero_le _⟩) hP hD hS hA [0, 1, 2] [3] [1, 2, 3, 0] rfl rfl (by decide) (by decide) (fun _ => rfl) (by decide) (fun r u14 H locs hw hP hD hS => ?_)
        obtain ⟨q13, eq13⟩ : ∃ z, z = m_X6_lessenAround PR t4.1 (m_X6_leastUnsettled t4.1 t4.2) := ⟨_, rfl⟩
        rw [← eq13] at hw hP hD
        replace hw := Eq.symm hw
        subst hw
        have hP : va_P D vwCl [(aW, .inr (5, [.ref aPr, .ref aLe, .ref aSe, .ref aRe])), (aPr, .inl (y4.1, 64, .inl PR)), (aLe, .inl (y4.1, 64, .inl q13.2)), (aSe, .inl (y4.2.2.1, 64, .inl (upd t4.2 ((m_X6_leastUnsettled t4.1 t4.2)).toNatClampNeg (vp_nar .boolean 1))))] H := hP
        have hD : va_D A [(aW, .inr (5, [.ref aPr, .ref aLe, .ref aSe, .ref aRe])), (aPr, .inl (y4.1, 64, .inl PR)), (aLe, .inl (y4.1, 64, .inl q13.2)), (aSe, .inl (y4.2.2.1, 64, .inl (upd t4.2 ((m_X6_leastUnsettled t4.1 t4.2)).toNatClampNeg (vp_nar .boolean 1))))] := hD
        refine lv_pop hx hb dX6_settleFrom_36 rfl ?_
        refine lv_iinc (v := nI (k3 + 1)) (lv' := [(2, .int (nI (k3 + 1))), (3, .int (m_X6_leastUnsettled t4.1 t4.2)), (0, .ref aW)]) hx hb dX6_settleFrom_37 hl (k := 1) rfl (nI_1 _) (by decide) rfl (fun ls hl => ?_)
        refine lv_goto (tgt := 7) hx hb dX6_settleFrom_40 (by decide) ?_
        have ef : (f_X6_settleFrom_7 PR) k3 t4 = .inr (q13.2, upd t4.2 ((m_X6_leastUnsettled t4.1 t4.2)).toNatClampNeg (vp_nar .boolean 1)) := (by replace eq13 := Eq.symm eq13; subst eq13; first | (simp only [f_X6_settleFrom_7, if_neg c12]; done) | (simp only [f_X6_settleFrom_7, if_neg c12]; rfl))
        exact ihk3 _ ef trivial H locs ls ⟨hP, hD, hS, lv_sub hl [0, 2] rfl⟩
      · have ef : (f_X6_settleFrom_7 PR) k3 t4 = .inl (.inl (t4.1, t4.2)) := (by first | (simp only [f_X6_settleFrom_7, if_pos c12]; done) | (simp only [f_X6_settleFrom_7, if_pos c12]; rfl))
        have erk3 := hretk3 _ ef
        have em : m_X6_settleFrom PR LE SE fr = (t4.1, t4.2) := (by replace eq1 := Eq.symm eq1; subst eq1; first | (simp only [m_X6_settleFrom, lpr_j erk3]; done) | (simp only [m_X6_settleFrom, lpr_j erk3]; rfl))
        exact W.vret hx hb hr (fun t ht hW => ⟨⟨(), rfl, trivial, ⟨by rw [ht, em]; exact hP, by rw [em]; exact hD⟩⟩, hS.F ht⟩) hS.2.2 dX6_settleFrom_23
def f_X6_lessenFrom_24 (PR : Nat → Int32) (k27 : Nat) (t28 : Bool × (Nat → Int32)) : Bool × (Nat → Int32) := (let v41 : Bool := (if 1000000 ≤ (t28.2 (nI k27).toNatClampNeg) then t28.1 else (let q38 : Bool × (Nat → Int32) := m_X6_lessenAround PR t28.2 (nI k27); (if q38.1 = false then t28.1 else true))); (let v42 : Nat → Int32 := (if 1000000 ≤ (t28.2 (nI k27).toNatClampNeg) then t28.2 else (let q38 : Bool × (Nat → Int32) := m_X6_lessenAround PR t28.2 (nI k27); (if q38.1 = false then q38.2 else q38.2))); (v41, v42)))
def f_X6_lessenFrom_9 (PR : Nat → Int32) (k3 : Nat) (t4 : Bool × (Nat → Int32)) : (((Nat → Int32) × (Nat → Int32)) ⊕ (Bool × (Nat → Int32))) ⊕ (Bool × (Nat → Int32)) := (if t4.1 = false then (.inl (.inr (t4.1, t4.2))) else (let t43 : Bool × (Nat → Int32) := itr (f_X6_lessenFrom_24 PR) 64 (false, t4.2); (.inr (t43.1, t43.2))))
def m_X6_lessenFrom (PR : Nat → Int32) (LE : Nat → Int32) (SE : Nat → Int32) (fr : Int32) : (Nat → Int32) × (Nat → Int32) := (let q1 : (Nat → Int32) × (Nat → Int32) := m_X6_startFrom LE SE fr; (lpr (lpx (f_X6_lessenFrom_9 PR) 64 0 (true, q1.1)) id (fun t47 => (t47.2, q1.2))))
set_option maxHeartbeats 4000000 in
set_option maxRecDepth 100000 in
theorem met_X6_lessenFrom (l : Launch) (D : va_G) (y4 : vT) (aW aPr aLe aSe aRe : Nat) (sz : Nat) (PR : Nat → Int32) (LE : Nat → Int32) (SE : Nat → Int32) (fr : Int32) : Met l yX6_lessenFrom wsX6_lessenFrom ({ frames := 3, cells := 0, slots := 0, locals := 65 }) (va_Pc [.ref aW, .int fr] (PreW D y4 [(aW, .inr (5, [.ref aPr, .ref aLe, .ref aSe, .ref aRe])), (aPr, .inl (y4.1, 64, .inl PR)), (aLe, .inl (y4.1, 64, .inl LE)), (aSe, .inl (y4.2.2.1, 64, .inl SE))] sz)) (va_Qv (fun (_ : Unit) => True) (fun _ t => PostW D (va_A [(aW, .inr (5, [.ref aPr, .ref aLe, .ref aSe, .ref aRe])), (aPr, .inl (y4.1, 64, .inl PR)), (aLe, .inl (y4.1, 64, .inl LE)), (aSe, .inl (y4.2.2.1, 64, .inl SE))] sz) [(aW, .inr (5, [.ref aPr, .ref aLe, .ref aSe, .ref aRe])), (aPr, .inl (y4.1, 64, .inl PR)), (aLe, .inl (y4.1, 64, .inl ((m_X6_lessenFrom PR LE SE fr).1))), (aSe, .inl (y4.2.2.1, 64, .inl ((m_X6_lessenFrom PR LE SE fr).2)))] t) (va_A [(aW, .inr (5, [.ref aPr, .ref aLe, .ref aSe, .ref aRe])), (aPr, .inl (y4.1, 64, .inl PR)), (aLe, .inl (y4.1, 64, .inl LE)), (aSe, .inl (y4.2.2.1, 64, .inl SE))] sz)) 0 0 (va_A [(aW, .inr (5, [.ref aPr, .ref aLe, .ref aSe, .ref aRe])), (aPr, .inl (y4.1, 64, .inl PR)), (aLe, .inl (y4.1, 64, .inl LE)), (aSe, .inl (y4.2.2.1, 64, .inl SE))] sz) := by
  refine Met.ofW (cc := cX6_lessenFrom) (maxL := 5) (ret := none) (by decide) rfl ?_
  intro p e s m args below meth c s₁ B hml hv
  obtain ⟨rfl, hsz, hP, hK, hD0, hNW⟩ := hv
  have hx := B.exec
  have hb := B.bytes
  have hr := B.returns
  have hts := atoms_spec (ws := wsX6_lessenFrom) B.pre
  have hown : s.vm.findClass RX6 = some m.cls := findClass_of_methodNamed B.named
  have hlocks := B.notSynchronized
  subst hsz
  have hD := hD0.self (sz := s.heap.size)
  generalize hAe : va_A [(aW, .inr (5, [.ref aPr, .ref aLe, .ref aSe, .ref aRe])), (aPr, .inl (y4.1, 64, .inl PR)), (aLe, .inl (y4.1, 64, .inl LE)), (aSe, .inl (y4.2.2.1, 64, .inl SE))] s.heap.size = A at hD ⊢
  have hA : ∀ q : Nat, s.heap.size ≤ q → A q := fun q h => by rw [← hAe]; exact Or.inr h
  have hS : va_S A s.heap s.heap [] := va_S.rf
  have hl := lv_entry ([.ref aW, .int fr]) (n := 5) (Nat.le_of_ble_eq_true rfl)
  rw [lg_entry_eq]
  generalize (lg_sl ([.ref aW, .int fr]) ++ List.replicate (5 - (lg_sl ([.ref aW, .int fr])).length) Slot.unset).toArray = ls at hl ⊢
  have hl : lv_has ls 5 [(0, .ref aW), (1, .int fr)] := hl
  have f15 := hts (.fieldLink RX6 15 "PillarLight$Ways" "least" "[I") (List.mem_of_getElem? (i := 1) rfl)
  have iX6 : ∀ w ∈ wsX60, w ∈ wsX6_lessenFrom := fun _ h => List.mem_cons_of_mem _ (List.mem_append_right _ h)
  have f42 := hts (.constant RX6 42 (1000000)) (List.mem_of_getElem? (i := 2) rfl)
  refine startW (fun H locs hP hS => ?_) hP hS
  refine lv_aload_n hx hb dX6_lessenFrom_0 rfl (lv_at hl 0 rfl) ?_
  refine lv_iload_n hx hb dX6_lessenFrom_1 rfl (lv_at hl 1 rfl) ?_
  refine callW_v (wr := [(aPr, .inl (y4.1, 64, .inl PR))]) (wn := fun u => [(aW, .inr (5, [.ref aPr, .ref aLe, .ref aSe, .ref aRe])), (aPr, .inl (y4.1, 64, .inl PR)), (aLe, .inl (y4.1, 64, .inl ((m_X6_startFrom LE SE fr).1))), (aSe, .inl (y4.2.2.1, 64, .inl ((m_X6_startFrom LE SE fr).2)))]) (va_runV (As := [.int fr]) (rest := []) ⟨hx, hb, hml, hown, hts⟩ (met_X6_startFrom l D y4 aW aPr aLe aSe aRe H.size LE SE fr) (cwV 1 hts gX6_lessenFrom_X6_startFrom rfl rfl rfl (by decide +kernel) ⟨Nat.le_of_ble_eq_true rfl, Nat.le_of_ble_eq_true rfl⟩) ⟨preW_blind, va_recv hK hP (ci := 5) (q0 := 0) rfl rfl, preW_at (hP.sub (ws' := [(aW, .inr (5, [.ref aPr, .ref aLe, .ref aSe, .ref aRe])), (aLe, .inl (y4.1, 64, .inl LE)), (aSe, .inl (y4.2.2.1, 64, .inl SE))]) [0, 2, 3] rfl) hK (hD.sub (ws' := [(aW, .inr (5, [.ref aPr, .ref aLe, .ref aSe, .ref aRe])), (aLe, .inl (y4.1, 64, .inl LE)), (aSe, .inl (y4.2.2.1, 64, .inl SE))]) [0, 2, 3] (by decide) rfl) hNW⟩ rfl rfl hl.1 rfl (lv_room (Nat.le_of_ble_eq_true rfl)) dX6_lessenFrom_2 ⟨Nat.zero_le _, Nat.zero_le _⟩) hP hD hS hA [0, 2, 3] [1] [1, 0, 2, 3] rfl rfl (by decide) (by decide) (fun _ => rfl) (by decide) (fun u2 H locs hw hP hD hS => ?_)
  obtain ⟨q1, eq1⟩ : ∃ z, z = m_X6_startFrom LE SE fr := ⟨_, rfl⟩
  rw [← eq1] at hP hD
  have hP : va_P D vwCl [(aW, .inr (5, [.ref aPr, .ref aLe, .ref aSe, .ref aRe])), (aPr, .inl (y4.1, 64, .inl PR)), (aLe, .inl (y4.1, 64, .inl q1.1)), (aSe, .inl (y4.2.2.1, 64, .inl q1.2))] H := hP
  have hD : va_D A [(aW, .inr (5, [.ref aPr, .ref aLe, .ref aSe, .ref aRe])), (aPr, .inl (y4.1, 64, .inl PR)), (aLe, .inl (y4.1, 64, .inl q1.1)), (aSe, .inl (y4.2.2.1, 64, .inl q1.2))] := hD
  refine lv_iconst (v := 1) hx hb dX6_lessenFrom_5 (by decide) ?_
  refine lv_istore_n (lv' := [(2, .int 1), (0, .ref aW), (1, .int fr)]) hx hb dX6_lessenFrom_6 rfl hl (by decide) rfl (fun ls hl => ?_)
  refine lv_iconst (v := 0) hx hb dX6_lessenFrom_7 (by decide) ?_
  refine lv_istore_n (lv' := [(3, .int 0), (2, .int 1), (0, .ref aW), (1, .int fr)]) hx hb dX6_lessenFrom_8 rfl hl (by decide) rfl (fun ls hl => ?_)
  refine cutW (X := Bool × (Nat → Int32)) 66 (fun x H locs ls => ((lpx (f_X6_lessenFrom_9 PR) 64 0 (true, q1.1)) = .inl (.inr x) ∨ (lpx (f_X6_lessenFrom_9 PR) 64 0 (true, q1.1)) = .inr x) ∧ va_P D vwCl [(aW, .inr (5, [.ref aPr, .ref aLe, .ref aSe, .ref aRe])), (aPr, .inl (y4.1, 64, .inl PR)), (aLe, .inl (y4.1, 64, .inl x.2)), (aSe, .inl (y4.2.2.1, 64, .inl q1.2))] H ∧ va_D A [(aW, .inr (5, [.ref aPr, .ref aLe, .ref aSe, .ref aRe])), (aPr, .inl (y4.1, 64, .inl PR)), (aLe, .inl (y4.1, 64, .inl x.2)), (aSe, .inl (y4.2.2.1, 64, .inl q1.2))] ∧ va_S A s.heap H locs ∧ lv_has ls 5 []) (fun x => []) ?_ (fun K66 => ?_)
  · rintro t47 H locs ls ⟨et47, hP, hD, hS, hl⟩
    have hP : va_P D vwCl [(aW, .inr (5, [.ref aPr, .ref aLe, .ref aSe, .ref aRe])), (aPr, .inl (y4.1, 64, .inl PR)), (aLe, .inl (y4.1, 64, .inl t47.2)), (aSe, .inl (y4.2.2.1, 64, .inl q1.2))] H := hP
    have hD : va_D A [(aW, .inr (5, [.ref aPr, .ref aLe, .ref aSe, .ref aRe])), (aPr, .inl (y4.1, 64, .inl PR)), (aLe, .inl (y4.1, 64, .inl t47.2)), (aSe, .inl (y4.2.2.1, 64, .inl q1.2))] := hD
    have hl : lv_has ls 5 [] := hl
    have em : m_X6_lessenFrom PR LE SE fr = (t47.2, q1.2) := (by replace eq1 := Eq.symm eq1; subst eq1; first | (simp only [m_X6_lessenFrom, lpr_k et47]; done) | (simp only [m_X6_lessenFrom, lpr_k et47]; rfl))
    exact W.vret hx hb hr (fun t ht hW => ⟨⟨(), rfl, trivial, ⟨by rw [ht, em]; exact hP, by rw [em]; exact hD⟩⟩, hS.F ht⟩) hS.2.2 dX6_lessenFrom_66
  · refine loopX (σ := Bool × (Nat → Int32)) (ρ := ((Nat → Int32) × (Nat → Int32)) ⊕ (Bool × (Nat → Int32))) 9 (f_X6_lessenFrom_9 PR) (fun _ _ => True) 64 0 (true, q1.1) (fun k3 t4 H locs ls => va_P D vwCl [(aW, .inr (5, [.ref aPr, .ref aLe, .ref aSe, .ref aRe])), (aPr, .inl (y4.1, 64, .inl PR)), (aLe, .inl (y4.1, 64, .inl t4.2)), (aSe, .inl (y4.2.2.1, 64, .inl q1.2))] H ∧ va_D A [(aW, .inr (5, [.ref aPr, .ref aLe, .ref aSe, .ref aRe])), (aPr, .inl (y4.1, 64, .inl PR)), (aLe, .inl (y4.1, 64, .inl t4.2)), (aSe, .inl (y4.2.2.1, 64, .inl q1.2))] ∧ va_S A s.heap H locs ∧ lv_has ls 5 [(3, .int (nI k3)), (2, .int (bI t4.1)), (0, .ref aW)]) trivial ⟨hP, hD, hS, lv_sub hl [0, 1, 2] rfl⟩ (fun t45 H locs ls et45 hit45 hh => ?_) (fun k3 t4 hkk3 hjk3 hik3 hretk3 ihk3 H locs ls hh => ?_)
    · obtain ⟨hP, hD, hS, hl⟩ := hh
      have hP : va_P D vwCl [(aW, .inr (5, [.ref aPr, .ref aLe, .ref aSe, .ref aRe])), (aPr, .inl (y4.1, 64, .inl PR)), (aLe, .inl (y4.1, 64, .inl t45.2)), (aSe, .inl (y4.2.2.1, 64, .inl q1.2))] H := hP
      have hD : va_D A [(aW, .inr (5, [.ref aPr, .ref aLe, .ref aSe, .ref aRe])), (aPr, .inl (y4.1, 64, .inl PR)), (aLe, .inl (y4.1, 64, .inl t45.2)), (aSe, .inl (y4.2.2.1, 64, .inl q1.2))] := hD
      have hl : lv_has ls 5 [(3, .int (nI 64)), (2, .int (bI t45.1)), (0, .ref aW)] := hl
      refine lv_iload_n hx hb dX6_lessenFrom_9 rfl (lv_at hl 0 rfl) ?_
      refine lv_bipush (v := 64) hx hb dX6_lessenFrom_10 (by decide) ?_
      refine lv_icmp_ge (tgt := 66) hx hb dX6_lessenFrom_12 (by decide) (fun c46 => ?_) (fun c46 => absurd (nI_le (a := 64) (by omega) (by omega)) c46)
      exact K66 t45 H locs ls ⟨Or.inr et45, hP, hD, hS, lv_sub hl [] rfl⟩
    · obtain ⟨hP, hD, hS, hl⟩ := hh
      have hP : va_P D vwCl [(aW, .inr (5, [.ref aPr, .ref aLe, .ref aSe, .ref aRe])), (aPr, .inl (y4.1, 64, .inl PR)), (aLe, .inl (y4.1, 64, .inl t4.2)), (aSe, .inl (y4.2.2.1, 64, .inl q1.2))] H := hP
      have hD : va_D A [(aW, .inr (5, [.ref aPr, .ref aLe, .ref aSe, .ref aRe])), (aPr, .inl (y4.1, 64, .inl PR)), (aLe, .inl (y4.1, 64, .inl t4.2)), (aSe, .inl (y4.2.2.1, 64, .inl q1.2))] := hD
      have hl : lv_has ls 5 [(3, .int (nI k3)), (2, .int (bI t4.1)), (0, .ref aW)] := hl
      refine lv_iload_n hx hb dX6_lessenFrom_9 rfl (lv_at hl 0 rfl) ?_
      refine lv_bipush (v := 64) hx hb dX6_lessenFrom_10 (by decide) ?_
      refine lv_icmp_ge (tgt := 66) hx hb dX6_lessenFrom_12 (by decide) (fun c25 => absurd c25 (nI_ge (b := 64) (by omega) (by omega))) (fun c25 => ?_)
      refine lv_iload_n hx hb dX6_lessenFrom_15 rfl (lv_at hl 1 rfl) ?_
      refine lb_if_eq (tgt := 66) hx hb dX6_lessenFrom_16 (by decide) (fun c26 => ?_) (fun c26 => ?_)
      · have ef : (f_X6_lessenFrom_9 PR) k3 t4 = .inl (.inr (t4.1, t4.2)) := (by first | (simp only [f_X6_lessenFrom_9, if_pos c26]; done) | (simp only [f_X6_lessenFrom_9, if_pos c26]; rfl))
        exact K66 (t4.1, t4.2) H locs ls ⟨Or.inl (hretk3 _ ef), hP, hD, hS, lv_sub hl [] rfl⟩
      · refine lv_iconst (v := 0) hx hb dX6_lessenFrom_19 (by decide) ?_
        refine lv_istore_n (lv' := [(2, .int 0), (3, .int (nI k3)), (0, .ref aW)]) hx hb dX6_lessenFrom_20 rfl hl (by decide) rfl (fun ls hl => ?_)
        refine lv_iconst (v := 0) hx hb dX6_lessenFrom_21 (by decide) ?_
        refine lv_istore (lv' := [(4, .int 0), (2, .int 0), (3, .int (nI k3)), (0, .ref aW)]) hx hb dX6_lessenFrom_22 hl (by decide) rfl (fun ls hl => ?_)
        refine loopW (σ := Bool × (Nat → Int32)) 24 (f_X6_lessenFrom_24 PR) 64 (false, t4.2) (fun k27 t28 H locs ls => va_P D vwCl [(aW, .inr (5, [.ref aPr, .ref aLe, .ref aSe, .ref aRe])), (aPr, .inl (y4.1, 64, .inl PR)), (aLe, .inl (y4.1, 64, .inl t28.2)), (aSe, .inl (y4.2.2.1, 64, .inl q1.2))] H ∧ va_D A [(aW, .inr (5, [.ref aPr, .ref aLe, .ref aSe, .ref aRe])), (aPr, .inl (y4.1, 64, .inl PR)), (aLe, .inl (y4.1, 64, .inl t28.2)), (aSe, .inl (y4.2.2.1, 64, .inl q1.2))] ∧ va_S A s.heap H locs ∧ lv_has ls 5 [(4, .int (nI k27)), (2, .int (bI t28.1)), (3, .int (nI k3)), (0, .ref aW)]) ⟨hP, hD, hS, lv_sub hl [0, 1, 2, 3] rfl⟩ (fun t43 H locs ls et43 hh => ?_) (fun k27 t28 hkk27 hek27 ihk27 H locs ls hh => ?_)
        · obtain ⟨hP, hD, hS, hl⟩ := hh
          have hP : va_P D vwCl [(aW, .inr (5, [.ref aPr, .ref aLe, .ref aSe, .ref aRe])), (aPr, .inl (y4.1, 64, .inl PR)), (aLe, .inl (y4.1, 64, .inl t43.2)), (aSe, .inl (y4.2.2.1, 64, .inl q1.2))] H := hP
          have hD : va_D A [(aW, .inr (5, [.ref aPr, .ref aLe, .ref aSe, .ref aRe])), (aPr, .inl (y4.1, 64, .inl PR)), (aLe, .inl (y4.1, 64, .inl t43.2)), (aSe, .inl (y4.2.2.1, 64, .inl q1.2))] := hD
          have hl : lv_has ls 5 [(4, .int (nI 64)), (2, .int (bI t43.1)), (3, .int (nI k3)), (0, .ref aW)] := hl
          refine lv_iload hx hb dX6_lessenFrom_24 (lv_at hl 0 rfl) ?_
          refine lv_bipush (v := 64) hx hb dX6_lessenFrom_26 (by decide) ?_
          refine lv_icmp_ge (tgt := 60) hx hb dX6_lessenFrom_28 (by decide) (fun c44 => ?_) (fun c44 => absurd (nI_le (a := 64) (by omega) (by omega)) c44)
          refine lv_iinc (v := nI (k3 + 1)) (lv' := [(3, .int (nI (k3 + 1))), (4, .int (nI 64)), (2, .int (bI t43.1)), (0, .ref aW)]) hx hb dX6_lessenFrom_60 hl (k := 2) rfl (nI_1 _) (by decide) rfl (fun ls hl => ?_)
          refine lv_goto (tgt := 9) hx hb dX6_lessenFrom_63 (by decide) ?_
          have ef : (f_X6_lessenFrom_9 PR) k3 t4 = .inr (t43.1, t43.2) := (by replace et43 := Eq.symm et43; subst et43; first | (simp only [f_X6_lessenFrom_9, if_neg c26]; done) | (simp only [f_X6_lessenFrom_9, if_neg c26]; rfl))
          exact ihk3 _ ef trivial H locs ls ⟨hP, hD, hS, lv_sub hl [0, 2, 3] rfl⟩
        · obtain ⟨hP, hD, hS, hl⟩ := hh
          have hP : va_P D vwCl [(aW, .inr (5, [.ref aPr, .ref aLe, .ref aSe, .ref aRe])), (aPr, .inl (y4.1, 64, .inl PR)), (aLe, .inl (y4.1, 64, .inl t28.2)), (aSe, .inl (y4.2.2.1, 64, .inl q1.2))] H := hP
          have hD : va_D A [(aW, .inr (5, [.ref aPr, .ref aLe, .ref aSe, .ref aRe])), (aPr, .inl (y4.1, 64, .inl PR)), (aLe, .inl (y4.1, 64, .inl t28.2)), (aSe, .inl (y4.2.2.1, 64, .inl q1.2))] := hD
          have hl : lv_has ls 5 [(4, .int (nI k27)), (2, .int (bI t28.1)), (3, .int (nI k3)), (0, .ref aW)] := hl
          refine lv_iload hx hb dX6_lessenFrom_24 (lv_at hl 0 rfl) ?_
          refine lv_bipush (v := 64) hx hb dX6_lessenFrom_26 (by decide) ?_
          refine lv_icmp_ge (tgt := 60) hx hb dX6_lessenFrom_28 (by decide) (fun c36 => absurd c36 (nI_ge (b := 64) (by omega) (by omega))) (fun c36 => ?_)
          refine lv_aload_n hx hb dX6_lessenFrom_31 rfl (lv_at hl 3 rfl) ?_
          refine va_get (ci := 5) (v := .ref aLe) (C := RX6) (T := TX6) (N := 4) hx hb hts iX6 hown hK hP 0 rfl rfl 1 (by decide) f15 (fun _ h9 => h9) rfl dX6_lessenFrom_32 ?_
          refine lv_iload hx hb dX6_lessenFrom_35 (lv_at hl 0 rfl) ?_
          refine va_iald hx hb hK hP 2 0 rfl rfl (vp_in_nI (by omega) (by decide)) dX6_lessenFrom_37 ?_
          refine lv_ldc (v := 1000000) hx hb hown f42 dX6_lessenFrom_38 ?_
          refine cutW (X := Bool × (Nat → Int32)) 54 (fun x H locs ls => x.1 = (if 1000000 ≤ (t28.2 (nI k27).toNatClampNeg) then t28.1 else (let q38 : Bool × (Nat → Int32) := m_X6_lessenAround PR t28.2 (nI k27); (if q38.1 = false then t28.1 else true))) ∧ x.2 = (if 1000000 ≤ (t28.2 (nI k27).toNatClampNeg) then t28.2 else (let q38 : Bool × (Nat → Int32) := m_X6_lessenAround PR t28.2 (nI k27); (if q38.1 = false then q38.2 else q38.2))) ∧ va_P D vwCl [(aW, .inr (5, [.ref aPr, .ref aLe, .ref aSe, .ref aRe])), (aPr, .inl (y4.1, 64, .inl PR)), (aLe, .inl (y4.1, 64, .inl x.2)), (aSe, .inl (y4.2.2.1, 64, .inl q1.2))] H ∧ va_D A [(aW, .inr (5, [.ref aPr, .ref aLe, .ref aSe, .ref aRe])), (aPr, .inl (y4.1, 64, .inl PR)), (aLe, .inl (y4.1, 64, .inl x.2)), (aSe, .inl (y4.2.2.1, 64, .inl q1.2))] ∧ va_S A s.heap H locs ∧ lv_has ls 5 [(4, .int (nI k27)), (2, .int (bI x.1)), (3, .int (nI k3)), (0, .ref aW)]) (fun x => []) ?_ (fun K54 => ?_)
          · rintro ⟨v41, v42⟩ H locs ls ⟨ev41, ev42, hP, hD, hS, hl⟩
            have ev41 : v41 = (if 1000000 ≤ (t28.2 (nI k27).toNatClampNeg) then t28.1 else (let q38 : Bool × (Nat → Int32) := m_X6_lessenAround PR t28.2 (nI k27); (if q38.1 = false then t28.1 else true))) := ev41
            have ev42 : v42 = (if 1000000 ≤ (t28.2 (nI k27).toNatClampNeg) then t28.2 else (let q38 : Bool × (Nat → Int32) := m_X6_lessenAround PR t28.2 (nI k27); (if q38.1 = false then q38.2 else q38.2))) := ev42
            have hP : va_P D vwCl [(aW, .inr (5, [.ref aPr, .ref aLe, .ref aSe, .ref aRe])), (aPr, .inl (y4.1, 64, .inl PR)), (aLe, .inl (y4.1, 64, .inl v42)), (aSe, .inl (y4.2.2.1, 64, .inl q1.2))] H := hP
            have hD : va_D A [(aW, .inr (5, [.ref aPr, .ref aLe, .ref aSe, .ref aRe])), (aPr, .inl (y4.1, 64, .inl PR)), (aLe, .inl (y4.1, 64, .inl v42)), (aSe, .inl (y4.2.2.1, 64, .inl q1.2))] := hD
            have hl : lv_has ls 5 [(4, .int (nI k27)), (2, .int (bI v41)), (3, .int (nI k3)), (0, .ref aW)] := hl
            refine lv_iinc (v := nI (k27 + 1)) (lv' := [(4, .int (nI (k27 + 1))), (2, .int (bI v41)), (3, .int (nI k3)), (0, .ref aW)]) hx hb dX6_lessenFrom_54 hl (k := 0) rfl (nI_1 _) (by decide) rfl (fun ls hl => ?_)
            refine lv_goto (tgt := 24) hx hb dX6_lessenFrom_57 (by decide) ?_
            have ef : (f_X6_lessenFrom_24 PR) k27 t28 = (v41, v42) := (by replace ev42 := Eq.symm ev42; subst ev42; replace ev41 := Eq.symm ev41; subst ev41; first | (simp only [f_X6_lessenFrom_24]; done) | (unfold f_X6_lessenFrom_24; rfl) | rfl)
            rw [ef] at ihk27
            exact ihk27 H locs ls ⟨hP, hD, hS, lv_sub hl [0, 1, 2, 3] rfl⟩
          · refine lv_icmp_ge (tgt := 54) hx hb dX6_lessenFrom_40 (by decide) (fun c37 => ?_) (fun c37 => ?_)
            · exact K54 (t28.1, t28.2) H locs ls ⟨(by replace eq1 := Eq.symm eq1; subst eq1; first | (simp only [if_neg c26, if_pos c37]; done) | (simp only [if_neg c26, if_pos c37]; rfl) | rfl), (by replace eq1 := Eq.symm eq1; subst eq1; first | (simp only [if_neg c26, if_pos c37]; done) | (simp only [if_neg c26, if_pos c37]; rfl) | rfl), hP, hD, hS, lv_sub hl [0, 1, 2, 3] rfl⟩
            · refine lv_aload_n hx hb dX6_lessenFrom_43 rfl (lv_at hl 3 rfl) ?_
              refine lv_iload hx hb dX6_lessenFrom_44 (lv_at hl 0 rfl) ?_
              refine callW_i (wr := [(aSe, .inl (y4.2.2.1, 64, .inl q1.2))]) (wn := fun u => [(aW, .inr (5, [.ref aPr, .ref aLe, .ref aSe, .ref aRe])), (aPr, .inl (y4.1, 64, .inl PR)), (aLe, .inl (y4.1, 64, .inl ((m_X6_lessenAround PR t28.2 (nI k27)).2))), (aSe, .inl (y4.2.2.1, 64, .inl q1.2))]) (va_runV (As := [.int (nI k27)]) (rest := []) ⟨hx, hb, hml, hown, hts⟩ (met_X6_lessenAround l D y4 aW aPr aLe aSe aRe H.size PR t28.2 (nI k27) (vp_in_nI (by omega) (by decide))) (cwV 1 hts gX6_lessenFrom_X6_lessenAround rfl rfl rfl (by decide +kernel) ⟨Nat.le_of_ble_eq_true rfl, Nat.le_of_ble_eq_true rfl⟩) ⟨preW_blind, va_recv hK hP (ci := 5) (q0 := 0) rfl rfl, preW_at (hP.sub (ws' := [(aW, .inr (5, [.ref aPr, .ref aLe, .ref aSe, .ref aRe])), (aPr, .inl (y4.1, 64, .inl PR)), (aLe, .inl (y4.1, 64, .inl t28.2))]) [0, 1, 2] rfl) hK (hD.sub (ws' := [(aW, .inr (5, [.ref aPr, .ref aLe, .ref aSe, .ref aRe])), (aPr, .inl (y4.1, 64, .inl PR)), (aLe, .inl (y4.1, 64, .inl t28.2))]) [0, 1, 2] (by decide) rfl) hNW⟩ rfl rfl hl.1 rfl (lv_room (Nat.le_of_ble_eq_true rfl)) dX6_lessenFrom_46 ⟨Nat.zero_le _, Nat.zero_le _⟩) hP hD hS hA [0, 1, 2] [3] [1, 2, 3, 0] rfl rfl (by decide) (by decide) (fun _ => rfl) (by decide) (fun r u39 H locs hw hP hD hS => ?_)
              obtain ⟨q38, eq38⟩ : ∃ z, z = m_X6_lessenAround PR t28.2 (nI k27) := ⟨_, rfl⟩
              rw [← eq38] at hw hP hD
              replace hw := Eq.symm hw
              subst hw
              have hP : va_P D vwCl [(aW, .inr (5, [.ref aPr, .ref aLe, .ref aSe, .ref aRe])), (aPr, .inl (y4.1, 64, .inl PR)), (aLe, .inl (y4.1, 64, .inl q38.2)), (aSe, .inl (y4.2.2.1, 64, .inl q1.2))] H := hP
              have hD : va_D A [(aW, .inr (5, [.ref aPr, .ref aLe, .ref aSe, .ref aRe])), (aPr, .inl (y4.1, 64, .inl PR)), (aLe, .inl (y4.1, 64, .inl q38.2)), (aSe, .inl (y4.2.2.1, 64, .inl q1.2))] := hD
              refine lb_if_eq (tgt := 54) hx hb dX6_lessenFrom_49 (by decide) (fun c40 => ?_) (fun c40 => ?_)
              · exact K54 (t28.1, q38.2) H locs ls ⟨(by replace eq38 := Eq.symm eq38; subst eq38; replace eq1 := Eq.symm eq1; subst eq1; first | (simp only [if_neg c26, if_neg c37, if_pos c40]; done) | (simp only [if_neg c26, if_neg c37, if_pos c40]; rfl) | rfl), (by replace eq38 := Eq.symm eq38; subst eq38; replace eq1 := Eq.symm eq1; subst eq1; first | (simp only [if_neg c26, if_neg c37, if_pos c40]; done) | (simp only [if_neg c26, if_neg c37, if_pos c40]; rfl) | rfl), hP, hD, hS, lv_sub hl [0, 1, 2, 3] rfl⟩
              · refine lv_iconst (v := 1) hx hb dX6_lessenFrom_52 (by decide) ?_
                refine lv_istore_n (lv' := [(2, .int 1), (4, .int (nI k27)), (3, .int (nI k3)), (0, .ref aW)]) hx hb dX6_lessenFrom_53 rfl hl (by decide) rfl (fun ls hl => ?_)
                exact K54 (true, q38.2) H locs ls ⟨(by replace eq38 := Eq.symm eq38; subst eq38; replace eq1 := Eq.symm eq1; subst eq1; first | (simp only [if_neg c26, if_neg c37, if_neg c40]; done) | (simp only [if_neg c26, if_neg c37, if_neg c40]; rfl) | rfl), (by replace eq38 := Eq.symm eq38; subst eq38; replace eq1 := Eq.symm eq1; subst eq1; first | (simp only [if_neg c26, if_neg c37, if_neg c40]; done) | (simp only [if_neg c26, if_neg c37, if_neg c40]; rfl) | rfl), hP, hD, hS, lv_sub hl [1, 0, 2, 3] rfl⟩
def m_X6_leastTo (LE : Nat → Int32) (ce : Int32) : Int32 := (if 1000000 ≤ (LE (ce).toNatClampNeg) then (-4 : Int32) else LE (ce).toNatClampNeg)
set_option maxHeartbeats 4000000 in
set_option maxRecDepth 100000 in
theorem met_X6_leastTo (l : Launch) (D : va_G) (y4 : vT) (aW aPr aLe aSe aRe : Nat) (sz : Nat) (LE : Nat → Int32) (ce : Int32) (hce : vp_in ce 64) : Met l yX6_leastTo wsX6_leastTo ({ frames := 0, cells := 0, slots := 0, locals := 0 }) (va_Pc [.ref aW, .int ce] (PreW D y4 [(aW, .inr (5, [.ref aPr, .ref aLe, .ref aSe, .ref aRe])), (aLe, .inl (y4.1, 64, .inl LE))] sz)) (va_Qi (fun (r : Int32) (_ : Unit) => r = (m_X6_leastTo LE ce)) (fun _ t => PostW D (va_A [(aW, .inr (5, [.ref aPr, .ref aLe, .ref aSe, .ref aRe])), (aLe, .inl (y4.1, 64, .inl LE))] sz) [(aW, .inr (5, [.ref aPr, .ref aLe, .ref aSe, .ref aRe])), (aLe, .inl (y4.1, 64, .inl LE))] t) (va_A [(aW, .inr (5, [.ref aPr, .ref aLe, .ref aSe, .ref aRe])), (aLe, .inl (y4.1, 64, .inl LE))] sz)) 0 0 (va_A [(aW, .inr (5, [.ref aPr, .ref aLe, .ref aSe, .ref aRe])), (aLe, .inl (y4.1, 64, .inl LE))] sz) := by
  refine Met.ofW (cc := cX6_leastTo) (maxL := 2) (ret := (some .int)) (by decide) rfl ?_
  intro p e s m args below meth c s₁ B hml hv
  obtain ⟨rfl, hsz, hP, hK, hD0, hNW⟩ := hv
  have hx := B.exec
  have hb := B.bytes
  have hr := B.returns
  have hts := atoms_spec (ws := wsX6_leastTo) B.pre
  have hown : s.vm.findClass RX6 = some m.cls := findClass_of_methodNamed B.named
  have hlocks := B.notSynchronized
  subst hsz
  have hD := hD0.self (sz := s.heap.size)
  generalize hAe : va_A [(aW, .inr (5, [.ref aPr, .ref aLe, .ref aSe, .ref aRe])), (aLe, .inl (y4.1, 64, .inl LE))] s.heap.size = A at hD ⊢
  have hA : ∀ q : Nat, s.heap.size ≤ q → A q := fun q h => by rw [← hAe]; exact Or.inr h
  have hS : va_S A s.heap s.heap [] := va_S.rf
  have hl := lv_entry ([.ref aW, .int ce]) (n := 2) (Nat.le_of_ble_eq_true rfl)
  rw [lg_entry_eq]
  generalize (lg_sl ([.ref aW, .int ce]) ++ List.replicate (2 - (lg_sl ([.ref aW, .int ce])).length) Slot.unset).toArray = ls at hl ⊢
  have hl : lv_has ls 2 [(0, .ref aW), (1, .int ce)] := hl
  have f15 := hts (.fieldLink RX6 15 "PillarLight$Ways" "least" "[I") (List.mem_of_getElem? (i := 1) rfl)
  have iX6 : ∀ w ∈ wsX60, w ∈ wsX6_leastTo := fun _ h => List.mem_cons_of_mem _ (List.mem_append_right _ h)
  have f42 := hts (.constant RX6 42 (1000000)) (List.mem_of_getElem? (i := 2) rfl)
  refine startW (fun H locs hP hS => ?_) hP hS
  refine lv_aload_n hx hb dX6_leastTo_0 rfl (lv_at hl 0 rfl) ?_
  refine va_get (ci := 5) (v := .ref aLe) (C := RX6) (T := TX6) (N := 4) hx hb hts iX6 hown hK hP 0 rfl rfl 1 (by decide) f15 (fun _ h9 => h9) rfl dX6_leastTo_1 ?_
  refine lv_iload_n hx hb dX6_leastTo_4 rfl (lv_at hl 1 rfl) ?_
  refine va_iald hx hb hK hP 1 0 rfl rfl (by first | assumption | exact vp_in_cmp (by assumption) (by assumption) (by decide)) dX6_leastTo_5 ?_
  refine lv_ldc (v := 1000000) hx hb hown f42 dX6_leastTo_6 ?_
  refine lv_icmp_ge (tgt := 20) hx hb dX6_leastTo_8 (by decide) (fun c1 => ?_) (fun c1 => ?_)
  · refine lv_bipush (v := (-4)) hx hb dX6_leastTo_20 (by decide) ?_
    have em : m_X6_leastTo LE ce = (-4 : Int32) := (by first | (simp only [m_X6_leastTo, if_pos c1]; done) | (simp only [m_X6_leastTo, if_pos c1]; rfl))
    exact W.iret (v := (-4)) hx hb hr (fun t ht hW => ⟨⟨(-4), (), rfl, (by rw [em]), ⟨by rw [ht]; exact hP, by exact hD⟩⟩, hS.F ht⟩) hS.2.2 dX6_leastTo_22
  · refine lv_aload_n hx hb dX6_leastTo_11 rfl (lv_at hl 0 rfl) ?_
    refine va_get (ci := 5) (v := .ref aLe) (C := RX6) (T := TX6) (N := 4) hx hb hts iX6 hown hK hP 0 rfl rfl 1 (by decide) f15 (fun _ h9 => h9) rfl dX6_leastTo_12 ?_
    refine lv_iload_n hx hb dX6_leastTo_15 rfl (lv_at hl 1 rfl) ?_
    refine va_iald hx hb hK hP 1 0 rfl rfl (by first | assumption | exact vp_in_cmp (by assumption) (by assumption) (by decide)) dX6_leastTo_16 ?_
    refine lv_goto (tgt := 22) hx hb dX6_leastTo_17 (by decide) ?_
    have em : m_X6_leastTo LE ce = LE (ce).toNatClampNeg := (by first | (simp only [m_X6_leastTo, if_neg c1]; done) | (simp only [m_X6_leastTo, if_neg c1]; rfl))
    exact W.iret (v := LE (ce).toNatClampNeg) hx hb hr (fun t ht hW => ⟨⟨LE (ce).toNatClampNeg, (), rfl, (by rw [em]), ⟨by rw [ht]; exact hP, by exact hD⟩⟩, hS.F ht⟩) hS.2.2 dX6_leastTo_22
def f_X6_nextOnWay_2 (PR : Nat → Int32) (LE : Nat → Int32) (ce : Int32) (k1 : Nat) (t2 : Unit) : (Int32 ⊕ Unit) ⊕ Unit := (if (m_X0_neighbour ce (nI k1)) = (-1) then (.inr ()) else (if ((LE ((m_X0_neighbour ce (nI k1))).toNatClampNeg) + (PR (ce).toNatClampNeg)) = (LE (ce).toNatClampNeg) then (.inl (.inl (m_X0_neighbour ce (nI k1)))) else (.inr ())))
def m_X6_nextOnWay (PR : Nat → Int32) (LE : Nat → Int32) (ce : Int32) : Int32 := (lpr (lpx (f_X6_nextOnWay_2 PR LE ce) 4 0 ()) id (fun t8 => ce))
set_option maxHeartbeats 4000000 in
set_option maxRecDepth 100000 in
theorem met_X6_nextOnWay (l : Launch) (D : va_G) (y4 : vT) (aW aPr aLe aSe aRe : Nat) (sz : Nat) (PR : Nat → Int32) (LE : Nat → Int32) (ce : Int32) (hce : vp_in ce 64) : Met l yX6_nextOnWay wsX6_nextOnWay ({ frames := 2, cells := 0, slots := 0, locals := 41 }) (va_Pc [.ref aW, .int ce] (PreW D y4 [(aW, .inr (5, [.ref aPr, .ref aLe, .ref aSe, .ref aRe])), (aPr, .inl (y4.1, 64, .inl PR)), (aLe, .inl (y4.1, 64, .inl LE))] sz)) (va_Qi (fun (r : Int32) (_ : Unit) => r = (m_X6_nextOnWay PR LE ce)) (fun _ t => PostW D (va_A [(aW, .inr (5, [.ref aPr, .ref aLe, .ref aSe, .ref aRe])), (aPr, .inl (y4.1, 64, .inl PR)), (aLe, .inl (y4.1, 64, .inl LE))] sz) [(aW, .inr (5, [.ref aPr, .ref aLe, .ref aSe, .ref aRe])), (aPr, .inl (y4.1, 64, .inl PR)), (aLe, .inl (y4.1, 64, .inl LE))] t) (va_A [(aW, .inr (5, [.ref aPr, .ref aLe, .ref aSe, .ref aRe])), (aPr, .inl (y4.1, 64, .inl PR)), (aLe, .inl (y4.1, 64, .inl LE))] sz)) 0 0 (va_A [(aW, .inr (5, [.ref aPr, .ref aLe, .ref aSe, .ref aRe])), (aPr, .inl (y4.1, 64, .inl PR)), (aLe, .inl (y4.1, 64, .inl LE))] sz) := by
  refine Met.ofW (cc := cX6_nextOnWay) (maxL := 4) (ret := (some .int)) (by decide) rfl ?_
  intro p e s m args below meth c s₁ B hml hv
  obtain ⟨rfl, hsz, hP, hK, hD0, hNW⟩ := hv
  have hx := B.exec
  have hb := B.bytes
  have hr := B.returns
  have hts := atoms_spec (ws := wsX6_nextOnWay) B.pre
  have hown : s.vm.findClass RX6 = some m.cls := findClass_of_methodNamed B.named
  have hlocks := B.notSynchronized
  subst hsz
  have hD := hD0.self (sz := s.heap.size)
  generalize hAe : va_A [(aW, .inr (5, [.ref aPr, .ref aLe, .ref aSe, .ref aRe])), (aPr, .inl (y4.1, 64, .inl PR)), (aLe, .inl (y4.1, 64, .inl LE))] s.heap.size = A at hD ⊢
  have hA : ∀ q : Nat, s.heap.size ≤ q → A q := fun q h => by rw [← hAe]; exact Or.inr h
  have hS : va_S A s.heap s.heap [] := va_S.rf
  have hl := lv_entry ([.ref aW, .int ce]) (n := 4) (Nat.le_of_ble_eq_true rfl)
  rw [lg_entry_eq]
  generalize (lg_sl ([.ref aW, .int ce]) ++ List.replicate (4 - (lg_sl ([.ref aW, .int ce])).length) Slot.unset).toArray = ls at hl ⊢
  have hl : lv_has ls 4 [(0, .ref aW), (1, .int ce)] := hl
  have f15 := hts (.fieldLink RX6 15 "PillarLight$Ways" "least" "[I") (List.mem_of_getElem? (i := 1) rfl)
  have iX6 : ∀ w ∈ wsX60, w ∈ wsX6_nextOnWay := fun _ h => List.mem_cons_of_mem _ (List.mem_append_right _ h)
  have f9 := hts (.fieldLink RX6 9 "PillarLight$Ways" "price" "[I") (List.mem_of_getElem? (i := 2) rfl)
  refine startW (fun H locs hP hS => ?_) hP hS
  refine lv_iconst (v := 0) hx hb dX6_nextOnWay_0 (by decide) ?_
  refine lv_istore_n (lv' := [(2, .int 0), (0, .ref aW), (1, .int ce)]) hx hb dX6_nextOnWay_1 rfl hl (by decide) rfl (fun ls hl => ?_)
  refine cutW (X := Unit) 48 (fun x H locs ls => ((lpx (f_X6_nextOnWay_2 PR LE ce) 4 0 ()) = .inl (.inr x) ∨ (lpx (f_X6_nextOnWay_2 PR LE ce) 4 0 ()) = .inr x) ∧ va_P D vwCl [(aW, .inr (5, [.ref aPr, .ref aLe, .ref aSe, .ref aRe])), (aPr, .inl (y4.1, 64, .inl PR)), (aLe, .inl (y4.1, 64, .inl LE))] H ∧ va_D A [(aW, .inr (5, [.ref aPr, .ref aLe, .ref aSe, .ref aRe])), (aPr, .inl (y4.1, 64, .inl PR)), (aLe, .inl (y4.1, 64, .inl LE))] ∧ va_S A s.heap H locs ∧ lv_has ls 4 [(1, .int ce)]) (fun x => []) ?_ (fun K48 => ?_)
  · rintro t8 H locs ls ⟨et8, hP, hD, hS, hl⟩
    have hP : va_P D vwCl [(aW, .inr (5, [.ref aPr, .ref aLe, .ref aSe, .ref aRe])), (aPr, .inl (y4.1, 64, .inl PR)), (aLe, .inl (y4.1, 64, .inl LE))] H := hP
    have hD : va_D A [(aW, .inr (5, [.ref aPr, .ref aLe, .ref aSe, .ref aRe])), (aPr, .inl (y4.1, 64, .inl PR)), (aLe, .inl (y4.1, 64, .inl LE))] := hD
    have hl : lv_has ls 4 [(1, .int ce)] := hl
    refine lv_iload_n hx hb dX6_nextOnWay_48 rfl (lv_at hl 0 rfl) ?_
    have em : m_X6_nextOnWay PR LE ce = ce := (by first | (simp only [m_X6_nextOnWay, lpr_k et8]; done) | (simp only [m_X6_nextOnWay, lpr_k et8]; rfl))
    exact W.iret (v := ce) hx hb hr (fun t ht hW => ⟨⟨ce, (), rfl, (by rw [em]), ⟨by rw [ht]; exact hP, by exact hD⟩⟩, hS.F ht⟩) hS.2.2 dX6_nextOnWay_49
  · refine loopX (σ := Unit) (ρ := Int32 ⊕ Unit) 2 (f_X6_nextOnWay_2 PR LE ce) (fun _ _ => True) 4 0 () (fun k1 t2 H locs ls => va_P D vwCl [(aW, .inr (5, [.ref aPr, .ref aLe, .ref aSe, .ref aRe])), (aPr, .inl (y4.1, 64, .inl PR)), (aLe, .inl (y4.1, 64, .inl LE))] H ∧ va_D A [(aW, .inr (5, [.ref aPr, .ref aLe, .ref aSe, .ref aRe])), (aPr, .inl (y4.1, 64, .inl PR)), (aLe, .inl (y4.1, 64, .inl LE))] ∧ va_S A s.heap H locs ∧ lv_has ls 4 [(2, .int (nI k1)), (0, .ref aW), (1, .int ce)]) trivial ⟨hP, hD, hS, lv_sub hl [0, 1, 2] rfl⟩ (fun t6 H locs ls et6 hit6 hh => ?_) (fun k1 t2 hkk1 hjk1 hik1 hretk1 ihk1 H locs ls hh => ?_)
    · obtain ⟨hP, hD, hS, hl⟩ := hh
      have hP : va_P D vwCl [(aW, .inr (5, [.ref aPr, .ref aLe, .ref aSe, .ref aRe])), (aPr, .inl (y4.1, 64, .inl PR)), (aLe, .inl (y4.1, 64, .inl LE))] H := hP
      have hD : va_D A [(aW, .inr (5, [.ref aPr, .ref aLe, .ref aSe, .ref aRe])), (aPr, .inl (y4.1, 64, .inl PR)), (aLe, .inl (y4.1, 64, .inl LE))] := hD
      have hl : lv_has ls 4 [(2, .int (nI 4)), (0, .ref aW), (1, .int ce)] := hl
      refine lv_iload_n hx hb dX6_nextOnWay_2 rfl (lv_at hl 0 rfl) ?_
      refine lv_iconst (v := 4) hx hb dX6_nextOnWay_3 (by decide) ?_
      refine lv_icmp_ge (tgt := 48) hx hb dX6_nextOnWay_4 (by decide) (fun c7 => ?_) (fun c7 => absurd (nI_le (a := 4) (by omega) (by omega)) c7)
      exact K48 t6 H locs ls ⟨Or.inr et6, hP, hD, hS, lv_sub hl [2] rfl⟩
    · obtain ⟨hP, hD, hS, hl⟩ := hh
      have hP : va_P D vwCl [(aW, .inr (5, [.ref aPr, .ref aLe, .ref aSe, .ref aRe])), (aPr, .inl (y4.1, 64, .inl PR)), (aLe, .inl (y4.1, 64, .inl LE))] H := hP
      have hD : va_D A [(aW, .inr (5, [.ref aPr, .ref aLe, .ref aSe, .ref aRe])), (aPr, .inl (y4.1, 64, .inl PR)), (aLe, .inl (y4.1, 64, .inl LE))] := hD
      have hl : lv_has ls 4 [(2, .int (nI k1)), (0, .ref aW), (1, .int ce)] := hl
      refine lv_iload_n hx hb dX6_nextOnWay_2 rfl (lv_at hl 0 rfl) ?_
      refine lv_iconst (v := 4) hx hb dX6_nextOnWay_3 (by decide) ?_
      refine lv_icmp_ge (tgt := 48) hx hb dX6_nextOnWay_4 (by decide) (fun c3 => absurd c3 (nI_ge (b := 4) (by omega) (by omega))) (fun c3 => ?_)
      refine lv_iload_n hx hb dX6_nextOnWay_7 rfl (lv_at hl 2 rfl) ?_
      refine lv_iload_n hx hb dX6_nextOnWay_8 rfl (lv_at hl 0 rfl) ?_
      refine callK_i (va_runS (As := [.int ce, .int (nI k1)]) (rest := []) ⟨hx, hb, hml, hown, hts⟩ (met_X0_neighbour l  ce (nI k1)) (va_cwS 2 hts gX6_nextOnWay_X0_neighbour rfl rfl rfl (by decide +kernel) ⟨Nat.le_of_ble_eq_true rfl, Nat.le_of_ble_eq_true rfl⟩) ⟨preS_blind, fun U hU hW => ⟨rfl, trivial⟩⟩ rfl rfl hl.1 rfl (lv_room (Nat.le_of_ble_eq_true rfl)) dX6_nextOnWay_9 ⟨Nat.zero_le _, Nat.zero_le _⟩) hP hS (fun r u H locs hw hP hS => ?_)
      replace hw := Eq.symm hw
      subst hw
      refine lv_istore_n (lv' := [(3, .int (m_X0_neighbour ce (nI k1))), (2, .int (nI k1)), (0, .ref aW), (1, .int ce)]) hx hb dX6_nextOnWay_12 rfl hl (by decide) rfl (fun ls hl => ?_)
      refine lv_iload_n hx hb dX6_nextOnWay_13 rfl (lv_at hl 0 rfl) ?_
      refine lv_iconst (v := (-1)) hx hb dX6_nextOnWay_14 (by decide) ?_
      refine lv_icmp_eq (tgt := 42) hx hb dX6_nextOnWay_15 (by decide) (fun c4 => ?_) (fun c4 => ?_)
      · refine lv_iinc (v := nI (k1 + 1)) (lv' := [(2, .int (nI (k1 + 1))), (3, .int (m_X0_neighbour ce (nI k1))), (0, .ref aW), (1, .int ce)]) hx hb dX6_nextOnWay_42 hl (k := 1) rfl (nI_1 _) (by decide) rfl (fun ls hl => ?_)
        refine lv_goto (tgt := 2) hx hb dX6_nextOnWay_45 (by decide) ?_
        have ef : (f_X6_nextOnWay_2 PR LE ce) k1 t2 = .inr () := (by first | (simp only [f_X6_nextOnWay_2, if_pos c4]; done) | (simp only [f_X6_nextOnWay_2, if_pos c4]; rfl))
        exact ihk1 _ ef trivial H locs ls ⟨hP, hD, hS, lv_sub hl [0, 2, 3] rfl⟩
      · refine lv_aload_n hx hb dX6_nextOnWay_18 rfl (lv_at hl 2 rfl) ?_
        refine va_get (ci := 5) (v := .ref aLe) (C := RX6) (T := TX6) (N := 4) hx hb hts iX6 hown hK hP 0 rfl rfl 1 (by decide) f15 (fun _ h9 => h9) rfl dX6_nextOnWay_19 ?_
        refine lv_iload_n hx hb dX6_nextOnWay_22 rfl (lv_at hl 0 rfl) ?_
        refine va_iald hx hb hK hP 2 0 rfl rfl ((nb_in hce).resolve_left (by assumption)) dX6_nextOnWay_23 ?_
        refine lv_aload_n hx hb dX6_nextOnWay_24 rfl (lv_at hl 2 rfl) ?_
        refine va_get (ci := 5) (v := .ref aPr) (C := RX6) (T := TX6) (N := 4) hx hb hts iX6 hown hK hP 0 rfl rfl 0 (by decide) f9 (fun _ h9 => h9) rfl dX6_nextOnWay_25 ?_
        refine lv_iload_n hx hb dX6_nextOnWay_28 rfl (lv_at hl 3 rfl) ?_
        refine va_iald hx hb hK hP 1 0 rfl rfl (by first | assumption | exact vp_in_cmp (by assumption) (by assumption) (by decide)) dX6_nextOnWay_29 ?_
        refine lv_iadd hx hb dX6_nextOnWay_30 ?_
        refine lv_aload_n hx hb dX6_nextOnWay_31 rfl (lv_at hl 2 rfl) ?_
        refine va_get (ci := 5) (v := .ref aLe) (C := RX6) (T := TX6) (N := 4) hx hb hts iX6 hown hK hP 0 rfl rfl 1 (by decide) f15 (fun _ h9 => h9) rfl dX6_nextOnWay_32 ?_
        refine lv_iload_n hx hb dX6_nextOnWay_35 rfl (lv_at hl 3 rfl) ?_
        refine va_iald hx hb hK hP 2 0 rfl rfl (by first | assumption | exact vp_in_cmp (by assumption) (by assumption) (by decide)) dX6_nextOnWay_36 ?_
        refine lv_icmp_ne (tgt := 42) hx hb dX6_nextOnWay_37 (by decide) (fun c5 => ?_) (fun c5 => ?_)
        · refine lv_iinc (v := nI (k1 + 1)) (lv' := [(2, .int (nI (k1 + 1))), (3, .int (m_X0_neighbour ce (nI k1))), (0, .ref aW), (1, .int ce)]) hx hb dX6_nextOnWay_42 hl (k := 1) rfl (nI_1 _) (by decide) rfl (fun ls hl => ?_)
          refine lv_goto (tgt := 2) hx hb dX6_nextOnWay_45 (by decide) ?_
          have ef : (f_X6_nextOnWay_2 PR LE ce) k1 t2 = .inr () := (by first | (simp only [f_X6_nextOnWay_2, if_neg c4, if_neg c5]; done) | (simp only [f_X6_nextOnWay_2, if_neg c4, if_neg c5]; rfl))
          exact ihk1 _ ef trivial H locs ls ⟨hP, hD, hS, lv_sub hl [0, 2, 3] rfl⟩
        · refine lv_iload_n hx hb dX6_nextOnWay_40 rfl (lv_at hl 0 rfl) ?_
          have ef : (f_X6_nextOnWay_2 PR LE ce) k1 t2 = .inl (.inl (m_X0_neighbour ce (nI k1))) := (by first | (simp only [f_X6_nextOnWay_2, if_neg c4, if_pos c5]; done) | (simp only [f_X6_nextOnWay_2, if_neg c4, if_pos c5]; rfl))
          have erk1 := hretk1 _ ef
          have em : m_X6_nextOnWay PR LE ce = (m_X0_neighbour ce (nI k1)) := (by first | (simp only [m_X6_nextOnWay, lpr_j erk1]; done) | (simp only [m_X6_nextOnWay, lpr_j erk1]; rfl))
          exact W.iret (v := (m_X0_neighbour ce (nI k1))) hx hb hr (fun t ht hW => ⟨⟨(m_X0_neighbour ce (nI k1)), (), rfl, (by rw [em]), ⟨by rw [ht]; exact hP, by exact hD⟩⟩, hS.F ht⟩) hS.2.2 dX6_nextOnWay_41
theorem nw_step {PR LE : Nat → Int32} {ce : Int32} (h : vp_in ce 64) (k : Nat) (t : Unit) : f_X6_nextOnWay_2 PR LE ce k t = .inr () ∨ ∃ r, f_X6_nextOnWay_2 PR LE ce k t = .inl (.inl r) ∧ vp_in r 64 := by
  unfold f_X6_nextOnWay_2
  by_cases h1 : m_X0_neighbour ce (nI k) = -1
  · rw [if_pos h1]; exact Or.inl rfl
  · rw [if_neg h1]
    split
    · exact Or.inr ⟨_, rfl, (nb_in h).resolve_left h1⟩
    · exact Or.inl rfl
theorem nw_in {PR LE : Nat → Int32} {ce : Int32} (h : vp_in ce 64) : vp_in (m_X6_nextOnWay PR LE ce) 64 := by
  unfold m_X6_nextOnWay
  generalize hx : lpx (f_X6_nextOnWay_2 PR LE ce) 4 0 () = x
  rcases x with (r | t) | t
  · have := lpx_out (f := f_X6_nextOnWay_2 PR LE ce) (fun _ _ => True) (fun z => ∀ r, z = .inl r → vp_in r 64) (fun k s _ => ⟨fun r hr r' e => by
      rcases nw_step h k s with q | ⟨r2, q, q2⟩
      · rw [q] at hr; cases hr
      · rw [q] at hr
        have e2 := Sum.inl.inj hr
        rw [e] at e2
        rw [← Sum.inl.inj e2]
        exact q2, fun _ _ => trivial⟩) 4 0 () trivial (.inl r) hx r rfl
    exact this
  · exact h
  · exact h

def f_X6_cellOnWay_20 (PR : Nat → Int32) (LE : Nat → Int32) (go : Int32) (ix : Int32) (k2 : Nat) (t3 : Int32) : (Int32 ⊕ Int32) ⊕ Int32 := (if ix ≤ (nI k2) then (.inl (.inr t3)) else (if t3 = go then (.inl (.inl (-4 : Int32))) else (.inr (m_X6_nextOnWay PR LE t3))))
def m_X6_cellOnWay (PR : Nat → Int32) (LE : Nat → Int32) (fr : Int32) (go : Int32) (ix : Int32) : Int32 := (if (LE (fr).toNatClampNeg) < 1000000 then (lpr (lpx (f_X6_cellOnWay_20 PR LE go ix) 64 0 fr) id (fun t15 => t15)) else (-4 : Int32))
set_option maxHeartbeats 4000000 in
set_option maxRecDepth 100000 in
theorem met_X6_cellOnWay (l : Launch) (D : va_G) (y4 : vT) (aW aPr aLe aSe aRe : Nat) (sz : Nat) (PR : Nat → Int32) (LE : Nat → Int32) (fr : Int32) (go : Int32) (ix : Int32) (hfr : vp_in fr 64) : Met l yX6_cellOnWay wsX6_cellOnWay ({ frames := 3, cells := 0, slots := 0, locals := 64 }) (va_Pc [.ref aW, .int fr, .int go, .int ix] (PreW D y4 [(aW, .inr (5, [.ref aPr, .ref aLe, .ref aSe, .ref aRe])), (aPr, .inl (y4.1, 64, .inl PR)), (aLe, .inl (y4.1, 64, .inl LE))] sz)) (va_Qi (fun (r : Int32) (_ : Unit) => r = (m_X6_cellOnWay PR LE fr go ix)) (fun _ t => PostW D (va_A [(aW, .inr (5, [.ref aPr, .ref aLe, .ref aSe, .ref aRe])), (aPr, .inl (y4.1, 64, .inl PR)), (aLe, .inl (y4.1, 64, .inl LE))] sz) [(aW, .inr (5, [.ref aPr, .ref aLe, .ref aSe, .ref aRe])), (aPr, .inl (y4.1, 64, .inl PR)), (aLe, .inl (y4.1, 64, .inl LE))] t) (va_A [(aW, .inr (5, [.ref aPr, .ref aLe, .ref aSe, .ref aRe])), (aPr, .inl (y4.1, 64, .inl PR)), (aLe, .inl (y4.1, 64, .inl LE))] sz)) 0 0 (va_A [(aW, .inr (5, [.ref aPr, .ref aLe, .ref aSe, .ref aRe])), (aPr, .inl (y4.1, 64, .inl PR)), (aLe, .inl (y4.1, 64, .inl LE))] sz) := by
  refine Met.ofW (cc := cX6_cellOnWay) (maxL := 6) (ret := (some .int)) (by decide) rfl ?_
  intro p e s m args below meth c s₁ B hml hv
  obtain ⟨rfl, hsz, hP, hK, hD0, hNW⟩ := hv
  have hx := B.exec
  have hb := B.bytes
  have hr := B.returns
  have hts := atoms_spec (ws := wsX6_cellOnWay) B.pre
  have hown : s.vm.findClass RX6 = some m.cls := findClass_of_methodNamed B.named
  have hlocks := B.notSynchronized
  subst hsz
  have hD := hD0.self (sz := s.heap.size)
  generalize hAe : va_A [(aW, .inr (5, [.ref aPr, .ref aLe, .ref aSe, .ref aRe])), (aPr, .inl (y4.1, 64, .inl PR)), (aLe, .inl (y4.1, 64, .inl LE))] s.heap.size = A at hD ⊢
  have hA : ∀ q : Nat, s.heap.size ≤ q → A q := fun q h => by rw [← hAe]; exact Or.inr h
  have hS : va_S A s.heap s.heap [] := va_S.rf
  have hl := lv_entry ([.ref aW, .int fr, .int go, .int ix]) (n := 6) (Nat.le_of_ble_eq_true rfl)
  rw [lg_entry_eq]
  generalize (lg_sl ([.ref aW, .int fr, .int go, .int ix]) ++ List.replicate (6 - (lg_sl ([.ref aW, .int fr, .int go, .int ix])).length) Slot.unset).toArray = ls at hl ⊢
  have hl : lv_has ls 6 [(0, .ref aW), (1, .int fr), (2, .int go), (3, .int ix)] := hl
  have f15 := hts (.fieldLink RX6 15 "PillarLight$Ways" "least" "[I") (List.mem_of_getElem? (i := 1) rfl)
  have iX6 : ∀ w ∈ wsX60, w ∈ wsX6_cellOnWay := fun _ h => List.mem_cons_of_mem _ (List.mem_append_right _ h)
  have f42 := hts (.constant RX6 42 (1000000)) (List.mem_of_getElem? (i := 2) rfl)
  refine startW (fun H locs hP hS => ?_) hP hS
  refine lv_aload_n hx hb dX6_cellOnWay_0 rfl (lv_at hl 0 rfl) ?_
  refine va_get (ci := 5) (v := .ref aLe) (C := RX6) (T := TX6) (N := 4) hx hb hts iX6 hown hK hP 0 rfl rfl 1 (by decide) f15 (fun _ h9 => h9) rfl dX6_cellOnWay_1 ?_
  refine lv_iload_n hx hb dX6_cellOnWay_4 rfl (lv_at hl 1 rfl) ?_
  refine va_iald hx hb hK hP 2 0 rfl rfl (by first | assumption | exact vp_in_cmp (by assumption) (by assumption) (by decide)) dX6_cellOnWay_5 ?_
  refine lv_ldc (v := 1000000) hx hb hown f42 dX6_cellOnWay_6 ?_
  refine lv_icmp_lt (tgt := 14) hx hb dX6_cellOnWay_8 (by decide) (fun c1 => ?_) (fun c1 => ?_)
  · refine lv_iload_n hx hb dX6_cellOnWay_14 rfl (lv_at hl 1 rfl) ?_
    refine lv_istore (lv' := [(4, .int fr), (0, .ref aW), (1, .int fr), (2, .int go), (3, .int ix)]) hx hb dX6_cellOnWay_15 hl (by decide) rfl (fun ls hl => ?_)
    refine lv_iconst (v := 0) hx hb dX6_cellOnWay_17 (by decide) ?_
    refine lv_istore (lv' := [(5, .int 0), (4, .int fr), (0, .ref aW), (1, .int fr), (2, .int go), (3, .int ix)]) hx hb dX6_cellOnWay_18 hl (by decide) rfl (fun ls hl => ?_)
    refine cutW (X := Int32) 56 (fun x H locs ls => ((lpx (f_X6_cellOnWay_20 PR LE go ix) 64 0 fr) = .inl (.inr x) ∨ (lpx (f_X6_cellOnWay_20 PR LE go ix) 64 0 fr) = .inr x) ∧ va_P D vwCl [(aW, .inr (5, [.ref aPr, .ref aLe, .ref aSe, .ref aRe])), (aPr, .inl (y4.1, 64, .inl PR)), (aLe, .inl (y4.1, 64, .inl LE))] H ∧ va_D A [(aW, .inr (5, [.ref aPr, .ref aLe, .ref aSe, .ref aRe])), (aPr, .inl (y4.1, 64, .inl PR)), (aLe, .inl (y4.1, 64, .inl LE))] ∧ va_S A s.heap H locs ∧ lv_has ls 6 [(4, .int x)]) (fun x => []) ?_ (fun K56 => ?_)
    · rintro t15 H locs ls ⟨et15, hP, hD, hS, hl⟩
      have hP : va_P D vwCl [(aW, .inr (5, [.ref aPr, .ref aLe, .ref aSe, .ref aRe])), (aPr, .inl (y4.1, 64, .inl PR)), (aLe, .inl (y4.1, 64, .inl LE))] H := hP
      have hD : va_D A [(aW, .inr (5, [.ref aPr, .ref aLe, .ref aSe, .ref aRe])), (aPr, .inl (y4.1, 64, .inl PR)), (aLe, .inl (y4.1, 64, .inl LE))] := hD
      have hl : lv_has ls 6 [(4, .int t15)] := hl
      refine lv_iload hx hb dX6_cellOnWay_56 (lv_at hl 0 rfl) ?_
      have em : m_X6_cellOnWay PR LE fr go ix = t15 := (by first | (simp only [m_X6_cellOnWay, if_pos c1, lpr_k et15]; done) | (simp only [m_X6_cellOnWay, if_pos c1, lpr_k et15]; rfl))
      exact W.iret (v := t15) hx hb hr (fun t ht hW => ⟨⟨t15, (), rfl, (by rw [em]), ⟨by rw [ht]; exact hP, by exact hD⟩⟩, hS.F ht⟩) hS.2.2 dX6_cellOnWay_58
    · refine loopX (σ := Int32) (ρ := Int32 ⊕ Int32) 20 (f_X6_cellOnWay_20 PR LE go ix) (fun _ t => vp_in t 64) 64 0 fr (fun k2 t3 H locs ls => va_P D vwCl [(aW, .inr (5, [.ref aPr, .ref aLe, .ref aSe, .ref aRe])), (aPr, .inl (y4.1, 64, .inl PR)), (aLe, .inl (y4.1, 64, .inl LE))] H ∧ va_D A [(aW, .inr (5, [.ref aPr, .ref aLe, .ref aSe, .ref aRe])), (aPr, .inl (y4.1, 64, .inl PR)), (aLe, .inl (y4.1, 64, .inl LE))] ∧ va_S A s.heap H locs ∧ lv_has ls 6 [(5, .int (nI k2)), (4, .int t3), (0, .ref aW), (2, .int go), (3, .int ix)]) hfr ⟨hP, hD, hS, lv_sub hl [0, 1, 2, 4, 5] rfl⟩ (fun t12 H locs ls et12 hit12 hh => ?_) (fun k2 t3 hkk2 hjk2 hik2 hretk2 ihk2 H locs ls hh => ?_)
      · obtain ⟨hP, hD, hS, hl⟩ := hh
        have hP : va_P D vwCl [(aW, .inr (5, [.ref aPr, .ref aLe, .ref aSe, .ref aRe])), (aPr, .inl (y4.1, 64, .inl PR)), (aLe, .inl (y4.1, 64, .inl LE))] H := hP
        have hD : va_D A [(aW, .inr (5, [.ref aPr, .ref aLe, .ref aSe, .ref aRe])), (aPr, .inl (y4.1, 64, .inl PR)), (aLe, .inl (y4.1, 64, .inl LE))] := hD
        have hl : lv_has ls 6 [(5, .int (nI 64)), (4, .int t12), (0, .ref aW), (2, .int go), (3, .int ix)] := hl
        refine lv_iload hx hb dX6_cellOnWay_20 (lv_at hl 0 rfl) ?_
        refine lv_iload_n hx hb dX6_cellOnWay_22 rfl (lv_at hl 4 rfl) ?_
        refine lv_icmp_ge (tgt := 56) hx hb dX6_cellOnWay_23 (by decide) (fun c13 => ?_) (fun c13 => ?_)
        · exact K56 t12 H locs ls ⟨Or.inr et12, hP, hD, hS, lv_sub hl [1] rfl⟩
        · refine lv_iload hx hb dX6_cellOnWay_26 (lv_at hl 0 rfl) ?_
          refine lv_bipush (v := 64) hx hb dX6_cellOnWay_28 (by decide) ?_
          refine lv_icmp_ge (tgt := 56) hx hb dX6_cellOnWay_30 (by decide) (fun c14 => ?_) (fun c14 => absurd (nI_le (a := 64) (by omega) (by omega)) c14)
          exact K56 t12 H locs ls ⟨Or.inr et12, hP, hD, hS, lv_sub hl [1] rfl⟩
      · obtain ⟨hP, hD, hS, hl⟩ := hh
        have hP : va_P D vwCl [(aW, .inr (5, [.ref aPr, .ref aLe, .ref aSe, .ref aRe])), (aPr, .inl (y4.1, 64, .inl PR)), (aLe, .inl (y4.1, 64, .inl LE))] H := hP
        have hD : va_D A [(aW, .inr (5, [.ref aPr, .ref aLe, .ref aSe, .ref aRe])), (aPr, .inl (y4.1, 64, .inl PR)), (aLe, .inl (y4.1, 64, .inl LE))] := hD
        have hl : lv_has ls 6 [(5, .int (nI k2)), (4, .int t3), (0, .ref aW), (2, .int go), (3, .int ix)] := hl
        have hin : vp_in t3 64 := hik2
        refine lv_iload hx hb dX6_cellOnWay_20 (lv_at hl 0 rfl) ?_
        refine lv_iload_n hx hb dX6_cellOnWay_22 rfl (lv_at hl 4 rfl) ?_
        refine lv_icmp_ge (tgt := 56) hx hb dX6_cellOnWay_23 (by decide) (fun c8 => ?_) (fun c8 => ?_)
        · have ef : (f_X6_cellOnWay_20 PR LE go ix) k2 t3 = .inl (.inr t3) := (by first | (simp only [f_X6_cellOnWay_20, if_pos c8]; done) | (simp only [f_X6_cellOnWay_20, if_pos c8]; rfl))
          exact K56 t3 H locs ls ⟨Or.inl (hretk2 _ ef), hP, hD, hS, lv_sub hl [1] rfl⟩
        · refine lv_iload hx hb dX6_cellOnWay_26 (lv_at hl 0 rfl) ?_
          refine lv_bipush (v := 64) hx hb dX6_cellOnWay_28 (by decide) ?_
          refine lv_icmp_ge (tgt := 56) hx hb dX6_cellOnWay_30 (by decide) (fun c9 => absurd c9 (nI_ge (b := 64) (by omega) (by omega))) (fun c9 => ?_)
          refine lv_iload hx hb dX6_cellOnWay_33 (lv_at hl 1 rfl) ?_
          refine lv_iload_n hx hb dX6_cellOnWay_35 rfl (lv_at hl 3 rfl) ?_
          refine lv_icmp_ne (tgt := 42) hx hb dX6_cellOnWay_36 (by decide) (fun c10 => ?_) (fun c10 => ?_)
          · refine lv_aload_n hx hb dX6_cellOnWay_42 rfl (lv_at hl 2 rfl) ?_
            refine lv_iload hx hb dX6_cellOnWay_43 (lv_at hl 1 rfl) ?_
            refine callW_i (wr := []) (wn := fun u => [(aW, .inr (5, [.ref aPr, .ref aLe, .ref aSe, .ref aRe])), (aPr, .inl (y4.1, 64, .inl PR)), (aLe, .inl (y4.1, 64, .inl LE))]) (va_runV (As := [.int t3]) (rest := []) ⟨hx, hb, hml, hown, hts⟩ (met_X6_nextOnWay l D y4 aW aPr aLe aSe aRe H.size PR LE t3 (by assumption)) (cwV 1 hts gX6_cellOnWay_X6_nextOnWay rfl rfl rfl (by decide +kernel) ⟨Nat.le_of_ble_eq_true rfl, Nat.le_of_ble_eq_true rfl⟩) ⟨preW_blind, va_recv hK hP (ci := 5) (q0 := 0) rfl rfl, preW_at (hP.sub (ws' := [(aW, .inr (5, [.ref aPr, .ref aLe, .ref aSe, .ref aRe])), (aPr, .inl (y4.1, 64, .inl PR)), (aLe, .inl (y4.1, 64, .inl LE))]) [0, 1, 2] rfl) hK (hD.sub (ws' := [(aW, .inr (5, [.ref aPr, .ref aLe, .ref aSe, .ref aRe])), (aPr, .inl (y4.1, 64, .inl PR)), (aLe, .inl (y4.1, 64, .inl LE))]) [0, 1, 2] (by decide) rfl) hNW⟩ rfl rfl hl.1 rfl (lv_room (Nat.le_of_ble_eq_true rfl)) dX6_cellOnWay_45 ⟨Nat.zero_le _, Nat.zero_le _⟩) hP hD hS hA [0, 1, 2] [] [0, 1, 2] rfl rfl (by decide) (by decide) (fun _ => rfl) (by decide) (fun r u11 H locs hw hP hD hS => ?_)
            replace hw := Eq.symm hw
            subst hw
            have hP : va_P D vwCl [(aW, .inr (5, [.ref aPr, .ref aLe, .ref aSe, .ref aRe])), (aPr, .inl (y4.1, 64, .inl PR)), (aLe, .inl (y4.1, 64, .inl LE))] H := hP
            have hD : va_D A [(aW, .inr (5, [.ref aPr, .ref aLe, .ref aSe, .ref aRe])), (aPr, .inl (y4.1, 64, .inl PR)), (aLe, .inl (y4.1, 64, .inl LE))] := hD
            refine lv_istore (lv' := [(4, .int (m_X6_nextOnWay PR LE t3)), (5, .int (nI k2)), (0, .ref aW), (2, .int go), (3, .int ix)]) hx hb dX6_cellOnWay_48 hl (by decide) rfl (fun ls hl => ?_)
            refine lv_iinc (v := nI (k2 + 1)) (lv' := [(5, .int (nI (k2 + 1))), (4, .int (m_X6_nextOnWay PR LE t3)), (0, .ref aW), (2, .int go), (3, .int ix)]) hx hb dX6_cellOnWay_50 hl (k := 1) rfl (nI_1 _) (by decide) rfl (fun ls hl => ?_)
            refine lv_goto (tgt := 20) hx hb dX6_cellOnWay_53 (by decide) ?_
            have ef : (f_X6_cellOnWay_20 PR LE go ix) k2 t3 = .inr (m_X6_nextOnWay PR LE t3) := (by first | (simp only [f_X6_cellOnWay_20, if_neg c8, if_neg c10]; done) | (simp only [f_X6_cellOnWay_20, if_neg c8, if_neg c10]; rfl))
            exact ihk2 _ ef (by show vp_in _ 64; exact nw_in (by assumption)) H locs ls ⟨hP, hD, hS, lv_sub hl [0, 1, 2, 3, 4] rfl⟩
          · refine lv_bipush (v := (-4)) hx hb dX6_cellOnWay_39 (by decide) ?_
            have ef : (f_X6_cellOnWay_20 PR LE go ix) k2 t3 = .inl (.inl (-4 : Int32)) := (by first | (simp only [f_X6_cellOnWay_20, if_neg c8, if_pos c10]; done) | (simp only [f_X6_cellOnWay_20, if_neg c8, if_pos c10]; rfl))
            have erk2 := hretk2 _ ef
            have em : m_X6_cellOnWay PR LE fr go ix = (-4 : Int32) := (by first | (simp only [m_X6_cellOnWay, if_pos c1, lpr_j erk2]; done) | (simp only [m_X6_cellOnWay, if_pos c1, lpr_j erk2]; rfl))
            exact W.iret (v := (-4)) hx hb hr (fun t ht hW => ⟨⟨(-4), (), rfl, (by rw [em]), ⟨by rw [ht]; exact hP, by exact hD⟩⟩, hS.F ht⟩) hS.2.2 dX6_cellOnWay_41
  · refine lv_bipush (v := (-4)) hx hb dX6_cellOnWay_11 (by decide) ?_
    have em : m_X6_cellOnWay PR LE fr go ix = (-4 : Int32) := (by first | (simp only [m_X6_cellOnWay, if_neg c1]; done) | (simp only [m_X6_cellOnWay, if_neg c1]; rfl))
    exact W.iret (v := (-4)) hx hb hr (fun t ht hW => ⟨⟨(-4), (), rfl, (by rw [em]), ⟨by rw [ht]; exact hP, by exact hD⟩⟩, hS.F ht⟩) hS.2.2 dX6_cellOnWay_13
