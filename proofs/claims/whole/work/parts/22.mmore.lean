def m_X8_next (ce : Int32) (di : Int32) : Int32 := (let v3 : Int32 := (if di = 0 then (-1 : Int32) else (if di = 2 then (1 : Int32) else (0 : Int32))); (let v6 : Int32 := (if di = 1 then (1 : Int32) else (if di = 3 then (-1 : Int32) else (0 : Int32))); (if (m_X8_in ((ce / 8) + v3) 0 7) = false then (-4 : Int32) else (if (m_X8_in ((ce - ce / 8 * 8) + v6) 0 7) = false then (-4 : Int32) else (8 * ((ce / 8) + v3)) + ((ce - ce / 8 * 8) + v6)))))
set_option maxHeartbeats 4000000 in
set_option maxRecDepth 100000 in
theorem met_X8_next (l : Launch) (ce : Int32) (di : Int32) : Met l yX8_next wsX8_next ({ frames := 1, cells := 0, slots := 0, locals := 22 }) (va_Pc [.int ce, .int di] (fun _ => True)) (va_Qi (fun (r : Int32) (_ : Unit) => r = (m_X8_next ce di)) (fun _ _ => True) (fun _ => False)) 0 0 (fun _ => False) := by
  refine Met.ofW (cc := cX8_next) (maxL := 4) (ret := (some .int)) (by decide) rfl ?_
  intro p e s m args below meth c s₁ B hml hv
  obtain ⟨rfl, -⟩ := hv
  have hx := B.exec
  have hb := B.bytes
  have hr := B.returns
  have hts := atoms_spec (ws := wsX8_next) B.pre
  have hown : s.vm.findClass RX8 = some m.cls := findClass_of_methodNamed B.named
  have hlocks := B.notSynchronized
  have hS : va_S (fun _ => False) s.heap s.heap [] := va_S.rf
  have hl := lv_entry ([.int ce, .int di]) (n := 4) (Nat.le_of_ble_eq_true rfl)
  rw [lg_entry_eq]
  generalize (lg_sl ([.int ce, .int di]) ++ List.replicate (4 - (lg_sl ([.int ce, .int di])).length) Slot.unset).toArray = ls at hl ⊢
  have hl : lv_has ls 4 [(0, .int ce), (1, .int di)] := hl
  refine startS (fun H locs hS => ?_) hS
  refine lv_iload_n hx hb dX8_next_0 rfl (lv_at hl 0 rfl) ?_
  refine lv_bipush (v := 8) hx hb dX8_next_1 (by decide) ?_
  refine lv_idiv hx hb dX8_next_3 (by decide) ?_
  refine lv_iload_n hx hb dX8_next_4 rfl (lv_at hl 1 rfl) ?_
  refine cutW (X := Int32) 22 (fun x H locs ls => x = (if di = 0 then (-1 : Int32) else (if di = 2 then (1 : Int32) else (0 : Int32))) ∧ va_S (fun _ => False) s.heap H locs ∧ lv_has ls 4 [(0, .int ce), (1, .int di)]) (fun x => [.int x, .int (ce / 8)]) ?_ (fun K22 => ?_)
  · rintro v3 H locs ls ⟨ev3, hS, hl⟩
    have ev3 : v3 = (if di = 0 then (-1 : Int32) else (if di = 2 then (1 : Int32) else (0 : Int32))) := ev3
    have hl : lv_has ls 4 [(0, .int ce), (1, .int di)] := hl
    refine lv_iadd hx hb dX8_next_22 ?_
    refine lv_istore_n (lv' := [(2, .int ((ce / 8) + v3)), (0, .int ce), (1, .int di)]) hx hb dX8_next_23 rfl hl (by decide) rfl (fun ls hl => ?_)
    refine lv_iload_n hx hb dX8_next_24 rfl (lv_at hl 1 rfl) ?_
    refine lv_bipush (v := 8) hx hb dX8_next_25 (by decide) ?_
    refine lv_irem hx hb dX8_next_27 (by decide) ?_
    refine lv_iload_n hx hb dX8_next_28 rfl (lv_at hl 2 rfl) ?_
    refine lv_iconst (v := 1) hx hb dX8_next_29 (by decide) ?_
    refine cutW (X := Int32) 47 (fun x H locs ls => x = (if di = 1 then (1 : Int32) else (if di = 3 then (-1 : Int32) else (0 : Int32))) ∧ va_S (fun _ => False) s.heap H locs ∧ lv_has ls 4 [(2, .int ((ce / 8) + v3))]) (fun x => [.int x, .int (ce - ce / 8 * 8)]) ?_ (fun K47 => ?_)
    · rintro v6 H locs ls ⟨ev6, hS, hl⟩
      have ev6 : v6 = (if di = 1 then (1 : Int32) else (if di = 3 then (-1 : Int32) else (0 : Int32))) := ev6
      have hl : lv_has ls 4 [(2, .int ((ce / 8) + v3))] := hl
      refine lv_iadd hx hb dX8_next_47 ?_
      refine lv_istore_n (lv' := [(3, .int ((ce - ce / 8 * 8) + v6)), (2, .int ((ce / 8) + v3))]) hx hb dX8_next_48 rfl hl (by decide) rfl (fun ls hl => ?_)
      refine lv_iload_n hx hb dX8_next_49 rfl (lv_at hl 1 rfl) ?_
      refine lv_iconst (v := 0) hx hb dX8_next_50 (by decide) ?_
      refine lv_bipush (v := 7) hx hb dX8_next_51 (by decide) ?_
      refine callS_i (va_runS (As := [.int ((ce / 8) + v3), .int 0, .int 7]) (rest := []) ⟨hx, hb, hml, hown, hts⟩ (met_X8_in l  ((ce / 8) + v3) 0 7) (va_cwS 3 hts gX8_next_X8_in rfl rfl rfl (by decide +kernel) ⟨Nat.le_of_ble_eq_true rfl, Nat.le_of_ble_eq_true rfl⟩) ⟨preS_blind, fun U hU hW => ⟨rfl, trivial⟩⟩ rfl rfl hl.1 rfl (lv_room (Nat.le_of_ble_eq_true rfl)) dX8_next_53 ⟨Nat.zero_le _, Nat.zero_le _⟩) hS (fun r u H locs hw hS => ?_)
      subst hw
      refine lb_if_eq (tgt := 78) hx hb dX8_next_56 (by decide) (fun c7 => ?_) (fun c7 => ?_)
      · refine lv_bipush (v := (-4)) hx hb dX8_next_78 (by decide) ?_
        have em : m_X8_next ce di = (-4 : Int32) := (by subst ev6 ev3; first | (simp only [m_X8_next, if_pos c7]; done) | (simp only [m_X8_next, if_pos c7]; rfl))
        exact W.iret (v := (-4)) hx hb hr (fun t ht hW => ⟨⟨(-4), (), rfl, (by rw [em]), trivial⟩, hS.F ht⟩) hS.2.2 dX8_next_80
      · refine lv_iload_n hx hb dX8_next_59 rfl (lv_at hl 0 rfl) ?_
        refine lv_iconst (v := 0) hx hb dX8_next_60 (by decide) ?_
        refine lv_bipush (v := 7) hx hb dX8_next_61 (by decide) ?_
        refine callS_i (va_runS (As := [.int ((ce - ce / 8 * 8) + v6), .int 0, .int 7]) (rest := []) ⟨hx, hb, hml, hown, hts⟩ (met_X8_in l  ((ce - ce / 8 * 8) + v6) 0 7) (va_cwS 3 hts gX8_next_X8_in rfl rfl rfl (by decide +kernel) ⟨Nat.le_of_ble_eq_true rfl, Nat.le_of_ble_eq_true rfl⟩) ⟨preS_blind, fun U hU hW => ⟨rfl, trivial⟩⟩ rfl rfl hl.1 rfl (lv_room (Nat.le_of_ble_eq_true rfl)) dX8_next_63 ⟨Nat.zero_le _, Nat.zero_le _⟩) hS (fun r u H locs hw hS => ?_)
        subst hw
        refine lb_if_eq (tgt := 78) hx hb dX8_next_66 (by decide) (fun c8 => ?_) (fun c8 => ?_)
        · refine lv_bipush (v := (-4)) hx hb dX8_next_78 (by decide) ?_
          have em : m_X8_next ce di = (-4 : Int32) := (by subst ev6 ev3; first | (simp only [m_X8_next, if_neg c7, if_pos c8]; done) | (simp only [m_X8_next, if_neg c7, if_pos c8]; rfl))
          exact W.iret (v := (-4)) hx hb hr (fun t ht hW => ⟨⟨(-4), (), rfl, (by rw [em]), trivial⟩, hS.F ht⟩) hS.2.2 dX8_next_80
        · refine lv_bipush (v := 8) hx hb dX8_next_69 (by decide) ?_
          refine lv_iload_n hx hb dX8_next_71 rfl (lv_at hl 1 rfl) ?_
          refine lv_imul hx hb dX8_next_72 ?_
          refine lv_iload_n hx hb dX8_next_73 rfl (lv_at hl 0 rfl) ?_
          refine lv_iadd hx hb dX8_next_74 ?_
          refine lv_goto (tgt := 80) hx hb dX8_next_75 (by decide) ?_
          have em : m_X8_next ce di = (8 * ((ce / 8) + v3)) + ((ce - ce / 8 * 8) + v6) := (by subst ev6 ev3; first | (simp only [m_X8_next, if_neg c7, if_neg c8]; done) | (simp only [m_X8_next, if_neg c7, if_neg c8]; rfl))
          exact W.iret (v := (8 * ((ce / 8) + v3)) + ((ce - ce / 8 * 8) + v6)) hx hb hr (fun t ht hW => ⟨⟨(8 * ((ce / 8) + v3)) + ((ce - ce / 8 * 8) + v6), (), rfl, (by rw [em]), trivial⟩, hS.F ht⟩) hS.2.2 dX8_next_80
    · refine lv_icmp_ne (tgt := 37) hx hb dX8_next_30 (by decide) (fun c4 => ?_) (fun c4 => ?_)
      · refine lv_iload_n hx hb dX8_next_37 rfl (lv_at hl 2 rfl) ?_
        refine lv_iconst (v := 3) hx hb dX8_next_38 (by decide) ?_
        refine lv_icmp_ne (tgt := 46) hx hb dX8_next_39 (by decide) (fun c5 => ?_) (fun c5 => ?_)
        · refine lv_iconst (v := 0) hx hb dX8_next_46 (by decide) ?_
          exact K47 (0 : Int32) H locs ls ⟨(by subst ev3; first | (simp only [if_neg c4, if_neg c5]; done) | (simp only [if_neg c4, if_neg c5]; rfl) | rfl), hS, lv_sub hl [0] rfl⟩
        · refine lv_iconst (v := (-1)) hx hb dX8_next_42 (by decide) ?_
          refine lv_goto (tgt := 47) hx hb dX8_next_43 (by decide) ?_
          exact K47 (-1 : Int32) H locs ls ⟨(by subst ev3; first | (simp only [if_neg c4, if_pos c5]; done) | (simp only [if_neg c4, if_pos c5]; rfl) | rfl), hS, lv_sub hl [0] rfl⟩
      · refine lv_iconst (v := 1) hx hb dX8_next_33 (by decide) ?_
        refine lv_goto (tgt := 47) hx hb dX8_next_34 (by decide) ?_
        exact K47 (1 : Int32) H locs ls ⟨(by subst ev3; first | (simp only [if_pos c4]; done) | (simp only [if_pos c4]; rfl) | rfl), hS, lv_sub hl [0] rfl⟩
  · refine lv_if_ne (tgt := 12) hx hb dX8_next_5 (by decide) (fun c1 => ?_) (fun c1 => ?_)
    · refine lv_iload_n hx hb dX8_next_12 rfl (lv_at hl 1 rfl) ?_
      refine lv_iconst (v := 2) hx hb dX8_next_13 (by decide) ?_
      refine lv_icmp_ne (tgt := 21) hx hb dX8_next_14 (by decide) (fun c2 => ?_) (fun c2 => ?_)
      · refine lv_iconst (v := 0) hx hb dX8_next_21 (by decide) ?_
        exact K22 (0 : Int32) H locs ls ⟨(by first | (simp only [if_neg c1, if_neg c2]; done) | (simp only [if_neg c1, if_neg c2]; rfl) | rfl), hS, lv_sub hl [0, 1] rfl⟩
      · refine lv_iconst (v := 1) hx hb dX8_next_17 (by decide) ?_
        refine lv_goto (tgt := 22) hx hb dX8_next_18 (by decide) ?_
        exact K22 (1 : Int32) H locs ls ⟨(by first | (simp only [if_neg c1, if_pos c2]; done) | (simp only [if_neg c1, if_pos c2]; rfl) | rfl), hS, lv_sub hl [0, 1] rfl⟩
    · refine lv_iconst (v := (-1)) hx hb dX8_next_8 (by decide) ?_
      refine lv_goto (tgt := 22) hx hb dX8_next_9 (by decide) ?_
      exact K22 (-1 : Int32) H locs ls ⟨(by first | (simp only [if_pos c1]; done) | (simp only [if_pos c1]; rfl) | rfl), hS, lv_sub hl [0, 1] rfl⟩
theorem nx_cells : ∀ c : Nat, c < 64 → ∀ d : Nat, d < 5 → m_X8_next (nI c) (nI d) = -4 ∨ (0 ≤ (m_X8_next (nI c) (nI d)).toInt ∧ (m_X8_next (nI c) (nI d)).toInt < (64 : Nat)) := by decide +kernel
theorem nx_in {c d : Int32} (h : vp_in c 64) : m_X8_next c d = -4 ∨ vp_in (m_X8_next c d) 64 := by
  obtain ⟨j, hj, rfl⟩ := vp_in_of h (by decide)
  rw [vp_in_iff]
  by_cases h0 : d = 0
  · subst h0; exact nx_cells j hj 0 (by decide)
  by_cases h1 : d = 1
  · subst h1; exact nx_cells j hj 1 (by decide)
  by_cases h2 : d = 2
  · subst h2; exact nx_cells j hj 2 (by decide)
  by_cases h3 : d = 3
  · subst h3; exact nx_cells j hj 3 (by decide)
  have e : m_X8_next (nI j) d = m_X8_next (nI j) 4 := by
    simp only [m_X8_next, if_neg h0, if_neg h1, if_neg h2, if_neg h3]
    rfl
  rw [e]
  exact nx_cells j hj 4 (by decide)

def m_X8_canGo (RO : Nat → Int32) (ce : Int32) (di : Int32) : Bool := (if (m_X8_next ce di) = (-4) then false else (if (m_X8_isClosed (RO (0 + (m_X8_next ce di)).toNatClampNeg)) = false then true else false))
set_option maxHeartbeats 4000000 in
set_option maxRecDepth 100000 in
theorem met_X8_canGo (l : Launch) (D : va_G) (y4 : vT) (aM aRo aHi aSn aAs aLg aPd aCo aEa : Nat) (sz : Nat) (ms : Int32) (sv : Bool) (ml : Int32) (RO : Nat → Int32) (ce : Int32) (di : Int32) (hce : vp_in ce 64) : Met l yX8_canGo wsX8_canGo ({ frames := 2, cells := 0, slots := 0, locals := 45 }) (va_Pc [.ref aM, .int ce, .int di] (PreW D y4 [(aM, .inr (7, [.ref aRo, .ref aHi, .int ms, .ref aSn, .int (bI sv), .ref aAs, .ref aLg, .ref aPd, .int ml, .ref aCo, .ref aEa])), (aRo, .inl (y4.1, 151, .inl RO))] sz)) (va_Qi (fun (r : Int32) (_ : Unit) => r = bI (m_X8_canGo RO ce di)) (fun _ t => PostW D (va_A [(aM, .inr (7, [.ref aRo, .ref aHi, .int ms, .ref aSn, .int (bI sv), .ref aAs, .ref aLg, .ref aPd, .int ml, .ref aCo, .ref aEa])), (aRo, .inl (y4.1, 151, .inl RO))] sz) [(aM, .inr (7, [.ref aRo, .ref aHi, .int ms, .ref aSn, .int (bI sv), .ref aAs, .ref aLg, .ref aPd, .int ml, .ref aCo, .ref aEa])), (aRo, .inl (y4.1, 151, .inl RO))] t) (va_A [(aM, .inr (7, [.ref aRo, .ref aHi, .int ms, .ref aSn, .int (bI sv), .ref aAs, .ref aLg, .ref aPd, .int ml, .ref aCo, .ref aEa])), (aRo, .inl (y4.1, 151, .inl RO))] sz)) 0 0 (va_A [(aM, .inr (7, [.ref aRo, .ref aHi, .int ms, .ref aSn, .int (bI sv), .ref aAs, .ref aLg, .ref aPd, .int ml, .ref aCo, .ref aEa])), (aRo, .inl (y4.1, 151, .inl RO))] sz) := by
  refine Met.ofW (cc := cX8_canGo) (maxL := 4) (ret := (some .boolean)) (by decide) rfl ?_
  intro p e s m args below meth c s₁ B hml hv
  obtain ⟨rfl, hsz, hP, hK, hD0, hNW⟩ := hv
  have hx := B.exec
  have hb := B.bytes
  have hr := B.returns
  have hts := atoms_spec (ws := wsX8_canGo) B.pre
  have hown : s.vm.findClass RX8 = some m.cls := findClass_of_methodNamed B.named
  have hlocks := B.notSynchronized
  subst hsz
  have hD := hD0.self (sz := s.heap.size)
  generalize hAe : va_A [(aM, .inr (7, [.ref aRo, .ref aHi, .int ms, .ref aSn, .int (bI sv), .ref aAs, .ref aLg, .ref aPd, .int ml, .ref aCo, .ref aEa])), (aRo, .inl (y4.1, 151, .inl RO))] s.heap.size = A at hD ⊢
  have hA : ∀ q : Nat, s.heap.size ≤ q → A q := fun q h => by rw [← hAe]; exact Or.inr h
  have hS : va_S A s.heap s.heap [] := va_S.rf
  have hl := lv_entry ([.ref aM, .int ce, .int di]) (n := 4) (Nat.le_of_ble_eq_true rfl)
  rw [lg_entry_eq]
  generalize (lg_sl ([.ref aM, .int ce, .int di]) ++ List.replicate (4 - (lg_sl ([.ref aM, .int ce, .int di])).length) Slot.unset).toArray = ls at hl ⊢
  have hl : lv_has ls 4 [(0, .ref aM), (1, .int ce), (2, .int di)] := hl
  have f7 := hts (.fieldLink RX8 7 "PillarLightModel" "row" "[I") (List.mem_of_getElem? (i := 1) rfl)
  have iX8 : ∀ w ∈ wsX80, w ∈ wsX8_canGo := fun _ h => List.mem_cons_of_mem _ (List.mem_append_right _ h)
  refine startW (fun H locs hP hS => ?_) hP hS
  refine lv_iload_n hx hb dX8_canGo_0 rfl (lv_at hl 1 rfl) ?_
  refine lv_iload_n hx hb dX8_canGo_1 rfl (lv_at hl 2 rfl) ?_
  refine callK_i (va_runS (As := [.int ce, .int di]) (rest := []) ⟨hx, hb, hml, hown, hts⟩ (met_X8_next l  ce di) (va_cwS 2 hts gX8_canGo_X8_next rfl rfl rfl (by decide +kernel) ⟨Nat.le_of_ble_eq_true rfl, Nat.le_of_ble_eq_true rfl⟩) ⟨preS_blind, fun U hU hW => ⟨rfl, trivial⟩⟩ rfl rfl hl.1 rfl (lv_room (Nat.le_of_ble_eq_true rfl)) dX8_canGo_2 ⟨Nat.zero_le _, Nat.zero_le _⟩) hP hS (fun r u H locs hw hP hS => ?_)
  subst hw
  refine lv_istore_n (lv' := [(3, .int (m_X8_next ce di)), (0, .ref aM), (1, .int ce), (2, .int di)]) hx hb dX8_canGo_5 rfl hl (by decide) rfl (fun ls hl => ?_)
  refine lv_iload_n hx hb dX8_canGo_6 rfl (lv_at hl 0 rfl) ?_
  refine lv_bipush (v := (-4)) hx hb dX8_canGo_7 (by decide) ?_
  refine lv_icmp_eq (tgt := 30) hx hb dX8_canGo_9 (by decide) (fun c1 => ?_) (fun c1 => ?_)
  · refine lv_iconst (v := 0) hx hb dX8_canGo_30 (by decide) ?_
    have em : m_X8_canGo RO ce di = false := (by first | (simp only [m_X8_canGo, if_pos c1]; done) | (simp only [m_X8_canGo, if_pos c1]; rfl))
    exact W.zret (v := 0) hx hb hr rfl (fun t ht hW => ⟨⟨0, (), rfl, (by rw [em]; rfl), ⟨by rw [ht]; exact hP, by exact hD⟩⟩, hS.F ht⟩) hS.2.2 dX8_canGo_31
  · refine lv_aload_n hx hb dX8_canGo_12 rfl (lv_at hl 1 rfl) ?_
    refine va_get (ci := 7) (v := .ref aRo) (C := RX8) (T := TX8) (N := 11) hx hb hts iX8 hown hK hP 0 rfl rfl 0 (by decide) f7 (fun _ h9 => h9) rfl dX8_canGo_13 ?_
    refine lv_iconst (v := 0) hx hb dX8_canGo_16 (by decide) ?_
    refine lv_iload_n hx hb dX8_canGo_17 rfl (lv_at hl 0 rfl) ?_
    refine lv_iadd hx hb dX8_canGo_18 ?_
    refine va_iald hx hb hK hP 1 0 rfl rfl (off_in ((nx_in hce).resolve_left (by assumption)) (by decide) (by decide) (by decide)) dX8_canGo_19 ?_
    refine callK_i (va_runS (As := [.int (RO (0 + (m_X8_next ce di)).toNatClampNeg)]) (rest := []) ⟨hx, hb, hml, hown, hts⟩ (met_X8_isClosed l  (RO (0 + (m_X8_next ce di)).toNatClampNeg)) (va_cwS 1 hts gX8_canGo_X8_isClosed rfl rfl rfl (by decide +kernel) ⟨Nat.le_of_ble_eq_true rfl, Nat.le_of_ble_eq_true rfl⟩) ⟨preS_blind, fun U hU hW => ⟨rfl, trivial⟩⟩ rfl rfl hl.1 rfl (lv_room (Nat.le_of_ble_eq_true rfl)) dX8_canGo_20 ⟨Nat.zero_le _, Nat.zero_le _⟩) hP hS (fun r u H locs hw hP hS => ?_)
    subst hw
    refine lb_if_ne (tgt := 30) hx hb dX8_canGo_23 (by decide) (fun c2 => ?_) (fun c2 => ?_)
    · refine lv_iconst (v := 0) hx hb dX8_canGo_30 (by decide) ?_
      have em : m_X8_canGo RO ce di = false := (by first | (simp only [m_X8_canGo, if_neg c1, if_neg c2]; done) | (simp only [m_X8_canGo, if_neg c1, if_neg c2]; rfl))
      exact W.zret (v := 0) hx hb hr rfl (fun t ht hW => ⟨⟨0, (), rfl, (by rw [em]; rfl), ⟨by rw [ht]; exact hP, by exact hD⟩⟩, hS.F ht⟩) hS.2.2 dX8_canGo_31
    · refine lv_iconst (v := 1) hx hb dX8_canGo_26 (by decide) ?_
      refine lv_goto (tgt := 31) hx hb dX8_canGo_27 (by decide) ?_
      have em : m_X8_canGo RO ce di = true := (by first | (simp only [m_X8_canGo, if_neg c1, if_pos c2]; done) | (simp only [m_X8_canGo, if_neg c1, if_pos c2]; rfl))
      exact W.zret (v := 1) hx hb hr rfl (fun t ht hW => ⟨⟨1, (), rfl, (by rw [em]; rfl), ⟨by rw [ht]; exact hP, by exact hD⟩⟩, hS.F ht⟩) hS.2.2 dX8_canGo_31
theorem canGo_in {RO : Nat → Int32} {c d : Int32} (hc : vp_in c 64) (h : ¬ m_X8_canGo RO c d = false) : vp_in (m_X8_next c d) 64 := by
  refine (nx_in hc).resolve_left (fun e => h ?_)
  unfold m_X8_canGo
  rw [if_pos e]

def f_X8_lampIn_5 (RO : Nat → Int32) (ce : Int32) (k1 : Nat) (t2 : Int32) : Int32 := (let v8 : Int32 := (if (RO (129 + (nI k1)).toNatClampNeg) = ce then nI k1 else t2); v8)
def m_X8_lampIn (RO : Nat → Int32) (ce : Int32) : Int32 := (let t9 : Int32 := itr (f_X8_lampIn_5 RO ce) ((RO 128).toNatClampNeg) (-4 : Int32); t9)
set_option maxHeartbeats 4000000 in
set_option maxRecDepth 100000 in
theorem met_X8_lampIn (l : Launch) (D : va_G) (y4 : vT) (aM aRo aHi aSn aAs aLg aPd aCo aEa : Nat) (sz : Nat) (ms : Int32) (sv : Bool) (ml : Int32) (RO : Nat → Int32) (ce : Int32) (hM : MI RO) : Met l yX8_lampIn wsX8_lampIn ({ frames := 0, cells := 0, slots := 0, locals := 0 }) (va_Pc [.ref aM, .int ce] (PreW D y4 [(aM, .inr (7, [.ref aRo, .ref aHi, .int ms, .ref aSn, .int (bI sv), .ref aAs, .ref aLg, .ref aPd, .int ml, .ref aCo, .ref aEa])), (aRo, .inl (y4.1, 151, .inl RO))] sz)) (va_Qi (fun (r : Int32) (_ : Unit) => r = (m_X8_lampIn RO ce)) (fun _ t => PostW D (va_A [(aM, .inr (7, [.ref aRo, .ref aHi, .int ms, .ref aSn, .int (bI sv), .ref aAs, .ref aLg, .ref aPd, .int ml, .ref aCo, .ref aEa])), (aRo, .inl (y4.1, 151, .inl RO))] sz) [(aM, .inr (7, [.ref aRo, .ref aHi, .int ms, .ref aSn, .int (bI sv), .ref aAs, .ref aLg, .ref aPd, .int ml, .ref aCo, .ref aEa])), (aRo, .inl (y4.1, 151, .inl RO))] t) (va_A [(aM, .inr (7, [.ref aRo, .ref aHi, .int ms, .ref aSn, .int (bI sv), .ref aAs, .ref aLg, .ref aPd, .int ml, .ref aCo, .ref aEa])), (aRo, .inl (y4.1, 151, .inl RO))] sz)) 0 0 (va_A [(aM, .inr (7, [.ref aRo, .ref aHi, .int ms, .ref aSn, .int (bI sv), .ref aAs, .ref aLg, .ref aPd, .int ml, .ref aCo, .ref aEa])), (aRo, .inl (y4.1, 151, .inl RO))] sz) := by
  refine Met.ofW (cc := cX8_lampIn) (maxL := 4) (ret := (some .int)) (by decide) rfl ?_
  intro p e s m args below meth c s₁ B hml hv
  obtain ⟨rfl, hsz, hP, hK, hD0, hNW⟩ := hv
  have hx := B.exec
  have hb := B.bytes
  have hr := B.returns
  have hts := atoms_spec (ws := wsX8_lampIn) B.pre
  have hown : s.vm.findClass RX8 = some m.cls := findClass_of_methodNamed B.named
  have hlocks := B.notSynchronized
  subst hsz
  have hD := hD0.self (sz := s.heap.size)
  generalize hAe : va_A [(aM, .inr (7, [.ref aRo, .ref aHi, .int ms, .ref aSn, .int (bI sv), .ref aAs, .ref aLg, .ref aPd, .int ml, .ref aCo, .ref aEa])), (aRo, .inl (y4.1, 151, .inl RO))] s.heap.size = A at hD ⊢
  have hA : ∀ q : Nat, s.heap.size ≤ q → A q := fun q h => by rw [← hAe]; exact Or.inr h
  have hS : va_S A s.heap s.heap [] := va_S.rf
  have hl := lv_entry ([.ref aM, .int ce]) (n := 4) (Nat.le_of_ble_eq_true rfl)
  rw [lg_entry_eq]
  generalize (lg_sl ([.ref aM, .int ce]) ++ List.replicate (4 - (lg_sl ([.ref aM, .int ce])).length) Slot.unset).toArray = ls at hl ⊢
  have hl : lv_has ls 4 [(0, .ref aM), (1, .int ce)] := hl
  have f7 := hts (.fieldLink RX8 7 "PillarLightModel" "row" "[I") (List.mem_of_getElem? (i := 1) rfl)
  have iX8 : ∀ w ∈ wsX80, w ∈ wsX8_lampIn := fun _ h => List.mem_cons_of_mem _ (List.mem_append_right _ h)
  refine startW (fun H locs hP hS => ?_) hP hS
  refine lv_bipush (v := (-4)) hx hb dX8_lampIn_0 (by decide) ?_
  refine lv_istore_n (lv' := [(2, .int (-4)), (0, .ref aM), (1, .int ce)]) hx hb dX8_lampIn_2 rfl hl (by decide) rfl (fun ls hl => ?_)
  refine lv_iconst (v := 0) hx hb dX8_lampIn_3 (by decide) ?_
  refine lv_istore_n (lv' := [(3, .int 0), (2, .int (-4)), (0, .ref aM), (1, .int ce)]) hx hb dX8_lampIn_4 rfl hl (by decide) rfl (fun ls hl => ?_)
  refine loopW (σ := Int32) 5 (f_X8_lampIn_5 RO ce) ((RO 128).toNatClampNeg) (-4 : Int32) (fun k1 t2 H locs ls => va_P D vwCl [(aM, .inr (7, [.ref aRo, .ref aHi, .int ms, .ref aSn, .int (bI sv), .ref aAs, .ref aLg, .ref aPd, .int ml, .ref aCo, .ref aEa])), (aRo, .inl (y4.1, 151, .inl RO))] H ∧ va_D A [(aM, .inr (7, [.ref aRo, .ref aHi, .int ms, .ref aSn, .int (bI sv), .ref aAs, .ref aLg, .ref aPd, .int ml, .ref aCo, .ref aEa])), (aRo, .inl (y4.1, 151, .inl RO))] ∧ va_S A s.heap H locs ∧ lv_has ls 4 [(3, .int (nI k1)), (2, .int t2), (0, .ref aM), (1, .int ce)]) ⟨hP, hD, hS, lv_sub hl [0, 1, 2, 3] rfl⟩ (fun t9 H locs ls et9 hh => ?_) (fun k1 t2 hkk1 hek1 ihk1 H locs ls hh => ?_)
  · obtain ⟨hP, hD, hS, hl⟩ := hh
    have hP : va_P D vwCl [(aM, .inr (7, [.ref aRo, .ref aHi, .int ms, .ref aSn, .int (bI sv), .ref aAs, .ref aLg, .ref aPd, .int ml, .ref aCo, .ref aEa])), (aRo, .inl (y4.1, 151, .inl RO))] H := hP
    have hD : va_D A [(aM, .inr (7, [.ref aRo, .ref aHi, .int ms, .ref aSn, .int (bI sv), .ref aAs, .ref aLg, .ref aPd, .int ml, .ref aCo, .ref aEa])), (aRo, .inl (y4.1, 151, .inl RO))] := hD
    have hl : lv_has ls 4 [(3, .int (nI ((RO 128).toNatClampNeg))), (2, .int t9), (0, .ref aM), (1, .int ce)] := hl
    refine lv_iload_n hx hb dX8_lampIn_5 rfl (lv_at hl 0 rfl) ?_
    refine lv_aload_n hx hb dX8_lampIn_6 rfl (lv_at hl 2 rfl) ?_
    refine va_get (ci := 7) (v := .ref aRo) (C := RX8) (T := TX8) (N := 11) hx hb hts iX8 hown hK hP 0 rfl rfl 0 (by decide) f7 (fun _ h9 => h9) rfl dX8_lampIn_7 ?_
    refine lv_sipush (v := 128) hx hb dX8_lampIn_10 (by decide) ?_
    refine va_iald hx hb hK hP 1 0 rfl rfl (vp_in_nI (n := 128) (by decide) (by decide)) dX8_lampIn_13 ?_
    refine W.ofeqi (y := RO 128) (congrArg RO (by decide : (128 : Int32).toNatClampNeg = 128)) ?_
    refine lv_icmp_ge (tgt := 43) hx hb dX8_lampIn_14 (by decide) (fun c10 => ?_) (fun c10 => absurd (cl_le hM.1 (by omega) (by have := cl_lt hM.1; omega)) c10)
    refine lv_iload_n hx hb dX8_lampIn_43 rfl (lv_at hl 1 rfl) ?_
    have em : m_X8_lampIn RO ce = t9 := (by subst et9; first | (simp only [m_X8_lampIn]; done) | (unfold m_X8_lampIn; rfl) | rfl)
    exact W.iret (v := t9) hx hb hr (fun t ht hW => ⟨⟨t9, (), rfl, (by rw [em]), ⟨by rw [ht]; exact hP, by exact hD⟩⟩, hS.F ht⟩) hS.2.2 dX8_lampIn_44
  · obtain ⟨hP, hD, hS, hl⟩ := hh
    have hP : va_P D vwCl [(aM, .inr (7, [.ref aRo, .ref aHi, .int ms, .ref aSn, .int (bI sv), .ref aAs, .ref aLg, .ref aPd, .int ml, .ref aCo, .ref aEa])), (aRo, .inl (y4.1, 151, .inl RO))] H := hP
    have hD : va_D A [(aM, .inr (7, [.ref aRo, .ref aHi, .int ms, .ref aSn, .int (bI sv), .ref aAs, .ref aLg, .ref aPd, .int ml, .ref aCo, .ref aEa])), (aRo, .inl (y4.1, 151, .inl RO))] := hD
    have hl : lv_has ls 4 [(3, .int (nI k1)), (2, .int t2), (0, .ref aM), (1, .int ce)] := hl
    refine lv_iload_n hx hb dX8_lampIn_5 rfl (lv_at hl 0 rfl) ?_
    refine lv_aload_n hx hb dX8_lampIn_6 rfl (lv_at hl 2 rfl) ?_
    refine va_get (ci := 7) (v := .ref aRo) (C := RX8) (T := TX8) (N := 11) hx hb hts iX8 hown hK hP 0 rfl rfl 0 (by decide) f7 (fun _ h9 => h9) rfl dX8_lampIn_7 ?_
    refine lv_sipush (v := 128) hx hb dX8_lampIn_10 (by decide) ?_
    refine va_iald hx hb hK hP 1 0 rfl rfl (vp_in_nI (n := 128) (by decide) (by decide)) dX8_lampIn_13 ?_
    refine W.ofeqi (y := RO 128) (congrArg RO (by decide : (128 : Int32).toNatClampNeg = 128)) ?_
    refine lv_icmp_ge (tgt := 43) hx hb dX8_lampIn_14 (by decide) (fun c6 => absurd c6 (cl_ge hM.1 (by omega))) (fun c6 => ?_)
    refine lv_aload_n hx hb dX8_lampIn_17 rfl (lv_at hl 2 rfl) ?_
    refine va_get (ci := 7) (v := .ref aRo) (C := RX8) (T := TX8) (N := 11) hx hb hts iX8 hown hK hP 0 rfl rfl 0 (by decide) f7 (fun _ h9 => h9) rfl dX8_lampIn_18 ?_
    refine lv_sipush (v := 129) hx hb dX8_lampIn_21 (by decide) ?_
    refine lv_iload_n hx hb dX8_lampIn_24 rfl (lv_at hl 0 rfl) ?_
    refine lv_iadd hx hb dX8_lampIn_25 ?_
    refine va_iald hx hb hK hP 1 0 rfl rfl (off_in (cl_in hM.1 (by omega)) (by decide) (by decide) (by decide)) dX8_lampIn_26 ?_
    refine lv_iload_n hx hb dX8_lampIn_27 rfl (lv_at hl 3 rfl) ?_
    refine cutW (X := Int32) 36 (fun x H locs ls => x = (if (RO (129 + (nI k1)).toNatClampNeg) = ce then nI k1 else t2) ∧ va_P D vwCl [(aM, .inr (7, [.ref aRo, .ref aHi, .int ms, .ref aSn, .int (bI sv), .ref aAs, .ref aLg, .ref aPd, .int ml, .ref aCo, .ref aEa])), (aRo, .inl (y4.1, 151, .inl RO))] H ∧ va_D A [(aM, .inr (7, [.ref aRo, .ref aHi, .int ms, .ref aSn, .int (bI sv), .ref aAs, .ref aLg, .ref aPd, .int ml, .ref aCo, .ref aEa])), (aRo, .inl (y4.1, 151, .inl RO))] ∧ va_S A s.heap H locs ∧ lv_has ls 4 [(3, .int (nI k1)), (0, .ref aM), (1, .int ce)]) (fun x => [.int x]) ?_ (fun K36 => ?_)
    · rintro v8 H locs ls ⟨ev8, hP, hD, hS, hl⟩
      have ev8 : v8 = (if (RO (129 + (nI k1)).toNatClampNeg) = ce then nI k1 else t2) := ev8
      have hP : va_P D vwCl [(aM, .inr (7, [.ref aRo, .ref aHi, .int ms, .ref aSn, .int (bI sv), .ref aAs, .ref aLg, .ref aPd, .int ml, .ref aCo, .ref aEa])), (aRo, .inl (y4.1, 151, .inl RO))] H := hP
      have hD : va_D A [(aM, .inr (7, [.ref aRo, .ref aHi, .int ms, .ref aSn, .int (bI sv), .ref aAs, .ref aLg, .ref aPd, .int ml, .ref aCo, .ref aEa])), (aRo, .inl (y4.1, 151, .inl RO))] := hD
      have hl : lv_has ls 4 [(3, .int (nI k1)), (0, .ref aM), (1, .int ce)] := hl
      refine lv_istore_n (lv' := [(2, .int v8), (3, .int (nI k1)), (0, .ref aM), (1, .int ce)]) hx hb dX8_lampIn_36 rfl hl (by decide) rfl (fun ls hl => ?_)
      refine lv_iinc (v := nI (k1 + 1)) (lv' := [(3, .int (nI (k1 + 1))), (2, .int v8), (0, .ref aM), (1, .int ce)]) hx hb dX8_lampIn_37 hl (k := 1) rfl (nI_1 _) (by decide) rfl (fun ls hl => ?_)
      refine lv_goto (tgt := 5) hx hb dX8_lampIn_40 (by decide) ?_
      have ef : (f_X8_lampIn_5 RO ce) k1 t2 = v8 := (by subst ev8; first | (simp only [f_X8_lampIn_5]; done) | (unfold f_X8_lampIn_5; rfl) | rfl)
      rw [ef] at ihk1
      exact ihk1 H locs ls ⟨hP, hD, hS, lv_sub hl [0, 1, 2, 3] rfl⟩
    · refine lv_icmp_ne (tgt := 35) hx hb dX8_lampIn_28 (by decide) (fun c7 => ?_) (fun c7 => ?_)
      · refine lv_iload_n hx hb dX8_lampIn_35 rfl (lv_at hl 1 rfl) ?_
        exact K36 t2 H locs ls ⟨(by first | (simp only [if_neg c7]; done) | (simp only [if_neg c7]; rfl) | rfl), hP, hD, hS, lv_sub hl [0, 2, 3] rfl⟩
      · refine lv_iload_n hx hb dX8_lampIn_31 rfl (lv_at hl 0 rfl) ?_
        refine lv_goto (tgt := 36) hx hb dX8_lampIn_32 (by decide) ?_
        exact K36 (nI k1) H locs ls ⟨(by first | (simp only [if_pos c7]; done) | (simp only [if_pos c7]; rfl) | rfl), hP, hD, hS, lv_sub hl [0, 2, 3] rfl⟩
def m_X8_mayPut (RO : Nat → Int32) (ce : Int32) (kd : Int32) : Bool := (if ce = (RO 147) then (if (m_X8_isClosed kd) = false then true else false) else true)
set_option maxHeartbeats 4000000 in
set_option maxRecDepth 100000 in
theorem met_X8_mayPut (l : Launch) (D : va_G) (y4 : vT) (aM aRo aHi aSn aAs aLg aPd aCo aEa : Nat) (sz : Nat) (ms : Int32) (sv : Bool) (ml : Int32) (RO : Nat → Int32) (ce : Int32) (kd : Int32) : Met l yX8_mayPut wsX8_mayPut ({ frames := 1, cells := 0, slots := 0, locals := 20 }) (va_Pc [.ref aM, .int ce, .int kd] (PreW D y4 [(aM, .inr (7, [.ref aRo, .ref aHi, .int ms, .ref aSn, .int (bI sv), .ref aAs, .ref aLg, .ref aPd, .int ml, .ref aCo, .ref aEa])), (aRo, .inl (y4.1, 151, .inl RO))] sz)) (va_Qi (fun (r : Int32) (_ : Unit) => r = bI (m_X8_mayPut RO ce kd)) (fun _ t => PostW D (va_A [(aM, .inr (7, [.ref aRo, .ref aHi, .int ms, .ref aSn, .int (bI sv), .ref aAs, .ref aLg, .ref aPd, .int ml, .ref aCo, .ref aEa])), (aRo, .inl (y4.1, 151, .inl RO))] sz) [(aM, .inr (7, [.ref aRo, .ref aHi, .int ms, .ref aSn, .int (bI sv), .ref aAs, .ref aLg, .ref aPd, .int ml, .ref aCo, .ref aEa])), (aRo, .inl (y4.1, 151, .inl RO))] t) (va_A [(aM, .inr (7, [.ref aRo, .ref aHi, .int ms, .ref aSn, .int (bI sv), .ref aAs, .ref aLg, .ref aPd, .int ml, .ref aCo, .ref aEa])), (aRo, .inl (y4.1, 151, .inl RO))] sz)) 0 0 (va_A [(aM, .inr (7, [.ref aRo, .ref aHi, .int ms, .ref aSn, .int (bI sv), .ref aAs, .ref aLg, .ref aPd, .int ml, .ref aCo, .ref aEa])), (aRo, .inl (y4.1, 151, .inl RO))] sz) := by
  refine Met.ofW (cc := cX8_mayPut) (maxL := 3) (ret := (some .boolean)) (by decide) rfl ?_
  intro p e s m args below meth c s₁ B hml hv
  obtain ⟨rfl, hsz, hP, hK, hD0, hNW⟩ := hv
  have hx := B.exec
  have hb := B.bytes
  have hr := B.returns
  have hts := atoms_spec (ws := wsX8_mayPut) B.pre
  have hown : s.vm.findClass RX8 = some m.cls := findClass_of_methodNamed B.named
  have hlocks := B.notSynchronized
  subst hsz
  have hD := hD0.self (sz := s.heap.size)
  generalize hAe : va_A [(aM, .inr (7, [.ref aRo, .ref aHi, .int ms, .ref aSn, .int (bI sv), .ref aAs, .ref aLg, .ref aPd, .int ml, .ref aCo, .ref aEa])), (aRo, .inl (y4.1, 151, .inl RO))] s.heap.size = A at hD ⊢
  have hA : ∀ q : Nat, s.heap.size ≤ q → A q := fun q h => by rw [← hAe]; exact Or.inr h
  have hS : va_S A s.heap s.heap [] := va_S.rf
  have hl := lv_entry ([.ref aM, .int ce, .int kd]) (n := 3) (Nat.le_of_ble_eq_true rfl)
  rw [lg_entry_eq]
  generalize (lg_sl ([.ref aM, .int ce, .int kd]) ++ List.replicate (3 - (lg_sl ([.ref aM, .int ce, .int kd])).length) Slot.unset).toArray = ls at hl ⊢
  have hl : lv_has ls 3 [(0, .ref aM), (1, .int ce), (2, .int kd)] := hl
  have f7 := hts (.fieldLink RX8 7 "PillarLightModel" "row" "[I") (List.mem_of_getElem? (i := 1) rfl)
  have iX8 : ∀ w ∈ wsX80, w ∈ wsX8_mayPut := fun _ h => List.mem_cons_of_mem _ (List.mem_append_right _ h)
  refine startW (fun H locs hP hS => ?_) hP hS
  refine lv_iload_n hx hb dX8_mayPut_0 rfl (lv_at hl 1 rfl) ?_
  refine lv_aload_n hx hb dX8_mayPut_1 rfl (lv_at hl 0 rfl) ?_
  refine va_get (ci := 7) (v := .ref aRo) (C := RX8) (T := TX8) (N := 11) hx hb hts iX8 hown hK hP 0 rfl rfl 0 (by decide) f7 (fun _ h9 => h9) rfl dX8_mayPut_2 ?_
  refine lv_sipush (v := 147) hx hb dX8_mayPut_5 (by decide) ?_
  refine va_iald hx hb hK hP 1 0 rfl rfl (vp_in_nI (n := 147) (by decide) (by decide)) dX8_mayPut_8 ?_
  refine W.ofeqi (y := RO 147) (congrArg RO (by decide : (147 : Int32).toNatClampNeg = 147)) ?_
  refine lv_icmp_ne (tgt := 19) hx hb dX8_mayPut_9 (by decide) (fun c1 => ?_) (fun c1 => ?_)
  · refine lv_iconst (v := 1) hx hb dX8_mayPut_19 (by decide) ?_
    refine lv_goto (tgt := 24) hx hb dX8_mayPut_20 (by decide) ?_
    have em : m_X8_mayPut RO ce kd = true := (by first | (simp only [m_X8_mayPut, if_neg c1]; done) | (simp only [m_X8_mayPut, if_neg c1]; rfl))
    exact W.zret (v := 1) hx hb hr rfl (fun t ht hW => ⟨⟨1, (), rfl, (by rw [em]; rfl), ⟨by rw [ht]; exact hP, by exact hD⟩⟩, hS.F ht⟩) hS.2.2 dX8_mayPut_24
  · refine lv_iload_n hx hb dX8_mayPut_12 rfl (lv_at hl 2 rfl) ?_
    refine callK_i (va_runS (As := [.int kd]) (rest := []) ⟨hx, hb, hml, hown, hts⟩ (met_X8_isClosed l  kd) (va_cwS 1 hts gX8_mayPut_X8_isClosed rfl rfl rfl (by decide +kernel) ⟨Nat.le_of_ble_eq_true rfl, Nat.le_of_ble_eq_true rfl⟩) ⟨preS_blind, fun U hU hW => ⟨rfl, trivial⟩⟩ rfl rfl hl.1 rfl (lv_room (Nat.le_of_ble_eq_true rfl)) dX8_mayPut_13 ⟨Nat.zero_le _, Nat.zero_le _⟩) hP hS (fun r u H locs hw hP hS => ?_)
    subst hw
    refine lb_if_ne (tgt := 23) hx hb dX8_mayPut_16 (by decide) (fun c2 => ?_) (fun c2 => ?_)
    · refine lv_iconst (v := 0) hx hb dX8_mayPut_23 (by decide) ?_
      have em : m_X8_mayPut RO ce kd = false := (by first | (simp only [m_X8_mayPut, if_pos c1, if_neg c2]; done) | (simp only [m_X8_mayPut, if_pos c1, if_neg c2]; rfl))
      exact W.zret (v := 0) hx hb hr rfl (fun t ht hW => ⟨⟨0, (), rfl, (by rw [em]; rfl), ⟨by rw [ht]; exact hP, by exact hD⟩⟩, hS.F ht⟩) hS.2.2 dX8_mayPut_24
    · refine lv_iconst (v := 1) hx hb dX8_mayPut_19 (by decide) ?_
      refine lv_goto (tgt := 24) hx hb dX8_mayPut_20 (by decide) ?_
      have em : m_X8_mayPut RO ce kd = true := (by first | (simp only [m_X8_mayPut, if_pos c1, if_pos c2]; done) | (simp only [m_X8_mayPut, if_pos c1, if_pos c2]; rfl))
      exact W.zret (v := 1) hx hb hr rfl (fun t ht hW => ⟨⟨1, (), rfl, (by rw [em]; rfl), ⟨by rw [ht]; exact hP, by exact hD⟩⟩, hS.F ht⟩) hS.2.2 dX8_mayPut_24
def m_X8_mayShine (RO : Nat → Int32) (ce : Int32) : Bool := (if (m_X8_isDark (RO (0 + ce).toNatClampNeg)) = false then (if (m_X8_lampIn RO ce) = (-4) then true else false) else false)
set_option maxHeartbeats 4000000 in
set_option maxRecDepth 100000 in
theorem met_X8_mayShine (l : Launch) (D : va_G) (y4 : vT) (aM aRo aHi aSn aAs aLg aPd aCo aEa : Nat) (sz : Nat) (ms : Int32) (sv : Bool) (ml : Int32) (RO : Nat → Int32) (ce : Int32) (hM : MI RO) (hce : vp_in ce 64) : Met l yX8_mayShine wsX8_mayShine ({ frames := 1, cells := 0, slots := 0, locals := 23 }) (va_Pc [.ref aM, .int ce] (PreW D y4 [(aM, .inr (7, [.ref aRo, .ref aHi, .int ms, .ref aSn, .int (bI sv), .ref aAs, .ref aLg, .ref aPd, .int ml, .ref aCo, .ref aEa])), (aRo, .inl (y4.1, 151, .inl RO))] sz)) (va_Qi (fun (r : Int32) (_ : Unit) => r = bI (m_X8_mayShine RO ce)) (fun _ t => PostW D (va_A [(aM, .inr (7, [.ref aRo, .ref aHi, .int ms, .ref aSn, .int (bI sv), .ref aAs, .ref aLg, .ref aPd, .int ml, .ref aCo, .ref aEa])), (aRo, .inl (y4.1, 151, .inl RO))] sz) [(aM, .inr (7, [.ref aRo, .ref aHi, .int ms, .ref aSn, .int (bI sv), .ref aAs, .ref aLg, .ref aPd, .int ml, .ref aCo, .ref aEa])), (aRo, .inl (y4.1, 151, .inl RO))] t) (va_A [(aM, .inr (7, [.ref aRo, .ref aHi, .int ms, .ref aSn, .int (bI sv), .ref aAs, .ref aLg, .ref aPd, .int ml, .ref aCo, .ref aEa])), (aRo, .inl (y4.1, 151, .inl RO))] sz)) 0 0 (va_A [(aM, .inr (7, [.ref aRo, .ref aHi, .int ms, .ref aSn, .int (bI sv), .ref aAs, .ref aLg, .ref aPd, .int ml, .ref aCo, .ref aEa])), (aRo, .inl (y4.1, 151, .inl RO))] sz) := by
  refine Met.ofW (cc := cX8_mayShine) (maxL := 2) (ret := (some .boolean)) (by decide) rfl ?_
  intro p e s m args below meth c s₁ B hml hv
  obtain ⟨rfl, hsz, hP, hK, hD0, hNW⟩ := hv
  have hx := B.exec
  have hb := B.bytes
  have hr := B.returns
  have hts := atoms_spec (ws := wsX8_mayShine) B.pre
  have hown : s.vm.findClass RX8 = some m.cls := findClass_of_methodNamed B.named
  have hlocks := B.notSynchronized
  subst hsz
  have hD := hD0.self (sz := s.heap.size)
  generalize hAe : va_A [(aM, .inr (7, [.ref aRo, .ref aHi, .int ms, .ref aSn, .int (bI sv), .ref aAs, .ref aLg, .ref aPd, .int ml, .ref aCo, .ref aEa])), (aRo, .inl (y4.1, 151, .inl RO))] s.heap.size = A at hD ⊢
  have hA : ∀ q : Nat, s.heap.size ≤ q → A q := fun q h => by rw [← hAe]; exact Or.inr h
  have hS : va_S A s.heap s.heap [] := va_S.rf
  have hl := lv_entry ([.ref aM, .int ce]) (n := 2) (Nat.le_of_ble_eq_true rfl)
  rw [lg_entry_eq]
  generalize (lg_sl ([.ref aM, .int ce]) ++ List.replicate (2 - (lg_sl ([.ref aM, .int ce])).length) Slot.unset).toArray = ls at hl ⊢
  have hl : lv_has ls 2 [(0, .ref aM), (1, .int ce)] := hl
  have f7 := hts (.fieldLink RX8 7 "PillarLightModel" "row" "[I") (List.mem_of_getElem? (i := 1) rfl)
  have iX8 : ∀ w ∈ wsX80, w ∈ wsX8_mayShine := fun _ h => List.mem_cons_of_mem _ (List.mem_append_right _ h)
  refine startW (fun H locs hP hS => ?_) hP hS
  refine lv_aload_n hx hb dX8_mayShine_0 rfl (lv_at hl 0 rfl) ?_
  refine va_get (ci := 7) (v := .ref aRo) (C := RX8) (T := TX8) (N := 11) hx hb hts iX8 hown hK hP 0 rfl rfl 0 (by decide) f7 (fun _ h9 => h9) rfl dX8_mayShine_1 ?_
  refine lv_iconst (v := 0) hx hb dX8_mayShine_4 (by decide) ?_
  refine lv_iload_n hx hb dX8_mayShine_5 rfl (lv_at hl 1 rfl) ?_
  refine lv_iadd hx hb dX8_mayShine_6 ?_
  refine va_iald hx hb hK hP 1 0 rfl rfl (off_in hce (by decide) (by decide) (by decide)) dX8_mayShine_7 ?_
  refine callK_i (va_runS (As := [.int (RO (0 + ce).toNatClampNeg)]) (rest := []) ⟨hx, hb, hml, hown, hts⟩ (met_X8_isDark l  (RO (0 + ce).toNatClampNeg)) (va_cwS 1 hts gX8_mayShine_X8_isDark rfl rfl rfl (by decide +kernel) ⟨Nat.le_of_ble_eq_true rfl, Nat.le_of_ble_eq_true rfl⟩) ⟨preS_blind, fun U hU hW => ⟨rfl, trivial⟩⟩ rfl rfl hl.1 rfl (lv_room (Nat.le_of_ble_eq_true rfl)) dX8_mayShine_8 ⟨Nat.zero_le _, Nat.zero_le _⟩) hP hS (fun r u H locs hw hP hS => ?_)
  subst hw
  refine lb_if_ne (tgt := 28) hx hb dX8_mayShine_11 (by decide) (fun c1 => ?_) (fun c1 => ?_)
  · refine lv_iconst (v := 0) hx hb dX8_mayShine_28 (by decide) ?_
    have em : m_X8_mayShine RO ce = false := (by first | (simp only [m_X8_mayShine, if_neg c1]; done) | (simp only [m_X8_mayShine, if_neg c1]; rfl))
    exact W.zret (v := 0) hx hb hr rfl (fun t ht hW => ⟨⟨0, (), rfl, (by rw [em]; rfl), ⟨by rw [ht]; exact hP, by exact hD⟩⟩, hS.F ht⟩) hS.2.2 dX8_mayShine_29
  · refine lv_aload_n hx hb dX8_mayShine_14 rfl (lv_at hl 0 rfl) ?_
    refine lv_iload_n hx hb dX8_mayShine_15 rfl (lv_at hl 1 rfl) ?_
    refine callW_i (wr := []) (wn := fun u => [(aM, .inr (7, [.ref aRo, .ref aHi, .int ms, .ref aSn, .int (bI sv), .ref aAs, .ref aLg, .ref aPd, .int ml, .ref aCo, .ref aEa])), (aRo, .inl (y4.1, 151, .inl RO))]) (va_runV (As := [.int ce]) (rest := []) ⟨hx, hb, hml, hown, hts⟩ (met_X8_lampIn l D y4 aM aRo aHi aSn aAs aLg aPd aCo aEa H.size ms sv ml RO ce hM) (cwV 1 hts gX8_mayShine_X8_lampIn rfl rfl rfl (by decide +kernel) ⟨Nat.le_of_ble_eq_true rfl, Nat.le_of_ble_eq_true rfl⟩) ⟨preW_blind, va_recv hK hP (ci := 7) (q0 := 0) rfl rfl, preW_at (hP.sub (ws' := [(aM, .inr (7, [.ref aRo, .ref aHi, .int ms, .ref aSn, .int (bI sv), .ref aAs, .ref aLg, .ref aPd, .int ml, .ref aCo, .ref aEa])), (aRo, .inl (y4.1, 151, .inl RO))]) [0, 1] rfl) hK (hD.sub (ws' := [(aM, .inr (7, [.ref aRo, .ref aHi, .int ms, .ref aSn, .int (bI sv), .ref aAs, .ref aLg, .ref aPd, .int ml, .ref aCo, .ref aEa])), (aRo, .inl (y4.1, 151, .inl RO))]) [0, 1] (by decide) rfl) hNW⟩ rfl rfl hl.1 rfl (lv_room (Nat.le_of_ble_eq_true rfl)) dX8_mayShine_16 ⟨Nat.zero_le _, Nat.zero_le _⟩) hP hD hS hA [0, 1] [] [0, 1] rfl rfl (by decide) (by decide) (fun _ => rfl) (by decide) (fun r u2 H locs hw hP hD hS => ?_)
    subst hw
    have hP : va_P D vwCl [(aM, .inr (7, [.ref aRo, .ref aHi, .int ms, .ref aSn, .int (bI sv), .ref aAs, .ref aLg, .ref aPd, .int ml, .ref aCo, .ref aEa])), (aRo, .inl (y4.1, 151, .inl RO))] H := hP
    have hD : va_D A [(aM, .inr (7, [.ref aRo, .ref aHi, .int ms, .ref aSn, .int (bI sv), .ref aAs, .ref aLg, .ref aPd, .int ml, .ref aCo, .ref aEa])), (aRo, .inl (y4.1, 151, .inl RO))] := hD
    refine lv_bipush (v := (-4)) hx hb dX8_mayShine_19 (by decide) ?_
    refine lv_icmp_ne (tgt := 28) hx hb dX8_mayShine_21 (by decide) (fun c3 => ?_) (fun c3 => ?_)
    · refine lv_iconst (v := 0) hx hb dX8_mayShine_28 (by decide) ?_
      have em : m_X8_mayShine RO ce = false := (by first | (simp only [m_X8_mayShine, if_pos c1, if_neg c3]; done) | (simp only [m_X8_mayShine, if_pos c1, if_neg c3]; rfl))
      exact W.zret (v := 0) hx hb hr rfl (fun t ht hW => ⟨⟨0, (), rfl, (by rw [em]; rfl), ⟨by rw [ht]; exact hP, by exact hD⟩⟩, hS.F ht⟩) hS.2.2 dX8_mayShine_29
    · refine lv_iconst (v := 1) hx hb dX8_mayShine_24 (by decide) ?_
      refine lv_goto (tgt := 29) hx hb dX8_mayShine_25 (by decide) ?_
      have em : m_X8_mayShine RO ce = true := (by first | (simp only [m_X8_mayShine, if_pos c1, if_pos c3]; done) | (simp only [m_X8_mayShine, if_pos c1, if_pos c3]; rfl))
      exact W.zret (v := 1) hx hb hr rfl (fun t ht hW => ⟨⟨1, (), rfl, (by rw [em]; rfl), ⟨by rw [ht]; exact hP, by exact hD⟩⟩, hS.F ht⟩) hS.2.2 dX8_mayShine_29
def f_X8_seesMany_4 (RO : Nat → Int32) (ce : Int32) (k1 : Nat) (t2 : Int32) : Int32 := (let v10 : Bool := (if (m_X8_isFree RO ce (nI k1)) = false then false else true); t2 + (bI v10))
def m_X8_seesMany (RO : Nat → Int32) (ce : Int32) : Int32 := (let t11 : Int32 := itr (f_X8_seesMany_4 RO ce) 64 (0 : Int32); t11)
set_option maxHeartbeats 4000000 in
set_option maxRecDepth 100000 in
theorem met_X8_seesMany (l : Launch) (D : va_G) (y4 : vT) (aM aRo aHi aSn aAs aLg aPd aCo aEa : Nat) (sz : Nat) (ms : Int32) (sv : Bool) (ml : Int32) (RO : Nat → Int32) (ce : Int32) (hce : vp_in ce 64) : Met l yX8_seesMany wsX8_seesMany ({ frames := 4, cells := 0, slots := 0, locals := 98 }) (va_Pc [.ref aM, .int ce] (PreW D y4 [(aM, .inr (7, [.ref aRo, .ref aHi, .int ms, .ref aSn, .int (bI sv), .ref aAs, .ref aLg, .ref aPd, .int ml, .ref aCo, .ref aEa])), (aRo, .inl (y4.1, 151, .inl RO))] sz)) (va_Qi (fun (r : Int32) (_ : Unit) => r = (m_X8_seesMany RO ce)) (fun _ t => PostW D (va_A [(aM, .inr (7, [.ref aRo, .ref aHi, .int ms, .ref aSn, .int (bI sv), .ref aAs, .ref aLg, .ref aPd, .int ml, .ref aCo, .ref aEa])), (aRo, .inl (y4.1, 151, .inl RO))] sz) [(aM, .inr (7, [.ref aRo, .ref aHi, .int ms, .ref aSn, .int (bI sv), .ref aAs, .ref aLg, .ref aPd, .int ml, .ref aCo, .ref aEa])), (aRo, .inl (y4.1, 151, .inl RO))] t) (va_A [(aM, .inr (7, [.ref aRo, .ref aHi, .int ms, .ref aSn, .int (bI sv), .ref aAs, .ref aLg, .ref aPd, .int ml, .ref aCo, .ref aEa])), (aRo, .inl (y4.1, 151, .inl RO))] sz)) 0 0 (va_A [(aM, .inr (7, [.ref aRo, .ref aHi, .int ms, .ref aSn, .int (bI sv), .ref aAs, .ref aLg, .ref aPd, .int ml, .ref aCo, .ref aEa])), (aRo, .inl (y4.1, 151, .inl RO))] sz) := by
  refine Met.ofW (cc := cX8_seesMany) (maxL := 4) (ret := (some .int)) (by decide) rfl ?_
  intro p e s m args below meth c s₁ B hml hv
  obtain ⟨rfl, hsz, hP, hK, hD0, hNW⟩ := hv
  have hx := B.exec
  have hb := B.bytes
  have hr := B.returns
  have hts := atoms_spec (ws := wsX8_seesMany) B.pre
  have hown : s.vm.findClass RX8 = some m.cls := findClass_of_methodNamed B.named
  have hlocks := B.notSynchronized
  subst hsz
  have hD := hD0.self (sz := s.heap.size)
  generalize hAe : va_A [(aM, .inr (7, [.ref aRo, .ref aHi, .int ms, .ref aSn, .int (bI sv), .ref aAs, .ref aLg, .ref aPd, .int ml, .ref aCo, .ref aEa])), (aRo, .inl (y4.1, 151, .inl RO))] s.heap.size = A at hD ⊢
  have hA : ∀ q : Nat, s.heap.size ≤ q → A q := fun q h => by rw [← hAe]; exact Or.inr h
  have hS : va_S A s.heap s.heap [] := va_S.rf
  have hl := lv_entry ([.ref aM, .int ce]) (n := 4) (Nat.le_of_ble_eq_true rfl)
  rw [lg_entry_eq]
  generalize (lg_sl ([.ref aM, .int ce]) ++ List.replicate (4 - (lg_sl ([.ref aM, .int ce])).length) Slot.unset).toArray = ls at hl ⊢
  have hl : lv_has ls 4 [(0, .ref aM), (1, .int ce)] := hl
  refine startW (fun H locs hP hS => ?_) hP hS
  refine lv_iconst (v := 0) hx hb dX8_seesMany_0 (by decide) ?_
  refine lv_istore_n (lv' := [(2, .int 0), (0, .ref aM), (1, .int ce)]) hx hb dX8_seesMany_1 rfl hl (by decide) rfl (fun ls hl => ?_)
  refine lv_iconst (v := 0) hx hb dX8_seesMany_2 (by decide) ?_
  refine lv_istore_n (lv' := [(3, .int 0), (2, .int 0), (0, .ref aM), (1, .int ce)]) hx hb dX8_seesMany_3 rfl hl (by decide) rfl (fun ls hl => ?_)
  refine loopW (σ := Int32) 4 (f_X8_seesMany_4 RO ce) 64 (0 : Int32) (fun k1 t2 H locs ls => va_P D vwCl [(aM, .inr (7, [.ref aRo, .ref aHi, .int ms, .ref aSn, .int (bI sv), .ref aAs, .ref aLg, .ref aPd, .int ml, .ref aCo, .ref aEa])), (aRo, .inl (y4.1, 151, .inl RO))] H ∧ va_D A [(aM, .inr (7, [.ref aRo, .ref aHi, .int ms, .ref aSn, .int (bI sv), .ref aAs, .ref aLg, .ref aPd, .int ml, .ref aCo, .ref aEa])), (aRo, .inl (y4.1, 151, .inl RO))] ∧ va_S A s.heap H locs ∧ lv_has ls 4 [(3, .int (nI k1)), (2, .int t2), (0, .ref aM), (1, .int ce)]) ⟨hP, hD, hS, lv_sub hl [0, 1, 2, 3] rfl⟩ (fun t11 H locs ls et11 hh => ?_) (fun k1 t2 hkk1 hek1 ihk1 H locs ls hh => ?_)
  · obtain ⟨hP, hD, hS, hl⟩ := hh
    have hP : va_P D vwCl [(aM, .inr (7, [.ref aRo, .ref aHi, .int ms, .ref aSn, .int (bI sv), .ref aAs, .ref aLg, .ref aPd, .int ml, .ref aCo, .ref aEa])), (aRo, .inl (y4.1, 151, .inl RO))] H := hP
    have hD : va_D A [(aM, .inr (7, [.ref aRo, .ref aHi, .int ms, .ref aSn, .int (bI sv), .ref aAs, .ref aLg, .ref aPd, .int ml, .ref aCo, .ref aEa])), (aRo, .inl (y4.1, 151, .inl RO))] := hD
    have hl : lv_has ls 4 [(3, .int (nI 64)), (2, .int t11), (0, .ref aM), (1, .int ce)] := hl
    refine lv_iload_n hx hb dX8_seesMany_4 rfl (lv_at hl 0 rfl) ?_
    refine lv_bipush (v := 64) hx hb dX8_seesMany_5 (by decide) ?_
    refine lv_icmp_ge (tgt := 33) hx hb dX8_seesMany_7 (by decide) (fun c12 => ?_) (fun c12 => absurd (nI_le (a := 64) (by omega) (by omega)) c12)
    refine lv_iload_n hx hb dX8_seesMany_33 rfl (lv_at hl 1 rfl) ?_
    have em : m_X8_seesMany RO ce = t11 := (by subst et11; first | (simp only [m_X8_seesMany]; done) | (unfold m_X8_seesMany; rfl) | rfl)
    exact W.iret (v := t11) hx hb hr (fun t ht hW => ⟨⟨t11, (), rfl, (by rw [em]), ⟨by rw [ht]; exact hP, by exact hD⟩⟩, hS.F ht⟩) hS.2.2 dX8_seesMany_34
  · obtain ⟨hP, hD, hS, hl⟩ := hh
    have hP : va_P D vwCl [(aM, .inr (7, [.ref aRo, .ref aHi, .int ms, .ref aSn, .int (bI sv), .ref aAs, .ref aLg, .ref aPd, .int ml, .ref aCo, .ref aEa])), (aRo, .inl (y4.1, 151, .inl RO))] H := hP
    have hD : va_D A [(aM, .inr (7, [.ref aRo, .ref aHi, .int ms, .ref aSn, .int (bI sv), .ref aAs, .ref aLg, .ref aPd, .int ml, .ref aCo, .ref aEa])), (aRo, .inl (y4.1, 151, .inl RO))] := hD
    have hl : lv_has ls 4 [(3, .int (nI k1)), (2, .int t2), (0, .ref aM), (1, .int ce)] := hl
    refine lv_iload_n hx hb dX8_seesMany_4 rfl (lv_at hl 0 rfl) ?_
    refine lv_bipush (v := 64) hx hb dX8_seesMany_5 (by decide) ?_
    refine lv_icmp_ge (tgt := 33) hx hb dX8_seesMany_7 (by decide) (fun c7 => absurd c7 (nI_ge (b := 64) (by omega) (by omega))) (fun c7 => ?_)
    refine lv_iload_n hx hb dX8_seesMany_10 rfl (lv_at hl 1 rfl) ?_
    refine lv_aload_n hx hb dX8_seesMany_11 rfl (lv_at hl 2 rfl) ?_
    refine lv_iload_n hx hb dX8_seesMany_12 rfl (lv_at hl 3 rfl) ?_
    refine lv_iload_n hx hb dX8_seesMany_13 rfl (lv_at hl 0 rfl) ?_
    refine callW_i (wr := []) (wn := fun u => [(aM, .inr (7, [.ref aRo, .ref aHi, .int ms, .ref aSn, .int (bI sv), .ref aAs, .ref aLg, .ref aPd, .int ml, .ref aCo, .ref aEa])), (aRo, .inl (y4.1, 151, .inl RO))]) (va_runV (As := [.int ce, .int (nI k1)]) (rest := [.int t2]) ⟨hx, hb, hml, hown, hts⟩ (met_X8_isFree l D y4 aM aRo aHi aSn aAs aLg aPd aCo aEa H.size ms sv ml RO ce (nI k1) hce (vp_in_nI (by omega) (by decide))) (cwV 2 hts gX8_seesMany_X8_isFree rfl rfl rfl (by decide +kernel) ⟨Nat.le_of_ble_eq_true rfl, Nat.le_of_ble_eq_true rfl⟩) ⟨preW_blind, va_recv hK hP (ci := 7) (q0 := 0) rfl rfl, preW_at (hP.sub (ws' := [(aM, .inr (7, [.ref aRo, .ref aHi, .int ms, .ref aSn, .int (bI sv), .ref aAs, .ref aLg, .ref aPd, .int ml, .ref aCo, .ref aEa])), (aRo, .inl (y4.1, 151, .inl RO))]) [0, 1] rfl) hK (hD.sub (ws' := [(aM, .inr (7, [.ref aRo, .ref aHi, .int ms, .ref aSn, .int (bI sv), .ref aAs, .ref aLg, .ref aPd, .int ml, .ref aCo, .ref aEa])), (aRo, .inl (y4.1, 151, .inl RO))]) [0, 1] (by decide) rfl) hNW⟩ rfl rfl hl.1 rfl (lv_room (Nat.le_of_ble_eq_true rfl)) dX8_seesMany_14 ⟨Nat.zero_le _, Nat.zero_le _⟩) hP hD hS hA [0, 1] [] [0, 1] rfl rfl (by decide) (by decide) (fun _ => rfl) (by decide) (fun r u8 H locs hw hP hD hS => ?_)
    subst hw
    have hP : va_P D vwCl [(aM, .inr (7, [.ref aRo, .ref aHi, .int ms, .ref aSn, .int (bI sv), .ref aAs, .ref aLg, .ref aPd, .int ml, .ref aCo, .ref aEa])), (aRo, .inl (y4.1, 151, .inl RO))] H := hP
    have hD : va_D A [(aM, .inr (7, [.ref aRo, .ref aHi, .int ms, .ref aSn, .int (bI sv), .ref aAs, .ref aLg, .ref aPd, .int ml, .ref aCo, .ref aEa])), (aRo, .inl (y4.1, 151, .inl RO))] := hD
    refine cutW (X := Bool) 25 (fun x H locs ls => x = (if (m_X8_isFree RO ce (nI k1)) = false then false else true) ∧ va_P D vwCl [(aM, .inr (7, [.ref aRo, .ref aHi, .int ms, .ref aSn, .int (bI sv), .ref aAs, .ref aLg, .ref aPd, .int ml, .ref aCo, .ref aEa])), (aRo, .inl (y4.1, 151, .inl RO))] H ∧ va_D A [(aM, .inr (7, [.ref aRo, .ref aHi, .int ms, .ref aSn, .int (bI sv), .ref aAs, .ref aLg, .ref aPd, .int ml, .ref aCo, .ref aEa])), (aRo, .inl (y4.1, 151, .inl RO))] ∧ va_S A s.heap H locs ∧ lv_has ls 4 [(3, .int (nI k1)), (0, .ref aM), (1, .int ce)]) (fun x => [.int (bI x), .int t2]) ?_ (fun K25 => ?_)
    · rintro v10 H locs ls ⟨ev10, hP, hD, hS, hl⟩
      have ev10 : v10 = (if (m_X8_isFree RO ce (nI k1)) = false then false else true) := ev10
      have hP : va_P D vwCl [(aM, .inr (7, [.ref aRo, .ref aHi, .int ms, .ref aSn, .int (bI sv), .ref aAs, .ref aLg, .ref aPd, .int ml, .ref aCo, .ref aEa])), (aRo, .inl (y4.1, 151, .inl RO))] H := hP
      have hD : va_D A [(aM, .inr (7, [.ref aRo, .ref aHi, .int ms, .ref aSn, .int (bI sv), .ref aAs, .ref aLg, .ref aPd, .int ml, .ref aCo, .ref aEa])), (aRo, .inl (y4.1, 151, .inl RO))] := hD
      have hl : lv_has ls 4 [(3, .int (nI k1)), (0, .ref aM), (1, .int ce)] := hl
      refine lv_iadd hx hb dX8_seesMany_25 ?_
      refine lv_istore_n (lv' := [(2, .int (t2 + (bI v10))), (3, .int (nI k1)), (0, .ref aM), (1, .int ce)]) hx hb dX8_seesMany_26 rfl hl (by decide) rfl (fun ls hl => ?_)
      refine lv_iinc (v := nI (k1 + 1)) (lv' := [(3, .int (nI (k1 + 1))), (2, .int (t2 + (bI v10))), (0, .ref aM), (1, .int ce)]) hx hb dX8_seesMany_27 hl (k := 1) rfl (nI_1 _) (by decide) rfl (fun ls hl => ?_)
      refine lv_goto (tgt := 4) hx hb dX8_seesMany_30 (by decide) ?_
      have ef : (f_X8_seesMany_4 RO ce) k1 t2 = t2 + (bI v10) := (by subst ev10; first | (simp only [f_X8_seesMany_4]; done) | (unfold f_X8_seesMany_4; rfl) | rfl)
      rw [ef] at ihk1
      exact ihk1 H locs ls ⟨hP, hD, hS, lv_sub hl [0, 1, 2, 3] rfl⟩
    · refine lb_if_eq (tgt := 24) hx hb dX8_seesMany_17 (by decide) (fun c9 => ?_) (fun c9 => ?_)
      · refine lv_iconst (v := 0) hx hb dX8_seesMany_24 (by decide) ?_
        exact K25 false H locs ls ⟨(by first | (simp only [if_pos c9]; done) | (simp only [if_pos c9]; rfl) | rfl), hP, hD, hS, lv_sub hl [0, 2, 3] rfl⟩
      · refine lv_iconst (v := 1) hx hb dX8_seesMany_20 (by decide) ?_
        refine lv_goto (tgt := 25) hx hb dX8_seesMany_21 (by decide) ?_
        exact K25 true H locs ls ⟨(by first | (simp only [if_neg c9]; done) | (simp only [if_neg c9]; rfl) | rfl), hP, hD, hS, lv_sub hl [0, 2, 3] rfl⟩
def f_X8_lampsFor_4 (RO : Nat → Int32) (ce : Int32) (k1 : Nat) (t2 : Int32) : Int32 := (let v10 : Int32 := (if (m_X8_given RO (nI k1) ce) ≤ 0 then (0 : Int32) else 1 <<< ((nI k1) &&& 31)); t2 ||| v10)
def m_X8_lampsFor (RO : Nat → Int32) (ce : Int32) : Int32 := (let t11 : Int32 := itr (f_X8_lampsFor_4 RO ce) ((RO 128).toNatClampNeg) (0 : Int32); t11)
set_option maxHeartbeats 4000000 in
set_option maxRecDepth 100000 in
theorem met_X8_lampsFor (l : Launch) (D : va_G) (y4 : vT) (aM aRo aHi aSn aAs aLg aPd aCo aEa : Nat) (sz : Nat) (ms : Int32) (sv : Bool) (ml : Int32) (RO : Nat → Int32) (ce : Int32) (hM : MI RO) (hce : vp_in ce 64) : Met l yX8_lampsFor wsX8_lampsFor ({ frames := 5, cells := 0, slots := 0, locals := 121 }) (va_Pc [.ref aM, .int ce] (PreW D y4 [(aM, .inr (7, [.ref aRo, .ref aHi, .int ms, .ref aSn, .int (bI sv), .ref aAs, .ref aLg, .ref aPd, .int ml, .ref aCo, .ref aEa])), (aRo, .inl (y4.1, 151, .inl RO))] sz)) (va_Qi (fun (r : Int32) (_ : Unit) => r = (m_X8_lampsFor RO ce)) (fun _ t => PostW D (va_A [(aM, .inr (7, [.ref aRo, .ref aHi, .int ms, .ref aSn, .int (bI sv), .ref aAs, .ref aLg, .ref aPd, .int ml, .ref aCo, .ref aEa])), (aRo, .inl (y4.1, 151, .inl RO))] sz) [(aM, .inr (7, [.ref aRo, .ref aHi, .int ms, .ref aSn, .int (bI sv), .ref aAs, .ref aLg, .ref aPd, .int ml, .ref aCo, .ref aEa])), (aRo, .inl (y4.1, 151, .inl RO))] t) (va_A [(aM, .inr (7, [.ref aRo, .ref aHi, .int ms, .ref aSn, .int (bI sv), .ref aAs, .ref aLg, .ref aPd, .int ml, .ref aCo, .ref aEa])), (aRo, .inl (y4.1, 151, .inl RO))] sz)) 0 0 (va_A [(aM, .inr (7, [.ref aRo, .ref aHi, .int ms, .ref aSn, .int (bI sv), .ref aAs, .ref aLg, .ref aPd, .int ml, .ref aCo, .ref aEa])), (aRo, .inl (y4.1, 151, .inl RO))] sz) := by
  refine Met.ofW (cc := cX8_lampsFor) (maxL := 4) (ret := (some .int)) (by decide) rfl ?_
  intro p e s m args below meth c s₁ B hml hv
  obtain ⟨rfl, hsz, hP, hK, hD0, hNW⟩ := hv
  have hx := B.exec
  have hb := B.bytes
  have hr := B.returns
  have hts := atoms_spec (ws := wsX8_lampsFor) B.pre
  have hown : s.vm.findClass RX8 = some m.cls := findClass_of_methodNamed B.named
  have hlocks := B.notSynchronized
  subst hsz
  have hD := hD0.self (sz := s.heap.size)
  generalize hAe : va_A [(aM, .inr (7, [.ref aRo, .ref aHi, .int ms, .ref aSn, .int (bI sv), .ref aAs, .ref aLg, .ref aPd, .int ml, .ref aCo, .ref aEa])), (aRo, .inl (y4.1, 151, .inl RO))] s.heap.size = A at hD ⊢
  have hA : ∀ q : Nat, s.heap.size ≤ q → A q := fun q h => by rw [← hAe]; exact Or.inr h
  have hS : va_S A s.heap s.heap [] := va_S.rf
  have hl := lv_entry ([.ref aM, .int ce]) (n := 4) (Nat.le_of_ble_eq_true rfl)
  rw [lg_entry_eq]
  generalize (lg_sl ([.ref aM, .int ce]) ++ List.replicate (4 - (lg_sl ([.ref aM, .int ce])).length) Slot.unset).toArray = ls at hl ⊢
  have hl : lv_has ls 4 [(0, .ref aM), (1, .int ce)] := hl
  have f7 := hts (.fieldLink RX8 7 "PillarLightModel" "row" "[I") (List.mem_of_getElem? (i := 1) rfl)
  have iX8 : ∀ w ∈ wsX80, w ∈ wsX8_lampsFor := fun _ h => List.mem_cons_of_mem _ (List.mem_append_right _ h)
  refine startW (fun H locs hP hS => ?_) hP hS
  refine lv_iconst (v := 0) hx hb dX8_lampsFor_0 (by decide) ?_
  refine lv_istore_n (lv' := [(2, .int 0), (0, .ref aM), (1, .int ce)]) hx hb dX8_lampsFor_1 rfl hl (by decide) rfl (fun ls hl => ?_)
  refine lv_iconst (v := 0) hx hb dX8_lampsFor_2 (by decide) ?_
  refine lv_istore_n (lv' := [(3, .int 0), (2, .int 0), (0, .ref aM), (1, .int ce)]) hx hb dX8_lampsFor_3 rfl hl (by decide) rfl (fun ls hl => ?_)
  refine loopW (σ := Int32) 4 (f_X8_lampsFor_4 RO ce) ((RO 128).toNatClampNeg) (0 : Int32) (fun k1 t2 H locs ls => va_P D vwCl [(aM, .inr (7, [.ref aRo, .ref aHi, .int ms, .ref aSn, .int (bI sv), .ref aAs, .ref aLg, .ref aPd, .int ml, .ref aCo, .ref aEa])), (aRo, .inl (y4.1, 151, .inl RO))] H ∧ va_D A [(aM, .inr (7, [.ref aRo, .ref aHi, .int ms, .ref aSn, .int (bI sv), .ref aAs, .ref aLg, .ref aPd, .int ml, .ref aCo, .ref aEa])), (aRo, .inl (y4.1, 151, .inl RO))] ∧ va_S A s.heap H locs ∧ lv_has ls 4 [(3, .int (nI k1)), (2, .int t2), (0, .ref aM), (1, .int ce)]) ⟨hP, hD, hS, lv_sub hl [0, 1, 2, 3] rfl⟩ (fun t11 H locs ls et11 hh => ?_) (fun k1 t2 hkk1 hek1 ihk1 H locs ls hh => ?_)
  · obtain ⟨hP, hD, hS, hl⟩ := hh
    have hP : va_P D vwCl [(aM, .inr (7, [.ref aRo, .ref aHi, .int ms, .ref aSn, .int (bI sv), .ref aAs, .ref aLg, .ref aPd, .int ml, .ref aCo, .ref aEa])), (aRo, .inl (y4.1, 151, .inl RO))] H := hP
    have hD : va_D A [(aM, .inr (7, [.ref aRo, .ref aHi, .int ms, .ref aSn, .int (bI sv), .ref aAs, .ref aLg, .ref aPd, .int ml, .ref aCo, .ref aEa])), (aRo, .inl (y4.1, 151, .inl RO))] := hD
    have hl : lv_has ls 4 [(3, .int (nI ((RO 128).toNatClampNeg))), (2, .int t11), (0, .ref aM), (1, .int ce)] := hl
    refine lv_iload_n hx hb dX8_lampsFor_4 rfl (lv_at hl 0 rfl) ?_
    refine lv_aload_n hx hb dX8_lampsFor_5 rfl (lv_at hl 2 rfl) ?_
    refine va_get (ci := 7) (v := .ref aRo) (C := RX8) (T := TX8) (N := 11) hx hb hts iX8 hown hK hP 0 rfl rfl 0 (by decide) f7 (fun _ h9 => h9) rfl dX8_lampsFor_6 ?_
    refine lv_sipush (v := 128) hx hb dX8_lampsFor_9 (by decide) ?_
    refine va_iald hx hb hK hP 1 0 rfl rfl (vp_in_nI (n := 128) (by decide) (by decide)) dX8_lampsFor_12 ?_
    refine W.ofeqi (y := RO 128) (congrArg RO (by decide : (128 : Int32).toNatClampNeg = 128)) ?_
    refine lv_icmp_ge (tgt := 41) hx hb dX8_lampsFor_13 (by decide) (fun c12 => ?_) (fun c12 => absurd (cl_le hM.1 (by omega) (by have := cl_lt hM.1; omega)) c12)
    refine lv_iload_n hx hb dX8_lampsFor_41 rfl (lv_at hl 1 rfl) ?_
    have em : m_X8_lampsFor RO ce = t11 := (by subst et11; first | (simp only [m_X8_lampsFor]; done) | (unfold m_X8_lampsFor; rfl) | rfl)
    exact W.iret (v := t11) hx hb hr (fun t ht hW => ⟨⟨t11, (), rfl, (by rw [em]), ⟨by rw [ht]; exact hP, by exact hD⟩⟩, hS.F ht⟩) hS.2.2 dX8_lampsFor_42
  · obtain ⟨hP, hD, hS, hl⟩ := hh
    have hP : va_P D vwCl [(aM, .inr (7, [.ref aRo, .ref aHi, .int ms, .ref aSn, .int (bI sv), .ref aAs, .ref aLg, .ref aPd, .int ml, .ref aCo, .ref aEa])), (aRo, .inl (y4.1, 151, .inl RO))] H := hP
    have hD : va_D A [(aM, .inr (7, [.ref aRo, .ref aHi, .int ms, .ref aSn, .int (bI sv), .ref aAs, .ref aLg, .ref aPd, .int ml, .ref aCo, .ref aEa])), (aRo, .inl (y4.1, 151, .inl RO))] := hD
    have hl : lv_has ls 4 [(3, .int (nI k1)), (2, .int t2), (0, .ref aM), (1, .int ce)] := hl
    refine lv_iload_n hx hb dX8_lampsFor_4 rfl (lv_at hl 0 rfl) ?_
    refine lv_aload_n hx hb dX8_lampsFor_5 rfl (lv_at hl 2 rfl) ?_
    refine va_get (ci := 7) (v := .ref aRo) (C := RX8) (T := TX8) (N := 11) hx hb hts iX8 hown hK hP 0 rfl rfl 0 (by decide) f7 (fun _ h9 => h9) rfl dX8_lampsFor_6 ?_
    refine lv_sipush (v := 128) hx hb dX8_lampsFor_9 (by decide) ?_
    refine va_iald hx hb hK hP 1 0 rfl rfl (vp_in_nI (n := 128) (by decide) (by decide)) dX8_lampsFor_12 ?_
    refine W.ofeqi (y := RO 128) (congrArg RO (by decide : (128 : Int32).toNatClampNeg = 128)) ?_
    refine lv_icmp_ge (tgt := 41) hx hb dX8_lampsFor_13 (by decide) (fun c7 => absurd c7 (cl_ge hM.1 (by omega))) (fun c7 => ?_)
    refine lv_iload_n hx hb dX8_lampsFor_16 rfl (lv_at hl 1 rfl) ?_
    refine lv_aload_n hx hb dX8_lampsFor_17 rfl (lv_at hl 2 rfl) ?_
    refine lv_iload_n hx hb dX8_lampsFor_18 rfl (lv_at hl 0 rfl) ?_
    refine lv_iload_n hx hb dX8_lampsFor_19 rfl (lv_at hl 3 rfl) ?_
    refine callW_i (wr := []) (wn := fun u => [(aM, .inr (7, [.ref aRo, .ref aHi, .int ms, .ref aSn, .int (bI sv), .ref aAs, .ref aLg, .ref aPd, .int ml, .ref aCo, .ref aEa])), (aRo, .inl (y4.1, 151, .inl RO))]) (va_runV (As := [.int (nI k1), .int ce]) (rest := [.int t2]) ⟨hx, hb, hml, hown, hts⟩ (met_X8_given l D y4 aM aRo aHi aSn aAs aLg aPd aCo aEa H.size ms sv ml RO (nI k1) ce (cl_in hM.1 (by omega)) (hM.2.1 _ (by omega)) hce) (cwV 2 hts gX8_lampsFor_X8_given rfl rfl rfl (by decide +kernel) ⟨Nat.le_of_ble_eq_true rfl, Nat.le_of_ble_eq_true rfl⟩) ⟨preW_blind, va_recv hK hP (ci := 7) (q0 := 0) rfl rfl, preW_at (hP.sub (ws' := [(aM, .inr (7, [.ref aRo, .ref aHi, .int ms, .ref aSn, .int (bI sv), .ref aAs, .ref aLg, .ref aPd, .int ml, .ref aCo, .ref aEa])), (aRo, .inl (y4.1, 151, .inl RO))]) [0, 1] rfl) hK (hD.sub (ws' := [(aM, .inr (7, [.ref aRo, .ref aHi, .int ms, .ref aSn, .int (bI sv), .ref aAs, .ref aLg, .ref aPd, .int ml, .ref aCo, .ref aEa])), (aRo, .inl (y4.1, 151, .inl RO))]) [0, 1] (by decide) rfl) hNW⟩ rfl rfl hl.1 rfl (lv_room (Nat.le_of_ble_eq_true rfl)) dX8_lampsFor_20 ⟨Nat.zero_le _, Nat.zero_le _⟩) hP hD hS hA [0, 1] [] [0, 1] rfl rfl (by decide) (by decide) (fun _ => rfl) (by decide) (fun r u8 H locs hw hP hD hS => ?_)
    subst hw
    have hP : va_P D vwCl [(aM, .inr (7, [.ref aRo, .ref aHi, .int ms, .ref aSn, .int (bI sv), .ref aAs, .ref aLg, .ref aPd, .int ml, .ref aCo, .ref aEa])), (aRo, .inl (y4.1, 151, .inl RO))] H := hP
    have hD : va_D A [(aM, .inr (7, [.ref aRo, .ref aHi, .int ms, .ref aSn, .int (bI sv), .ref aAs, .ref aLg, .ref aPd, .int ml, .ref aCo, .ref aEa])), (aRo, .inl (y4.1, 151, .inl RO))] := hD
    refine cutW (X := Int32) 33 (fun x H locs ls => x = (if (m_X8_given RO (nI k1) ce) ≤ 0 then (0 : Int32) else 1 <<< ((nI k1) &&& 31)) ∧ va_P D vwCl [(aM, .inr (7, [.ref aRo, .ref aHi, .int ms, .ref aSn, .int (bI sv), .ref aAs, .ref aLg, .ref aPd, .int ml, .ref aCo, .ref aEa])), (aRo, .inl (y4.1, 151, .inl RO))] H ∧ va_D A [(aM, .inr (7, [.ref aRo, .ref aHi, .int ms, .ref aSn, .int (bI sv), .ref aAs, .ref aLg, .ref aPd, .int ml, .ref aCo, .ref aEa])), (aRo, .inl (y4.1, 151, .inl RO))] ∧ va_S A s.heap H locs ∧ lv_has ls 4 [(3, .int (nI k1)), (0, .ref aM), (1, .int ce)]) (fun x => [.int x, .int t2]) ?_ (fun K33 => ?_)
    · rintro v10 H locs ls ⟨ev10, hP, hD, hS, hl⟩
      have ev10 : v10 = (if (m_X8_given RO (nI k1) ce) ≤ 0 then (0 : Int32) else 1 <<< ((nI k1) &&& 31)) := ev10
      have hP : va_P D vwCl [(aM, .inr (7, [.ref aRo, .ref aHi, .int ms, .ref aSn, .int (bI sv), .ref aAs, .ref aLg, .ref aPd, .int ml, .ref aCo, .ref aEa])), (aRo, .inl (y4.1, 151, .inl RO))] H := hP
      have hD : va_D A [(aM, .inr (7, [.ref aRo, .ref aHi, .int ms, .ref aSn, .int (bI sv), .ref aAs, .ref aLg, .ref aPd, .int ml, .ref aCo, .ref aEa])), (aRo, .inl (y4.1, 151, .inl RO))] := hD
      have hl : lv_has ls 4 [(3, .int (nI k1)), (0, .ref aM), (1, .int ce)] := hl
      refine lv_ior hx hb dX8_lampsFor_33 ?_
      refine lv_istore_n (lv' := [(2, .int (t2 ||| v10)), (3, .int (nI k1)), (0, .ref aM), (1, .int ce)]) hx hb dX8_lampsFor_34 rfl hl (by decide) rfl (fun ls hl => ?_)
      refine lv_iinc (v := nI (k1 + 1)) (lv' := [(3, .int (nI (k1 + 1))), (2, .int (t2 ||| v10)), (0, .ref aM), (1, .int ce)]) hx hb dX8_lampsFor_35 hl (k := 1) rfl (nI_1 _) (by decide) rfl (fun ls hl => ?_)
      refine lv_goto (tgt := 4) hx hb dX8_lampsFor_38 (by decide) ?_
      have ef : (f_X8_lampsFor_4 RO ce) k1 t2 = t2 ||| v10 := (by subst ev10; first | (simp only [f_X8_lampsFor_4]; done) | (unfold f_X8_lampsFor_4; rfl) | rfl)
      rw [ef] at ihk1
      exact ihk1 H locs ls ⟨hP, hD, hS, lv_sub hl [0, 1, 2, 3] rfl⟩
    · refine lv_if_le (tgt := 32) hx hb dX8_lampsFor_23 (by decide) (fun c9 => ?_) (fun c9 => ?_)
      · refine lv_iconst (v := 0) hx hb dX8_lampsFor_32 (by decide) ?_
        exact K33 (0 : Int32) H locs ls ⟨(by first | (simp only [if_pos c9]; done) | (simp only [if_pos c9]; rfl) | rfl), hP, hD, hS, lv_sub hl [0, 2, 3] rfl⟩
      · refine lv_iconst (v := 1) hx hb dX8_lampsFor_26 (by decide) ?_
        refine lv_iload_n hx hb dX8_lampsFor_27 rfl (lv_at hl 0 rfl) ?_
        refine lv_ishl hx hb dX8_lampsFor_28 ?_
        refine lv_goto (tgt := 33) hx hb dX8_lampsFor_29 (by decide) ?_
        exact K33 (1 <<< ((nI k1) &&& 31)) H locs ls ⟨(by first | (simp only [if_neg c9]; done) | (simp only [if_neg c9]; rfl) | rfl), hP, hD, hS, lv_sub hl [0, 2, 3] rfl⟩
def m_X8_steps (fr : Int32) (to : Int32) : Int32 := (let q1 : Int32 := m_X8_size ((fr - fr / 8 * 8) - (to - to / 8 * 8)); (m_X8_size ((fr / 8) - (to / 8))) + q1)
set_option maxHeartbeats 4000000 in
set_option maxRecDepth 100000 in
theorem met_X8_steps (l : Launch) (fr : Int32) (to : Int32) : Met l yX8_steps wsX8_steps ({ frames := 1, cells := 0, slots := 0, locals := 20 }) (va_Pc [.int fr, .int to] (fun _ => True)) (va_Qi (fun (r : Int32) (_ : Unit) => r = (m_X8_steps fr to)) (fun _ _ => True) (fun _ => False)) 0 0 (fun _ => False) := by
  refine Met.ofW (cc := cX8_steps) (maxL := 2) (ret := (some .int)) (by decide) rfl ?_
  intro p e s m args below meth c s₁ B hml hv
  obtain ⟨rfl, -⟩ := hv
  have hx := B.exec
  have hb := B.bytes
  have hr := B.returns
  have hts := atoms_spec (ws := wsX8_steps) B.pre
  have hown : s.vm.findClass RX8 = some m.cls := findClass_of_methodNamed B.named
  have hlocks := B.notSynchronized
  have hS : va_S (fun _ => False) s.heap s.heap [] := va_S.rf
  have hl := lv_entry ([.int fr, .int to]) (n := 2) (Nat.le_of_ble_eq_true rfl)
  rw [lg_entry_eq]
  generalize (lg_sl ([.int fr, .int to]) ++ List.replicate (2 - (lg_sl ([.int fr, .int to])).length) Slot.unset).toArray = ls at hl ⊢
  have hl : lv_has ls 2 [(0, .int fr), (1, .int to)] := hl
  refine startS (fun H locs hS => ?_) hS
  refine lv_iload_n hx hb dX8_steps_0 rfl (lv_at hl 0 rfl) ?_
  refine lv_bipush (v := 8) hx hb dX8_steps_1 (by decide) ?_
  refine lv_idiv hx hb dX8_steps_3 (by decide) ?_
  refine lv_iload_n hx hb dX8_steps_4 rfl (lv_at hl 1 rfl) ?_
  refine lv_bipush (v := 8) hx hb dX8_steps_5 (by decide) ?_
  refine lv_idiv hx hb dX8_steps_7 (by decide) ?_
  refine lv_isub hx hb dX8_steps_8 ?_
  refine callS_i (va_runS (As := [.int ((fr / 8) - (to / 8))]) (rest := []) ⟨hx, hb, hml, hown, hts⟩ (met_X8_size l  ((fr / 8) - (to / 8))) (va_cwS 1 hts gX8_steps_X8_size rfl rfl rfl (by decide +kernel) ⟨Nat.le_of_ble_eq_true rfl, Nat.le_of_ble_eq_true rfl⟩) ⟨preS_blind, fun U hU hW => ⟨rfl, trivial⟩⟩ rfl rfl hl.1 rfl (lv_room (Nat.le_of_ble_eq_true rfl)) dX8_steps_9 ⟨Nat.zero_le _, Nat.zero_le _⟩) hS (fun r u H locs hw hS => ?_)
  subst hw
  refine lv_iload_n hx hb dX8_steps_12 rfl (lv_at hl 0 rfl) ?_
  refine lv_bipush (v := 8) hx hb dX8_steps_13 (by decide) ?_
  refine lv_irem hx hb dX8_steps_15 (by decide) ?_
  refine lv_iload_n hx hb dX8_steps_16 rfl (lv_at hl 1 rfl) ?_
  refine lv_bipush (v := 8) hx hb dX8_steps_17 (by decide) ?_
  refine lv_irem hx hb dX8_steps_19 (by decide) ?_
  refine lv_isub hx hb dX8_steps_20 ?_
  refine callS_i (va_runS (As := [.int ((fr - fr / 8 * 8) - (to - to / 8 * 8))]) (rest := [.int (m_X8_size ((fr / 8) - (to / 8)))]) ⟨hx, hb, hml, hown, hts⟩ (met_X8_size l  ((fr - fr / 8 * 8) - (to - to / 8 * 8))) (va_cwS 1 hts gX8_steps_X8_size rfl rfl rfl (by decide +kernel) ⟨Nat.le_of_ble_eq_true rfl, Nat.le_of_ble_eq_true rfl⟩) ⟨preS_blind, fun U hU hW => ⟨rfl, trivial⟩⟩ rfl rfl hl.1 rfl (lv_room (Nat.le_of_ble_eq_true rfl)) dX8_steps_21 ⟨Nat.zero_le _, Nat.zero_le _⟩) hS (fun r u H locs hw hS => ?_)
  obtain ⟨q1, eq1⟩ : ∃ z, z = m_X8_size ((fr - fr / 8 * 8) - (to - to / 8 * 8)) := ⟨_, rfl⟩
  rw [← eq1] at hw
  replace hw := hw.symm
  subst hw
  refine lv_iadd hx hb dX8_steps_24 ?_
  have em : m_X8_steps fr to = (m_X8_size ((fr / 8) - (to / 8))) + q1 := (by subst eq1; first | (simp only [m_X8_steps]; done) | (unfold m_X8_steps; rfl) | rfl)
  exact W.iret (v := (m_X8_size ((fr / 8) - (to / 8))) + q1) hx hb hr (fun t ht hW => ⟨⟨(m_X8_size ((fr / 8) - (to / 8))) + q1, (), rfl, (by rw [em]), trivial⟩, hS.F ht⟩) hS.2.2 dX8_steps_25
def f_X8_stops_22 (RO : Nat → Int32) (fr : Int32) (to : Int32) (k3 : Nat) (t4 : Int32) : Int32 := (let v15 : Bool := (if (m_X8_isDark (RO (0 + (nI k3)).toNatClampNeg)) = false then false else (if (m_X8_goesThrough fr to (nI k3)) = false then false else true)); (let v19 : Int32 := (if v15 = false then t4 else (if t4 = (-4) then nI k3 else (if (m_X8_steps fr t4) ≤ (m_X8_steps fr (nI k3)) then t4 else nI k3))); v19))
def m_X8_stops (RO : Nat → Int32) (fr : Int32) (to : Int32) : Int32 := (if (m_X8_isCell fr) = false then (-1 : Int32) else (if (m_X8_isCell to) = false then (-1 : Int32) else (let t20 : Int32 := itr (f_X8_stops_22 RO fr to) 64 (-4 : Int32); t20)))
set_option maxHeartbeats 4000000 in
set_option maxRecDepth 100000 in
theorem met_X8_stops (l : Launch) (D : va_G) (y4 : vT) (aM aRo aHi aSn aAs aLg aPd aCo aEa : Nat) (sz : Nat) (ms : Int32) (sv : Bool) (ml : Int32) (RO : Nat → Int32) (fr : Int32) (to : Int32) : Met l yX8_stops wsX8_stops ({ frames := 3, cells := 0, slots := 0, locals := 74 }) (va_Pc [.ref aM, .int fr, .int to] (PreW D y4 [(aM, .inr (7, [.ref aRo, .ref aHi, .int ms, .ref aSn, .int (bI sv), .ref aAs, .ref aLg, .ref aPd, .int ml, .ref aCo, .ref aEa])), (aRo, .inl (y4.1, 151, .inl RO))] sz)) (va_Qi (fun (r : Int32) (_ : Unit) => r = (m_X8_stops RO fr to)) (fun _ t => PostW D (va_A [(aM, .inr (7, [.ref aRo, .ref aHi, .int ms, .ref aSn, .int (bI sv), .ref aAs, .ref aLg, .ref aPd, .int ml, .ref aCo, .ref aEa])), (aRo, .inl (y4.1, 151, .inl RO))] sz) [(aM, .inr (7, [.ref aRo, .ref aHi, .int ms, .ref aSn, .int (bI sv), .ref aAs, .ref aLg, .ref aPd, .int ml, .ref aCo, .ref aEa])), (aRo, .inl (y4.1, 151, .inl RO))] t) (va_A [(aM, .inr (7, [.ref aRo, .ref aHi, .int ms, .ref aSn, .int (bI sv), .ref aAs, .ref aLg, .ref aPd, .int ml, .ref aCo, .ref aEa])), (aRo, .inl (y4.1, 151, .inl RO))] sz)) 0 0 (va_A [(aM, .inr (7, [.ref aRo, .ref aHi, .int ms, .ref aSn, .int (bI sv), .ref aAs, .ref aLg, .ref aPd, .int ml, .ref aCo, .ref aEa])), (aRo, .inl (y4.1, 151, .inl RO))] sz) := by
  refine Met.ofW (cc := cX8_stops) (maxL := 6) (ret := (some .int)) (by decide) rfl ?_
  intro p e s m args below meth c s₁ B hml hv
  obtain ⟨rfl, hsz, hP, hK, hD0, hNW⟩ := hv
  have hx := B.exec
  have hb := B.bytes
  have hr := B.returns
  have hts := atoms_spec (ws := wsX8_stops) B.pre
  have hown : s.vm.findClass RX8 = some m.cls := findClass_of_methodNamed B.named
  have hlocks := B.notSynchronized
  subst hsz
  have hD := hD0.self (sz := s.heap.size)
  generalize hAe : va_A [(aM, .inr (7, [.ref aRo, .ref aHi, .int ms, .ref aSn, .int (bI sv), .ref aAs, .ref aLg, .ref aPd, .int ml, .ref aCo, .ref aEa])), (aRo, .inl (y4.1, 151, .inl RO))] s.heap.size = A at hD ⊢
  have hA : ∀ q : Nat, s.heap.size ≤ q → A q := fun q h => by rw [← hAe]; exact Or.inr h
  have hS : va_S A s.heap s.heap [] := va_S.rf
  have hl := lv_entry ([.ref aM, .int fr, .int to]) (n := 6) (Nat.le_of_ble_eq_true rfl)
  rw [lg_entry_eq]
  generalize (lg_sl ([.ref aM, .int fr, .int to]) ++ List.replicate (6 - (lg_sl ([.ref aM, .int fr, .int to])).length) Slot.unset).toArray = ls at hl ⊢
  have hl : lv_has ls 6 [(0, .ref aM), (1, .int fr), (2, .int to)] := hl
  have f7 := hts (.fieldLink RX8 7 "PillarLightModel" "row" "[I") (List.mem_of_getElem? (i := 1) rfl)
  have iX8 : ∀ w ∈ wsX80, w ∈ wsX8_stops := fun _ h => List.mem_cons_of_mem _ (List.mem_append_right _ h)
  refine startW (fun H locs hP hS => ?_) hP hS
  refine lv_iload_n hx hb dX8_stops_0 rfl (lv_at hl 1 rfl) ?_
  refine callK_i (va_runS (As := [.int fr]) (rest := []) ⟨hx, hb, hml, hown, hts⟩ (met_X8_isCell l  fr) (va_cwS 1 hts gX8_stops_X8_isCell rfl rfl rfl (by decide +kernel) ⟨Nat.le_of_ble_eq_true rfl, Nat.le_of_ble_eq_true rfl⟩) ⟨preS_blind, fun U hU hW => ⟨rfl, trivial⟩⟩ rfl rfl hl.1 rfl (lv_room (Nat.le_of_ble_eq_true rfl)) dX8_stops_1 ⟨Nat.zero_le _, Nat.zero_le _⟩) hP hS (fun r u H locs hw hP hS => ?_)
  subst hw
  refine lb_if_eq (tgt := 14) hx hb dX8_stops_4 (by decide) (fun c1 => ?_) (fun c1 => ?_)
  · refine lv_iconst (v := (-1)) hx hb dX8_stops_14 (by decide) ?_
    have em : m_X8_stops RO fr to = (-1 : Int32) := (by first | (simp only [m_X8_stops, if_pos c1]; done) | (simp only [m_X8_stops, if_pos c1]; rfl))
    exact W.iret (v := (-1)) hx hb hr (fun t ht hW => ⟨⟨(-1), (), rfl, (by rw [em]), ⟨by rw [ht]; exact hP, by exact hD⟩⟩, hS.F ht⟩) hS.2.2 dX8_stops_15
  · refine lv_iload_n hx hb dX8_stops_7 rfl (lv_at hl 2 rfl) ?_
    refine callK_i (va_runS (As := [.int to]) (rest := []) ⟨hx, hb, hml, hown, hts⟩ (met_X8_isCell l  to) (va_cwS 1 hts gX8_stops_X8_isCell rfl rfl rfl (by decide +kernel) ⟨Nat.le_of_ble_eq_true rfl, Nat.le_of_ble_eq_true rfl⟩) ⟨preS_blind, fun U hU hW => ⟨rfl, trivial⟩⟩ rfl rfl hl.1 rfl (lv_room (Nat.le_of_ble_eq_true rfl)) dX8_stops_8 ⟨Nat.zero_le _, Nat.zero_le _⟩) hP hS (fun r u H locs hw hP hS => ?_)
    subst hw
    refine lb_if_ne (tgt := 16) hx hb dX8_stops_11 (by decide) (fun c2 => ?_) (fun c2 => ?_)
    · refine lv_bipush (v := (-4)) hx hb dX8_stops_16 (by decide) ?_
      refine lv_istore_n (lv' := [(3, .int (-4)), (0, .ref aM), (1, .int fr), (2, .int to)]) hx hb dX8_stops_18 rfl hl (by decide) rfl (fun ls hl => ?_)
      refine lv_iconst (v := 0) hx hb dX8_stops_19 (by decide) ?_
      refine lv_istore (lv' := [(4, .int 0), (3, .int (-4)), (0, .ref aM), (1, .int fr), (2, .int to)]) hx hb dX8_stops_20 hl (by decide) rfl (fun ls hl => ?_)
      refine loopW (σ := Int32) 22 (f_X8_stops_22 RO fr to) 64 (-4 : Int32) (fun k3 t4 H locs ls => va_P D vwCl [(aM, .inr (7, [.ref aRo, .ref aHi, .int ms, .ref aSn, .int (bI sv), .ref aAs, .ref aLg, .ref aPd, .int ml, .ref aCo, .ref aEa])), (aRo, .inl (y4.1, 151, .inl RO))] H ∧ va_D A [(aM, .inr (7, [.ref aRo, .ref aHi, .int ms, .ref aSn, .int (bI sv), .ref aAs, .ref aLg, .ref aPd, .int ml, .ref aCo, .ref aEa])), (aRo, .inl (y4.1, 151, .inl RO))] ∧ va_S A s.heap H locs ∧ lv_has ls 6 [(4, .int (nI k3)), (3, .int t4), (0, .ref aM), (1, .int fr), (2, .int to)]) ⟨hP, hD, hS, lv_sub hl [0, 1, 2, 3, 4] rfl⟩ (fun t20 H locs ls et20 hh => ?_) (fun k3 t4 hkk3 hek3 ihk3 H locs ls hh => ?_)
      · obtain ⟨hP, hD, hS, hl⟩ := hh
        have hP : va_P D vwCl [(aM, .inr (7, [.ref aRo, .ref aHi, .int ms, .ref aSn, .int (bI sv), .ref aAs, .ref aLg, .ref aPd, .int ml, .ref aCo, .ref aEa])), (aRo, .inl (y4.1, 151, .inl RO))] H := hP
        have hD : va_D A [(aM, .inr (7, [.ref aRo, .ref aHi, .int ms, .ref aSn, .int (bI sv), .ref aAs, .ref aLg, .ref aPd, .int ml, .ref aCo, .ref aEa])), (aRo, .inl (y4.1, 151, .inl RO))] := hD
        have hl : lv_has ls 6 [(4, .int (nI 64)), (3, .int t20), (0, .ref aM), (1, .int fr), (2, .int to)] := hl
        refine lv_iload hx hb dX8_stops_22 (lv_at hl 0 rfl) ?_
        refine lv_bipush (v := 64) hx hb dX8_stops_24 (by decide) ?_
        refine lv_icmp_ge (tgt := 99) hx hb dX8_stops_26 (by decide) (fun c21 => ?_) (fun c21 => absurd (nI_le (a := 64) (by omega) (by omega)) c21)
        refine lv_iload_n hx hb dX8_stops_99 rfl (lv_at hl 1 rfl) ?_
        have em : m_X8_stops RO fr to = t20 := (by subst et20; first | (simp only [m_X8_stops, if_neg c1, if_neg c2]; done) | (simp only [m_X8_stops, if_neg c1, if_neg c2]; rfl))
        exact W.iret (v := t20) hx hb hr (fun t ht hW => ⟨⟨t20, (), rfl, (by rw [em]), ⟨by rw [ht]; exact hP, by exact hD⟩⟩, hS.F ht⟩) hS.2.2 dX8_stops_100
      · obtain ⟨hP, hD, hS, hl⟩ := hh
        have hP : va_P D vwCl [(aM, .inr (7, [.ref aRo, .ref aHi, .int ms, .ref aSn, .int (bI sv), .ref aAs, .ref aLg, .ref aPd, .int ml, .ref aCo, .ref aEa])), (aRo, .inl (y4.1, 151, .inl RO))] H := hP
        have hD : va_D A [(aM, .inr (7, [.ref aRo, .ref aHi, .int ms, .ref aSn, .int (bI sv), .ref aAs, .ref aLg, .ref aPd, .int ml, .ref aCo, .ref aEa])), (aRo, .inl (y4.1, 151, .inl RO))] := hD
        have hl : lv_has ls 6 [(4, .int (nI k3)), (3, .int t4), (0, .ref aM), (1, .int fr), (2, .int to)] := hl
        refine lv_iload hx hb dX8_stops_22 (lv_at hl 0 rfl) ?_
        refine lv_bipush (v := 64) hx hb dX8_stops_24 (by decide) ?_
        refine lv_icmp_ge (tgt := 99) hx hb dX8_stops_26 (by decide) (fun c12 => absurd c12 (nI_ge (b := 64) (by omega) (by omega))) (fun c12 => ?_)
        refine lv_aload_n hx hb dX8_stops_29 rfl (lv_at hl 2 rfl) ?_
        refine va_get (ci := 7) (v := .ref aRo) (C := RX8) (T := TX8) (N := 11) hx hb hts iX8 hown hK hP 0 rfl rfl 0 (by decide) f7 (fun _ h9 => h9) rfl dX8_stops_30 ?_
        refine lv_iconst (v := 0) hx hb dX8_stops_33 (by decide) ?_
        refine lv_iload hx hb dX8_stops_34 (lv_at hl 0 rfl) ?_
        refine lv_iadd hx hb dX8_stops_36 ?_
        refine va_iald hx hb hK hP 1 0 rfl rfl (off_in (vp_in_nI (n := k3) (N := 64) (by omega) (by decide)) (by decide) (by decide) (by decide)) dX8_stops_37 ?_
        refine callK_i (va_runS (As := [.int (RO (0 + (nI k3)).toNatClampNeg)]) (rest := []) ⟨hx, hb, hml, hown, hts⟩ (met_X8_isDark l  (RO (0 + (nI k3)).toNatClampNeg)) (va_cwS 1 hts gX8_stops_X8_isDark rfl rfl rfl (by decide +kernel) ⟨Nat.le_of_ble_eq_true rfl, Nat.le_of_ble_eq_true rfl⟩) ⟨preS_blind, fun U hU hW => ⟨rfl, trivial⟩⟩ rfl rfl hl.1 rfl (lv_room (Nat.le_of_ble_eq_true rfl)) dX8_stops_38 ⟨Nat.zero_le _, Nat.zero_le _⟩) hP hS (fun r u H locs hw hP hS => ?_)
        subst hw
        refine cutW (X := Bool) 59 (fun x H locs ls => x = (if (m_X8_isDark (RO (0 + (nI k3)).toNatClampNeg)) = false then false else (if (m_X8_goesThrough fr to (nI k3)) = false then false else true)) ∧ va_P D vwCl [(aM, .inr (7, [.ref aRo, .ref aHi, .int ms, .ref aSn, .int (bI sv), .ref aAs, .ref aLg, .ref aPd, .int ml, .ref aCo, .ref aEa])), (aRo, .inl (y4.1, 151, .inl RO))] H ∧ va_D A [(aM, .inr (7, [.ref aRo, .ref aHi, .int ms, .ref aSn, .int (bI sv), .ref aAs, .ref aLg, .ref aPd, .int ml, .ref aCo, .ref aEa])), (aRo, .inl (y4.1, 151, .inl RO))] ∧ va_S A s.heap H locs ∧ lv_has ls 6 [(4, .int (nI k3)), (3, .int t4), (0, .ref aM), (1, .int fr), (2, .int to)]) (fun x => [.int (bI x)]) ?_ (fun K59 => ?_)
        · rintro v15 H locs ls ⟨ev15, hP, hD, hS, hl⟩
          have ev15 : v15 = (if (m_X8_isDark (RO (0 + (nI k3)).toNatClampNeg)) = false then false else (if (m_X8_goesThrough fr to (nI k3)) = false then false else true)) := ev15
          have hP : va_P D vwCl [(aM, .inr (7, [.ref aRo, .ref aHi, .int ms, .ref aSn, .int (bI sv), .ref aAs, .ref aLg, .ref aPd, .int ml, .ref aCo, .ref aEa])), (aRo, .inl (y4.1, 151, .inl RO))] H := hP
          have hD : va_D A [(aM, .inr (7, [.ref aRo, .ref aHi, .int ms, .ref aSn, .int (bI sv), .ref aAs, .ref aLg, .ref aPd, .int ml, .ref aCo, .ref aEa])), (aRo, .inl (y4.1, 151, .inl RO))] := hD
          have hl : lv_has ls 6 [(4, .int (nI k3)), (3, .int t4), (0, .ref aM), (1, .int fr), (2, .int to)] := hl
          refine lv_istore (lv' := [(5, .int (bI v15)), (4, .int (nI k3)), (3, .int t4), (0, .ref aM), (1, .int fr), (2, .int to)]) hx hb dX8_stops_59 hl (by decide) rfl (fun ls hl => ?_)
          refine lv_iload hx hb dX8_stops_61 (lv_at hl 0 rfl) ?_
          refine cutW (X := Int32) 92 (fun x H locs ls => x = (if v15 = false then t4 else (if t4 = (-4) then nI k3 else (if (m_X8_steps fr t4) ≤ (m_X8_steps fr (nI k3)) then t4 else nI k3))) ∧ va_P D vwCl [(aM, .inr (7, [.ref aRo, .ref aHi, .int ms, .ref aSn, .int (bI sv), .ref aAs, .ref aLg, .ref aPd, .int ml, .ref aCo, .ref aEa])), (aRo, .inl (y4.1, 151, .inl RO))] H ∧ va_D A [(aM, .inr (7, [.ref aRo, .ref aHi, .int ms, .ref aSn, .int (bI sv), .ref aAs, .ref aLg, .ref aPd, .int ml, .ref aCo, .ref aEa])), (aRo, .inl (y4.1, 151, .inl RO))] ∧ va_S A s.heap H locs ∧ lv_has ls 6 [(4, .int (nI k3)), (0, .ref aM), (1, .int fr), (2, .int to)]) (fun x => [.int x]) ?_ (fun K92 => ?_)
          · rintro v19 H locs ls ⟨ev19, hP, hD, hS, hl⟩
            have ev19 : v19 = (if v15 = false then t4 else (if t4 = (-4) then nI k3 else (if (m_X8_steps fr t4) ≤ (m_X8_steps fr (nI k3)) then t4 else nI k3))) := ev19
            have hP : va_P D vwCl [(aM, .inr (7, [.ref aRo, .ref aHi, .int ms, .ref aSn, .int (bI sv), .ref aAs, .ref aLg, .ref aPd, .int ml, .ref aCo, .ref aEa])), (aRo, .inl (y4.1, 151, .inl RO))] H := hP
            have hD : va_D A [(aM, .inr (7, [.ref aRo, .ref aHi, .int ms, .ref aSn, .int (bI sv), .ref aAs, .ref aLg, .ref aPd, .int ml, .ref aCo, .ref aEa])), (aRo, .inl (y4.1, 151, .inl RO))] := hD
            have hl : lv_has ls 6 [(4, .int (nI k3)), (0, .ref aM), (1, .int fr), (2, .int to)] := hl
            refine lv_istore_n (lv' := [(3, .int v19), (4, .int (nI k3)), (0, .ref aM), (1, .int fr), (2, .int to)]) hx hb dX8_stops_92 rfl hl (by decide) rfl (fun ls hl => ?_)
            refine lv_iinc (v := nI (k3 + 1)) (lv' := [(4, .int (nI (k3 + 1))), (3, .int v19), (0, .ref aM), (1, .int fr), (2, .int to)]) hx hb dX8_stops_93 hl (k := 1) rfl (nI_1 _) (by decide) rfl (fun ls hl => ?_)
            refine lv_goto (tgt := 22) hx hb dX8_stops_96 (by decide) ?_
            have ef : (f_X8_stops_22 RO fr to) k3 t4 = v19 := (by subst ev19 ev15; first | (simp only [f_X8_stops_22]; done) | (unfold f_X8_stops_22; rfl) | rfl)
            rw [ef] at ihk3
            exact ihk3 H locs ls ⟨hP, hD, hS, lv_sub hl [0, 1, 2, 3, 4] rfl⟩
          · refine lb_if_eq (tgt := 91) hx hb dX8_stops_63 (by decide) (fun c16 => ?_) (fun c16 => ?_)
            · refine lv_iload_n hx hb dX8_stops_91 rfl (lv_at hl 2 rfl) ?_
              exact K92 t4 H locs ls ⟨(by subst ev15; first | (simp only [if_neg c1, if_neg c2, if_pos c16]; done) | (simp only [if_neg c1, if_neg c2, if_pos c16]; rfl) | rfl), hP, hD, hS, lv_sub hl [1, 3, 4, 5] rfl⟩
            · refine lv_iload_n hx hb dX8_stops_66 rfl (lv_at hl 2 rfl) ?_
              refine lv_bipush (v := (-4)) hx hb dX8_stops_67 (by decide) ?_
              refine lv_icmp_eq (tgt := 86) hx hb dX8_stops_69 (by decide) (fun c17 => ?_) (fun c17 => ?_)
              · refine lv_iload hx hb dX8_stops_86 (lv_at hl 1 rfl) ?_
                refine lv_goto (tgt := 92) hx hb dX8_stops_88 (by decide) ?_
                exact K92 (nI k3) H locs ls ⟨(by subst ev15; first | (simp only [if_neg c1, if_neg c2, if_neg c16, if_pos c17]; done) | (simp only [if_neg c1, if_neg c2, if_neg c16, if_pos c17]; rfl) | rfl), hP, hD, hS, lv_sub hl [1, 3, 4, 5] rfl⟩
              · refine lv_iload_n hx hb dX8_stops_72 rfl (lv_at hl 4 rfl) ?_
                refine lv_iload hx hb dX8_stops_73 (lv_at hl 1 rfl) ?_
                refine callK_i (va_runS (As := [.int fr, .int (nI k3)]) (rest := []) ⟨hx, hb, hml, hown, hts⟩ (met_X8_steps l  fr (nI k3)) (va_cwS 2 hts gX8_stops_X8_steps rfl rfl rfl (by decide +kernel) ⟨Nat.le_of_ble_eq_true rfl, Nat.le_of_ble_eq_true rfl⟩) ⟨preS_blind, fun U hU hW => ⟨rfl, trivial⟩⟩ rfl rfl hl.1 rfl (lv_room (Nat.le_of_ble_eq_true rfl)) dX8_stops_75 ⟨Nat.zero_le _, Nat.zero_le _⟩) hP hS (fun r u H locs hw hP hS => ?_)
                subst hw
                refine lv_iload_n hx hb dX8_stops_78 rfl (lv_at hl 4 rfl) ?_
                refine lv_iload_n hx hb dX8_stops_79 rfl (lv_at hl 2 rfl) ?_
                refine callK_i (va_runS (As := [.int fr, .int t4]) (rest := [.int (m_X8_steps fr (nI k3))]) ⟨hx, hb, hml, hown, hts⟩ (met_X8_steps l  fr t4) (va_cwS 2 hts gX8_stops_X8_steps rfl rfl rfl (by decide +kernel) ⟨Nat.le_of_ble_eq_true rfl, Nat.le_of_ble_eq_true rfl⟩) ⟨preS_blind, fun U hU hW => ⟨rfl, trivial⟩⟩ rfl rfl hl.1 rfl (lv_room (Nat.le_of_ble_eq_true rfl)) dX8_stops_80 ⟨Nat.zero_le _, Nat.zero_le _⟩) hP hS (fun r u H locs hw hP hS => ?_)
                subst hw
                refine lv_icmp_ge (tgt := 91) hx hb dX8_stops_83 (by decide) (fun c18 => ?_) (fun c18 => ?_)
                · refine lv_iload_n hx hb dX8_stops_91 rfl (lv_at hl 2 rfl) ?_
                  exact K92 t4 H locs ls ⟨(by subst ev15; first | (simp only [if_neg c1, if_neg c2, if_neg c16, if_neg c17, if_pos c18]; done) | (simp only [if_neg c1, if_neg c2, if_neg c16, if_neg c17, if_pos c18]; rfl) | rfl), hP, hD, hS, lv_sub hl [1, 3, 4, 5] rfl⟩
                · refine lv_iload hx hb dX8_stops_86 (lv_at hl 1 rfl) ?_
                  refine lv_goto (tgt := 92) hx hb dX8_stops_88 (by decide) ?_
                  exact K92 (nI k3) H locs ls ⟨(by subst ev15; first | (simp only [if_neg c1, if_neg c2, if_neg c16, if_neg c17, if_neg c18]; done) | (simp only [if_neg c1, if_neg c2, if_neg c16, if_neg c17, if_neg c18]; rfl) | rfl), hP, hD, hS, lv_sub hl [1, 3, 4, 5] rfl⟩
        · refine lb_if_eq (tgt := 58) hx hb dX8_stops_41 (by decide) (fun c13 => ?_) (fun c13 => ?_)
          · refine lv_iconst (v := 0) hx hb dX8_stops_58 (by decide) ?_
            exact K59 false H locs ls ⟨(by first | (simp only [if_neg c1, if_neg c2, if_pos c13]; done) | (simp only [if_neg c1, if_neg c2, if_pos c13]; rfl) | rfl), hP, hD, hS, lv_sub hl [0, 1, 2, 3, 4] rfl⟩
          · refine lv_iload_n hx hb dX8_stops_44 rfl (lv_at hl 3 rfl) ?_
            refine lv_iload_n hx hb dX8_stops_45 rfl (lv_at hl 4 rfl) ?_
            refine lv_iload hx hb dX8_stops_46 (lv_at hl 0 rfl) ?_
            refine callK_i (va_runS (As := [.int fr, .int to, .int (nI k3)]) (rest := []) ⟨hx, hb, hml, hown, hts⟩ (met_X8_goesThrough l  fr to (nI k3)) (va_cwS 3 hts gX8_stops_X8_goesThrough rfl rfl rfl (by decide +kernel) ⟨Nat.le_of_ble_eq_true rfl, Nat.le_of_ble_eq_true rfl⟩) ⟨preS_blind, fun U hU hW => ⟨rfl, trivial⟩⟩ rfl rfl hl.1 rfl (lv_room (Nat.le_of_ble_eq_true rfl)) dX8_stops_48 ⟨Nat.zero_le _, Nat.zero_le _⟩) hP hS (fun r u H locs hw hP hS => ?_)
            subst hw
            refine lb_if_eq (tgt := 58) hx hb dX8_stops_51 (by decide) (fun c14 => ?_) (fun c14 => ?_)
            · refine lv_iconst (v := 0) hx hb dX8_stops_58 (by decide) ?_
              exact K59 false H locs ls ⟨(by first | (simp only [if_neg c1, if_neg c2, if_neg c13, if_pos c14]; done) | (simp only [if_neg c1, if_neg c2, if_neg c13, if_pos c14]; rfl) | rfl), hP, hD, hS, lv_sub hl [0, 1, 2, 3, 4] rfl⟩
            · refine lv_iconst (v := 1) hx hb dX8_stops_54 (by decide) ?_
              refine lv_goto (tgt := 59) hx hb dX8_stops_55 (by decide) ?_
              exact K59 true H locs ls ⟨(by first | (simp only [if_neg c1, if_neg c2, if_neg c13, if_neg c14]; done) | (simp only [if_neg c1, if_neg c2, if_neg c13, if_neg c14]; rfl) | rfl), hP, hD, hS, lv_sub hl [0, 1, 2, 3, 4] rfl⟩
    · refine lv_iconst (v := (-1)) hx hb dX8_stops_14 (by decide) ?_
      have em : m_X8_stops RO fr to = (-1 : Int32) := (by first | (simp only [m_X8_stops, if_neg c1, if_pos c2]; done) | (simp only [m_X8_stops, if_neg c1, if_pos c2]; rfl))
      exact W.iret (v := (-1)) hx hb hr (fun t ht hW => ⟨⟨(-1), (), rfl, (by rw [em]), ⟨by rw [ht]; exact hP, by exact hD⟩⟩, hS.F ht⟩) hS.2.2 dX8_stops_15
def f_X8_cellsOf_4 (RO : Nat → Int32) (j : Int32) (k1 : Nat) (t2 : Int32) : Int32 := (let v10 : Bool := (if (m_X8_given RO j (nI k1)) ≤ 0 then false else true); t2 + (bI v10))
def m_X8_cellsOf (RO : Nat → Int32) (j : Int32) : Int32 := (let t11 : Int32 := itr (f_X8_cellsOf_4 RO j) 64 (0 : Int32); t11)
set_option maxHeartbeats 4000000 in
set_option maxRecDepth 100000 in
theorem met_X8_cellsOf (l : Launch) (D : va_G) (y4 : vT) (aM aRo aHi aSn aAs aLg aPd aCo aEa : Nat) (sz : Nat) (ms : Int32) (sv : Bool) (ml : Int32) (RO : Nat → Int32) (j : Int32) (hM : MI RO) (hj : vp_in j 6) (hfr : vp_in (RO (129 + j).toNatClampNeg) 64) : Met l yX8_cellsOf wsX8_cellsOf ({ frames := 5, cells := 0, slots := 0, locals := 121 }) (va_Pc [.ref aM, .int j] (PreW D y4 [(aM, .inr (7, [.ref aRo, .ref aHi, .int ms, .ref aSn, .int (bI sv), .ref aAs, .ref aLg, .ref aPd, .int ml, .ref aCo, .ref aEa])), (aRo, .inl (y4.1, 151, .inl RO))] sz)) (va_Qi (fun (r : Int32) (_ : Unit) => r = (m_X8_cellsOf RO j)) (fun _ t => PostW D (va_A [(aM, .inr (7, [.ref aRo, .ref aHi, .int ms, .ref aSn, .int (bI sv), .ref aAs, .ref aLg, .ref aPd, .int ml, .ref aCo, .ref aEa])), (aRo, .inl (y4.1, 151, .inl RO))] sz) [(aM, .inr (7, [.ref aRo, .ref aHi, .int ms, .ref aSn, .int (bI sv), .ref aAs, .ref aLg, .ref aPd, .int ml, .ref aCo, .ref aEa])), (aRo, .inl (y4.1, 151, .inl RO))] t) (va_A [(aM, .inr (7, [.ref aRo, .ref aHi, .int ms, .ref aSn, .int (bI sv), .ref aAs, .ref aLg, .ref aPd, .int ml, .ref aCo, .ref aEa])), (aRo, .inl (y4.1, 151, .inl RO))] sz)) 0 0 (va_A [(aM, .inr (7, [.ref aRo, .ref aHi, .int ms, .ref aSn, .int (bI sv), .ref aAs, .ref aLg, .ref aPd, .int ml, .ref aCo, .ref aEa])), (aRo, .inl (y4.1, 151, .inl RO))] sz) := by
  refine Met.ofW (cc := cX8_cellsOf) (maxL := 4) (ret := (some .int)) (by decide) rfl ?_
  intro p e s m args below meth c s₁ B hml hv
  obtain ⟨rfl, hsz, hP, hK, hD0, hNW⟩ := hv
  have hx := B.exec
  have hb := B.bytes
  have hr := B.returns
  have hts := atoms_spec (ws := wsX8_cellsOf) B.pre
  have hown : s.vm.findClass RX8 = some m.cls := findClass_of_methodNamed B.named
  have hlocks := B.notSynchronized
  subst hsz
  have hD := hD0.self (sz := s.heap.size)
  generalize hAe : va_A [(aM, .inr (7, [.ref aRo, .ref aHi, .int ms, .ref aSn, .int (bI sv), .ref aAs, .ref aLg, .ref aPd, .int ml, .ref aCo, .ref aEa])), (aRo, .inl (y4.1, 151, .inl RO))] s.heap.size = A at hD ⊢
  have hA : ∀ q : Nat, s.heap.size ≤ q → A q := fun q h => by rw [← hAe]; exact Or.inr h
  have hS : va_S A s.heap s.heap [] := va_S.rf
  have hl := lv_entry ([.ref aM, .int j]) (n := 4) (Nat.le_of_ble_eq_true rfl)
  rw [lg_entry_eq]
  generalize (lg_sl ([.ref aM, .int j]) ++ List.replicate (4 - (lg_sl ([.ref aM, .int j])).length) Slot.unset).toArray = ls at hl ⊢
  have hl : lv_has ls 4 [(0, .ref aM), (1, .int j)] := hl
  refine startW (fun H locs hP hS => ?_) hP hS
  refine lv_iconst (v := 0) hx hb dX8_cellsOf_0 (by decide) ?_
  refine lv_istore_n (lv' := [(2, .int 0), (0, .ref aM), (1, .int j)]) hx hb dX8_cellsOf_1 rfl hl (by decide) rfl (fun ls hl => ?_)
  refine lv_iconst (v := 0) hx hb dX8_cellsOf_2 (by decide) ?_
  refine lv_istore_n (lv' := [(3, .int 0), (2, .int 0), (0, .ref aM), (1, .int j)]) hx hb dX8_cellsOf_3 rfl hl (by decide) rfl (fun ls hl => ?_)
  refine loopW (σ := Int32) 4 (f_X8_cellsOf_4 RO j) 64 (0 : Int32) (fun k1 t2 H locs ls => va_P D vwCl [(aM, .inr (7, [.ref aRo, .ref aHi, .int ms, .ref aSn, .int (bI sv), .ref aAs, .ref aLg, .ref aPd, .int ml, .ref aCo, .ref aEa])), (aRo, .inl (y4.1, 151, .inl RO))] H ∧ va_D A [(aM, .inr (7, [.ref aRo, .ref aHi, .int ms, .ref aSn, .int (bI sv), .ref aAs, .ref aLg, .ref aPd, .int ml, .ref aCo, .ref aEa])), (aRo, .inl (y4.1, 151, .inl RO))] ∧ va_S A s.heap H locs ∧ lv_has ls 4 [(3, .int (nI k1)), (2, .int t2), (0, .ref aM), (1, .int j)]) ⟨hP, hD, hS, lv_sub hl [0, 1, 2, 3] rfl⟩ (fun t11 H locs ls et11 hh => ?_) (fun k1 t2 hkk1 hek1 ihk1 H locs ls hh => ?_)
  · obtain ⟨hP, hD, hS, hl⟩ := hh
    have hP : va_P D vwCl [(aM, .inr (7, [.ref aRo, .ref aHi, .int ms, .ref aSn, .int (bI sv), .ref aAs, .ref aLg, .ref aPd, .int ml, .ref aCo, .ref aEa])), (aRo, .inl (y4.1, 151, .inl RO))] H := hP
    have hD : va_D A [(aM, .inr (7, [.ref aRo, .ref aHi, .int ms, .ref aSn, .int (bI sv), .ref aAs, .ref aLg, .ref aPd, .int ml, .ref aCo, .ref aEa])), (aRo, .inl (y4.1, 151, .inl RO))] := hD
    have hl : lv_has ls 4 [(3, .int (nI 64)), (2, .int t11), (0, .ref aM), (1, .int j)] := hl
    refine lv_iload_n hx hb dX8_cellsOf_4 rfl (lv_at hl 0 rfl) ?_
    refine lv_bipush (v := 64) hx hb dX8_cellsOf_5 (by decide) ?_
    refine lv_icmp_ge (tgt := 33) hx hb dX8_cellsOf_7 (by decide) (fun c12 => ?_) (fun c12 => absurd (nI_le (a := 64) (by omega) (by omega)) c12)
    refine lv_iload_n hx hb dX8_cellsOf_33 rfl (lv_at hl 1 rfl) ?_
    have em : m_X8_cellsOf RO j = t11 := (by subst et11; first | (simp only [m_X8_cellsOf]; done) | (unfold m_X8_cellsOf; rfl) | rfl)
    exact W.iret (v := t11) hx hb hr (fun t ht hW => ⟨⟨t11, (), rfl, (by rw [em]), ⟨by rw [ht]; exact hP, by exact hD⟩⟩, hS.F ht⟩) hS.2.2 dX8_cellsOf_34
  · obtain ⟨hP, hD, hS, hl⟩ := hh
    have hP : va_P D vwCl [(aM, .inr (7, [.ref aRo, .ref aHi, .int ms, .ref aSn, .int (bI sv), .ref aAs, .ref aLg, .ref aPd, .int ml, .ref aCo, .ref aEa])), (aRo, .inl (y4.1, 151, .inl RO))] H := hP
    have hD : va_D A [(aM, .inr (7, [.ref aRo, .ref aHi, .int ms, .ref aSn, .int (bI sv), .ref aAs, .ref aLg, .ref aPd, .int ml, .ref aCo, .ref aEa])), (aRo, .inl (y4.1, 151, .inl RO))] := hD
    have hl : lv_has ls 4 [(3, .int (nI k1)), (2, .int t2), (0, .ref aM), (1, .int j)] := hl
    refine lv_iload_n hx hb dX8_cellsOf_4 rfl (lv_at hl 0 rfl) ?_
    refine lv_bipush (v := 64) hx hb dX8_cellsOf_5 (by decide) ?_
    refine lv_icmp_ge (tgt := 33) hx hb dX8_cellsOf_7 (by decide) (fun c7 => absurd c7 (nI_ge (b := 64) (by omega) (by omega))) (fun c7 => ?_)
    refine lv_iload_n hx hb dX8_cellsOf_10 rfl (lv_at hl 1 rfl) ?_
    refine lv_aload_n hx hb dX8_cellsOf_11 rfl (lv_at hl 2 rfl) ?_
    refine lv_iload_n hx hb dX8_cellsOf_12 rfl (lv_at hl 3 rfl) ?_
    refine lv_iload_n hx hb dX8_cellsOf_13 rfl (lv_at hl 0 rfl) ?_
    refine callW_i (wr := []) (wn := fun u => [(aM, .inr (7, [.ref aRo, .ref aHi, .int ms, .ref aSn, .int (bI sv), .ref aAs, .ref aLg, .ref aPd, .int ml, .ref aCo, .ref aEa])), (aRo, .inl (y4.1, 151, .inl RO))]) (va_runV (As := [.int j, .int (nI k1)]) (rest := [.int t2]) ⟨hx, hb, hml, hown, hts⟩ (met_X8_given l D y4 aM aRo aHi aSn aAs aLg aPd aCo aEa H.size ms sv ml RO j (nI k1) hj hfr (vp_in_nI (by omega) (by decide))) (cwV 2 hts gX8_cellsOf_X8_given rfl rfl rfl (by decide +kernel) ⟨Nat.le_of_ble_eq_true rfl, Nat.le_of_ble_eq_true rfl⟩) ⟨preW_blind, va_recv hK hP (ci := 7) (q0 := 0) rfl rfl, preW_at (hP.sub (ws' := [(aM, .inr (7, [.ref aRo, .ref aHi, .int ms, .ref aSn, .int (bI sv), .ref aAs, .ref aLg, .ref aPd, .int ml, .ref aCo, .ref aEa])), (aRo, .inl (y4.1, 151, .inl RO))]) [0, 1] rfl) hK (hD.sub (ws' := [(aM, .inr (7, [.ref aRo, .ref aHi, .int ms, .ref aSn, .int (bI sv), .ref aAs, .ref aLg, .ref aPd, .int ml, .ref aCo, .ref aEa])), (aRo, .inl (y4.1, 151, .inl RO))]) [0, 1] (by decide) rfl) hNW⟩ rfl rfl hl.1 rfl (lv_room (Nat.le_of_ble_eq_true rfl)) dX8_cellsOf_14 ⟨Nat.zero_le _, Nat.zero_le _⟩) hP hD hS hA [0, 1] [] [0, 1] rfl rfl (by decide) (by decide) (fun _ => rfl) (by decide) (fun r u8 H locs hw hP hD hS => ?_)
    subst hw
    have hP : va_P D vwCl [(aM, .inr (7, [.ref aRo, .ref aHi, .int ms, .ref aSn, .int (bI sv), .ref aAs, .ref aLg, .ref aPd, .int ml, .ref aCo, .ref aEa])), (aRo, .inl (y4.1, 151, .inl RO))] H := hP
    have hD : va_D A [(aM, .inr (7, [.ref aRo, .ref aHi, .int ms, .ref aSn, .int (bI sv), .ref aAs, .ref aLg, .ref aPd, .int ml, .ref aCo, .ref aEa])), (aRo, .inl (y4.1, 151, .inl RO))] := hD
    refine cutW (X := Bool) 25 (fun x H locs ls => x = (if (m_X8_given RO j (nI k1)) ≤ 0 then false else true) ∧ va_P D vwCl [(aM, .inr (7, [.ref aRo, .ref aHi, .int ms, .ref aSn, .int (bI sv), .ref aAs, .ref aLg, .ref aPd, .int ml, .ref aCo, .ref aEa])), (aRo, .inl (y4.1, 151, .inl RO))] H ∧ va_D A [(aM, .inr (7, [.ref aRo, .ref aHi, .int ms, .ref aSn, .int (bI sv), .ref aAs, .ref aLg, .ref aPd, .int ml, .ref aCo, .ref aEa])), (aRo, .inl (y4.1, 151, .inl RO))] ∧ va_S A s.heap H locs ∧ lv_has ls 4 [(3, .int (nI k1)), (0, .ref aM), (1, .int j)]) (fun x => [.int (bI x), .int t2]) ?_ (fun K25 => ?_)
    · rintro v10 H locs ls ⟨ev10, hP, hD, hS, hl⟩
      have ev10 : v10 = (if (m_X8_given RO j (nI k1)) ≤ 0 then false else true) := ev10
      have hP : va_P D vwCl [(aM, .inr (7, [.ref aRo, .ref aHi, .int ms, .ref aSn, .int (bI sv), .ref aAs, .ref aLg, .ref aPd, .int ml, .ref aCo, .ref aEa])), (aRo, .inl (y4.1, 151, .inl RO))] H := hP
      have hD : va_D A [(aM, .inr (7, [.ref aRo, .ref aHi, .int ms, .ref aSn, .int (bI sv), .ref aAs, .ref aLg, .ref aPd, .int ml, .ref aCo, .ref aEa])), (aRo, .inl (y4.1, 151, .inl RO))] := hD
      have hl : lv_has ls 4 [(3, .int (nI k1)), (0, .ref aM), (1, .int j)] := hl
      refine lv_iadd hx hb dX8_cellsOf_25 ?_
      refine lv_istore_n (lv' := [(2, .int (t2 + (bI v10))), (3, .int (nI k1)), (0, .ref aM), (1, .int j)]) hx hb dX8_cellsOf_26 rfl hl (by decide) rfl (fun ls hl => ?_)
      refine lv_iinc (v := nI (k1 + 1)) (lv' := [(3, .int (nI (k1 + 1))), (2, .int (t2 + (bI v10))), (0, .ref aM), (1, .int j)]) hx hb dX8_cellsOf_27 hl (k := 1) rfl (nI_1 _) (by decide) rfl (fun ls hl => ?_)
      refine lv_goto (tgt := 4) hx hb dX8_cellsOf_30 (by decide) ?_
      have ef : (f_X8_cellsOf_4 RO j) k1 t2 = t2 + (bI v10) := (by subst ev10; first | (simp only [f_X8_cellsOf_4]; done) | (unfold f_X8_cellsOf_4; rfl) | rfl)
      rw [ef] at ihk1
      exact ihk1 H locs ls ⟨hP, hD, hS, lv_sub hl [0, 1, 2, 3] rfl⟩
    · refine lv_if_le (tgt := 24) hx hb dX8_cellsOf_17 (by decide) (fun c9 => ?_) (fun c9 => ?_)
      · refine lv_iconst (v := 0) hx hb dX8_cellsOf_24 (by decide) ?_
        exact K25 false H locs ls ⟨(by first | (simp only [if_pos c9]; done) | (simp only [if_pos c9]; rfl) | rfl), hP, hD, hS, lv_sub hl [0, 2, 3] rfl⟩
      · refine lv_iconst (v := 1) hx hb dX8_cellsOf_20 (by decide) ?_
        refine lv_goto (tgt := 25) hx hb dX8_cellsOf_21 (by decide) ?_
        exact K25 true H locs ls ⟨(by first | (simp only [if_neg c9]; done) | (simp only [if_neg c9]; rfl) | rfl), hP, hD, hS, lv_sub hl [0, 2, 3] rfl⟩
def f_X8_litOnlyBy_4 (RO : Nat → Int32) (j : Int32) (k1 : Nat) (t2 : Int32) : Int32 := (let v14 : Bool := (if (m_X8_lightAt RO (nI k1)) < (RO 149) then false else (if (RO 149) ≤ ((m_X8_lightAt RO (nI k1)) - (m_X8_given RO j (nI k1))) then false else true)); t2 + (bI v14))
def m_X8_litOnlyBy (RO : Nat → Int32) (j : Int32) : Int32 := (let t15 : Int32 := itr (f_X8_litOnlyBy_4 RO j) 64 (0 : Int32); t15)
set_option maxHeartbeats 4000000 in
set_option maxRecDepth 100000 in
theorem met_X8_litOnlyBy (l : Launch) (D : va_G) (y4 : vT) (aM aRo aHi aSn aAs aLg aPd aCo aEa : Nat) (sz : Nat) (ms : Int32) (sv : Bool) (ml : Int32) (RO : Nat → Int32) (j : Int32) (hM : MI RO) (hj : vp_in j 6) (hfr : vp_in (RO (129 + j).toNatClampNeg) 64) : Met l yX8_litOnlyBy wsX8_litOnlyBy ({ frames := 6, cells := 0, slots := 0, locals := 144 }) (va_Pc [.ref aM, .int j] (PreW D y4 [(aM, .inr (7, [.ref aRo, .ref aHi, .int ms, .ref aSn, .int (bI sv), .ref aAs, .ref aLg, .ref aPd, .int ml, .ref aCo, .ref aEa])), (aRo, .inl (y4.1, 151, .inl RO))] sz)) (va_Qi (fun (r : Int32) (_ : Unit) => r = (m_X8_litOnlyBy RO j)) (fun _ t => PostW D (va_A [(aM, .inr (7, [.ref aRo, .ref aHi, .int ms, .ref aSn, .int (bI sv), .ref aAs, .ref aLg, .ref aPd, .int ml, .ref aCo, .ref aEa])), (aRo, .inl (y4.1, 151, .inl RO))] sz) [(aM, .inr (7, [.ref aRo, .ref aHi, .int ms, .ref aSn, .int (bI sv), .ref aAs, .ref aLg, .ref aPd, .int ml, .ref aCo, .ref aEa])), (aRo, .inl (y4.1, 151, .inl RO))] t) (va_A [(aM, .inr (7, [.ref aRo, .ref aHi, .int ms, .ref aSn, .int (bI sv), .ref aAs, .ref aLg, .ref aPd, .int ml, .ref aCo, .ref aEa])), (aRo, .inl (y4.1, 151, .inl RO))] sz)) 0 0 (va_A [(aM, .inr (7, [.ref aRo, .ref aHi, .int ms, .ref aSn, .int (bI sv), .ref aAs, .ref aLg, .ref aPd, .int ml, .ref aCo, .ref aEa])), (aRo, .inl (y4.1, 151, .inl RO))] sz) := by
  refine Met.ofW (cc := cX8_litOnlyBy) (maxL := 5) (ret := (some .int)) (by decide) rfl ?_
  intro p e s m args below meth c s₁ B hml hv
  obtain ⟨rfl, hsz, hP, hK, hD0, hNW⟩ := hv
  have hx := B.exec
  have hb := B.bytes
  have hr := B.returns
  have hts := atoms_spec (ws := wsX8_litOnlyBy) B.pre
  have hown : s.vm.findClass RX8 = some m.cls := findClass_of_methodNamed B.named
  have hlocks := B.notSynchronized
  subst hsz
  have hD := hD0.self (sz := s.heap.size)
  generalize hAe : va_A [(aM, .inr (7, [.ref aRo, .ref aHi, .int ms, .ref aSn, .int (bI sv), .ref aAs, .ref aLg, .ref aPd, .int ml, .ref aCo, .ref aEa])), (aRo, .inl (y4.1, 151, .inl RO))] s.heap.size = A at hD ⊢
  have hA : ∀ q : Nat, s.heap.size ≤ q → A q := fun q h => by rw [← hAe]; exact Or.inr h
  have hS : va_S A s.heap s.heap [] := va_S.rf
  have hl := lv_entry ([.ref aM, .int j]) (n := 5) (Nat.le_of_ble_eq_true rfl)
  rw [lg_entry_eq]
  generalize (lg_sl ([.ref aM, .int j]) ++ List.replicate (5 - (lg_sl ([.ref aM, .int j])).length) Slot.unset).toArray = ls at hl ⊢
  have hl : lv_has ls 5 [(0, .ref aM), (1, .int j)] := hl
  have f7 := hts (.fieldLink RX8 7 "PillarLightModel" "row" "[I") (List.mem_of_getElem? (i := 1) rfl)
  have iX8 : ∀ w ∈ wsX80, w ∈ wsX8_litOnlyBy := fun _ h => List.mem_cons_of_mem _ (List.mem_append_right _ h)
  refine startW (fun H locs hP hS => ?_) hP hS
  refine lv_iconst (v := 0) hx hb dX8_litOnlyBy_0 (by decide) ?_
  refine lv_istore_n (lv' := [(2, .int 0), (0, .ref aM), (1, .int j)]) hx hb dX8_litOnlyBy_1 rfl hl (by decide) rfl (fun ls hl => ?_)
  refine lv_iconst (v := 0) hx hb dX8_litOnlyBy_2 (by decide) ?_
  refine lv_istore_n (lv' := [(3, .int 0), (2, .int 0), (0, .ref aM), (1, .int j)]) hx hb dX8_litOnlyBy_3 rfl hl (by decide) rfl (fun ls hl => ?_)
  refine loopW (σ := Int32) 4 (f_X8_litOnlyBy_4 RO j) 64 (0 : Int32) (fun k1 t2 H locs ls => va_P D vwCl [(aM, .inr (7, [.ref aRo, .ref aHi, .int ms, .ref aSn, .int (bI sv), .ref aAs, .ref aLg, .ref aPd, .int ml, .ref aCo, .ref aEa])), (aRo, .inl (y4.1, 151, .inl RO))] H ∧ va_D A [(aM, .inr (7, [.ref aRo, .ref aHi, .int ms, .ref aSn, .int (bI sv), .ref aAs, .ref aLg, .ref aPd, .int ml, .ref aCo, .ref aEa])), (aRo, .inl (y4.1, 151, .inl RO))] ∧ va_S A s.heap H locs ∧ lv_has ls 5 [(3, .int (nI k1)), (2, .int t2), (0, .ref aM), (1, .int j)]) ⟨hP, hD, hS, lv_sub hl [0, 1, 2, 3] rfl⟩ (fun t15 H locs ls et15 hh => ?_) (fun k1 t2 hkk1 hek1 ihk1 H locs ls hh => ?_)
  · obtain ⟨hP, hD, hS, hl⟩ := hh
    have hP : va_P D vwCl [(aM, .inr (7, [.ref aRo, .ref aHi, .int ms, .ref aSn, .int (bI sv), .ref aAs, .ref aLg, .ref aPd, .int ml, .ref aCo, .ref aEa])), (aRo, .inl (y4.1, 151, .inl RO))] H := hP
    have hD : va_D A [(aM, .inr (7, [.ref aRo, .ref aHi, .int ms, .ref aSn, .int (bI sv), .ref aAs, .ref aLg, .ref aPd, .int ml, .ref aCo, .ref aEa])), (aRo, .inl (y4.1, 151, .inl RO))] := hD
    have hl : lv_has ls 5 [(3, .int (nI 64)), (2, .int t15), (0, .ref aM), (1, .int j)] := hl
    refine lv_iload_n hx hb dX8_litOnlyBy_4 rfl (lv_at hl 0 rfl) ?_
    refine lv_bipush (v := 64) hx hb dX8_litOnlyBy_5 (by decide) ?_
    refine lv_icmp_ge (tgt := 64) hx hb dX8_litOnlyBy_7 (by decide) (fun c16 => ?_) (fun c16 => absurd (nI_le (a := 64) (by omega) (by omega)) c16)
    refine lv_iload_n hx hb dX8_litOnlyBy_64 rfl (lv_at hl 1 rfl) ?_
    have em : m_X8_litOnlyBy RO j = t15 := (by subst et15; first | (simp only [m_X8_litOnlyBy]; done) | (unfold m_X8_litOnlyBy; rfl) | rfl)
    exact W.iret (v := t15) hx hb hr (fun t ht hW => ⟨⟨t15, (), rfl, (by rw [em]), ⟨by rw [ht]; exact hP, by exact hD⟩⟩, hS.F ht⟩) hS.2.2 dX8_litOnlyBy_65
  · obtain ⟨hP, hD, hS, hl⟩ := hh
    have hP : va_P D vwCl [(aM, .inr (7, [.ref aRo, .ref aHi, .int ms, .ref aSn, .int (bI sv), .ref aAs, .ref aLg, .ref aPd, .int ml, .ref aCo, .ref aEa])), (aRo, .inl (y4.1, 151, .inl RO))] H := hP
    have hD : va_D A [(aM, .inr (7, [.ref aRo, .ref aHi, .int ms, .ref aSn, .int (bI sv), .ref aAs, .ref aLg, .ref aPd, .int ml, .ref aCo, .ref aEa])), (aRo, .inl (y4.1, 151, .inl RO))] := hD
    have hl : lv_has ls 5 [(3, .int (nI k1)), (2, .int t2), (0, .ref aM), (1, .int j)] := hl
    refine lv_iload_n hx hb dX8_litOnlyBy_4 rfl (lv_at hl 0 rfl) ?_
    refine lv_bipush (v := 64) hx hb dX8_litOnlyBy_5 (by decide) ?_
    refine lv_icmp_ge (tgt := 64) hx hb dX8_litOnlyBy_7 (by decide) (fun c9 => absurd c9 (nI_ge (b := 64) (by omega) (by omega))) (fun c9 => ?_)
    refine lv_aload_n hx hb dX8_litOnlyBy_10 rfl (lv_at hl 2 rfl) ?_
    refine lv_iload_n hx hb dX8_litOnlyBy_11 rfl (lv_at hl 0 rfl) ?_
    refine callW_i (wr := []) (wn := fun u => [(aM, .inr (7, [.ref aRo, .ref aHi, .int ms, .ref aSn, .int (bI sv), .ref aAs, .ref aLg, .ref aPd, .int ml, .ref aCo, .ref aEa])), (aRo, .inl (y4.1, 151, .inl RO))]) (va_runV (As := [.int (nI k1)]) (rest := []) ⟨hx, hb, hml, hown, hts⟩ (met_X8_lightAt l D y4 aM aRo aHi aSn aAs aLg aPd aCo aEa H.size ms sv ml RO (nI k1) hM (vp_in_nI (by omega) (by decide))) (cwV 1 hts gX8_litOnlyBy_X8_lightAt rfl rfl rfl (by decide +kernel) ⟨Nat.le_of_ble_eq_true rfl, Nat.le_of_ble_eq_true rfl⟩) ⟨preW_blind, va_recv hK hP (ci := 7) (q0 := 0) rfl rfl, preW_at (hP.sub (ws' := [(aM, .inr (7, [.ref aRo, .ref aHi, .int ms, .ref aSn, .int (bI sv), .ref aAs, .ref aLg, .ref aPd, .int ml, .ref aCo, .ref aEa])), (aRo, .inl (y4.1, 151, .inl RO))]) [0, 1] rfl) hK (hD.sub (ws' := [(aM, .inr (7, [.ref aRo, .ref aHi, .int ms, .ref aSn, .int (bI sv), .ref aAs, .ref aLg, .ref aPd, .int ml, .ref aCo, .ref aEa])), (aRo, .inl (y4.1, 151, .inl RO))]) [0, 1] (by decide) rfl) hNW⟩ rfl rfl hl.1 rfl (lv_room (Nat.le_of_ble_eq_true rfl)) dX8_litOnlyBy_12 ⟨Nat.zero_le _, Nat.zero_le _⟩) hP hD hS hA [0, 1] [] [0, 1] rfl rfl (by decide) (by decide) (fun _ => rfl) (by decide) (fun r u10 H locs hw hP hD hS => ?_)
    subst hw
    have hP : va_P D vwCl [(aM, .inr (7, [.ref aRo, .ref aHi, .int ms, .ref aSn, .int (bI sv), .ref aAs, .ref aLg, .ref aPd, .int ml, .ref aCo, .ref aEa])), (aRo, .inl (y4.1, 151, .inl RO))] H := hP
    have hD : va_D A [(aM, .inr (7, [.ref aRo, .ref aHi, .int ms, .ref aSn, .int (bI sv), .ref aAs, .ref aLg, .ref aPd, .int ml, .ref aCo, .ref aEa])), (aRo, .inl (y4.1, 151, .inl RO))] := hD
    refine lv_istore (lv' := [(4, .int (m_X8_lightAt RO (nI k1))), (3, .int (nI k1)), (2, .int t2), (0, .ref aM), (1, .int j)]) hx hb dX8_litOnlyBy_15 hl (by decide) rfl (fun ls hl => ?_)
    refine lv_iload_n hx hb dX8_litOnlyBy_17 rfl (lv_at hl 2 rfl) ?_
    refine lv_iload hx hb dX8_litOnlyBy_18 (lv_at hl 0 rfl) ?_
    refine lv_aload_n hx hb dX8_litOnlyBy_20 rfl (lv_at hl 3 rfl) ?_
    refine va_get (ci := 7) (v := .ref aRo) (C := RX8) (T := TX8) (N := 11) hx hb hts iX8 hown hK hP 0 rfl rfl 0 (by decide) f7 (fun _ h9 => h9) rfl dX8_litOnlyBy_21 ?_
    refine lv_sipush (v := 149) hx hb dX8_litOnlyBy_24 (by decide) ?_
    refine va_iald hx hb hK hP 1 0 rfl rfl (vp_in_nI (n := 149) (by decide) (by decide)) dX8_litOnlyBy_27 ?_
    refine W.ofeqi (y := RO 149) (congrArg RO (by decide : (149 : Int32).toNatClampNeg = 149)) ?_
    refine cutW (X := Bool) 56 (fun x H locs ls => x = (if (m_X8_lightAt RO (nI k1)) < (RO 149) then false else (if (RO 149) ≤ ((m_X8_lightAt RO (nI k1)) - (m_X8_given RO j (nI k1))) then false else true)) ∧ va_P D vwCl [(aM, .inr (7, [.ref aRo, .ref aHi, .int ms, .ref aSn, .int (bI sv), .ref aAs, .ref aLg, .ref aPd, .int ml, .ref aCo, .ref aEa])), (aRo, .inl (y4.1, 151, .inl RO))] H ∧ va_D A [(aM, .inr (7, [.ref aRo, .ref aHi, .int ms, .ref aSn, .int (bI sv), .ref aAs, .ref aLg, .ref aPd, .int ml, .ref aCo, .ref aEa])), (aRo, .inl (y4.1, 151, .inl RO))] ∧ va_S A s.heap H locs ∧ lv_has ls 5 [(3, .int (nI k1)), (0, .ref aM), (1, .int j)]) (fun x => [.int (bI x), .int t2]) ?_ (fun K56 => ?_)
    · rintro v14 H locs ls ⟨ev14, hP, hD, hS, hl⟩
      have ev14 : v14 = (if (m_X8_lightAt RO (nI k1)) < (RO 149) then false else (if (RO 149) ≤ ((m_X8_lightAt RO (nI k1)) - (m_X8_given RO j (nI k1))) then false else true)) := ev14
      have hP : va_P D vwCl [(aM, .inr (7, [.ref aRo, .ref aHi, .int ms, .ref aSn, .int (bI sv), .ref aAs, .ref aLg, .ref aPd, .int ml, .ref aCo, .ref aEa])), (aRo, .inl (y4.1, 151, .inl RO))] H := hP
      have hD : va_D A [(aM, .inr (7, [.ref aRo, .ref aHi, .int ms, .ref aSn, .int (bI sv), .ref aAs, .ref aLg, .ref aPd, .int ml, .ref aCo, .ref aEa])), (aRo, .inl (y4.1, 151, .inl RO))] := hD
      have hl : lv_has ls 5 [(3, .int (nI k1)), (0, .ref aM), (1, .int j)] := hl
      refine lv_iadd hx hb dX8_litOnlyBy_56 ?_
      refine lv_istore_n (lv' := [(2, .int (t2 + (bI v14))), (3, .int (nI k1)), (0, .ref aM), (1, .int j)]) hx hb dX8_litOnlyBy_57 rfl hl (by decide) rfl (fun ls hl => ?_)
      refine lv_iinc (v := nI (k1 + 1)) (lv' := [(3, .int (nI (k1 + 1))), (2, .int (t2 + (bI v14))), (0, .ref aM), (1, .int j)]) hx hb dX8_litOnlyBy_58 hl (k := 1) rfl (nI_1 _) (by decide) rfl (fun ls hl => ?_)
      refine lv_goto (tgt := 4) hx hb dX8_litOnlyBy_61 (by decide) ?_
      have ef : (f_X8_litOnlyBy_4 RO j) k1 t2 = t2 + (bI v14) := (by subst ev14; first | (simp only [f_X8_litOnlyBy_4]; done) | (unfold f_X8_litOnlyBy_4; rfl) | rfl)
      rw [ef] at ihk1
      exact ihk1 H locs ls ⟨hP, hD, hS, lv_sub hl [0, 1, 2, 3] rfl⟩
    · refine lv_icmp_lt (tgt := 55) hx hb dX8_litOnlyBy_28 (by decide) (fun c11 => ?_) (fun c11 => ?_)
      · refine lv_iconst (v := 0) hx hb dX8_litOnlyBy_55 (by decide) ?_
        exact K56 false H locs ls ⟨(by first | (simp only [if_pos c11]; done) | (simp only [if_pos c11]; rfl) | rfl), hP, hD, hS, lv_sub hl [1, 3, 4] rfl⟩
      · refine lv_iload hx hb dX8_litOnlyBy_31 (lv_at hl 0 rfl) ?_
        refine lv_aload_n hx hb dX8_litOnlyBy_33 rfl (lv_at hl 3 rfl) ?_
        refine lv_iload_n hx hb dX8_litOnlyBy_34 rfl (lv_at hl 4 rfl) ?_
        refine lv_iload_n hx hb dX8_litOnlyBy_35 rfl (lv_at hl 1 rfl) ?_
        refine callW_i (wr := []) (wn := fun u => [(aM, .inr (7, [.ref aRo, .ref aHi, .int ms, .ref aSn, .int (bI sv), .ref aAs, .ref aLg, .ref aPd, .int ml, .ref aCo, .ref aEa])), (aRo, .inl (y4.1, 151, .inl RO))]) (va_runV (As := [.int j, .int (nI k1)]) (rest := [.int (m_X8_lightAt RO (nI k1)), .int t2]) ⟨hx, hb, hml, hown, hts⟩ (met_X8_given l D y4 aM aRo aHi aSn aAs aLg aPd aCo aEa H.size ms sv ml RO j (nI k1) hj hfr (vp_in_nI (by omega) (by decide))) (cwV 2 hts gX8_litOnlyBy_X8_given rfl rfl rfl (by decide +kernel) ⟨Nat.le_of_ble_eq_true rfl, Nat.le_of_ble_eq_true rfl⟩) ⟨preW_blind, va_recv hK hP (ci := 7) (q0 := 0) rfl rfl, preW_at (hP.sub (ws' := [(aM, .inr (7, [.ref aRo, .ref aHi, .int ms, .ref aSn, .int (bI sv), .ref aAs, .ref aLg, .ref aPd, .int ml, .ref aCo, .ref aEa])), (aRo, .inl (y4.1, 151, .inl RO))]) [0, 1] rfl) hK (hD.sub (ws' := [(aM, .inr (7, [.ref aRo, .ref aHi, .int ms, .ref aSn, .int (bI sv), .ref aAs, .ref aLg, .ref aPd, .int ml, .ref aCo, .ref aEa])), (aRo, .inl (y4.1, 151, .inl RO))]) [0, 1] (by decide) rfl) hNW⟩ rfl rfl hl.1 rfl (lv_room (Nat.le_of_ble_eq_true rfl)) dX8_litOnlyBy_36 ⟨Nat.zero_le _, Nat.zero_le _⟩) hP hD hS hA [0, 1] [] [0, 1] rfl rfl (by decide) (by decide) (fun _ => rfl) (by decide) (fun r u12 H locs hw hP hD hS => ?_)
        subst hw
        have hP : va_P D vwCl [(aM, .inr (7, [.ref aRo, .ref aHi, .int ms, .ref aSn, .int (bI sv), .ref aAs, .ref aLg, .ref aPd, .int ml, .ref aCo, .ref aEa])), (aRo, .inl (y4.1, 151, .inl RO))] H := hP
        have hD : va_D A [(aM, .inr (7, [.ref aRo, .ref aHi, .int ms, .ref aSn, .int (bI sv), .ref aAs, .ref aLg, .ref aPd, .int ml, .ref aCo, .ref aEa])), (aRo, .inl (y4.1, 151, .inl RO))] := hD
        refine lv_isub hx hb dX8_litOnlyBy_39 ?_
        refine lv_aload_n hx hb dX8_litOnlyBy_40 rfl (lv_at hl 3 rfl) ?_
        refine va_get (ci := 7) (v := .ref aRo) (C := RX8) (T := TX8) (N := 11) hx hb hts iX8 hown hK hP 0 rfl rfl 0 (by decide) f7 (fun _ h9 => h9) rfl dX8_litOnlyBy_41 ?_
        refine lv_sipush (v := 149) hx hb dX8_litOnlyBy_44 (by decide) ?_
        refine va_iald hx hb hK hP 1 0 rfl rfl (vp_in_nI (n := 149) (by decide) (by decide)) dX8_litOnlyBy_47 ?_
        refine W.ofeqi (y := RO 149) (congrArg RO (by decide : (149 : Int32).toNatClampNeg = 149)) ?_
        refine lv_icmp_ge (tgt := 55) hx hb dX8_litOnlyBy_48 (by decide) (fun c13 => ?_) (fun c13 => ?_)
        · refine lv_iconst (v := 0) hx hb dX8_litOnlyBy_55 (by decide) ?_
          exact K56 false H locs ls ⟨(by first | (simp only [if_neg c11, if_pos c13]; done) | (simp only [if_neg c11, if_pos c13]; rfl) | rfl), hP, hD, hS, lv_sub hl [1, 3, 4] rfl⟩
        · refine lv_iconst (v := 1) hx hb dX8_litOnlyBy_51 (by decide) ?_
          refine lv_goto (tgt := 56) hx hb dX8_litOnlyBy_52 (by decide) ?_
          exact K56 true H locs ls ⟨(by first | (simp only [if_neg c11, if_neg c13]; done) | (simp only [if_neg c11, if_neg c13]; rfl) | rfl), hP, hD, hS, lv_sub hl [1, 3, 4] rfl⟩
def f_X8_kinds_4 (RO : Nat → Int32) (kd : Int32) (k1 : Nat) (t2 : Int32) : Int32 := (let v8 : Bool := (if (RO (0 + (nI k1)).toNatClampNeg) = kd then true else false); t2 + (bI v8))
def m_X8_kinds (RO : Nat → Int32) (kd : Int32) : Int32 := (let t9 : Int32 := itr (f_X8_kinds_4 RO kd) 64 (0 : Int32); t9)
set_option maxHeartbeats 4000000 in
set_option maxRecDepth 100000 in
theorem met_X8_kinds (l : Launch) (D : va_G) (y4 : vT) (aM aRo aHi aSn aAs aLg aPd aCo aEa : Nat) (sz : Nat) (ms : Int32) (sv : Bool) (ml : Int32) (RO : Nat → Int32) (kd : Int32) : Met l yX8_kinds wsX8_kinds ({ frames := 0, cells := 0, slots := 0, locals := 0 }) (va_Pc [.ref aM, .int kd] (PreW D y4 [(aM, .inr (7, [.ref aRo, .ref aHi, .int ms, .ref aSn, .int (bI sv), .ref aAs, .ref aLg, .ref aPd, .int ml, .ref aCo, .ref aEa])), (aRo, .inl (y4.1, 151, .inl RO))] sz)) (va_Qi (fun (r : Int32) (_ : Unit) => r = (m_X8_kinds RO kd)) (fun _ t => PostW D (va_A [(aM, .inr (7, [.ref aRo, .ref aHi, .int ms, .ref aSn, .int (bI sv), .ref aAs, .ref aLg, .ref aPd, .int ml, .ref aCo, .ref aEa])), (aRo, .inl (y4.1, 151, .inl RO))] sz) [(aM, .inr (7, [.ref aRo, .ref aHi, .int ms, .ref aSn, .int (bI sv), .ref aAs, .ref aLg, .ref aPd, .int ml, .ref aCo, .ref aEa])), (aRo, .inl (y4.1, 151, .inl RO))] t) (va_A [(aM, .inr (7, [.ref aRo, .ref aHi, .int ms, .ref aSn, .int (bI sv), .ref aAs, .ref aLg, .ref aPd, .int ml, .ref aCo, .ref aEa])), (aRo, .inl (y4.1, 151, .inl RO))] sz)) 0 0 (va_A [(aM, .inr (7, [.ref aRo, .ref aHi, .int ms, .ref aSn, .int (bI sv), .ref aAs, .ref aLg, .ref aPd, .int ml, .ref aCo, .ref aEa])), (aRo, .inl (y4.1, 151, .inl RO))] sz) := by
  refine Met.ofW (cc := cX8_kinds) (maxL := 4) (ret := (some .int)) (by decide) rfl ?_
  intro p e s m args below meth c s₁ B hml hv
  obtain ⟨rfl, hsz, hP, hK, hD0, hNW⟩ := hv
  have hx := B.exec
  have hb := B.bytes
  have hr := B.returns
  have hts := atoms_spec (ws := wsX8_kinds) B.pre
  have hown : s.vm.findClass RX8 = some m.cls := findClass_of_methodNamed B.named
  have hlocks := B.notSynchronized
  subst hsz
  have hD := hD0.self (sz := s.heap.size)
  generalize hAe : va_A [(aM, .inr (7, [.ref aRo, .ref aHi, .int ms, .ref aSn, .int (bI sv), .ref aAs, .ref aLg, .ref aPd, .int ml, .ref aCo, .ref aEa])), (aRo, .inl (y4.1, 151, .inl RO))] s.heap.size = A at hD ⊢
  have hA : ∀ q : Nat, s.heap.size ≤ q → A q := fun q h => by rw [← hAe]; exact Or.inr h
  have hS : va_S A s.heap s.heap [] := va_S.rf
  have hl := lv_entry ([.ref aM, .int kd]) (n := 4) (Nat.le_of_ble_eq_true rfl)
  rw [lg_entry_eq]
  generalize (lg_sl ([.ref aM, .int kd]) ++ List.replicate (4 - (lg_sl ([.ref aM, .int kd])).length) Slot.unset).toArray = ls at hl ⊢
  have hl : lv_has ls 4 [(0, .ref aM), (1, .int kd)] := hl
  have f7 := hts (.fieldLink RX8 7 "PillarLightModel" "row" "[I") (List.mem_of_getElem? (i := 1) rfl)
  have iX8 : ∀ w ∈ wsX80, w ∈ wsX8_kinds := fun _ h => List.mem_cons_of_mem _ (List.mem_append_right _ h)
  refine startW (fun H locs hP hS => ?_) hP hS
  refine lv_iconst (v := 0) hx hb dX8_kinds_0 (by decide) ?_
  refine lv_istore_n (lv' := [(2, .int 0), (0, .ref aM), (1, .int kd)]) hx hb dX8_kinds_1 rfl hl (by decide) rfl (fun ls hl => ?_)
  refine lv_iconst (v := 0) hx hb dX8_kinds_2 (by decide) ?_
  refine lv_istore_n (lv' := [(3, .int 0), (2, .int 0), (0, .ref aM), (1, .int kd)]) hx hb dX8_kinds_3 rfl hl (by decide) rfl (fun ls hl => ?_)
  refine loopW (σ := Int32) 4 (f_X8_kinds_4 RO kd) 64 (0 : Int32) (fun k1 t2 H locs ls => va_P D vwCl [(aM, .inr (7, [.ref aRo, .ref aHi, .int ms, .ref aSn, .int (bI sv), .ref aAs, .ref aLg, .ref aPd, .int ml, .ref aCo, .ref aEa])), (aRo, .inl (y4.1, 151, .inl RO))] H ∧ va_D A [(aM, .inr (7, [.ref aRo, .ref aHi, .int ms, .ref aSn, .int (bI sv), .ref aAs, .ref aLg, .ref aPd, .int ml, .ref aCo, .ref aEa])), (aRo, .inl (y4.1, 151, .inl RO))] ∧ va_S A s.heap H locs ∧ lv_has ls 4 [(3, .int (nI k1)), (2, .int t2), (0, .ref aM), (1, .int kd)]) ⟨hP, hD, hS, lv_sub hl [0, 1, 2, 3] rfl⟩ (fun t9 H locs ls et9 hh => ?_) (fun k1 t2 hkk1 hek1 ihk1 H locs ls hh => ?_)
  · obtain ⟨hP, hD, hS, hl⟩ := hh
    have hP : va_P D vwCl [(aM, .inr (7, [.ref aRo, .ref aHi, .int ms, .ref aSn, .int (bI sv), .ref aAs, .ref aLg, .ref aPd, .int ml, .ref aCo, .ref aEa])), (aRo, .inl (y4.1, 151, .inl RO))] H := hP
    have hD : va_D A [(aM, .inr (7, [.ref aRo, .ref aHi, .int ms, .ref aSn, .int (bI sv), .ref aAs, .ref aLg, .ref aPd, .int ml, .ref aCo, .ref aEa])), (aRo, .inl (y4.1, 151, .inl RO))] := hD
    have hl : lv_has ls 4 [(3, .int (nI 64)), (2, .int t9), (0, .ref aM), (1, .int kd)] := hl
    refine lv_iload_n hx hb dX8_kinds_4 rfl (lv_at hl 0 rfl) ?_
    refine lv_bipush (v := 64) hx hb dX8_kinds_5 (by decide) ?_
    refine lv_icmp_ge (tgt := 36) hx hb dX8_kinds_7 (by decide) (fun c10 => ?_) (fun c10 => absurd (nI_le (a := 64) (by omega) (by omega)) c10)
    refine lv_iload_n hx hb dX8_kinds_36 rfl (lv_at hl 1 rfl) ?_
    have em : m_X8_kinds RO kd = t9 := (by subst et9; first | (simp only [m_X8_kinds]; done) | (unfold m_X8_kinds; rfl) | rfl)
    exact W.iret (v := t9) hx hb hr (fun t ht hW => ⟨⟨t9, (), rfl, (by rw [em]), ⟨by rw [ht]; exact hP, by exact hD⟩⟩, hS.F ht⟩) hS.2.2 dX8_kinds_37
  · obtain ⟨hP, hD, hS, hl⟩ := hh
    have hP : va_P D vwCl [(aM, .inr (7, [.ref aRo, .ref aHi, .int ms, .ref aSn, .int (bI sv), .ref aAs, .ref aLg, .ref aPd, .int ml, .ref aCo, .ref aEa])), (aRo, .inl (y4.1, 151, .inl RO))] H := hP
    have hD : va_D A [(aM, .inr (7, [.ref aRo, .ref aHi, .int ms, .ref aSn, .int (bI sv), .ref aAs, .ref aLg, .ref aPd, .int ml, .ref aCo, .ref aEa])), (aRo, .inl (y4.1, 151, .inl RO))] := hD
    have hl : lv_has ls 4 [(3, .int (nI k1)), (2, .int t2), (0, .ref aM), (1, .int kd)] := hl
    refine lv_iload_n hx hb dX8_kinds_4 rfl (lv_at hl 0 rfl) ?_
    refine lv_bipush (v := 64) hx hb dX8_kinds_5 (by decide) ?_
    refine lv_icmp_ge (tgt := 36) hx hb dX8_kinds_7 (by decide) (fun c6 => absurd c6 (nI_ge (b := 64) (by omega) (by omega))) (fun c6 => ?_)
    refine lv_iload_n hx hb dX8_kinds_10 rfl (lv_at hl 1 rfl) ?_
    refine lv_aload_n hx hb dX8_kinds_11 rfl (lv_at hl 2 rfl) ?_
    refine va_get (ci := 7) (v := .ref aRo) (C := RX8) (T := TX8) (N := 11) hx hb hts iX8 hown hK hP 0 rfl rfl 0 (by decide) f7 (fun _ h9 => h9) rfl dX8_kinds_12 ?_
    refine lv_iconst (v := 0) hx hb dX8_kinds_15 (by decide) ?_
    refine lv_iload_n hx hb dX8_kinds_16 rfl (lv_at hl 0 rfl) ?_
    refine lv_iadd hx hb dX8_kinds_17 ?_
    refine va_iald hx hb hK hP 1 0 rfl rfl (off_in (vp_in_nI (n := k1) (N := 64) (by omega) (by decide)) (by decide) (by decide) (by decide)) dX8_kinds_18 ?_
    refine lv_iload_n hx hb dX8_kinds_19 rfl (lv_at hl 3 rfl) ?_
    refine cutW (X := Bool) 28 (fun x H locs ls => x = (if (RO (0 + (nI k1)).toNatClampNeg) = kd then true else false) ∧ va_P D vwCl [(aM, .inr (7, [.ref aRo, .ref aHi, .int ms, .ref aSn, .int (bI sv), .ref aAs, .ref aLg, .ref aPd, .int ml, .ref aCo, .ref aEa])), (aRo, .inl (y4.1, 151, .inl RO))] H ∧ va_D A [(aM, .inr (7, [.ref aRo, .ref aHi, .int ms, .ref aSn, .int (bI sv), .ref aAs, .ref aLg, .ref aPd, .int ml, .ref aCo, .ref aEa])), (aRo, .inl (y4.1, 151, .inl RO))] ∧ va_S A s.heap H locs ∧ lv_has ls 4 [(3, .int (nI k1)), (0, .ref aM), (1, .int kd)]) (fun x => [.int (bI x), .int t2]) ?_ (fun K28 => ?_)
    · rintro v8 H locs ls ⟨ev8, hP, hD, hS, hl⟩
      have ev8 : v8 = (if (RO (0 + (nI k1)).toNatClampNeg) = kd then true else false) := ev8
      have hP : va_P D vwCl [(aM, .inr (7, [.ref aRo, .ref aHi, .int ms, .ref aSn, .int (bI sv), .ref aAs, .ref aLg, .ref aPd, .int ml, .ref aCo, .ref aEa])), (aRo, .inl (y4.1, 151, .inl RO))] H := hP
      have hD : va_D A [(aM, .inr (7, [.ref aRo, .ref aHi, .int ms, .ref aSn, .int (bI sv), .ref aAs, .ref aLg, .ref aPd, .int ml, .ref aCo, .ref aEa])), (aRo, .inl (y4.1, 151, .inl RO))] := hD
      have hl : lv_has ls 4 [(3, .int (nI k1)), (0, .ref aM), (1, .int kd)] := hl
      refine lv_iadd hx hb dX8_kinds_28 ?_
      refine lv_istore_n (lv' := [(2, .int (t2 + (bI v8))), (3, .int (nI k1)), (0, .ref aM), (1, .int kd)]) hx hb dX8_kinds_29 rfl hl (by decide) rfl (fun ls hl => ?_)
      refine lv_iinc (v := nI (k1 + 1)) (lv' := [(3, .int (nI (k1 + 1))), (2, .int (t2 + (bI v8))), (0, .ref aM), (1, .int kd)]) hx hb dX8_kinds_30 hl (k := 1) rfl (nI_1 _) (by decide) rfl (fun ls hl => ?_)
      refine lv_goto (tgt := 4) hx hb dX8_kinds_33 (by decide) ?_
      have ef : (f_X8_kinds_4 RO kd) k1 t2 = t2 + (bI v8) := (by subst ev8; first | (simp only [f_X8_kinds_4]; done) | (unfold f_X8_kinds_4; rfl) | rfl)
      rw [ef] at ihk1
      exact ihk1 H locs ls ⟨hP, hD, hS, lv_sub hl [0, 1, 2, 3] rfl⟩
    · refine lv_icmp_ne (tgt := 27) hx hb dX8_kinds_20 (by decide) (fun c7 => ?_) (fun c7 => ?_)
      · refine lv_iconst (v := 0) hx hb dX8_kinds_27 (by decide) ?_
        exact K28 false H locs ls ⟨(by first | (simp only [if_neg c7]; done) | (simp only [if_neg c7]; rfl) | rfl), hP, hD, hS, lv_sub hl [0, 2, 3] rfl⟩
      · refine lv_iconst (v := 1) hx hb dX8_kinds_23 (by decide) ?_
        refine lv_goto (tgt := 28) hx hb dX8_kinds_24 (by decide) ?_
        exact K28 true H locs ls ⟨(by first | (simp only [if_pos c7]; done) | (simp only [if_pos c7]; rfl) | rfl), hP, hD, hS, lv_sub hl [0, 2, 3] rfl⟩
def f_X8_allLight_8 (RO : Nat → Int32) (LG : Nat → Int32) (k2 : Nat) (t3 : Int32) : Int32 := t3 + ((m_X8_shine RO LG) (nI k2).toNatClampNeg)
def m_X8_allLight (RO : Nat → Int32) (LG : Nat → Int32) : Int32 := (let t6 : Int32 := itr (f_X8_allLight_8 RO LG) 64 (0 : Int32); t6)
set_option maxHeartbeats 4000000 in
set_option maxRecDepth 100000 in
theorem met_X8_allLight (l : Launch) (D : va_G) (y4 : vT) (aM aRo aHi aSn aAs aLg aPd aCo aEa : Nat) (sz : Nat) (ms : Int32) (sv : Bool) (ml : Int32) (RO : Nat → Int32) (LG : Nat → Int32) (hM : MI RO) : Met l yX8_allLight wsX8_allLight ({ frames := 7, cells := 0, slots := 0, locals := 165 }) (va_Pc [.ref aM] (PreW D y4 [(aM, .inr (7, [.ref aRo, .ref aHi, .int ms, .ref aSn, .int (bI sv), .ref aAs, .ref aLg, .ref aPd, .int ml, .ref aCo, .ref aEa])), (aRo, .inl (y4.1, 151, .inl RO)), (aLg, .inl (y4.1, 64, .inl LG))] sz)) (va_Qi (fun (r : Int32) (_ : (Nat → Int32)) => r = (m_X8_allLight RO LG)) (fun u t => PostW D (va_A [(aM, .inr (7, [.ref aRo, .ref aHi, .int ms, .ref aSn, .int (bI sv), .ref aAs, .ref aLg, .ref aPd, .int ml, .ref aCo, .ref aEa])), (aRo, .inl (y4.1, 151, .inl RO)), (aLg, .inl (y4.1, 64, .inl LG))] sz) [(aM, .inr (7, [.ref aRo, .ref aHi, .int ms, .ref aSn, .int (bI sv), .ref aAs, .ref aLg, .ref aPd, .int ml, .ref aCo, .ref aEa])), (aRo, .inl (y4.1, 151, .inl RO)), (aLg, .inl (y4.1, 64, .inl u))] t) (va_A [(aM, .inr (7, [.ref aRo, .ref aHi, .int ms, .ref aSn, .int (bI sv), .ref aAs, .ref aLg, .ref aPd, .int ml, .ref aCo, .ref aEa])), (aRo, .inl (y4.1, 151, .inl RO)), (aLg, .inl (y4.1, 64, .inl LG))] sz)) 0 0 (va_A [(aM, .inr (7, [.ref aRo, .ref aHi, .int ms, .ref aSn, .int (bI sv), .ref aAs, .ref aLg, .ref aPd, .int ml, .ref aCo, .ref aEa])), (aRo, .inl (y4.1, 151, .inl RO)), (aLg, .inl (y4.1, 64, .inl LG))] sz) := by
  refine Met.ofW (cc := cX8_allLight) (maxL := 3) (ret := (some .int)) (by decide) rfl ?_
  intro p e s m args below meth c s₁ B hml hv
  obtain ⟨rfl, hsz, hP, hK, hD0, hNW⟩ := hv
  have hx := B.exec
  have hb := B.bytes
  have hr := B.returns
  have hts := atoms_spec (ws := wsX8_allLight) B.pre
  have hown : s.vm.findClass RX8 = some m.cls := findClass_of_methodNamed B.named
  have hlocks := B.notSynchronized
  subst hsz
  have hD := hD0.self (sz := s.heap.size)
  generalize hAe : va_A [(aM, .inr (7, [.ref aRo, .ref aHi, .int ms, .ref aSn, .int (bI sv), .ref aAs, .ref aLg, .ref aPd, .int ml, .ref aCo, .ref aEa])), (aRo, .inl (y4.1, 151, .inl RO)), (aLg, .inl (y4.1, 64, .inl LG))] s.heap.size = A at hD ⊢
  have hA : ∀ q : Nat, s.heap.size ≤ q → A q := fun q h => by rw [← hAe]; exact Or.inr h
  have hS : va_S A s.heap s.heap [] := va_S.rf
  have hl := lv_entry ([.ref aM]) (n := 3) (Nat.le_of_ble_eq_true rfl)
  rw [lg_entry_eq]
  generalize (lg_sl ([.ref aM]) ++ List.replicate (3 - (lg_sl ([.ref aM])).length) Slot.unset).toArray = ls at hl ⊢
  have hl : lv_has ls 3 [(0, .ref aM)] := hl
  have f22 := hts (.fieldLink RX8 22 "PillarLightModel" "light" "[I") (List.mem_of_getElem? (i := 1) rfl)
  have iX8 : ∀ w ∈ wsX80, w ∈ wsX8_allLight := fun _ h => List.mem_cons_of_mem _ (List.mem_append_right _ h)
  refine startW (fun H locs hP hS => ?_) hP hS
  refine lv_aload_n hx hb dX8_allLight_0 rfl (lv_at hl 0 rfl) ?_
  refine callW_v (wr := []) (wn := fun u => [(aM, .inr (7, [.ref aRo, .ref aHi, .int ms, .ref aSn, .int (bI sv), .ref aAs, .ref aLg, .ref aPd, .int ml, .ref aCo, .ref aEa])), (aRo, .inl (y4.1, 151, .inl RO)), (aLg, .inl (y4.1, 64, .inl (m_X8_shine RO LG)))]) (va_runV (As := []) (rest := []) ⟨hx, hb, hml, hown, hts⟩ (met_X8_shine l D y4 aM aRo aHi aSn aAs aLg aPd aCo aEa H.size ms sv ml RO LG hM) (cwV 0 hts gX8_allLight_X8_shine rfl rfl rfl (by decide +kernel) ⟨Nat.le_of_ble_eq_true rfl, Nat.le_of_ble_eq_true rfl⟩) ⟨preW_blind, va_recv hK hP (ci := 7) (q0 := 0) rfl rfl, preW_at (hP.sub (ws' := [(aM, .inr (7, [.ref aRo, .ref aHi, .int ms, .ref aSn, .int (bI sv), .ref aAs, .ref aLg, .ref aPd, .int ml, .ref aCo, .ref aEa])), (aRo, .inl (y4.1, 151, .inl RO)), (aLg, .inl (y4.1, 64, .inl LG))]) [0, 1, 2] rfl) hK (hD.sub (ws' := [(aM, .inr (7, [.ref aRo, .ref aHi, .int ms, .ref aSn, .int (bI sv), .ref aAs, .ref aLg, .ref aPd, .int ml, .ref aCo, .ref aEa])), (aRo, .inl (y4.1, 151, .inl RO)), (aLg, .inl (y4.1, 64, .inl LG))]) [0, 1, 2] (by decide) rfl) hNW⟩ rfl rfl hl.1 rfl (lv_room (Nat.le_of_ble_eq_true rfl)) dX8_allLight_1 ⟨Nat.zero_le _, Nat.zero_le _⟩) hP hD hS hA [0, 1, 2] [] [0, 1, 2] rfl rfl (by decide) (by decide) (fun _ => rfl) (by decide) (fun u1 H locs hw hP hD hS => ?_)
  have hP : va_P D vwCl [(aM, .inr (7, [.ref aRo, .ref aHi, .int ms, .ref aSn, .int (bI sv), .ref aAs, .ref aLg, .ref aPd, .int ml, .ref aCo, .ref aEa])), (aRo, .inl (y4.1, 151, .inl RO)), (aLg, .inl (y4.1, 64, .inl (m_X8_shine RO LG)))] H := hP
  have hD : va_D A [(aM, .inr (7, [.ref aRo, .ref aHi, .int ms, .ref aSn, .int (bI sv), .ref aAs, .ref aLg, .ref aPd, .int ml, .ref aCo, .ref aEa])), (aRo, .inl (y4.1, 151, .inl RO)), (aLg, .inl (y4.1, 64, .inl (m_X8_shine RO LG)))] := hD
  refine lv_iconst (v := 0) hx hb dX8_allLight_4 (by decide) ?_
  refine lv_istore_n (lv' := [(1, .int 0), (0, .ref aM)]) hx hb dX8_allLight_5 rfl hl (by decide) rfl (fun ls hl => ?_)
  refine lv_iconst (v := 0) hx hb dX8_allLight_6 (by decide) ?_
  refine lv_istore_n (lv' := [(2, .int 0), (1, .int 0), (0, .ref aM)]) hx hb dX8_allLight_7 rfl hl (by decide) rfl (fun ls hl => ?_)
  refine loopW (σ := Int32) 8 (f_X8_allLight_8 RO LG) 64 (0 : Int32) (fun k2 t3 H locs ls => va_P D vwCl [(aM, .inr (7, [.ref aRo, .ref aHi, .int ms, .ref aSn, .int (bI sv), .ref aAs, .ref aLg, .ref aPd, .int ml, .ref aCo, .ref aEa])), (aRo, .inl (y4.1, 151, .inl RO)), (aLg, .inl (y4.1, 64, .inl (m_X8_shine RO LG)))] H ∧ va_D A [(aM, .inr (7, [.ref aRo, .ref aHi, .int ms, .ref aSn, .int (bI sv), .ref aAs, .ref aLg, .ref aPd, .int ml, .ref aCo, .ref aEa])), (aRo, .inl (y4.1, 151, .inl RO)), (aLg, .inl (y4.1, 64, .inl (m_X8_shine RO LG)))] ∧ va_S A s.heap H locs ∧ lv_has ls 3 [(2, .int (nI k2)), (1, .int t3), (0, .ref aM)]) ⟨hP, hD, hS, lv_sub hl [0, 1, 2] rfl⟩ (fun t6 H locs ls et6 hh => ?_) (fun k2 t3 hkk2 hek2 ihk2 H locs ls hh => ?_)
  · obtain ⟨hP, hD, hS, hl⟩ := hh
    have hP : va_P D vwCl [(aM, .inr (7, [.ref aRo, .ref aHi, .int ms, .ref aSn, .int (bI sv), .ref aAs, .ref aLg, .ref aPd, .int ml, .ref aCo, .ref aEa])), (aRo, .inl (y4.1, 151, .inl RO)), (aLg, .inl (y4.1, 64, .inl (m_X8_shine RO LG)))] H := hP
    have hD : va_D A [(aM, .inr (7, [.ref aRo, .ref aHi, .int ms, .ref aSn, .int (bI sv), .ref aAs, .ref aLg, .ref aPd, .int ml, .ref aCo, .ref aEa])), (aRo, .inl (y4.1, 151, .inl RO)), (aLg, .inl (y4.1, 64, .inl (m_X8_shine RO LG)))] := hD
    have hl : lv_has ls 3 [(2, .int (nI 64)), (1, .int t6), (0, .ref aM)] := hl
    refine lv_iload_n hx hb dX8_allLight_8 rfl (lv_at hl 0 rfl) ?_
    refine lv_bipush (v := 64) hx hb dX8_allLight_9 (by decide) ?_
    refine lv_icmp_ge (tgt := 29) hx hb dX8_allLight_11 (by decide) (fun c7 => ?_) (fun c7 => absurd (nI_le (a := 64) (by omega) (by omega)) c7)
    refine lv_iload_n hx hb dX8_allLight_29 rfl (lv_at hl 1 rfl) ?_
    have em : m_X8_allLight RO LG = t6 := (by subst et6; first | (simp only [m_X8_allLight]; done) | (unfold m_X8_allLight; rfl) | rfl)
    exact W.iret (v := t6) hx hb hr (fun t ht hW => ⟨⟨t6, (m_X8_shine RO LG), rfl, (by rw [em]), ⟨by rw [ht]; exact hP, by exact hD⟩⟩, hS.F ht⟩) hS.2.2 dX8_allLight_30
  · obtain ⟨hP, hD, hS, hl⟩ := hh
    have hP : va_P D vwCl [(aM, .inr (7, [.ref aRo, .ref aHi, .int ms, .ref aSn, .int (bI sv), .ref aAs, .ref aLg, .ref aPd, .int ml, .ref aCo, .ref aEa])), (aRo, .inl (y4.1, 151, .inl RO)), (aLg, .inl (y4.1, 64, .inl (m_X8_shine RO LG)))] H := hP
    have hD : va_D A [(aM, .inr (7, [.ref aRo, .ref aHi, .int ms, .ref aSn, .int (bI sv), .ref aAs, .ref aLg, .ref aPd, .int ml, .ref aCo, .ref aEa])), (aRo, .inl (y4.1, 151, .inl RO)), (aLg, .inl (y4.1, 64, .inl (m_X8_shine RO LG)))] := hD
    have hl : lv_has ls 3 [(2, .int (nI k2)), (1, .int t3), (0, .ref aM)] := hl
    refine lv_iload_n hx hb dX8_allLight_8 rfl (lv_at hl 0 rfl) ?_
    refine lv_bipush (v := 64) hx hb dX8_allLight_9 (by decide) ?_
    refine lv_icmp_ge (tgt := 29) hx hb dX8_allLight_11 (by decide) (fun c5 => absurd c5 (nI_ge (b := 64) (by omega) (by omega))) (fun c5 => ?_)
    refine lv_iload_n hx hb dX8_allLight_14 rfl (lv_at hl 1 rfl) ?_
    refine lv_aload_n hx hb dX8_allLight_15 rfl (lv_at hl 2 rfl) ?_
    refine va_get (ci := 7) (v := .ref aLg) (C := RX8) (T := TX8) (N := 11) hx hb hts iX8 hown hK hP 0 rfl rfl 6 (by decide) f22 (fun _ h9 => h9) rfl dX8_allLight_16 ?_
    refine lv_iload_n hx hb dX8_allLight_19 rfl (lv_at hl 0 rfl) ?_
    refine va_iald hx hb hK hP 2 0 rfl rfl (vp_in_nI (by omega) (by decide)) dX8_allLight_20 ?_
    refine lv_iadd hx hb dX8_allLight_21 ?_
    refine lv_istore_n (lv' := [(1, .int (t3 + ((m_X8_shine RO LG) (nI k2).toNatClampNeg))), (2, .int (nI k2)), (0, .ref aM)]) hx hb dX8_allLight_22 rfl hl (by decide) rfl (fun ls hl => ?_)
    refine lv_iinc (v := nI (k2 + 1)) (lv' := [(2, .int (nI (k2 + 1))), (1, .int (t3 + ((m_X8_shine RO LG) (nI k2).toNatClampNeg))), (0, .ref aM)]) hx hb dX8_allLight_23 hl (k := 1) rfl (nI_1 _) (by decide) rfl (fun ls hl => ?_)
    refine lv_goto (tgt := 8) hx hb dX8_allLight_26 (by decide) ?_
    have ef : (f_X8_allLight_8 RO LG) k2 t3 = t3 + ((m_X8_shine RO LG) (nI k2).toNatClampNeg) := (by first | (simp only [f_X8_allLight_8]; done) | (unfold f_X8_allLight_8; rfl) | rfl)
    rw [ef] at ihk2
    exact ihk2 H locs ls ⟨hP, hD, hS, lv_sub hl [0, 1, 2] rfl⟩
def f_X8_brightest_8 (RO : Nat → Int32) (LG : Nat → Int32) (k2 : Nat) (t3 : Int32) : (Int32 ⊕ Int32) ⊕ Int32 := (if ((m_X8_shine RO LG) (nI k2).toNatClampNeg) ≤ ((m_X8_shine RO LG) (t3).toNatClampNeg) then (.inr t3) else (.inr (nI k2)))
def m_X8_brightest (RO : Nat → Int32) (LG : Nat → Int32) : Int32 := (lpr (lpx (f_X8_brightest_8 RO LG) 63 1 (0 : Int32)) id (fun t10 => t10))
set_option maxHeartbeats 4000000 in
set_option maxRecDepth 100000 in
theorem met_X8_brightest (l : Launch) (D : va_G) (y4 : vT) (aM aRo aHi aSn aAs aLg aPd aCo aEa : Nat) (sz : Nat) (ms : Int32) (sv : Bool) (ml : Int32) (RO : Nat → Int32) (LG : Nat → Int32) (hM : MI RO) : Met l yX8_brightest wsX8_brightest ({ frames := 7, cells := 0, slots := 0, locals := 165 }) (va_Pc [.ref aM] (PreW D y4 [(aM, .inr (7, [.ref aRo, .ref aHi, .int ms, .ref aSn, .int (bI sv), .ref aAs, .ref aLg, .ref aPd, .int ml, .ref aCo, .ref aEa])), (aRo, .inl (y4.1, 151, .inl RO)), (aLg, .inl (y4.1, 64, .inl LG))] sz)) (va_Qi (fun (r : Int32) (_ : (Nat → Int32)) => r = (m_X8_brightest RO LG)) (fun u t => PostW D (va_A [(aM, .inr (7, [.ref aRo, .ref aHi, .int ms, .ref aSn, .int (bI sv), .ref aAs, .ref aLg, .ref aPd, .int ml, .ref aCo, .ref aEa])), (aRo, .inl (y4.1, 151, .inl RO)), (aLg, .inl (y4.1, 64, .inl LG))] sz) [(aM, .inr (7, [.ref aRo, .ref aHi, .int ms, .ref aSn, .int (bI sv), .ref aAs, .ref aLg, .ref aPd, .int ml, .ref aCo, .ref aEa])), (aRo, .inl (y4.1, 151, .inl RO)), (aLg, .inl (y4.1, 64, .inl u))] t) (va_A [(aM, .inr (7, [.ref aRo, .ref aHi, .int ms, .ref aSn, .int (bI sv), .ref aAs, .ref aLg, .ref aPd, .int ml, .ref aCo, .ref aEa])), (aRo, .inl (y4.1, 151, .inl RO)), (aLg, .inl (y4.1, 64, .inl LG))] sz)) 0 0 (va_A [(aM, .inr (7, [.ref aRo, .ref aHi, .int ms, .ref aSn, .int (bI sv), .ref aAs, .ref aLg, .ref aPd, .int ml, .ref aCo, .ref aEa])), (aRo, .inl (y4.1, 151, .inl RO)), (aLg, .inl (y4.1, 64, .inl LG))] sz) := by
  refine Met.ofW (cc := cX8_brightest) (maxL := 3) (ret := (some .int)) (by decide) rfl ?_
  intro p e s m args below meth c s₁ B hml hv
  obtain ⟨rfl, hsz, hP, hK, hD0, hNW⟩ := hv
  have hx := B.exec
  have hb := B.bytes
  have hr := B.returns
  have hts := atoms_spec (ws := wsX8_brightest) B.pre
  have hown : s.vm.findClass RX8 = some m.cls := findClass_of_methodNamed B.named
  have hlocks := B.notSynchronized
  subst hsz
  have hD := hD0.self (sz := s.heap.size)
  generalize hAe : va_A [(aM, .inr (7, [.ref aRo, .ref aHi, .int ms, .ref aSn, .int (bI sv), .ref aAs, .ref aLg, .ref aPd, .int ml, .ref aCo, .ref aEa])), (aRo, .inl (y4.1, 151, .inl RO)), (aLg, .inl (y4.1, 64, .inl LG))] s.heap.size = A at hD ⊢
  have hA : ∀ q : Nat, s.heap.size ≤ q → A q := fun q h => by rw [← hAe]; exact Or.inr h
  have hS : va_S A s.heap s.heap [] := va_S.rf
  have hl := lv_entry ([.ref aM]) (n := 3) (Nat.le_of_ble_eq_true rfl)
  rw [lg_entry_eq]
  generalize (lg_sl ([.ref aM]) ++ List.replicate (3 - (lg_sl ([.ref aM])).length) Slot.unset).toArray = ls at hl ⊢
  have hl : lv_has ls 3 [(0, .ref aM)] := hl
  have f22 := hts (.fieldLink RX8 22 "PillarLightModel" "light" "[I") (List.mem_of_getElem? (i := 1) rfl)
  have iX8 : ∀ w ∈ wsX80, w ∈ wsX8_brightest := fun _ h => List.mem_cons_of_mem _ (List.mem_append_right _ h)
  refine startW (fun H locs hP hS => ?_) hP hS
  refine lv_aload_n hx hb dX8_brightest_0 rfl (lv_at hl 0 rfl) ?_
  refine callW_v (wr := []) (wn := fun u => [(aM, .inr (7, [.ref aRo, .ref aHi, .int ms, .ref aSn, .int (bI sv), .ref aAs, .ref aLg, .ref aPd, .int ml, .ref aCo, .ref aEa])), (aRo, .inl (y4.1, 151, .inl RO)), (aLg, .inl (y4.1, 64, .inl (m_X8_shine RO LG)))]) (va_runV (As := []) (rest := []) ⟨hx, hb, hml, hown, hts⟩ (met_X8_shine l D y4 aM aRo aHi aSn aAs aLg aPd aCo aEa H.size ms sv ml RO LG hM) (cwV 0 hts gX8_brightest_X8_shine rfl rfl rfl (by decide +kernel) ⟨Nat.le_of_ble_eq_true rfl, Nat.le_of_ble_eq_true rfl⟩) ⟨preW_blind, va_recv hK hP (ci := 7) (q0 := 0) rfl rfl, preW_at (hP.sub (ws' := [(aM, .inr (7, [.ref aRo, .ref aHi, .int ms, .ref aSn, .int (bI sv), .ref aAs, .ref aLg, .ref aPd, .int ml, .ref aCo, .ref aEa])), (aRo, .inl (y4.1, 151, .inl RO)), (aLg, .inl (y4.1, 64, .inl LG))]) [0, 1, 2] rfl) hK (hD.sub (ws' := [(aM, .inr (7, [.ref aRo, .ref aHi, .int ms, .ref aSn, .int (bI sv), .ref aAs, .ref aLg, .ref aPd, .int ml, .ref aCo, .ref aEa])), (aRo, .inl (y4.1, 151, .inl RO)), (aLg, .inl (y4.1, 64, .inl LG))]) [0, 1, 2] (by decide) rfl) hNW⟩ rfl rfl hl.1 rfl (lv_room (Nat.le_of_ble_eq_true rfl)) dX8_brightest_1 ⟨Nat.zero_le _, Nat.zero_le _⟩) hP hD hS hA [0, 1, 2] [] [0, 1, 2] rfl rfl (by decide) (by decide) (fun _ => rfl) (by decide) (fun u1 H locs hw hP hD hS => ?_)
  have hP : va_P D vwCl [(aM, .inr (7, [.ref aRo, .ref aHi, .int ms, .ref aSn, .int (bI sv), .ref aAs, .ref aLg, .ref aPd, .int ml, .ref aCo, .ref aEa])), (aRo, .inl (y4.1, 151, .inl RO)), (aLg, .inl (y4.1, 64, .inl (m_X8_shine RO LG)))] H := hP
  have hD : va_D A [(aM, .inr (7, [.ref aRo, .ref aHi, .int ms, .ref aSn, .int (bI sv), .ref aAs, .ref aLg, .ref aPd, .int ml, .ref aCo, .ref aEa])), (aRo, .inl (y4.1, 151, .inl RO)), (aLg, .inl (y4.1, 64, .inl (m_X8_shine RO LG)))] := hD
  refine lv_iconst (v := 0) hx hb dX8_brightest_4 (by decide) ?_
  refine lv_istore_n (lv' := [(1, .int 0), (0, .ref aM)]) hx hb dX8_brightest_5 rfl hl (by decide) rfl (fun ls hl => ?_)
  refine lv_iconst (v := 1) hx hb dX8_brightest_6 (by decide) ?_
  refine lv_istore_n (lv' := [(2, .int 1), (1, .int 0), (0, .ref aM)]) hx hb dX8_brightest_7 rfl hl (by decide) rfl (fun ls hl => ?_)
  refine cutW (X := Int32) 41 (fun x H locs ls => ((lpx (f_X8_brightest_8 RO LG) 63 1 (0 : Int32)) = .inl (.inr x) ∨ (lpx (f_X8_brightest_8 RO LG) 63 1 (0 : Int32)) = .inr x) ∧ va_P D vwCl [(aM, .inr (7, [.ref aRo, .ref aHi, .int ms, .ref aSn, .int (bI sv), .ref aAs, .ref aLg, .ref aPd, .int ml, .ref aCo, .ref aEa])), (aRo, .inl (y4.1, 151, .inl RO)), (aLg, .inl (y4.1, 64, .inl (m_X8_shine RO LG)))] H ∧ va_D A [(aM, .inr (7, [.ref aRo, .ref aHi, .int ms, .ref aSn, .int (bI sv), .ref aAs, .ref aLg, .ref aPd, .int ml, .ref aCo, .ref aEa])), (aRo, .inl (y4.1, 151, .inl RO)), (aLg, .inl (y4.1, 64, .inl (m_X8_shine RO LG)))] ∧ va_S A s.heap H locs ∧ lv_has ls 3 [(1, .int x)]) (fun x => []) ?_ (fun K41 => ?_)
  · rintro t10 H locs ls ⟨et10, hP, hD, hS, hl⟩
    have hP : va_P D vwCl [(aM, .inr (7, [.ref aRo, .ref aHi, .int ms, .ref aSn, .int (bI sv), .ref aAs, .ref aLg, .ref aPd, .int ml, .ref aCo, .ref aEa])), (aRo, .inl (y4.1, 151, .inl RO)), (aLg, .inl (y4.1, 64, .inl (m_X8_shine RO LG)))] H := hP
    have hD : va_D A [(aM, .inr (7, [.ref aRo, .ref aHi, .int ms, .ref aSn, .int (bI sv), .ref aAs, .ref aLg, .ref aPd, .int ml, .ref aCo, .ref aEa])), (aRo, .inl (y4.1, 151, .inl RO)), (aLg, .inl (y4.1, 64, .inl (m_X8_shine RO LG)))] := hD
    have hl : lv_has ls 3 [(1, .int t10)] := hl
    refine lv_iload_n hx hb dX8_brightest_41 rfl (lv_at hl 0 rfl) ?_
    have em : m_X8_brightest RO LG = t10 := (by first | (simp only [m_X8_brightest, lpr_k et10]; done) | (simp only [m_X8_brightest, lpr_k et10]; rfl))
    exact W.iret (v := t10) hx hb hr (fun t ht hW => ⟨⟨t10, (m_X8_shine RO LG), rfl, (by rw [em]), ⟨by rw [ht]; exact hP, by exact hD⟩⟩, hS.F ht⟩) hS.2.2 dX8_brightest_42
  · refine loopX (σ := Int32) (ρ := Int32 ⊕ Int32) 8 (f_X8_brightest_8 RO LG) (fun _ t => vp_in t 64) 63 1 (0 : Int32) (fun k2 t3 H locs ls => va_P D vwCl [(aM, .inr (7, [.ref aRo, .ref aHi, .int ms, .ref aSn, .int (bI sv), .ref aAs, .ref aLg, .ref aPd, .int ml, .ref aCo, .ref aEa])), (aRo, .inl (y4.1, 151, .inl RO)), (aLg, .inl (y4.1, 64, .inl (m_X8_shine RO LG)))] H ∧ va_D A [(aM, .inr (7, [.ref aRo, .ref aHi, .int ms, .ref aSn, .int (bI sv), .ref aAs, .ref aLg, .ref aPd, .int ml, .ref aCo, .ref aEa])), (aRo, .inl (y4.1, 151, .inl RO)), (aLg, .inl (y4.1, 64, .inl (m_X8_shine RO LG)))] ∧ va_S A s.heap H locs ∧ lv_has ls 3 [(2, .int (nI k2)), (1, .int t3), (0, .ref aM)]) (vp_in_nI (n := 0) (by decide) (by decide)) ⟨hP, hD, hS, lv_sub hl [0, 1, 2] rfl⟩ (fun t8 H locs ls et8 hit8 hh => ?_) (fun k2 t3 hkk2 hjk2 hik2 hretk2 ihk2 H locs ls hh => ?_)
    · obtain ⟨hP, hD, hS, hl⟩ := hh
      have hP : va_P D vwCl [(aM, .inr (7, [.ref aRo, .ref aHi, .int ms, .ref aSn, .int (bI sv), .ref aAs, .ref aLg, .ref aPd, .int ml, .ref aCo, .ref aEa])), (aRo, .inl (y4.1, 151, .inl RO)), (aLg, .inl (y4.1, 64, .inl (m_X8_shine RO LG)))] H := hP
      have hD : va_D A [(aM, .inr (7, [.ref aRo, .ref aHi, .int ms, .ref aSn, .int (bI sv), .ref aAs, .ref aLg, .ref aPd, .int ml, .ref aCo, .ref aEa])), (aRo, .inl (y4.1, 151, .inl RO)), (aLg, .inl (y4.1, 64, .inl (m_X8_shine RO LG)))] := hD
      have hl : lv_has ls 3 [(2, .int (nI (1 + 63))), (1, .int t8), (0, .ref aM)] := hl
      refine lv_iload_n hx hb dX8_brightest_8 rfl (lv_at hl 0 rfl) ?_
      refine lv_bipush (v := 64) hx hb dX8_brightest_9 (by decide) ?_
      refine lv_icmp_ge (tgt := 41) hx hb dX8_brightest_11 (by decide) (fun c9 => ?_) (fun c9 => absurd (nI_le (a := 64) (by omega) (by omega)) c9)
      exact K41 t8 H locs ls ⟨Or.inr et8, hP, hD, hS, lv_sub hl [1] rfl⟩
    · obtain ⟨hP, hD, hS, hl⟩ := hh
      have hP : va_P D vwCl [(aM, .inr (7, [.ref aRo, .ref aHi, .int ms, .ref aSn, .int (bI sv), .ref aAs, .ref aLg, .ref aPd, .int ml, .ref aCo, .ref aEa])), (aRo, .inl (y4.1, 151, .inl RO)), (aLg, .inl (y4.1, 64, .inl (m_X8_shine RO LG)))] H := hP
      have hD : va_D A [(aM, .inr (7, [.ref aRo, .ref aHi, .int ms, .ref aSn, .int (bI sv), .ref aAs, .ref aLg, .ref aPd, .int ml, .ref aCo, .ref aEa])), (aRo, .inl (y4.1, 151, .inl RO)), (aLg, .inl (y4.1, 64, .inl (m_X8_shine RO LG)))] := hD
      have hl : lv_has ls 3 [(2, .int (nI k2)), (1, .int t3), (0, .ref aM)] := hl
      have hin : vp_in t3 64 := hik2
      refine lv_iload_n hx hb dX8_brightest_8 rfl (lv_at hl 0 rfl) ?_
      refine lv_bipush (v := 64) hx hb dX8_brightest_9 (by decide) ?_
      refine lv_icmp_ge (tgt := 41) hx hb dX8_brightest_11 (by decide) (fun c6 => absurd c6 (nI_ge (b := 64) (by omega) (by omega))) (fun c6 => ?_)
      refine lv_aload_n hx hb dX8_brightest_14 rfl (lv_at hl 2 rfl) ?_
      refine va_get (ci := 7) (v := .ref aLg) (C := RX8) (T := TX8) (N := 11) hx hb hts iX8 hown hK hP 0 rfl rfl 6 (by decide) f22 (fun _ h9 => h9) rfl dX8_brightest_15 ?_
      refine lv_iload_n hx hb dX8_brightest_18 rfl (lv_at hl 0 rfl) ?_
      refine va_iald hx hb hK hP 2 0 rfl rfl (vp_in_nI (by omega) (by decide)) dX8_brightest_19 ?_
      refine lv_aload_n hx hb dX8_brightest_20 rfl (lv_at hl 2 rfl) ?_
      refine va_get (ci := 7) (v := .ref aLg) (C := RX8) (T := TX8) (N := 11) hx hb hts iX8 hown hK hP 0 rfl rfl 6 (by decide) f22 (fun _ h9 => h9) rfl dX8_brightest_21 ?_
      refine lv_iload_n hx hb dX8_brightest_24 rfl (lv_at hl 1 rfl) ?_
      refine va_iald hx hb hK hP 2 0 rfl rfl (by first | assumption | exact vp_in_cmp (by assumption) (by assumption) (by decide)) dX8_brightest_25 ?_
      refine lv_icmp_le (tgt := 33) hx hb dX8_brightest_26 (by decide) (fun c7 => ?_) (fun c7 => ?_)
      · refine lv_iload_n hx hb dX8_brightest_33 rfl (lv_at hl 1 rfl) ?_
        refine lv_istore_n (lv' := [(1, .int t3), (2, .int (nI k2)), (0, .ref aM)]) hx hb dX8_brightest_34 rfl hl (by decide) rfl (fun ls hl => ?_)
        refine lv_iinc (v := nI (k2 + 1)) (lv' := [(2, .int (nI (k2 + 1))), (1, .int t3), (0, .ref aM)]) hx hb dX8_brightest_35 hl (k := 1) rfl (nI_1 _) (by decide) rfl (fun ls hl => ?_)
        refine lv_goto (tgt := 8) hx hb dX8_brightest_38 (by decide) ?_
        have ef : (f_X8_brightest_8 RO LG) k2 t3 = .inr t3 := (by first | (simp only [f_X8_brightest_8, if_pos c7]; done) | (simp only [f_X8_brightest_8, if_pos c7]; rfl))
        exact ihk2 _ ef (by show vp_in _ 64; first | assumption | exact vp_in_nI (by omega) (by decide)) H locs ls ⟨hP, hD, hS, lv_sub hl [0, 1, 2] rfl⟩
      · refine lv_iload_n hx hb dX8_brightest_29 rfl (lv_at hl 0 rfl) ?_
        refine lv_goto (tgt := 34) hx hb dX8_brightest_30 (by decide) ?_
        refine lv_istore_n (lv' := [(1, .int (nI k2)), (2, .int (nI k2)), (0, .ref aM)]) hx hb dX8_brightest_34 rfl hl (by decide) rfl (fun ls hl => ?_)
        refine lv_iinc (v := nI (k2 + 1)) (lv' := [(2, .int (nI (k2 + 1))), (1, .int (nI k2)), (0, .ref aM)]) hx hb dX8_brightest_35 hl (k := 1) rfl (nI_1 _) (by decide) rfl (fun ls hl => ?_)
        refine lv_goto (tgt := 8) hx hb dX8_brightest_38 (by decide) ?_
        have ef : (f_X8_brightest_8 RO LG) k2 t3 = .inr (nI k2) := (by first | (simp only [f_X8_brightest_8, if_neg c7]; done) | (simp only [f_X8_brightest_8, if_neg c7]; rfl))
        exact ihk2 _ ef (by show vp_in _ 64; first | assumption | exact vp_in_nI (by omega) (by decide)) H locs ls ⟨hP, hD, hS, lv_sub hl [0, 1, 2] rfl⟩
def f_X8_litWith_5 (RO : Nat → Int32) (LG : Nat → Int32) (at_ : Int32) (sr : Int32) (k1 : Nat) (t2 : Int32) : Int32 := (let v14 : Bool := (if (RO 149) ≤ (LG (nI k1).toNatClampNeg) then true else (if ((LG (nI k1).toNatClampNeg) + (m_X8_strengthAt at_ (nI k1) sr)) < (RO 149) then false else (if (m_X8_isFree RO at_ (nI k1)) = false then false else true))); t2 + (bI v14))
def m_X8_litWith (RO : Nat → Int32) (LG : Nat → Int32) (at_ : Int32) (sr : Int32) : Int32 := (let t15 : Int32 := itr (f_X8_litWith_5 RO LG at_ sr) 64 (0 : Int32); t15)
set_option maxHeartbeats 4000000 in
set_option maxRecDepth 100000 in
theorem met_X8_litWith (l : Launch) (D : va_G) (y4 : vT) (aM aRo aHi aSn aAs aLg aPd aCo aEa : Nat) (sz : Nat) (ms : Int32) (sv : Bool) (ml : Int32) (RO : Nat → Int32) (LG : Nat → Int32) (at_ : Int32) (sr : Int32) (hat : vp_in at_ 64) : Met l yX8_litWith wsX8_litWith ({ frames := 4, cells := 0, slots := 0, locals := 98 }) (va_Pc [.ref aM, .int at_, .int sr] (PreW D y4 [(aM, .inr (7, [.ref aRo, .ref aHi, .int ms, .ref aSn, .int (bI sv), .ref aAs, .ref aLg, .ref aPd, .int ml, .ref aCo, .ref aEa])), (aRo, .inl (y4.1, 151, .inl RO)), (aLg, .inl (y4.1, 64, .inl LG))] sz)) (va_Qi (fun (r : Int32) (_ : Unit) => r = (m_X8_litWith RO LG at_ sr)) (fun _ t => PostW D (va_A [(aM, .inr (7, [.ref aRo, .ref aHi, .int ms, .ref aSn, .int (bI sv), .ref aAs, .ref aLg, .ref aPd, .int ml, .ref aCo, .ref aEa])), (aRo, .inl (y4.1, 151, .inl RO)), (aLg, .inl (y4.1, 64, .inl LG))] sz) [(aM, .inr (7, [.ref aRo, .ref aHi, .int ms, .ref aSn, .int (bI sv), .ref aAs, .ref aLg, .ref aPd, .int ml, .ref aCo, .ref aEa])), (aRo, .inl (y4.1, 151, .inl RO)), (aLg, .inl (y4.1, 64, .inl LG))] t) (va_A [(aM, .inr (7, [.ref aRo, .ref aHi, .int ms, .ref aSn, .int (bI sv), .ref aAs, .ref aLg, .ref aPd, .int ml, .ref aCo, .ref aEa])), (aRo, .inl (y4.1, 151, .inl RO)), (aLg, .inl (y4.1, 64, .inl LG))] sz)) 0 0 (va_A [(aM, .inr (7, [.ref aRo, .ref aHi, .int ms, .ref aSn, .int (bI sv), .ref aAs, .ref aLg, .ref aPd, .int ml, .ref aCo, .ref aEa])), (aRo, .inl (y4.1, 151, .inl RO)), (aLg, .inl (y4.1, 64, .inl LG))] sz) := by
  refine Met.ofW (cc := cX8_litWith) (maxL := 6) (ret := (some .int)) (by decide) rfl ?_
  intro p e s m args below meth c s₁ B hml hv
  obtain ⟨rfl, hsz, hP, hK, hD0, hNW⟩ := hv
  have hx := B.exec
  have hb := B.bytes
  have hr := B.returns
  have hts := atoms_spec (ws := wsX8_litWith) B.pre
  have hown : s.vm.findClass RX8 = some m.cls := findClass_of_methodNamed B.named
  have hlocks := B.notSynchronized
  subst hsz
  have hD := hD0.self (sz := s.heap.size)
  generalize hAe : va_A [(aM, .inr (7, [.ref aRo, .ref aHi, .int ms, .ref aSn, .int (bI sv), .ref aAs, .ref aLg, .ref aPd, .int ml, .ref aCo, .ref aEa])), (aRo, .inl (y4.1, 151, .inl RO)), (aLg, .inl (y4.1, 64, .inl LG))] s.heap.size = A at hD ⊢
  have hA : ∀ q : Nat, s.heap.size ≤ q → A q := fun q h => by rw [← hAe]; exact Or.inr h
  have hS : va_S A s.heap s.heap [] := va_S.rf
  have hl := lv_entry ([.ref aM, .int at_, .int sr]) (n := 6) (Nat.le_of_ble_eq_true rfl)
  rw [lg_entry_eq]
  generalize (lg_sl ([.ref aM, .int at_, .int sr]) ++ List.replicate (6 - (lg_sl ([.ref aM, .int at_, .int sr])).length) Slot.unset).toArray = ls at hl ⊢
  have hl : lv_has ls 6 [(0, .ref aM), (1, .int at_), (2, .int sr)] := hl
  have f22 := hts (.fieldLink RX8 22 "PillarLightModel" "light" "[I") (List.mem_of_getElem? (i := 1) rfl)
  have iX8 : ∀ w ∈ wsX80, w ∈ wsX8_litWith := fun _ h => List.mem_cons_of_mem _ (List.mem_append_right _ h)
  have f7 := hts (.fieldLink RX8 7 "PillarLightModel" "row" "[I") (List.mem_of_getElem? (i := 2) rfl)
  refine startW (fun H locs hP hS => ?_) hP hS
  refine lv_iconst (v := 0) hx hb dX8_litWith_0 (by decide) ?_
  refine lv_istore_n (lv' := [(3, .int 0), (0, .ref aM), (1, .int at_), (2, .int sr)]) hx hb dX8_litWith_1 rfl hl (by decide) rfl (fun ls hl => ?_)
  refine lv_iconst (v := 0) hx hb dX8_litWith_2 (by decide) ?_
  refine lv_istore (lv' := [(4, .int 0), (3, .int 0), (0, .ref aM), (1, .int at_), (2, .int sr)]) hx hb dX8_litWith_3 hl (by decide) rfl (fun ls hl => ?_)
  refine loopW (σ := Int32) 5 (f_X8_litWith_5 RO LG at_ sr) 64 (0 : Int32) (fun k1 t2 H locs ls => va_P D vwCl [(aM, .inr (7, [.ref aRo, .ref aHi, .int ms, .ref aSn, .int (bI sv), .ref aAs, .ref aLg, .ref aPd, .int ml, .ref aCo, .ref aEa])), (aRo, .inl (y4.1, 151, .inl RO)), (aLg, .inl (y4.1, 64, .inl LG))] H ∧ va_D A [(aM, .inr (7, [.ref aRo, .ref aHi, .int ms, .ref aSn, .int (bI sv), .ref aAs, .ref aLg, .ref aPd, .int ml, .ref aCo, .ref aEa])), (aRo, .inl (y4.1, 151, .inl RO)), (aLg, .inl (y4.1, 64, .inl LG))] ∧ va_S A s.heap H locs ∧ lv_has ls 6 [(4, .int (nI k1)), (3, .int t2), (0, .ref aM), (1, .int at_), (2, .int sr)]) ⟨hP, hD, hS, lv_sub hl [0, 1, 2, 3, 4] rfl⟩ (fun t15 H locs ls et15 hh => ?_) (fun k1 t2 hkk1 hek1 ihk1 H locs ls hh => ?_)
  · obtain ⟨hP, hD, hS, hl⟩ := hh
    have hP : va_P D vwCl [(aM, .inr (7, [.ref aRo, .ref aHi, .int ms, .ref aSn, .int (bI sv), .ref aAs, .ref aLg, .ref aPd, .int ml, .ref aCo, .ref aEa])), (aRo, .inl (y4.1, 151, .inl RO)), (aLg, .inl (y4.1, 64, .inl LG))] H := hP
    have hD : va_D A [(aM, .inr (7, [.ref aRo, .ref aHi, .int ms, .ref aSn, .int (bI sv), .ref aAs, .ref aLg, .ref aPd, .int ml, .ref aCo, .ref aEa])), (aRo, .inl (y4.1, 151, .inl RO)), (aLg, .inl (y4.1, 64, .inl LG))] := hD
    have hl : lv_has ls 6 [(4, .int (nI 64)), (3, .int t15), (0, .ref aM), (1, .int at_), (2, .int sr)] := hl
    refine lv_iload hx hb dX8_litWith_5 (lv_at hl 0 rfl) ?_
    refine lv_bipush (v := 64) hx hb dX8_litWith_7 (by decide) ?_
    refine lv_icmp_ge (tgt := 84) hx hb dX8_litWith_9 (by decide) (fun c16 => ?_) (fun c16 => absurd (nI_le (a := 64) (by omega) (by omega)) c16)
    refine lv_iload_n hx hb dX8_litWith_84 rfl (lv_at hl 1 rfl) ?_
    have em : m_X8_litWith RO LG at_ sr = t15 := (by subst et15; first | (simp only [m_X8_litWith]; done) | (unfold m_X8_litWith; rfl) | rfl)
    exact W.iret (v := t15) hx hb hr (fun t ht hW => ⟨⟨t15, (), rfl, (by rw [em]), ⟨by rw [ht]; exact hP, by exact hD⟩⟩, hS.F ht⟩) hS.2.2 dX8_litWith_85
  · obtain ⟨hP, hD, hS, hl⟩ := hh
    have hP : va_P D vwCl [(aM, .inr (7, [.ref aRo, .ref aHi, .int ms, .ref aSn, .int (bI sv), .ref aAs, .ref aLg, .ref aPd, .int ml, .ref aCo, .ref aEa])), (aRo, .inl (y4.1, 151, .inl RO)), (aLg, .inl (y4.1, 64, .inl LG))] H := hP
    have hD : va_D A [(aM, .inr (7, [.ref aRo, .ref aHi, .int ms, .ref aSn, .int (bI sv), .ref aAs, .ref aLg, .ref aPd, .int ml, .ref aCo, .ref aEa])), (aRo, .inl (y4.1, 151, .inl RO)), (aLg, .inl (y4.1, 64, .inl LG))] := hD
    have hl : lv_has ls 6 [(4, .int (nI k1)), (3, .int t2), (0, .ref aM), (1, .int at_), (2, .int sr)] := hl
    refine lv_iload hx hb dX8_litWith_5 (lv_at hl 0 rfl) ?_
    refine lv_bipush (v := 64) hx hb dX8_litWith_7 (by decide) ?_
    refine lv_icmp_ge (tgt := 84) hx hb dX8_litWith_9 (by decide) (fun c9 => absurd c9 (nI_ge (b := 64) (by omega) (by omega))) (fun c9 => ?_)
    refine lv_iload_n hx hb dX8_litWith_12 rfl (lv_at hl 3 rfl) ?_
    refine lv_iload hx hb dX8_litWith_13 (lv_at hl 0 rfl) ?_
    refine lv_iload_n hx hb dX8_litWith_15 rfl (lv_at hl 4 rfl) ?_
    refine callK_i (va_runS (As := [.int at_, .int (nI k1), .int sr]) (rest := []) ⟨hx, hb, hml, hown, hts⟩ (met_X8_strengthAt l  at_ (nI k1) sr hat (vp_in_nI (by omega) (by decide))) (va_cwS 3 hts gX8_litWith_X8_strengthAt rfl rfl rfl (by decide +kernel) ⟨Nat.le_of_ble_eq_true rfl, Nat.le_of_ble_eq_true rfl⟩) ⟨preS_blind, fun U hU hW => ⟨rfl, trivial⟩⟩ rfl rfl hl.1 rfl (lv_room (Nat.le_of_ble_eq_true rfl)) dX8_litWith_16 ⟨Nat.zero_le _, Nat.zero_le _⟩) hP hS (fun r u H locs hw hP hS => ?_)
    subst hw
    refine lv_istore (lv' := [(5, .int (m_X8_strengthAt at_ (nI k1) sr)), (4, .int (nI k1)), (3, .int t2), (0, .ref aM), (1, .int at_), (2, .int sr)]) hx hb dX8_litWith_19 hl (by decide) rfl (fun ls hl => ?_)
    refine lv_iload_n hx hb dX8_litWith_21 rfl (lv_at hl 2 rfl) ?_
    refine lv_aload_n hx hb dX8_litWith_22 rfl (lv_at hl 3 rfl) ?_
    refine va_get (ci := 7) (v := .ref aLg) (C := RX8) (T := TX8) (N := 11) hx hb hts iX8 hown hK hP 0 rfl rfl 6 (by decide) f22 (fun _ h9 => h9) rfl dX8_litWith_23 ?_
    refine lv_iload hx hb dX8_litWith_26 (lv_at hl 1 rfl) ?_
    refine va_iald hx hb hK hP 2 0 rfl rfl (vp_in_nI (by omega) (by decide)) dX8_litWith_28 ?_
    refine lv_aload_n hx hb dX8_litWith_29 rfl (lv_at hl 3 rfl) ?_
    refine va_get (ci := 7) (v := .ref aRo) (C := RX8) (T := TX8) (N := 11) hx hb hts iX8 hown hK hP 0 rfl rfl 0 (by decide) f7 (fun _ h9 => h9) rfl dX8_litWith_30 ?_
    refine lv_sipush (v := 149) hx hb dX8_litWith_33 (by decide) ?_
    refine va_iald hx hb hK hP 1 0 rfl rfl (vp_in_nI (n := 149) (by decide) (by decide)) dX8_litWith_36 ?_
    refine W.ofeqi (y := RO 149) (congrArg RO (by decide : (149 : Int32).toNatClampNeg = 149)) ?_
    refine cutW (X := Bool) 76 (fun x H locs ls => x = (if (RO 149) ≤ (LG (nI k1).toNatClampNeg) then true else (if ((LG (nI k1).toNatClampNeg) + (m_X8_strengthAt at_ (nI k1) sr)) < (RO 149) then false else (if (m_X8_isFree RO at_ (nI k1)) = false then false else true))) ∧ va_P D vwCl [(aM, .inr (7, [.ref aRo, .ref aHi, .int ms, .ref aSn, .int (bI sv), .ref aAs, .ref aLg, .ref aPd, .int ml, .ref aCo, .ref aEa])), (aRo, .inl (y4.1, 151, .inl RO)), (aLg, .inl (y4.1, 64, .inl LG))] H ∧ va_D A [(aM, .inr (7, [.ref aRo, .ref aHi, .int ms, .ref aSn, .int (bI sv), .ref aAs, .ref aLg, .ref aPd, .int ml, .ref aCo, .ref aEa])), (aRo, .inl (y4.1, 151, .inl RO)), (aLg, .inl (y4.1, 64, .inl LG))] ∧ va_S A s.heap H locs ∧ lv_has ls 6 [(4, .int (nI k1)), (0, .ref aM), (1, .int at_), (2, .int sr)]) (fun x => [.int (bI x), .int t2]) ?_ (fun K76 => ?_)
    · rintro v14 H locs ls ⟨ev14, hP, hD, hS, hl⟩
      have ev14 : v14 = (if (RO 149) ≤ (LG (nI k1).toNatClampNeg) then true else (if ((LG (nI k1).toNatClampNeg) + (m_X8_strengthAt at_ (nI k1) sr)) < (RO 149) then false else (if (m_X8_isFree RO at_ (nI k1)) = false then false else true))) := ev14
      have hP : va_P D vwCl [(aM, .inr (7, [.ref aRo, .ref aHi, .int ms, .ref aSn, .int (bI sv), .ref aAs, .ref aLg, .ref aPd, .int ml, .ref aCo, .ref aEa])), (aRo, .inl (y4.1, 151, .inl RO)), (aLg, .inl (y4.1, 64, .inl LG))] H := hP
      have hD : va_D A [(aM, .inr (7, [.ref aRo, .ref aHi, .int ms, .ref aSn, .int (bI sv), .ref aAs, .ref aLg, .ref aPd, .int ml, .ref aCo, .ref aEa])), (aRo, .inl (y4.1, 151, .inl RO)), (aLg, .inl (y4.1, 64, .inl LG))] := hD
      have hl : lv_has ls 6 [(4, .int (nI k1)), (0, .ref aM), (1, .int at_), (2, .int sr)] := hl
      refine lv_iadd hx hb dX8_litWith_76 ?_
      refine lv_istore_n (lv' := [(3, .int (t2 + (bI v14))), (4, .int (nI k1)), (0, .ref aM), (1, .int at_), (2, .int sr)]) hx hb dX8_litWith_77 rfl hl (by decide) rfl (fun ls hl => ?_)
      refine lv_iinc (v := nI (k1 + 1)) (lv' := [(4, .int (nI (k1 + 1))), (3, .int (t2 + (bI v14))), (0, .ref aM), (1, .int at_), (2, .int sr)]) hx hb dX8_litWith_78 hl (k := 1) rfl (nI_1 _) (by decide) rfl (fun ls hl => ?_)
      refine lv_goto (tgt := 5) hx hb dX8_litWith_81 (by decide) ?_
      have ef : (f_X8_litWith_5 RO LG at_ sr) k1 t2 = t2 + (bI v14) := (by subst ev14; first | (simp only [f_X8_litWith_5]; done) | (unfold f_X8_litWith_5; rfl) | rfl)
      rw [ef] at ihk1
      exact ihk1 H locs ls ⟨hP, hD, hS, lv_sub hl [0, 1, 2, 3, 4] rfl⟩
    · refine lv_icmp_ge (tgt := 71) hx hb dX8_litWith_37 (by decide) (fun c10 => ?_) (fun c10 => ?_)
      · refine lv_iconst (v := 1) hx hb dX8_litWith_71 (by decide) ?_
        refine lv_goto (tgt := 76) hx hb dX8_litWith_72 (by decide) ?_
        exact K76 true H locs ls ⟨(by first | (simp only [if_pos c10]; done) | (simp only [if_pos c10]; rfl) | rfl), hP, hD, hS, lv_sub hl [1, 3, 4, 5] rfl⟩
      · refine lv_aload_n hx hb dX8_litWith_40 rfl (lv_at hl 3 rfl) ?_
        refine va_get (ci := 7) (v := .ref aLg) (C := RX8) (T := TX8) (N := 11) hx hb hts iX8 hown hK hP 0 rfl rfl 6 (by decide) f22 (fun _ h9 => h9) rfl dX8_litWith_41 ?_
        refine lv_iload hx hb dX8_litWith_44 (lv_at hl 1 rfl) ?_
        refine va_iald hx hb hK hP 2 0 rfl rfl (vp_in_nI (by omega) (by decide)) dX8_litWith_46 ?_
        refine lv_iload hx hb dX8_litWith_47 (lv_at hl 0 rfl) ?_
        refine lv_iadd hx hb dX8_litWith_49 ?_
        refine lv_aload_n hx hb dX8_litWith_50 rfl (lv_at hl 3 rfl) ?_
        refine va_get (ci := 7) (v := .ref aRo) (C := RX8) (T := TX8) (N := 11) hx hb hts iX8 hown hK hP 0 rfl rfl 0 (by decide) f7 (fun _ h9 => h9) rfl dX8_litWith_51 ?_
        refine lv_sipush (v := 149) hx hb dX8_litWith_54 (by decide) ?_
        refine va_iald hx hb hK hP 1 0 rfl rfl (vp_in_nI (n := 149) (by decide) (by decide)) dX8_litWith_57 ?_
        refine W.ofeqi (y := RO 149) (congrArg RO (by decide : (149 : Int32).toNatClampNeg = 149)) ?_
        refine lv_icmp_lt (tgt := 75) hx hb dX8_litWith_58 (by decide) (fun c11 => ?_) (fun c11 => ?_)
        · refine lv_iconst (v := 0) hx hb dX8_litWith_75 (by decide) ?_
          exact K76 false H locs ls ⟨(by first | (simp only [if_neg c10, if_pos c11]; done) | (simp only [if_neg c10, if_pos c11]; rfl) | rfl), hP, hD, hS, lv_sub hl [1, 3, 4, 5] rfl⟩
        · refine lv_aload_n hx hb dX8_litWith_61 rfl (lv_at hl 3 rfl) ?_
          refine lv_iload_n hx hb dX8_litWith_62 rfl (lv_at hl 4 rfl) ?_
          refine lv_iload hx hb dX8_litWith_63 (lv_at hl 1 rfl) ?_
          refine callW_i (wr := [(aLg, .inl (y4.1, 64, .inl LG))]) (wn := fun u => [(aM, .inr (7, [.ref aRo, .ref aHi, .int ms, .ref aSn, .int (bI sv), .ref aAs, .ref aLg, .ref aPd, .int ml, .ref aCo, .ref aEa])), (aRo, .inl (y4.1, 151, .inl RO)), (aLg, .inl (y4.1, 64, .inl LG))]) (va_runV (As := [.int at_, .int (nI k1)]) (rest := [.int t2]) ⟨hx, hb, hml, hown, hts⟩ (met_X8_isFree l D y4 aM aRo aHi aSn aAs aLg aPd aCo aEa H.size ms sv ml RO at_ (nI k1) hat (vp_in_nI (by omega) (by decide))) (cwV 2 hts gX8_litWith_X8_isFree rfl rfl rfl (by decide +kernel) ⟨Nat.le_of_ble_eq_true rfl, Nat.le_of_ble_eq_true rfl⟩) ⟨preW_blind, va_recv hK hP (ci := 7) (q0 := 0) rfl rfl, preW_at (hP.sub (ws' := [(aM, .inr (7, [.ref aRo, .ref aHi, .int ms, .ref aSn, .int (bI sv), .ref aAs, .ref aLg, .ref aPd, .int ml, .ref aCo, .ref aEa])), (aRo, .inl (y4.1, 151, .inl RO))]) [0, 1] rfl) hK (hD.sub (ws' := [(aM, .inr (7, [.ref aRo, .ref aHi, .int ms, .ref aSn, .int (bI sv), .ref aAs, .ref aLg, .ref aPd, .int ml, .ref aCo, .ref aEa])), (aRo, .inl (y4.1, 151, .inl RO))]) [0, 1] (by decide) rfl) hNW⟩ rfl rfl hl.1 rfl (lv_room (Nat.le_of_ble_eq_true rfl)) dX8_litWith_65 ⟨Nat.zero_le _, Nat.zero_le _⟩) hP hD hS hA [0, 1] [2] [1, 2, 0] rfl rfl (by decide) (by decide) (fun _ => rfl) (by decide) (fun r u12 H locs hw hP hD hS => ?_)
          subst hw
          have hP : va_P D vwCl [(aM, .inr (7, [.ref aRo, .ref aHi, .int ms, .ref aSn, .int (bI sv), .ref aAs, .ref aLg, .ref aPd, .int ml, .ref aCo, .ref aEa])), (aRo, .inl (y4.1, 151, .inl RO)), (aLg, .inl (y4.1, 64, .inl LG))] H := hP
          have hD : va_D A [(aM, .inr (7, [.ref aRo, .ref aHi, .int ms, .ref aSn, .int (bI sv), .ref aAs, .ref aLg, .ref aPd, .int ml, .ref aCo, .ref aEa])), (aRo, .inl (y4.1, 151, .inl RO)), (aLg, .inl (y4.1, 64, .inl LG))] := hD
          refine lb_if_eq (tgt := 75) hx hb dX8_litWith_68 (by decide) (fun c13 => ?_) (fun c13 => ?_)
          · refine lv_iconst (v := 0) hx hb dX8_litWith_75 (by decide) ?_
            exact K76 false H locs ls ⟨(by first | (simp only [if_neg c10, if_neg c11, if_pos c13]; done) | (simp only [if_neg c10, if_neg c11, if_pos c13]; rfl) | rfl), hP, hD, hS, lv_sub hl [1, 3, 4, 5] rfl⟩
          · refine lv_iconst (v := 1) hx hb dX8_litWith_71 (by decide) ?_
            refine lv_goto (tgt := 76) hx hb dX8_litWith_72 (by decide) ?_
            exact K76 true H locs ls ⟨(by first | (simp only [if_neg c10, if_neg c11, if_neg c13]; done) | (simp only [if_neg c10, if_neg c11, if_neg c13]; rfl) | rfl), hP, hD, hS, lv_sub hl [1, 3, 4, 5] rfl⟩
def f_X8_bestLamp_24 (RO : Nat → Int32) (LG : Nat → Int32) (sr : Int32) (k3 : Nat) (t4 : Int32 × Int32) : Int32 × Int32 := (let v18 : Int32 := (if (m_X8_mayShine RO (nI k3)) = false then (-1 : Int32) else (m_X8_litWith RO (m_X8_shine RO LG) (nI k3) sr)); (let v20 : Int32 := (if v18 ≤ t4.1 then t4.2 else nI k3); (let v22 : Int32 := (if v18 ≤ t4.1 then t4.1 else v18); (v22, v20))))
def m_X8_bestLamp (RO : Nat → Int32) (LG : Nat → Int32) (sr : Int32) : Int32 := (if (m_X8_in sr 1 9) = false then (-1 : Int32) else (let t23 : Int32 × Int32 := itr (f_X8_bestLamp_24 RO LG sr) 64 ((-1 : Int32), (-4 : Int32)); t23.2))
set_option maxHeartbeats 4000000 in
set_option maxRecDepth 100000 in
theorem met_X8_bestLamp (l : Launch) (D : va_G) (y4 : vT) (aM aRo aHi aSn aAs aLg aPd aCo aEa : Nat) (sz : Nat) (ms : Int32) (sv : Bool) (ml : Int32) (RO : Nat → Int32) (LG : Nat → Int32) (sr : Int32) (hM : MI RO) : Met l yX8_bestLamp wsX8_bestLamp ({ frames := 7, cells := 0, slots := 0, locals := 165 }) (va_Pc [.ref aM, .int sr] (PreW D y4 [(aM, .inr (7, [.ref aRo, .ref aHi, .int ms, .ref aSn, .int (bI sv), .ref aAs, .ref aLg, .ref aPd, .int ml, .ref aCo, .ref aEa])), (aRo, .inl (y4.1, 151, .inl RO)), (aLg, .inl (y4.1, 64, .inl LG))] sz)) (va_Qi (fun (r : Int32) (_ : (Nat → Int32)) => r = (m_X8_bestLamp RO LG sr)) (fun u t => PostW D (va_A [(aM, .inr (7, [.ref aRo, .ref aHi, .int ms, .ref aSn, .int (bI sv), .ref aAs, .ref aLg, .ref aPd, .int ml, .ref aCo, .ref aEa])), (aRo, .inl (y4.1, 151, .inl RO)), (aLg, .inl (y4.1, 64, .inl LG))] sz) [(aM, .inr (7, [.ref aRo, .ref aHi, .int ms, .ref aSn, .int (bI sv), .ref aAs, .ref aLg, .ref aPd, .int ml, .ref aCo, .ref aEa])), (aRo, .inl (y4.1, 151, .inl RO)), (aLg, .inl (y4.1, 64, .inl u))] t) (va_A [(aM, .inr (7, [.ref aRo, .ref aHi, .int ms, .ref aSn, .int (bI sv), .ref aAs, .ref aLg, .ref aPd, .int ml, .ref aCo, .ref aEa])), (aRo, .inl (y4.1, 151, .inl RO)), (aLg, .inl (y4.1, 64, .inl LG))] sz)) 0 0 (va_A [(aM, .inr (7, [.ref aRo, .ref aHi, .int ms, .ref aSn, .int (bI sv), .ref aAs, .ref aLg, .ref aPd, .int ml, .ref aCo, .ref aEa])), (aRo, .inl (y4.1, 151, .inl RO)), (aLg, .inl (y4.1, 64, .inl LG))] sz) := by
  refine Met.ofW (cc := cX8_bestLamp) (maxL := 6) (ret := (some .int)) (by decide) rfl ?_
  intro p e s m args below meth c s₁ B hml hv
  obtain ⟨rfl, hsz, hP, hK, hD0, hNW⟩ := hv
  have hx := B.exec
  have hb := B.bytes
  have hr := B.returns
  have hts := atoms_spec (ws := wsX8_bestLamp) B.pre
  have hown : s.vm.findClass RX8 = some m.cls := findClass_of_methodNamed B.named
  have hlocks := B.notSynchronized
  subst hsz
  have hD := hD0.self (sz := s.heap.size)
  generalize hAe : va_A [(aM, .inr (7, [.ref aRo, .ref aHi, .int ms, .ref aSn, .int (bI sv), .ref aAs, .ref aLg, .ref aPd, .int ml, .ref aCo, .ref aEa])), (aRo, .inl (y4.1, 151, .inl RO)), (aLg, .inl (y4.1, 64, .inl LG))] s.heap.size = A at hD ⊢
  have hA : ∀ q : Nat, s.heap.size ≤ q → A q := fun q h => by rw [← hAe]; exact Or.inr h
  have hS : va_S A s.heap s.heap [] := va_S.rf
  have hl := lv_entry ([.ref aM, .int sr]) (n := 6) (Nat.le_of_ble_eq_true rfl)
  rw [lg_entry_eq]
  generalize (lg_sl ([.ref aM, .int sr]) ++ List.replicate (6 - (lg_sl ([.ref aM, .int sr])).length) Slot.unset).toArray = ls at hl ⊢
  have hl : lv_has ls 6 [(0, .ref aM), (1, .int sr)] := hl
  refine startW (fun H locs hP hS => ?_) hP hS
  refine lv_iload_n hx hb dX8_bestLamp_0 rfl (lv_at hl 1 rfl) ?_
  refine lv_iconst (v := 1) hx hb dX8_bestLamp_1 (by decide) ?_
  refine lv_bipush (v := 9) hx hb dX8_bestLamp_2 (by decide) ?_
  refine callK_i (va_runS (As := [.int sr, .int 1, .int 9]) (rest := []) ⟨hx, hb, hml, hown, hts⟩ (met_X8_in l  sr 1 9) (va_cwS 3 hts gX8_bestLamp_X8_in rfl rfl rfl (by decide +kernel) ⟨Nat.le_of_ble_eq_true rfl, Nat.le_of_ble_eq_true rfl⟩) ⟨preS_blind, fun U hU hW => ⟨rfl, trivial⟩⟩ rfl rfl hl.1 rfl (lv_room (Nat.le_of_ble_eq_true rfl)) dX8_bestLamp_4 ⟨Nat.zero_le _, Nat.zero_le _⟩) hP hS (fun r u H locs hw hP hS => ?_)
  subst hw
  refine lb_if_ne (tgt := 12) hx hb dX8_bestLamp_7 (by decide) (fun c1 => ?_) (fun c1 => ?_)
  · refine lv_aload_n hx hb dX8_bestLamp_12 rfl (lv_at hl 0 rfl) ?_
    refine callW_v (wr := []) (wn := fun u => [(aM, .inr (7, [.ref aRo, .ref aHi, .int ms, .ref aSn, .int (bI sv), .ref aAs, .ref aLg, .ref aPd, .int ml, .ref aCo, .ref aEa])), (aRo, .inl (y4.1, 151, .inl RO)), (aLg, .inl (y4.1, 64, .inl (m_X8_shine RO LG)))]) (va_runV (As := []) (rest := []) ⟨hx, hb, hml, hown, hts⟩ (met_X8_shine l D y4 aM aRo aHi aSn aAs aLg aPd aCo aEa H.size ms sv ml RO LG hM) (cwV 0 hts gX8_bestLamp_X8_shine rfl rfl rfl (by decide +kernel) ⟨Nat.le_of_ble_eq_true rfl, Nat.le_of_ble_eq_true rfl⟩) ⟨preW_blind, va_recv hK hP (ci := 7) (q0 := 0) rfl rfl, preW_at (hP.sub (ws' := [(aM, .inr (7, [.ref aRo, .ref aHi, .int ms, .ref aSn, .int (bI sv), .ref aAs, .ref aLg, .ref aPd, .int ml, .ref aCo, .ref aEa])), (aRo, .inl (y4.1, 151, .inl RO)), (aLg, .inl (y4.1, 64, .inl LG))]) [0, 1, 2] rfl) hK (hD.sub (ws' := [(aM, .inr (7, [.ref aRo, .ref aHi, .int ms, .ref aSn, .int (bI sv), .ref aAs, .ref aLg, .ref aPd, .int ml, .ref aCo, .ref aEa])), (aRo, .inl (y4.1, 151, .inl RO)), (aLg, .inl (y4.1, 64, .inl LG))]) [0, 1, 2] (by decide) rfl) hNW⟩ rfl rfl hl.1 rfl (lv_room (Nat.le_of_ble_eq_true rfl)) dX8_bestLamp_13 ⟨Nat.zero_le _, Nat.zero_le _⟩) hP hD hS hA [0, 1, 2] [] [0, 1, 2] rfl rfl (by decide) (by decide) (fun _ => rfl) (by decide) (fun u2 H locs hw hP hD hS => ?_)
    have hP : va_P D vwCl [(aM, .inr (7, [.ref aRo, .ref aHi, .int ms, .ref aSn, .int (bI sv), .ref aAs, .ref aLg, .ref aPd, .int ml, .ref aCo, .ref aEa])), (aRo, .inl (y4.1, 151, .inl RO)), (aLg, .inl (y4.1, 64, .inl (m_X8_shine RO LG)))] H := hP
    have hD : va_D A [(aM, .inr (7, [.ref aRo, .ref aHi, .int ms, .ref aSn, .int (bI sv), .ref aAs, .ref aLg, .ref aPd, .int ml, .ref aCo, .ref aEa])), (aRo, .inl (y4.1, 151, .inl RO)), (aLg, .inl (y4.1, 64, .inl (m_X8_shine RO LG)))] := hD
    refine lv_bipush (v := (-4)) hx hb dX8_bestLamp_16 (by decide) ?_
    refine lv_istore_n (lv' := [(2, .int (-4)), (0, .ref aM), (1, .int sr)]) hx hb dX8_bestLamp_18 rfl hl (by decide) rfl (fun ls hl => ?_)
    refine lv_iconst (v := (-1)) hx hb dX8_bestLamp_19 (by decide) ?_
    refine lv_istore_n (lv' := [(3, .int (-1)), (2, .int (-4)), (0, .ref aM), (1, .int sr)]) hx hb dX8_bestLamp_20 rfl hl (by decide) rfl (fun ls hl => ?_)
    refine lv_iconst (v := 0) hx hb dX8_bestLamp_21 (by decide) ?_
    refine lv_istore (lv' := [(4, .int 0), (3, .int (-1)), (2, .int (-4)), (0, .ref aM), (1, .int sr)]) hx hb dX8_bestLamp_22 hl (by decide) rfl (fun ls hl => ?_)
    refine loopW (σ := Int32 × Int32) 24 (f_X8_bestLamp_24 RO LG sr) 64 ((-1 : Int32), (-4 : Int32)) (fun k3 t4 H locs ls => va_P D vwCl [(aM, .inr (7, [.ref aRo, .ref aHi, .int ms, .ref aSn, .int (bI sv), .ref aAs, .ref aLg, .ref aPd, .int ml, .ref aCo, .ref aEa])), (aRo, .inl (y4.1, 151, .inl RO)), (aLg, .inl (y4.1, 64, .inl (m_X8_shine RO LG)))] H ∧ va_D A [(aM, .inr (7, [.ref aRo, .ref aHi, .int ms, .ref aSn, .int (bI sv), .ref aAs, .ref aLg, .ref aPd, .int ml, .ref aCo, .ref aEa])), (aRo, .inl (y4.1, 151, .inl RO)), (aLg, .inl (y4.1, 64, .inl (m_X8_shine RO LG)))] ∧ va_S A s.heap H locs ∧ lv_has ls 6 [(4, .int (nI k3)), (3, .int t4.1), (2, .int t4.2), (0, .ref aM), (1, .int sr)]) ⟨hP, hD, hS, lv_sub hl [0, 1, 2, 3, 4] rfl⟩ (fun t23 H locs ls et23 hh => ?_) (fun k3 t4 hkk3 hek3 ihk3 H locs ls hh => ?_)
    · obtain ⟨hP, hD, hS, hl⟩ := hh
      have hP : va_P D vwCl [(aM, .inr (7, [.ref aRo, .ref aHi, .int ms, .ref aSn, .int (bI sv), .ref aAs, .ref aLg, .ref aPd, .int ml, .ref aCo, .ref aEa])), (aRo, .inl (y4.1, 151, .inl RO)), (aLg, .inl (y4.1, 64, .inl (m_X8_shine RO LG)))] H := hP
      have hD : va_D A [(aM, .inr (7, [.ref aRo, .ref aHi, .int ms, .ref aSn, .int (bI sv), .ref aAs, .ref aLg, .ref aPd, .int ml, .ref aCo, .ref aEa])), (aRo, .inl (y4.1, 151, .inl RO)), (aLg, .inl (y4.1, 64, .inl (m_X8_shine RO LG)))] := hD
      have hl : lv_has ls 6 [(4, .int (nI 64)), (3, .int t23.1), (2, .int t23.2), (0, .ref aM), (1, .int sr)] := hl
      refine lv_iload hx hb dX8_bestLamp_24 (lv_at hl 0 rfl) ?_
      refine lv_bipush (v := 64) hx hb dX8_bestLamp_26 (by decide) ?_
      refine lv_icmp_ge (tgt := 85) hx hb dX8_bestLamp_28 (by decide) (fun c24 => ?_) (fun c24 => absurd (nI_le (a := 64) (by omega) (by omega)) c24)
      refine lv_iload_n hx hb dX8_bestLamp_85 rfl (lv_at hl 2 rfl) ?_
      have em : m_X8_bestLamp RO LG sr = t23.2 := (by subst et23; first | (simp only [m_X8_bestLamp, if_neg c1]; done) | (simp only [m_X8_bestLamp, if_neg c1]; rfl))
      exact W.iret (v := t23.2) hx hb hr (fun t ht hW => ⟨⟨t23.2, (m_X8_shine RO LG), rfl, (by rw [em]), ⟨by rw [ht]; exact hP, by exact hD⟩⟩, hS.F ht⟩) hS.2.2 dX8_bestLamp_86
    · obtain ⟨hP, hD, hS, hl⟩ := hh
      have hP : va_P D vwCl [(aM, .inr (7, [.ref aRo, .ref aHi, .int ms, .ref aSn, .int (bI sv), .ref aAs, .ref aLg, .ref aPd, .int ml, .ref aCo, .ref aEa])), (aRo, .inl (y4.1, 151, .inl RO)), (aLg, .inl (y4.1, 64, .inl (m_X8_shine RO LG)))] H := hP
      have hD : va_D A [(aM, .inr (7, [.ref aRo, .ref aHi, .int ms, .ref aSn, .int (bI sv), .ref aAs, .ref aLg, .ref aPd, .int ml, .ref aCo, .ref aEa])), (aRo, .inl (y4.1, 151, .inl RO)), (aLg, .inl (y4.1, 64, .inl (m_X8_shine RO LG)))] := hD
      have hl : lv_has ls 6 [(4, .int (nI k3)), (3, .int t4.1), (2, .int t4.2), (0, .ref aM), (1, .int sr)] := hl
      refine lv_iload hx hb dX8_bestLamp_24 (lv_at hl 0 rfl) ?_
      refine lv_bipush (v := 64) hx hb dX8_bestLamp_26 (by decide) ?_
      refine lv_icmp_ge (tgt := 85) hx hb dX8_bestLamp_28 (by decide) (fun c14 => absurd c14 (nI_ge (b := 64) (by omega) (by omega))) (fun c14 => ?_)
      refine lv_aload_n hx hb dX8_bestLamp_31 rfl (lv_at hl 3 rfl) ?_
      refine lv_iload hx hb dX8_bestLamp_32 (lv_at hl 0 rfl) ?_
      refine callW_i (wr := [(aLg, .inl (y4.1, 64, .inl (m_X8_shine RO LG)))]) (wn := fun u => [(aM, .inr (7, [.ref aRo, .ref aHi, .int ms, .ref aSn, .int (bI sv), .ref aAs, .ref aLg, .ref aPd, .int ml, .ref aCo, .ref aEa])), (aRo, .inl (y4.1, 151, .inl RO)), (aLg, .inl (y4.1, 64, .inl (m_X8_shine RO LG)))]) (va_runV (As := [.int (nI k3)]) (rest := []) ⟨hx, hb, hml, hown, hts⟩ (met_X8_mayShine l D y4 aM aRo aHi aSn aAs aLg aPd aCo aEa H.size ms sv ml RO (nI k3) hM (vp_in_nI (by omega) (by decide))) (cwV 1 hts gX8_bestLamp_X8_mayShine rfl rfl rfl (by decide +kernel) ⟨Nat.le_of_ble_eq_true rfl, Nat.le_of_ble_eq_true rfl⟩) ⟨preW_blind, va_recv hK hP (ci := 7) (q0 := 0) rfl rfl, preW_at (hP.sub (ws' := [(aM, .inr (7, [.ref aRo, .ref aHi, .int ms, .ref aSn, .int (bI sv), .ref aAs, .ref aLg, .ref aPd, .int ml, .ref aCo, .ref aEa])), (aRo, .inl (y4.1, 151, .inl RO))]) [0, 1] rfl) hK (hD.sub (ws' := [(aM, .inr (7, [.ref aRo, .ref aHi, .int ms, .ref aSn, .int (bI sv), .ref aAs, .ref aLg, .ref aPd, .int ml, .ref aCo, .ref aEa])), (aRo, .inl (y4.1, 151, .inl RO))]) [0, 1] (by decide) rfl) hNW⟩ rfl rfl hl.1 rfl (lv_room (Nat.le_of_ble_eq_true rfl)) dX8_bestLamp_34 ⟨Nat.zero_le _, Nat.zero_le _⟩) hP hD hS hA [0, 1] [2] [1, 2, 0] rfl rfl (by decide) (by decide) (fun _ => rfl) (by decide) (fun r u15 H locs hw hP hD hS => ?_)
      subst hw
      have hP : va_P D vwCl [(aM, .inr (7, [.ref aRo, .ref aHi, .int ms, .ref aSn, .int (bI sv), .ref aAs, .ref aLg, .ref aPd, .int ml, .ref aCo, .ref aEa])), (aRo, .inl (y4.1, 151, .inl RO)), (aLg, .inl (y4.1, 64, .inl (m_X8_shine RO LG)))] H := hP
      have hD : va_D A [(aM, .inr (7, [.ref aRo, .ref aHi, .int ms, .ref aSn, .int (bI sv), .ref aAs, .ref aLg, .ref aPd, .int ml, .ref aCo, .ref aEa])), (aRo, .inl (y4.1, 151, .inl RO)), (aLg, .inl (y4.1, 64, .inl (m_X8_shine RO LG)))] := hD
      refine cutW (X := Int32) 51 (fun x H locs ls => x = (if (m_X8_mayShine RO (nI k3)) = false then (-1 : Int32) else (m_X8_litWith RO (m_X8_shine RO LG) (nI k3) sr)) ∧ va_P D vwCl [(aM, .inr (7, [.ref aRo, .ref aHi, .int ms, .ref aSn, .int (bI sv), .ref aAs, .ref aLg, .ref aPd, .int ml, .ref aCo, .ref aEa])), (aRo, .inl (y4.1, 151, .inl RO)), (aLg, .inl (y4.1, 64, .inl (m_X8_shine RO LG)))] H ∧ va_D A [(aM, .inr (7, [.ref aRo, .ref aHi, .int ms, .ref aSn, .int (bI sv), .ref aAs, .ref aLg, .ref aPd, .int ml, .ref aCo, .ref aEa])), (aRo, .inl (y4.1, 151, .inl RO)), (aLg, .inl (y4.1, 64, .inl (m_X8_shine RO LG)))] ∧ va_S A s.heap H locs ∧ lv_has ls 6 [(4, .int (nI k3)), (3, .int t4.1), (2, .int t4.2), (0, .ref aM), (1, .int sr)]) (fun x => [.int x]) ?_ (fun K51 => ?_)
      · rintro v18 H locs ls ⟨ev18, hP, hD, hS, hl⟩
        have ev18 : v18 = (if (m_X8_mayShine RO (nI k3)) = false then (-1 : Int32) else (m_X8_litWith RO (m_X8_shine RO LG) (nI k3) sr)) := ev18
        have hP : va_P D vwCl [(aM, .inr (7, [.ref aRo, .ref aHi, .int ms, .ref aSn, .int (bI sv), .ref aAs, .ref aLg, .ref aPd, .int ml, .ref aCo, .ref aEa])), (aRo, .inl (y4.1, 151, .inl RO)), (aLg, .inl (y4.1, 64, .inl (m_X8_shine RO LG)))] H := hP
        have hD : va_D A [(aM, .inr (7, [.ref aRo, .ref aHi, .int ms, .ref aSn, .int (bI sv), .ref aAs, .ref aLg, .ref aPd, .int ml, .ref aCo, .ref aEa])), (aRo, .inl (y4.1, 151, .inl RO)), (aLg, .inl (y4.1, 64, .inl (m_X8_shine RO LG)))] := hD
        have hl : lv_has ls 6 [(4, .int (nI k3)), (3, .int t4.1), (2, .int t4.2), (0, .ref aM), (1, .int sr)] := hl
        refine lv_istore (lv' := [(5, .int v18), (4, .int (nI k3)), (3, .int t4.1), (2, .int t4.2), (0, .ref aM), (1, .int sr)]) hx hb dX8_bestLamp_51 hl (by decide) rfl (fun ls hl => ?_)
        refine lv_iload hx hb dX8_bestLamp_53 (lv_at hl 0 rfl) ?_
        refine lv_iload_n hx hb dX8_bestLamp_55 rfl (lv_at hl 2 rfl) ?_
        refine cutW (X := Int32) 65 (fun x H locs ls => x = (if v18 ≤ t4.1 then t4.2 else nI k3) ∧ va_P D vwCl [(aM, .inr (7, [.ref aRo, .ref aHi, .int ms, .ref aSn, .int (bI sv), .ref aAs, .ref aLg, .ref aPd, .int ml, .ref aCo, .ref aEa])), (aRo, .inl (y4.1, 151, .inl RO)), (aLg, .inl (y4.1, 64, .inl (m_X8_shine RO LG)))] H ∧ va_D A [(aM, .inr (7, [.ref aRo, .ref aHi, .int ms, .ref aSn, .int (bI sv), .ref aAs, .ref aLg, .ref aPd, .int ml, .ref aCo, .ref aEa])), (aRo, .inl (y4.1, 151, .inl RO)), (aLg, .inl (y4.1, 64, .inl (m_X8_shine RO LG)))] ∧ va_S A s.heap H locs ∧ lv_has ls 6 [(5, .int v18), (4, .int (nI k3)), (3, .int t4.1), (0, .ref aM), (1, .int sr)]) (fun x => [.int x]) ?_ (fun K65 => ?_)
        · rintro v20 H locs ls ⟨ev20, hP, hD, hS, hl⟩
          have ev20 : v20 = (if v18 ≤ t4.1 then t4.2 else nI k3) := ev20
          have hP : va_P D vwCl [(aM, .inr (7, [.ref aRo, .ref aHi, .int ms, .ref aSn, .int (bI sv), .ref aAs, .ref aLg, .ref aPd, .int ml, .ref aCo, .ref aEa])), (aRo, .inl (y4.1, 151, .inl RO)), (aLg, .inl (y4.1, 64, .inl (m_X8_shine RO LG)))] H := hP
          have hD : va_D A [(aM, .inr (7, [.ref aRo, .ref aHi, .int ms, .ref aSn, .int (bI sv), .ref aAs, .ref aLg, .ref aPd, .int ml, .ref aCo, .ref aEa])), (aRo, .inl (y4.1, 151, .inl RO)), (aLg, .inl (y4.1, 64, .inl (m_X8_shine RO LG)))] := hD
          have hl : lv_has ls 6 [(5, .int v18), (4, .int (nI k3)), (3, .int t4.1), (0, .ref aM), (1, .int sr)] := hl
          refine lv_istore_n (lv' := [(2, .int v20), (5, .int v18), (4, .int (nI k3)), (3, .int t4.1), (0, .ref aM), (1, .int sr)]) hx hb dX8_bestLamp_65 rfl hl (by decide) rfl (fun ls hl => ?_)
          refine lv_iload hx hb dX8_bestLamp_66 (lv_at hl 1 rfl) ?_
          refine lv_iload_n hx hb dX8_bestLamp_68 rfl (lv_at hl 3 rfl) ?_
          refine cutW (X := Int32) 78 (fun x H locs ls => x = (if v18 ≤ t4.1 then t4.1 else v18) ∧ va_P D vwCl [(aM, .inr (7, [.ref aRo, .ref aHi, .int ms, .ref aSn, .int (bI sv), .ref aAs, .ref aLg, .ref aPd, .int ml, .ref aCo, .ref aEa])), (aRo, .inl (y4.1, 151, .inl RO)), (aLg, .inl (y4.1, 64, .inl (m_X8_shine RO LG)))] H ∧ va_D A [(aM, .inr (7, [.ref aRo, .ref aHi, .int ms, .ref aSn, .int (bI sv), .ref aAs, .ref aLg, .ref aPd, .int ml, .ref aCo, .ref aEa])), (aRo, .inl (y4.1, 151, .inl RO)), (aLg, .inl (y4.1, 64, .inl (m_X8_shine RO LG)))] ∧ va_S A s.heap H locs ∧ lv_has ls 6 [(2, .int v20), (4, .int (nI k3)), (0, .ref aM), (1, .int sr)]) (fun x => [.int x]) ?_ (fun K78 => ?_)
          · rintro v22 H locs ls ⟨ev22, hP, hD, hS, hl⟩
            have ev22 : v22 = (if v18 ≤ t4.1 then t4.1 else v18) := ev22
            have hP : va_P D vwCl [(aM, .inr (7, [.ref aRo, .ref aHi, .int ms, .ref aSn, .int (bI sv), .ref aAs, .ref aLg, .ref aPd, .int ml, .ref aCo, .ref aEa])), (aRo, .inl (y4.1, 151, .inl RO)), (aLg, .inl (y4.1, 64, .inl (m_X8_shine RO LG)))] H := hP
            have hD : va_D A [(aM, .inr (7, [.ref aRo, .ref aHi, .int ms, .ref aSn, .int (bI sv), .ref aAs, .ref aLg, .ref aPd, .int ml, .ref aCo, .ref aEa])), (aRo, .inl (y4.1, 151, .inl RO)), (aLg, .inl (y4.1, 64, .inl (m_X8_shine RO LG)))] := hD
            have hl : lv_has ls 6 [(2, .int v20), (4, .int (nI k3)), (0, .ref aM), (1, .int sr)] := hl
            refine lv_istore_n (lv' := [(3, .int v22), (2, .int v20), (4, .int (nI k3)), (0, .ref aM), (1, .int sr)]) hx hb dX8_bestLamp_78 rfl hl (by decide) rfl (fun ls hl => ?_)
            refine lv_iinc (v := nI (k3 + 1)) (lv' := [(4, .int (nI (k3 + 1))), (3, .int v22), (2, .int v20), (0, .ref aM), (1, .int sr)]) hx hb dX8_bestLamp_79 hl (k := 2) rfl (nI_1 _) (by decide) rfl (fun ls hl => ?_)
            refine lv_goto (tgt := 24) hx hb dX8_bestLamp_82 (by decide) ?_
            have ef : (f_X8_bestLamp_24 RO LG sr) k3 t4 = (v22, v20) := (by subst ev22 ev20 ev18; first | (simp only [f_X8_bestLamp_24]; done) | (unfold f_X8_bestLamp_24; rfl) | rfl)
            rw [ef] at ihk3
            exact ihk3 H locs ls ⟨hP, hD, hS, lv_sub hl [0, 1, 2, 3, 4] rfl⟩
          · refine lv_icmp_le (tgt := 77) hx hb dX8_bestLamp_69 (by decide) (fun c21 => ?_) (fun c21 => ?_)
            · refine lv_iload_n hx hb dX8_bestLamp_77 rfl (lv_at hl 3 rfl) ?_
              exact K78 t4.1 H locs ls ⟨(by subst ev20 ev18; first | (simp only [if_neg c1, if_pos c21]; done) | (simp only [if_neg c1, if_pos c21]; rfl) | rfl), hP, hD, hS, lv_sub hl [0, 2, 4, 5] rfl⟩
            · refine lv_iload hx hb dX8_bestLamp_72 (lv_at hl 1 rfl) ?_
              refine lv_goto (tgt := 78) hx hb dX8_bestLamp_74 (by decide) ?_
              exact K78 v18 H locs ls ⟨(by subst ev20 ev18; first | (simp only [if_neg c1, if_neg c21]; done) | (simp only [if_neg c1, if_neg c21]; rfl) | rfl), hP, hD, hS, lv_sub hl [0, 2, 4, 5] rfl⟩
        · refine lv_icmp_le (tgt := 64) hx hb dX8_bestLamp_56 (by decide) (fun c19 => ?_) (fun c19 => ?_)
          · refine lv_iload_n hx hb dX8_bestLamp_64 rfl (lv_at hl 3 rfl) ?_
            exact K65 t4.2 H locs ls ⟨(by subst ev18; first | (simp only [if_neg c1, if_pos c19]; done) | (simp only [if_neg c1, if_pos c19]; rfl) | rfl), hP, hD, hS, lv_sub hl [0, 1, 2, 4, 5] rfl⟩
          · refine lv_iload hx hb dX8_bestLamp_59 (lv_at hl 1 rfl) ?_
            refine lv_goto (tgt := 65) hx hb dX8_bestLamp_61 (by decide) ?_
            exact K65 (nI k3) H locs ls ⟨(by subst ev18; first | (simp only [if_neg c1, if_neg c19]; done) | (simp only [if_neg c1, if_neg c19]; rfl) | rfl), hP, hD, hS, lv_sub hl [0, 1, 2, 4, 5] rfl⟩
      · refine lb_if_eq (tgt := 50) hx hb dX8_bestLamp_37 (by decide) (fun c16 => ?_) (fun c16 => ?_)
        · refine lv_iconst (v := (-1)) hx hb dX8_bestLamp_50 (by decide) ?_
          exact K51 (-1 : Int32) H locs ls ⟨(by first | (simp only [if_neg c1, if_pos c16]; done) | (simp only [if_neg c1, if_pos c16]; rfl) | rfl), hP, hD, hS, lv_sub hl [0, 1, 2, 3, 4] rfl⟩
        · refine lv_aload_n hx hb dX8_bestLamp_40 rfl (lv_at hl 3 rfl) ?_
          refine lv_iload hx hb dX8_bestLamp_41 (lv_at hl 0 rfl) ?_
          refine lv_iload_n hx hb dX8_bestLamp_43 rfl (lv_at hl 4 rfl) ?_
          refine callW_i (wr := []) (wn := fun u => [(aM, .inr (7, [.ref aRo, .ref aHi, .int ms, .ref aSn, .int (bI sv), .ref aAs, .ref aLg, .ref aPd, .int ml, .ref aCo, .ref aEa])), (aRo, .inl (y4.1, 151, .inl RO)), (aLg, .inl (y4.1, 64, .inl (m_X8_shine RO LG)))]) (va_runV (As := [.int (nI k3), .int sr]) (rest := []) ⟨hx, hb, hml, hown, hts⟩ (met_X8_litWith l D y4 aM aRo aHi aSn aAs aLg aPd aCo aEa H.size ms sv ml RO (m_X8_shine RO LG) (nI k3) sr (vp_in_nI (by omega) (by decide))) (cwV 2 hts gX8_bestLamp_X8_litWith rfl rfl rfl (by decide +kernel) ⟨Nat.le_of_ble_eq_true rfl, Nat.le_of_ble_eq_true rfl⟩) ⟨preW_blind, va_recv hK hP (ci := 7) (q0 := 0) rfl rfl, preW_at (hP.sub (ws' := [(aM, .inr (7, [.ref aRo, .ref aHi, .int ms, .ref aSn, .int (bI sv), .ref aAs, .ref aLg, .ref aPd, .int ml, .ref aCo, .ref aEa])), (aRo, .inl (y4.1, 151, .inl RO)), (aLg, .inl (y4.1, 64, .inl (m_X8_shine RO LG)))]) [0, 1, 2] rfl) hK (hD.sub (ws' := [(aM, .inr (7, [.ref aRo, .ref aHi, .int ms, .ref aSn, .int (bI sv), .ref aAs, .ref aLg, .ref aPd, .int ml, .ref aCo, .ref aEa])), (aRo, .inl (y4.1, 151, .inl RO)), (aLg, .inl (y4.1, 64, .inl (m_X8_shine RO LG)))]) [0, 1, 2] (by decide) rfl) hNW⟩ rfl rfl hl.1 rfl (lv_room (Nat.le_of_ble_eq_true rfl)) dX8_bestLamp_44 ⟨Nat.zero_le _, Nat.zero_le _⟩) hP hD hS hA [0, 1, 2] [] [0, 1, 2] rfl rfl (by decide) (by decide) (fun _ => rfl) (by decide) (fun r u17 H locs hw hP hD hS => ?_)
          subst hw
          have hP : va_P D vwCl [(aM, .inr (7, [.ref aRo, .ref aHi, .int ms, .ref aSn, .int (bI sv), .ref aAs, .ref aLg, .ref aPd, .int ml, .ref aCo, .ref aEa])), (aRo, .inl (y4.1, 151, .inl RO)), (aLg, .inl (y4.1, 64, .inl (m_X8_shine RO LG)))] H := hP
          have hD : va_D A [(aM, .inr (7, [.ref aRo, .ref aHi, .int ms, .ref aSn, .int (bI sv), .ref aAs, .ref aLg, .ref aPd, .int ml, .ref aCo, .ref aEa])), (aRo, .inl (y4.1, 151, .inl RO)), (aLg, .inl (y4.1, 64, .inl (m_X8_shine RO LG)))] := hD
          refine lv_goto (tgt := 51) hx hb dX8_bestLamp_47 (by decide) ?_
          exact K51 (m_X8_litWith RO (m_X8_shine RO LG) (nI k3) sr) H locs ls ⟨(by first | (simp only [if_neg c1, if_neg c16]; done) | (simp only [if_neg c1, if_neg c16]; rfl) | rfl), hP, hD, hS, lv_sub hl [0, 1, 2, 3, 4] rfl⟩
  · refine lv_iconst (v := (-1)) hx hb dX8_bestLamp_10 (by decide) ?_
    have em : m_X8_bestLamp RO LG sr = (-1 : Int32) := (by first | (simp only [m_X8_bestLamp, if_pos c1]; done) | (simp only [m_X8_bestLamp, if_pos c1]; rfl))
    exact W.iret (v := (-1)) hx hb hr (fun t ht hW => ⟨⟨(-1), LG, rfl, (by rw [em]), ⟨by rw [ht]; exact hP, by exact hD⟩⟩, hS.F ht⟩) hS.2.2 dX8_bestLamp_11
def m_X8_kindOf (ch : Int32) : Int32 := (if ch = 46 then (0 : Int32) else (if ch = 35 then (1 : Int32) else (if ch = 61 then (2 : Int32) else (if ch = 126 then (3 : Int32) else (-4 : Int32)))))
set_option maxHeartbeats 4000000 in
set_option maxRecDepth 100000 in
theorem met_X8_kindOf (l : Launch) (ch : Int32) : Met l yX8_kindOf wsX8_kindOf ({ frames := 0, cells := 0, slots := 0, locals := 0 }) (va_Pc [.int ch] (fun _ => True)) (va_Qi (fun (r : Int32) (_ : Unit) => r = (m_X8_kindOf ch)) (fun _ _ => True) (fun _ => False)) 0 0 (fun _ => False) := by
  refine Met.ofW (cc := cX8_kindOf) (maxL := 1) (ret := (some .int)) (by decide) rfl ?_
  intro p e s m args below meth c s₁ B hml hv
  obtain ⟨rfl, -⟩ := hv
  have hx := B.exec
  have hb := B.bytes
  have hr := B.returns
  have hts := atoms_spec (ws := wsX8_kindOf) B.pre
  have hown : s.vm.findClass RX8 = some m.cls := findClass_of_methodNamed B.named
  have hlocks := B.notSynchronized
  have hS : va_S (fun _ => False) s.heap s.heap [] := va_S.rf
  have hl := lv_entry ([.int ch]) (n := 1) (Nat.le_of_ble_eq_true rfl)
  rw [lg_entry_eq]
  generalize (lg_sl ([.int ch]) ++ List.replicate (1 - (lg_sl ([.int ch])).length) Slot.unset).toArray = ls at hl ⊢
  have hl : lv_has ls 1 [(0, .int ch)] := hl
  refine startS (fun H locs hS => ?_) hS
  refine lv_iload_n hx hb dX8_kindOf_0 rfl (lv_at hl 0 rfl) ?_
  refine lv_bipush (v := 46) hx hb dX8_kindOf_1 (by decide) ?_
  refine lv_icmp_ne (tgt := 10) hx hb dX8_kindOf_3 (by decide) (fun c1 => ?_) (fun c1 => ?_)
  · refine lv_iload_n hx hb dX8_kindOf_10 rfl (lv_at hl 0 rfl) ?_
    refine lv_bipush (v := 35) hx hb dX8_kindOf_11 (by decide) ?_
    refine lv_icmp_ne (tgt := 20) hx hb dX8_kindOf_13 (by decide) (fun c2 => ?_) (fun c2 => ?_)
    · refine lv_iload_n hx hb dX8_kindOf_20 rfl (lv_at hl 0 rfl) ?_
      refine lv_bipush (v := 61) hx hb dX8_kindOf_21 (by decide) ?_
      refine lv_icmp_ne (tgt := 30) hx hb dX8_kindOf_23 (by decide) (fun c3 => ?_) (fun c3 => ?_)
      · refine lv_iload_n hx hb dX8_kindOf_30 rfl (lv_at hl 0 rfl) ?_
        refine lv_bipush (v := 126) hx hb dX8_kindOf_31 (by decide) ?_
        refine lv_icmp_ne (tgt := 40) hx hb dX8_kindOf_33 (by decide) (fun c4 => ?_) (fun c4 => ?_)
        · refine lv_bipush (v := (-4)) hx hb dX8_kindOf_40 (by decide) ?_
          have em : m_X8_kindOf ch = (-4 : Int32) := (by first | (simp only [m_X8_kindOf, if_neg c1, if_neg c2, if_neg c3, if_neg c4]; done) | (simp only [m_X8_kindOf, if_neg c1, if_neg c2, if_neg c3, if_neg c4]; rfl))
          exact W.iret (v := (-4)) hx hb hr (fun t ht hW => ⟨⟨(-4), (), rfl, (by rw [em]), trivial⟩, hS.F ht⟩) hS.2.2 dX8_kindOf_42
        · refine lv_iconst (v := 3) hx hb dX8_kindOf_36 (by decide) ?_
          refine lv_goto (tgt := 42) hx hb dX8_kindOf_37 (by decide) ?_
          have em : m_X8_kindOf ch = (3 : Int32) := (by first | (simp only [m_X8_kindOf, if_neg c1, if_neg c2, if_neg c3, if_pos c4]; done) | (simp only [m_X8_kindOf, if_neg c1, if_neg c2, if_neg c3, if_pos c4]; rfl))
          exact W.iret (v := 3) hx hb hr (fun t ht hW => ⟨⟨3, (), rfl, (by rw [em]), trivial⟩, hS.F ht⟩) hS.2.2 dX8_kindOf_42
      · refine lv_iconst (v := 2) hx hb dX8_kindOf_26 (by decide) ?_
        refine lv_goto (tgt := 42) hx hb dX8_kindOf_27 (by decide) ?_
        have em : m_X8_kindOf ch = (2 : Int32) := (by first | (simp only [m_X8_kindOf, if_neg c1, if_neg c2, if_pos c3]; done) | (simp only [m_X8_kindOf, if_neg c1, if_neg c2, if_pos c3]; rfl))
        exact W.iret (v := 2) hx hb hr (fun t ht hW => ⟨⟨2, (), rfl, (by rw [em]), trivial⟩, hS.F ht⟩) hS.2.2 dX8_kindOf_42
    · refine lv_iconst (v := 1) hx hb dX8_kindOf_16 (by decide) ?_
      refine lv_goto (tgt := 42) hx hb dX8_kindOf_17 (by decide) ?_
      have em : m_X8_kindOf ch = (1 : Int32) := (by first | (simp only [m_X8_kindOf, if_neg c1, if_pos c2]; done) | (simp only [m_X8_kindOf, if_neg c1, if_pos c2]; rfl))
      exact W.iret (v := 1) hx hb hr (fun t ht hW => ⟨⟨1, (), rfl, (by rw [em]), trivial⟩, hS.F ht⟩) hS.2.2 dX8_kindOf_42
  · refine lv_iconst (v := 0) hx hb dX8_kindOf_6 (by decide) ?_
    refine lv_goto (tgt := 42) hx hb dX8_kindOf_7 (by decide) ?_
    have em : m_X8_kindOf ch = (0 : Int32) := (by first | (simp only [m_X8_kindOf, if_pos c1]; done) | (simp only [m_X8_kindOf, if_pos c1]; rfl))
    exact W.iret (v := 0) hx hb hr (fun t ht hW => ⟨⟨0, (), rfl, (by rw [em]), trivial⟩, hS.F ht⟩) hS.2.2 dX8_kindOf_42
theorem ml_in {b : Int32} (h : 0 ≤ b.toInt ∧ b.toInt ≤ (80 : Nat)) (h2 : ¬ b = 80) : vp_in b 80 := by
  rw [vp_in_iff]
  have : b.toInt ≠ 80 := fun e => h2 (Int32.toInt_inj.mp (by rw [e]; decide))
  omega

def m_X8_fits (RO : Nat → Int32) (PD : Nat → Int32) (at_ : Int32) : Bool := (if at_ ≤ 70 then (if (at_ - at_ / 9 * 9) = 8 then (if (PD (at_).toNatClampNeg) = 47 then true else false) else (if (m_X8_kindOf (PD (at_).toNatClampNeg)) = (-4) then false else (let q4 : Bool := m_X8_mayPut RO ((8 * (at_ / 9)) + (at_ - at_ / 9 * 9)) (m_X8_kindOf (PD (at_).toNatClampNeg)); (if q4 = false then false else true)))) else false)
set_option maxHeartbeats 4000000 in
set_option maxRecDepth 100000 in
theorem met_X8_fits (l : Launch) (D : va_G) (y4 : vT) (aM aRo aHi aSn aAs aLg aPd aCo aEa : Nat) (sz : Nat) (ms : Int32) (sv : Bool) (ml : Int32) (RO : Nat → Int32) (PD : Nat → Int32) (at_ : Int32) (hat : vp_in at_ 80) : Met l yX8_fits wsX8_fits ({ frames := 2, cells := 0, slots := 0, locals := 42 }) (va_Pc [.ref aM, .int at_] (PreW D y4 [(aM, .inr (7, [.ref aRo, .ref aHi, .int ms, .ref aSn, .int (bI sv), .ref aAs, .ref aLg, .ref aPd, .int ml, .ref aCo, .ref aEa])), (aRo, .inl (y4.1, 151, .inl RO)), (aPd, .inl (y4.1, 80, .inl PD))] sz)) (va_Qi (fun (r : Int32) (_ : Unit) => r = bI (m_X8_fits RO PD at_)) (fun _ t => PostW D (va_A [(aM, .inr (7, [.ref aRo, .ref aHi, .int ms, .ref aSn, .int (bI sv), .ref aAs, .ref aLg, .ref aPd, .int ml, .ref aCo, .ref aEa])), (aRo, .inl (y4.1, 151, .inl RO)), (aPd, .inl (y4.1, 80, .inl PD))] sz) [(aM, .inr (7, [.ref aRo, .ref aHi, .int ms, .ref aSn, .int (bI sv), .ref aAs, .ref aLg, .ref aPd, .int ml, .ref aCo, .ref aEa])), (aRo, .inl (y4.1, 151, .inl RO)), (aPd, .inl (y4.1, 80, .inl PD))] t) (va_A [(aM, .inr (7, [.ref aRo, .ref aHi, .int ms, .ref aSn, .int (bI sv), .ref aAs, .ref aLg, .ref aPd, .int ml, .ref aCo, .ref aEa])), (aRo, .inl (y4.1, 151, .inl RO)), (aPd, .inl (y4.1, 80, .inl PD))] sz)) 0 0 (va_A [(aM, .inr (7, [.ref aRo, .ref aHi, .int ms, .ref aSn, .int (bI sv), .ref aAs, .ref aLg, .ref aPd, .int ml, .ref aCo, .ref aEa])), (aRo, .inl (y4.1, 151, .inl RO)), (aPd, .inl (y4.1, 80, .inl PD))] sz) := by
  refine Met.ofW (cc := cX8_fits) (maxL := 3) (ret := (some .boolean)) (by decide) rfl ?_
  intro p e s m args below meth c s₁ B hml hv
  obtain ⟨rfl, hsz, hP, hK, hD0, hNW⟩ := hv
  have hx := B.exec
  have hb := B.bytes
  have hr := B.returns
  have hts := atoms_spec (ws := wsX8_fits) B.pre
  have hown : s.vm.findClass RX8 = some m.cls := findClass_of_methodNamed B.named
  have hlocks := B.notSynchronized
  subst hsz
  have hD := hD0.self (sz := s.heap.size)
  generalize hAe : va_A [(aM, .inr (7, [.ref aRo, .ref aHi, .int ms, .ref aSn, .int (bI sv), .ref aAs, .ref aLg, .ref aPd, .int ml, .ref aCo, .ref aEa])), (aRo, .inl (y4.1, 151, .inl RO)), (aPd, .inl (y4.1, 80, .inl PD))] s.heap.size = A at hD ⊢
  have hA : ∀ q : Nat, s.heap.size ≤ q → A q := fun q h => by rw [← hAe]; exact Or.inr h
  have hS : va_S A s.heap s.heap [] := va_S.rf
  have hl := lv_entry ([.ref aM, .int at_]) (n := 3) (Nat.le_of_ble_eq_true rfl)
  rw [lg_entry_eq]
  generalize (lg_sl ([.ref aM, .int at_]) ++ List.replicate (3 - (lg_sl ([.ref aM, .int at_])).length) Slot.unset).toArray = ls at hl ⊢
  have hl : lv_has ls 3 [(0, .ref aM), (1, .int at_)] := hl
  have f25 := hts (.fieldLink RX8 25 "PillarLightModel" "pad" "[I") (List.mem_of_getElem? (i := 1) rfl)
  have iX8 : ∀ w ∈ wsX80, w ∈ wsX8_fits := fun _ h => List.mem_cons_of_mem _ (List.mem_append_right _ h)
  refine startW (fun H locs hP hS => ?_) hP hS
  refine lv_iload_n hx hb dX8_fits_0 rfl (lv_at hl 1 rfl) ?_
  refine lv_bipush (v := 70) hx hb dX8_fits_1 (by decide) ?_
  refine lv_icmp_le (tgt := 8) hx hb dX8_fits_3 (by decide) (fun c1 => ?_) (fun c1 => ?_)
  · refine lv_iload_n hx hb dX8_fits_8 rfl (lv_at hl 1 rfl) ?_
    refine lv_bipush (v := 9) hx hb dX8_fits_9 (by decide) ?_
    refine lv_irem hx hb dX8_fits_11 (by decide) ?_
    refine lv_bipush (v := 8) hx hb dX8_fits_12 (by decide) ?_
    refine lv_icmp_ne (tgt := 34) hx hb dX8_fits_14 (by decide) (fun c2 => ?_) (fun c2 => ?_)
    · refine lv_aload_n hx hb dX8_fits_34 rfl (lv_at hl 0 rfl) ?_
      refine va_get (ci := 7) (v := .ref aPd) (C := RX8) (T := TX8) (N := 11) hx hb hts iX8 hown hK hP 0 rfl rfl 7 (by decide) f25 (fun _ h9 => h9) rfl dX8_fits_35 ?_
      refine lv_iload_n hx hb dX8_fits_38 rfl (lv_at hl 1 rfl) ?_
      refine va_iald hx hb hK hP 2 0 rfl rfl (by first | assumption | exact vp_in_cmp (by assumption) (by assumption) (by decide)) dX8_fits_39 ?_
      refine callK_i (va_runS (As := [.int (PD (at_).toNatClampNeg)]) (rest := []) ⟨hx, hb, hml, hown, hts⟩ (met_X8_kindOf l  (PD (at_).toNatClampNeg)) (va_cwS 1 hts gX8_fits_X8_kindOf rfl rfl rfl (by decide +kernel) ⟨Nat.le_of_ble_eq_true rfl, Nat.le_of_ble_eq_true rfl⟩) ⟨preS_blind, fun U hU hW => ⟨rfl, trivial⟩⟩ rfl rfl hl.1 rfl (lv_room (Nat.le_of_ble_eq_true rfl)) dX8_fits_40 ⟨Nat.zero_le _, Nat.zero_le _⟩) hP hS (fun r u H locs hw hP hS => ?_)
      subst hw
      refine lv_istore_n (lv' := [(2, .int (m_X8_kindOf (PD (at_).toNatClampNeg))), (0, .ref aM), (1, .int at_)]) hx hb dX8_fits_43 rfl hl (by decide) rfl (fun ls hl => ?_)
      refine lv_iload_n hx hb dX8_fits_44 rfl (lv_at hl 0 rfl) ?_
      refine lv_bipush (v := (-4)) hx hb dX8_fits_45 (by decide) ?_
      refine lv_icmp_eq (tgt := 74) hx hb dX8_fits_47 (by decide) (fun c3 => ?_) (fun c3 => ?_)
      · refine lv_iconst (v := 0) hx hb dX8_fits_74 (by decide) ?_
        have em : m_X8_fits RO PD at_ = false := (by first | (simp only [m_X8_fits, if_pos c1, if_neg c2, if_pos c3]; done) | (simp only [m_X8_fits, if_pos c1, if_neg c2, if_pos c3]; rfl))
        exact W.zret (v := 0) hx hb hr rfl (fun t ht hW => ⟨⟨0, (), rfl, (by rw [em]; rfl), ⟨by rw [ht]; exact hP, by exact hD⟩⟩, hS.F ht⟩) hS.2.2 dX8_fits_75
      · refine lv_aload_n hx hb dX8_fits_50 rfl (lv_at hl 1 rfl) ?_
        refine lv_bipush (v := 8) hx hb dX8_fits_51 (by decide) ?_
        refine lv_iload_n hx hb dX8_fits_53 rfl (lv_at hl 2 rfl) ?_
        refine lv_bipush (v := 9) hx hb dX8_fits_54 (by decide) ?_
        refine lv_idiv hx hb dX8_fits_56 (by decide) ?_
        refine lv_imul hx hb dX8_fits_57 ?_
        refine lv_iload_n hx hb dX8_fits_58 rfl (lv_at hl 2 rfl) ?_
        refine lv_bipush (v := 9) hx hb dX8_fits_59 (by decide) ?_
        refine lv_irem hx hb dX8_fits_61 (by decide) ?_
        refine lv_iadd hx hb dX8_fits_62 ?_
        refine lv_iload_n hx hb dX8_fits_63 rfl (lv_at hl 0 rfl) ?_
        refine callW_i (wr := [(aPd, .inl (y4.1, 80, .inl PD))]) (wn := fun u => [(aM, .inr (7, [.ref aRo, .ref aHi, .int ms, .ref aSn, .int (bI sv), .ref aAs, .ref aLg, .ref aPd, .int ml, .ref aCo, .ref aEa])), (aRo, .inl (y4.1, 151, .inl RO)), (aPd, .inl (y4.1, 80, .inl PD))]) (va_runV (As := [.int ((8 * (at_ / 9)) + (at_ - at_ / 9 * 9)), .int (m_X8_kindOf (PD (at_).toNatClampNeg))]) (rest := []) ⟨hx, hb, hml, hown, hts⟩ (met_X8_mayPut l D y4 aM aRo aHi aSn aAs aLg aPd aCo aEa H.size ms sv ml RO ((8 * (at_ / 9)) + (at_ - at_ / 9 * 9)) (m_X8_kindOf (PD (at_).toNatClampNeg))) (cwV 2 hts gX8_fits_X8_mayPut rfl rfl rfl (by decide +kernel) ⟨Nat.le_of_ble_eq_true rfl, Nat.le_of_ble_eq_true rfl⟩) ⟨preW_blind, va_recv hK hP (ci := 7) (q0 := 0) rfl rfl, preW_at (hP.sub (ws' := [(aM, .inr (7, [.ref aRo, .ref aHi, .int ms, .ref aSn, .int (bI sv), .ref aAs, .ref aLg, .ref aPd, .int ml, .ref aCo, .ref aEa])), (aRo, .inl (y4.1, 151, .inl RO))]) [0, 1] rfl) hK (hD.sub (ws' := [(aM, .inr (7, [.ref aRo, .ref aHi, .int ms, .ref aSn, .int (bI sv), .ref aAs, .ref aLg, .ref aPd, .int ml, .ref aCo, .ref aEa])), (aRo, .inl (y4.1, 151, .inl RO))]) [0, 1] (by decide) rfl) hNW⟩ rfl rfl hl.1 rfl (lv_room (Nat.le_of_ble_eq_true rfl)) dX8_fits_64 ⟨Nat.zero_le _, Nat.zero_le _⟩) hP hD hS hA [0, 1] [2] [1, 2, 0] rfl rfl (by decide) (by decide) (fun _ => rfl) (by decide) (fun r u5 H locs hw hP hD hS => ?_)
        obtain ⟨q4, eq4⟩ : ∃ z, z = m_X8_mayPut RO ((8 * (at_ / 9)) + (at_ - at_ / 9 * 9)) (m_X8_kindOf (PD (at_).toNatClampNeg)) := ⟨_, rfl⟩
        rw [← eq4] at hw
        subst hw
        have hP : va_P D vwCl [(aM, .inr (7, [.ref aRo, .ref aHi, .int ms, .ref aSn, .int (bI sv), .ref aAs, .ref aLg, .ref aPd, .int ml, .ref aCo, .ref aEa])), (aRo, .inl (y4.1, 151, .inl RO)), (aPd, .inl (y4.1, 80, .inl PD))] H := hP
        have hD : va_D A [(aM, .inr (7, [.ref aRo, .ref aHi, .int ms, .ref aSn, .int (bI sv), .ref aAs, .ref aLg, .ref aPd, .int ml, .ref aCo, .ref aEa])), (aRo, .inl (y4.1, 151, .inl RO)), (aPd, .inl (y4.1, 80, .inl PD))] := hD
        refine lb_if_eq (tgt := 74) hx hb dX8_fits_67 (by decide) (fun c6 => ?_) (fun c6 => ?_)
        · refine lv_iconst (v := 0) hx hb dX8_fits_74 (by decide) ?_
          have em : m_X8_fits RO PD at_ = false := (by subst eq4; first | (simp only [m_X8_fits, if_pos c1, if_neg c2, if_neg c3, if_pos c6]; done) | (simp only [m_X8_fits, if_pos c1, if_neg c2, if_neg c3, if_pos c6]; rfl))
          exact W.zret (v := 0) hx hb hr rfl (fun t ht hW => ⟨⟨0, (), rfl, (by rw [em]; rfl), ⟨by rw [ht]; exact hP, by exact hD⟩⟩, hS.F ht⟩) hS.2.2 dX8_fits_75
        · refine lv_iconst (v := 1) hx hb dX8_fits_70 (by decide) ?_
          refine lv_goto (tgt := 75) hx hb dX8_fits_71 (by decide) ?_
          have em : m_X8_fits RO PD at_ = true := (by subst eq4; first | (simp only [m_X8_fits, if_pos c1, if_neg c2, if_neg c3, if_neg c6]; done) | (simp only [m_X8_fits, if_pos c1, if_neg c2, if_neg c3, if_neg c6]; rfl))
          exact W.zret (v := 1) hx hb hr rfl (fun t ht hW => ⟨⟨1, (), rfl, (by rw [em]; rfl), ⟨by rw [ht]; exact hP, by exact hD⟩⟩, hS.F ht⟩) hS.2.2 dX8_fits_75
    · refine lv_aload_n hx hb dX8_fits_17 rfl (lv_at hl 0 rfl) ?_
      refine va_get (ci := 7) (v := .ref aPd) (C := RX8) (T := TX8) (N := 11) hx hb hts iX8 hown hK hP 0 rfl rfl 7 (by decide) f25 (fun _ h9 => h9) rfl dX8_fits_18 ?_
      refine lv_iload_n hx hb dX8_fits_21 rfl (lv_at hl 1 rfl) ?_
      refine va_iald hx hb hK hP 2 0 rfl rfl (by first | assumption | exact vp_in_cmp (by assumption) (by assumption) (by decide)) dX8_fits_22 ?_
      refine lv_bipush (v := 47) hx hb dX8_fits_23 (by decide) ?_
      refine lv_icmp_ne (tgt := 32) hx hb dX8_fits_25 (by decide) (fun c7 => ?_) (fun c7 => ?_)
      · refine lv_iconst (v := 0) hx hb dX8_fits_32 (by decide) ?_
        have em : m_X8_fits RO PD at_ = false := (by first | (simp only [m_X8_fits, if_pos c1, if_pos c2, if_neg c7]; done) | (simp only [m_X8_fits, if_pos c1, if_pos c2, if_neg c7]; rfl))
        exact W.zret (v := 0) hx hb hr rfl (fun t ht hW => ⟨⟨0, (), rfl, (by rw [em]; rfl), ⟨by rw [ht]; exact hP, by exact hD⟩⟩, hS.F ht⟩) hS.2.2 dX8_fits_33
      · refine lv_iconst (v := 1) hx hb dX8_fits_28 (by decide) ?_
        refine lv_goto (tgt := 33) hx hb dX8_fits_29 (by decide) ?_
        have em : m_X8_fits RO PD at_ = true := (by first | (simp only [m_X8_fits, if_pos c1, if_pos c2, if_pos c7]; done) | (simp only [m_X8_fits, if_pos c1, if_pos c2, if_pos c7]; rfl))
        exact W.zret (v := 1) hx hb hr rfl (fun t ht hW => ⟨⟨1, (), rfl, (by rw [em]; rfl), ⟨by rw [ht]; exact hP, by exact hD⟩⟩, hS.F ht⟩) hS.2.2 dX8_fits_33
  · refine lv_iconst (v := 0) hx hb dX8_fits_6 (by decide) ?_
    have em : m_X8_fits RO PD at_ = false := (by first | (simp only [m_X8_fits, if_neg c1]; done) | (simp only [m_X8_fits, if_neg c1]; rfl))
    exact W.zret (v := 0) hx hb hr rfl (fun t ht hW => ⟨⟨0, (), rfl, (by rw [em]; rfl), ⟨by rw [ht]; exact hP, by exact hD⟩⟩, hS.F ht⟩) hS.2.2 dX8_fits_7
def f_X8_mapFault_2 (RO : Nat → Int32) (PD : Nat → Int32) (k1 : Nat) (t2 : Unit) : (Int32 ⊕ Unit) ⊕ Unit := (if (m_X8_fits RO PD (nI k1)) = false then (.inl (.inl (nI k1))) else (.inr ()))
def m_X8_mapFault (ml : Int32) (RO : Nat → Int32) (PD : Nat → Int32) : Int32 := (lpr (lpx (f_X8_mapFault_2 RO PD) ((ml).toNatClampNeg) 0 ()) id (fun t8 => (if ml = 71 then (-4 : Int32) else ml)))
set_option maxHeartbeats 4000000 in
set_option maxRecDepth 100000 in
theorem met_X8_mapFault (l : Launch) (D : va_G) (y4 : vT) (aM aRo aHi aSn aAs aLg aPd aCo aEa : Nat) (sz : Nat) (ms : Int32) (sv : Bool) (ml : Int32) (RO : Nat → Int32) (PD : Nat → Int32) (hlen : 0 ≤ ml.toInt ∧ ml.toInt ≤ (80 : Nat)) : Met l yX8_mapFault wsX8_mapFault ({ frames := 3, cells := 0, slots := 0, locals := 64 }) (va_Pc [.ref aM] (PreW D y4 [(aM, .inr (7, [.ref aRo, .ref aHi, .int ms, .ref aSn, .int (bI sv), .ref aAs, .ref aLg, .ref aPd, .int ml, .ref aCo, .ref aEa])), (aRo, .inl (y4.1, 151, .inl RO)), (aPd, .inl (y4.1, 80, .inl PD))] sz)) (va_Qi (fun (r : Int32) (_ : Unit) => r = (m_X8_mapFault ml RO PD)) (fun _ t => PostW D (va_A [(aM, .inr (7, [.ref aRo, .ref aHi, .int ms, .ref aSn, .int (bI sv), .ref aAs, .ref aLg, .ref aPd, .int ml, .ref aCo, .ref aEa])), (aRo, .inl (y4.1, 151, .inl RO)), (aPd, .inl (y4.1, 80, .inl PD))] sz) [(aM, .inr (7, [.ref aRo, .ref aHi, .int ms, .ref aSn, .int (bI sv), .ref aAs, .ref aLg, .ref aPd, .int ml, .ref aCo, .ref aEa])), (aRo, .inl (y4.1, 151, .inl RO)), (aPd, .inl (y4.1, 80, .inl PD))] t) (va_A [(aM, .inr (7, [.ref aRo, .ref aHi, .int ms, .ref aSn, .int (bI sv), .ref aAs, .ref aLg, .ref aPd, .int ml, .ref aCo, .ref aEa])), (aRo, .inl (y4.1, 151, .inl RO)), (aPd, .inl (y4.1, 80, .inl PD))] sz)) 0 0 (va_A [(aM, .inr (7, [.ref aRo, .ref aHi, .int ms, .ref aSn, .int (bI sv), .ref aAs, .ref aLg, .ref aPd, .int ml, .ref aCo, .ref aEa])), (aRo, .inl (y4.1, 151, .inl RO)), (aPd, .inl (y4.1, 80, .inl PD))] sz) := by
  refine Met.ofW (cc := cX8_mapFault) (maxL := 2) (ret := (some .int)) (by decide) rfl ?_
  intro p e s m args below meth c s₁ B hml hv
  obtain ⟨rfl, hsz, hP, hK, hD0, hNW⟩ := hv
  have hx := B.exec
  have hb := B.bytes
  have hr := B.returns
  have hts := atoms_spec (ws := wsX8_mapFault) B.pre
  have hown : s.vm.findClass RX8 = some m.cls := findClass_of_methodNamed B.named
  have hlocks := B.notSynchronized
  subst hsz
  have hD := hD0.self (sz := s.heap.size)
  generalize hAe : va_A [(aM, .inr (7, [.ref aRo, .ref aHi, .int ms, .ref aSn, .int (bI sv), .ref aAs, .ref aLg, .ref aPd, .int ml, .ref aCo, .ref aEa])), (aRo, .inl (y4.1, 151, .inl RO)), (aPd, .inl (y4.1, 80, .inl PD))] s.heap.size = A at hD ⊢
  have hA : ∀ q : Nat, s.heap.size ≤ q → A q := fun q h => by rw [← hAe]; exact Or.inr h
  have hS : va_S A s.heap s.heap [] := va_S.rf
  have hl := lv_entry ([.ref aM]) (n := 2) (Nat.le_of_ble_eq_true rfl)
  rw [lg_entry_eq]
  generalize (lg_sl ([.ref aM]) ++ List.replicate (2 - (lg_sl ([.ref aM])).length) Slot.unset).toArray = ls at hl ⊢
  have hl : lv_has ls 2 [(0, .ref aM)] := hl
  have f146 := hts (.fieldLink RX8 146 "PillarLightModel" "length" "I") (List.mem_of_getElem? (i := 1) rfl)
  have iX8 : ∀ w ∈ wsX80, w ∈ wsX8_mapFault := fun _ h => List.mem_cons_of_mem _ (List.mem_append_right _ h)
  refine startW (fun H locs hP hS => ?_) hP hS
  refine lv_iconst (v := 0) hx hb dX8_mapFault_0 (by decide) ?_
  refine lv_istore_n (lv' := [(1, .int 0), (0, .ref aM)]) hx hb dX8_mapFault_1 rfl hl (by decide) rfl (fun ls hl => ?_)
  refine cutW (X := Unit) 26 (fun x H locs ls => ((lpx (f_X8_mapFault_2 RO PD) ((ml).toNatClampNeg) 0 ()) = .inl (.inr x) ∨ (lpx (f_X8_mapFault_2 RO PD) ((ml).toNatClampNeg) 0 ()) = .inr x) ∧ va_P D vwCl [(aM, .inr (7, [.ref aRo, .ref aHi, .int ms, .ref aSn, .int (bI sv), .ref aAs, .ref aLg, .ref aPd, .int ml, .ref aCo, .ref aEa])), (aRo, .inl (y4.1, 151, .inl RO)), (aPd, .inl (y4.1, 80, .inl PD))] H ∧ va_D A [(aM, .inr (7, [.ref aRo, .ref aHi, .int ms, .ref aSn, .int (bI sv), .ref aAs, .ref aLg, .ref aPd, .int ml, .ref aCo, .ref aEa])), (aRo, .inl (y4.1, 151, .inl RO)), (aPd, .inl (y4.1, 80, .inl PD))] ∧ va_S A s.heap H locs ∧ lv_has ls 2 [(0, .ref aM)]) (fun x => []) ?_ (fun K26 => ?_)
  · rintro t8 H locs ls ⟨et8, hP, hD, hS, hl⟩
    have hP : va_P D vwCl [(aM, .inr (7, [.ref aRo, .ref aHi, .int ms, .ref aSn, .int (bI sv), .ref aAs, .ref aLg, .ref aPd, .int ml, .ref aCo, .ref aEa])), (aRo, .inl (y4.1, 151, .inl RO)), (aPd, .inl (y4.1, 80, .inl PD))] H := hP
    have hD : va_D A [(aM, .inr (7, [.ref aRo, .ref aHi, .int ms, .ref aSn, .int (bI sv), .ref aAs, .ref aLg, .ref aPd, .int ml, .ref aCo, .ref aEa])), (aRo, .inl (y4.1, 151, .inl RO)), (aPd, .inl (y4.1, 80, .inl PD))] := hD
    have hl : lv_has ls 2 [(0, .ref aM)] := hl
    refine lv_aload_n hx hb dX8_mapFault_26 rfl (lv_at hl 0 rfl) ?_
    refine va_get (ci := 7) (v := .int ml) (C := RX8) (T := TX8) (N := 11) hx hb hts iX8 hown hK hP 0 rfl rfl 8 (by decide) f146 (fun _ h9 => h9) rfl dX8_mapFault_27 ?_
    refine lv_bipush (v := 71) hx hb dX8_mapFault_30 (by decide) ?_
    refine lv_icmp_ne (tgt := 40) hx hb dX8_mapFault_32 (by decide) (fun c9 => ?_) (fun c9 => ?_)
    · refine lv_aload_n hx hb dX8_mapFault_40 rfl (lv_at hl 0 rfl) ?_
      refine va_get (ci := 7) (v := .int ml) (C := RX8) (T := TX8) (N := 11) hx hb hts iX8 hown hK hP 0 rfl rfl 8 (by decide) f146 (fun _ h9 => h9) rfl dX8_mapFault_41 ?_
      have em : m_X8_mapFault ml RO PD = ml := (by first | (simp only [m_X8_mapFault, lpr_k et8, if_neg c9]; done) | (simp only [m_X8_mapFault, lpr_k et8, if_neg c9]; rfl))
      exact W.iret (v := ml) hx hb hr (fun t ht hW => ⟨⟨ml, (), rfl, (by rw [em]), ⟨by rw [ht]; exact hP, by exact hD⟩⟩, hS.F ht⟩) hS.2.2 dX8_mapFault_44
    · refine lv_bipush (v := (-4)) hx hb dX8_mapFault_35 (by decide) ?_
      refine lv_goto (tgt := 44) hx hb dX8_mapFault_37 (by decide) ?_
      have em : m_X8_mapFault ml RO PD = (-4 : Int32) := (by first | (simp only [m_X8_mapFault, lpr_k et8, if_pos c9]; done) | (simp only [m_X8_mapFault, lpr_k et8, if_pos c9]; rfl))
      exact W.iret (v := (-4)) hx hb hr (fun t ht hW => ⟨⟨(-4), (), rfl, (by rw [em]), ⟨by rw [ht]; exact hP, by exact hD⟩⟩, hS.F ht⟩) hS.2.2 dX8_mapFault_44
  · refine loopX (σ := Unit) (ρ := Int32 ⊕ Unit) 2 (f_X8_mapFault_2 RO PD) (fun _ _ => True) ((ml).toNatClampNeg) 0 () (fun k1 t2 H locs ls => va_P D vwCl [(aM, .inr (7, [.ref aRo, .ref aHi, .int ms, .ref aSn, .int (bI sv), .ref aAs, .ref aLg, .ref aPd, .int ml, .ref aCo, .ref aEa])), (aRo, .inl (y4.1, 151, .inl RO)), (aPd, .inl (y4.1, 80, .inl PD))] H ∧ va_D A [(aM, .inr (7, [.ref aRo, .ref aHi, .int ms, .ref aSn, .int (bI sv), .ref aAs, .ref aLg, .ref aPd, .int ml, .ref aCo, .ref aEa])), (aRo, .inl (y4.1, 151, .inl RO)), (aPd, .inl (y4.1, 80, .inl PD))] ∧ va_S A s.heap H locs ∧ lv_has ls 2 [(1, .int (nI k1)), (0, .ref aM)]) trivial ⟨hP, hD, hS, lv_sub hl [0, 1] rfl⟩ (fun t6 H locs ls et6 hit6 hh => ?_) (fun k1 t2 hkk1 hjk1 hik1 hretk1 ihk1 H locs ls hh => ?_)
    · obtain ⟨hP, hD, hS, hl⟩ := hh
      have hP : va_P D vwCl [(aM, .inr (7, [.ref aRo, .ref aHi, .int ms, .ref aSn, .int (bI sv), .ref aAs, .ref aLg, .ref aPd, .int ml, .ref aCo, .ref aEa])), (aRo, .inl (y4.1, 151, .inl RO)), (aPd, .inl (y4.1, 80, .inl PD))] H := hP
      have hD : va_D A [(aM, .inr (7, [.ref aRo, .ref aHi, .int ms, .ref aSn, .int (bI sv), .ref aAs, .ref aLg, .ref aPd, .int ml, .ref aCo, .ref aEa])), (aRo, .inl (y4.1, 151, .inl RO)), (aPd, .inl (y4.1, 80, .inl PD))] := hD
      have hl : lv_has ls 2 [(1, .int (nI (0 + (ml).toNatClampNeg))), (0, .ref aM)] := hl
      refine lv_iload_n hx hb dX8_mapFault_2 rfl (lv_at hl 0 rfl) ?_
      refine lv_aload_n hx hb dX8_mapFault_3 rfl (lv_at hl 1 rfl) ?_
      refine va_get (ci := 7) (v := .int ml) (C := RX8) (T := TX8) (N := 11) hx hb hts iX8 hown hK hP 0 rfl rfl 8 (by decide) f146 (fun _ h9 => h9) rfl dX8_mapFault_4 ?_
      refine lv_icmp_ge (tgt := 26) hx hb dX8_mapFault_7 (by decide) (fun c7 => ?_) (fun c7 => absurd (cl_le hlen (by omega) (by have := cl_lt hlen; omega)) c7)
      exact K26 t6 H locs ls ⟨Or.inr et6, hP, hD, hS, lv_sub hl [1] rfl⟩
    · obtain ⟨hP, hD, hS, hl⟩ := hh
      have hP : va_P D vwCl [(aM, .inr (7, [.ref aRo, .ref aHi, .int ms, .ref aSn, .int (bI sv), .ref aAs, .ref aLg, .ref aPd, .int ml, .ref aCo, .ref aEa])), (aRo, .inl (y4.1, 151, .inl RO)), (aPd, .inl (y4.1, 80, .inl PD))] H := hP
      have hD : va_D A [(aM, .inr (7, [.ref aRo, .ref aHi, .int ms, .ref aSn, .int (bI sv), .ref aAs, .ref aLg, .ref aPd, .int ml, .ref aCo, .ref aEa])), (aRo, .inl (y4.1, 151, .inl RO)), (aPd, .inl (y4.1, 80, .inl PD))] := hD
      have hl : lv_has ls 2 [(1, .int (nI k1)), (0, .ref aM)] := hl
      refine lv_iload_n hx hb dX8_mapFault_2 rfl (lv_at hl 0 rfl) ?_
      refine lv_aload_n hx hb dX8_mapFault_3 rfl (lv_at hl 1 rfl) ?_
      refine va_get (ci := 7) (v := .int ml) (C := RX8) (T := TX8) (N := 11) hx hb hts iX8 hown hK hP 0 rfl rfl 8 (by decide) f146 (fun _ h9 => h9) rfl dX8_mapFault_4 ?_
      refine lv_icmp_ge (tgt := 26) hx hb dX8_mapFault_7 (by decide) (fun c3 => absurd c3 (cl_ge hlen (by omega))) (fun c3 => ?_)
      refine lv_aload_n hx hb dX8_mapFault_10 rfl (lv_at hl 1 rfl) ?_
      refine lv_iload_n hx hb dX8_mapFault_11 rfl (lv_at hl 0 rfl) ?_
      refine callW_i (wr := []) (wn := fun u => [(aM, .inr (7, [.ref aRo, .ref aHi, .int ms, .ref aSn, .int (bI sv), .ref aAs, .ref aLg, .ref aPd, .int ml, .ref aCo, .ref aEa])), (aRo, .inl (y4.1, 151, .inl RO)), (aPd, .inl (y4.1, 80, .inl PD))]) (va_runV (As := [.int (nI k1)]) (rest := []) ⟨hx, hb, hml, hown, hts⟩ (met_X8_fits l D y4 aM aRo aHi aSn aAs aLg aPd aCo aEa H.size ms sv ml RO PD (nI k1) (cl_in hlen (by omega))) (cwV 1 hts gX8_mapFault_X8_fits rfl rfl rfl (by decide +kernel) ⟨Nat.le_of_ble_eq_true rfl, Nat.le_of_ble_eq_true rfl⟩) ⟨preW_blind, va_recv hK hP (ci := 7) (q0 := 0) rfl rfl, preW_at (hP.sub (ws' := [(aM, .inr (7, [.ref aRo, .ref aHi, .int ms, .ref aSn, .int (bI sv), .ref aAs, .ref aLg, .ref aPd, .int ml, .ref aCo, .ref aEa])), (aRo, .inl (y4.1, 151, .inl RO)), (aPd, .inl (y4.1, 80, .inl PD))]) [0, 1, 2] rfl) hK (hD.sub (ws' := [(aM, .inr (7, [.ref aRo, .ref aHi, .int ms, .ref aSn, .int (bI sv), .ref aAs, .ref aLg, .ref aPd, .int ml, .ref aCo, .ref aEa])), (aRo, .inl (y4.1, 151, .inl RO)), (aPd, .inl (y4.1, 80, .inl PD))]) [0, 1, 2] (by decide) rfl) hNW⟩ rfl rfl hl.1 rfl (lv_room (Nat.le_of_ble_eq_true rfl)) dX8_mapFault_12 ⟨Nat.zero_le _, Nat.zero_le _⟩) hP hD hS hA [0, 1, 2] [] [0, 1, 2] rfl rfl (by decide) (by decide) (fun _ => rfl) (by decide) (fun r u4 H locs hw hP hD hS => ?_)
      subst hw
      have hP : va_P D vwCl [(aM, .inr (7, [.ref aRo, .ref aHi, .int ms, .ref aSn, .int (bI sv), .ref aAs, .ref aLg, .ref aPd, .int ml, .ref aCo, .ref aEa])), (aRo, .inl (y4.1, 151, .inl RO)), (aPd, .inl (y4.1, 80, .inl PD))] H := hP
      have hD : va_D A [(aM, .inr (7, [.ref aRo, .ref aHi, .int ms, .ref aSn, .int (bI sv), .ref aAs, .ref aLg, .ref aPd, .int ml, .ref aCo, .ref aEa])), (aRo, .inl (y4.1, 151, .inl RO)), (aPd, .inl (y4.1, 80, .inl PD))] := hD
      refine lb_if_ne (tgt := 20) hx hb dX8_mapFault_15 (by decide) (fun c5 => ?_) (fun c5 => ?_)
      · refine lv_iinc (v := nI (k1 + 1)) (lv' := [(1, .int (nI (k1 + 1))), (0, .ref aM)]) hx hb dX8_mapFault_20 hl (k := 0) rfl (nI_1 _) (by decide) rfl (fun ls hl => ?_)
        refine lv_goto (tgt := 2) hx hb dX8_mapFault_23 (by decide) ?_
        have ef : (f_X8_mapFault_2 RO PD) k1 t2 = .inr () := (by first | (simp only [f_X8_mapFault_2, if_neg c5]; done) | (simp only [f_X8_mapFault_2, if_neg c5]; rfl))
        exact ihk1 _ ef trivial H locs ls ⟨hP, hD, hS, lv_sub hl [0, 1] rfl⟩
      · refine lv_iload_n hx hb dX8_mapFault_18 rfl (lv_at hl 0 rfl) ?_
        have ef : (f_X8_mapFault_2 RO PD) k1 t2 = .inl (.inl (nI k1)) := (by first | (simp only [f_X8_mapFault_2, if_pos c5]; done) | (simp only [f_X8_mapFault_2, if_pos c5]; rfl))
        have erk1 := hretk1 _ ef
        have em : m_X8_mapFault ml RO PD = nI k1 := (by first | (simp only [m_X8_mapFault, lpr_j erk1]; done) | (simp only [m_X8_mapFault, lpr_j erk1]; rfl))
        exact W.iret (v := nI k1) hx hb hr (fun t ht hW => ⟨⟨nI k1, (), rfl, (by rw [em]), ⟨by rw [ht]; exact hP, by exact hD⟩⟩, hS.F ht⟩) hS.2.2 dX8_mapFault_19
def f_X8_walkFault_2 (PD : Nat → Int32) (k1 : Nat) (t2 : Unit) : (Int32 ⊕ Unit) ⊕ Unit := (if (m_X8_in (PD (nI k1).toNatClampNeg) 48 51) = false then (.inl (.inl (nI k1))) else (.inr ()))
def m_X8_walkFault (ml : Int32) (PD : Nat → Int32) : Int32 := (lpr (lpx (f_X8_walkFault_2 PD) ((ml).toNatClampNeg) 0 ()) id (fun t7 => (if ml ≤ 0 then (0 : Int32) else (-4 : Int32))))
set_option maxHeartbeats 4000000 in
set_option maxRecDepth 100000 in
theorem met_X8_walkFault (l : Launch) (D : va_G) (y4 : vT) (aM aRo aHi aSn aAs aLg aPd aCo aEa : Nat) (sz : Nat) (ms : Int32) (sv : Bool) (ml : Int32) (RO : Nat → Int32) (PD : Nat → Int32) (hlen : 0 ≤ ml.toInt ∧ ml.toInt ≤ (80 : Nat)) : Met l yX8_walkFault wsX8_walkFault ({ frames := 1, cells := 0, slots := 0, locals := 22 }) (va_Pc [.ref aM] (PreW D y4 [(aM, .inr (7, [.ref aRo, .ref aHi, .int ms, .ref aSn, .int (bI sv), .ref aAs, .ref aLg, .ref aPd, .int ml, .ref aCo, .ref aEa])), (aRo, .inl (y4.1, 151, .inl RO)), (aPd, .inl (y4.1, 80, .inl PD))] sz)) (va_Qi (fun (r : Int32) (_ : Unit) => r = (m_X8_walkFault ml PD)) (fun _ t => PostW D (va_A [(aM, .inr (7, [.ref aRo, .ref aHi, .int ms, .ref aSn, .int (bI sv), .ref aAs, .ref aLg, .ref aPd, .int ml, .ref aCo, .ref aEa])), (aRo, .inl (y4.1, 151, .inl RO)), (aPd, .inl (y4.1, 80, .inl PD))] sz) [(aM, .inr (7, [.ref aRo, .ref aHi, .int ms, .ref aSn, .int (bI sv), .ref aAs, .ref aLg, .ref aPd, .int ml, .ref aCo, .ref aEa])), (aRo, .inl (y4.1, 151, .inl RO)), (aPd, .inl (y4.1, 80, .inl PD))] t) (va_A [(aM, .inr (7, [.ref aRo, .ref aHi, .int ms, .ref aSn, .int (bI sv), .ref aAs, .ref aLg, .ref aPd, .int ml, .ref aCo, .ref aEa])), (aRo, .inl (y4.1, 151, .inl RO)), (aPd, .inl (y4.1, 80, .inl PD))] sz)) 0 0 (va_A [(aM, .inr (7, [.ref aRo, .ref aHi, .int ms, .ref aSn, .int (bI sv), .ref aAs, .ref aLg, .ref aPd, .int ml, .ref aCo, .ref aEa])), (aRo, .inl (y4.1, 151, .inl RO)), (aPd, .inl (y4.1, 80, .inl PD))] sz) := by
  refine Met.ofW (cc := cX8_walkFault) (maxL := 2) (ret := (some .int)) (by decide) rfl ?_
  intro p e s m args below meth c s₁ B hml hv
  obtain ⟨rfl, hsz, hP, hK, hD0, hNW⟩ := hv
  have hx := B.exec
  have hb := B.bytes
  have hr := B.returns
  have hts := atoms_spec (ws := wsX8_walkFault) B.pre
  have hown : s.vm.findClass RX8 = some m.cls := findClass_of_methodNamed B.named
  have hlocks := B.notSynchronized
  subst hsz
  have hD := hD0.self (sz := s.heap.size)
  generalize hAe : va_A [(aM, .inr (7, [.ref aRo, .ref aHi, .int ms, .ref aSn, .int (bI sv), .ref aAs, .ref aLg, .ref aPd, .int ml, .ref aCo, .ref aEa])), (aRo, .inl (y4.1, 151, .inl RO)), (aPd, .inl (y4.1, 80, .inl PD))] s.heap.size = A at hD ⊢
  have hA : ∀ q : Nat, s.heap.size ≤ q → A q := fun q h => by rw [← hAe]; exact Or.inr h
  have hS : va_S A s.heap s.heap [] := va_S.rf
  have hl := lv_entry ([.ref aM]) (n := 2) (Nat.le_of_ble_eq_true rfl)
  rw [lg_entry_eq]
  generalize (lg_sl ([.ref aM]) ++ List.replicate (2 - (lg_sl ([.ref aM])).length) Slot.unset).toArray = ls at hl ⊢
  have hl : lv_has ls 2 [(0, .ref aM)] := hl
  have f146 := hts (.fieldLink RX8 146 "PillarLightModel" "length" "I") (List.mem_of_getElem? (i := 1) rfl)
  have iX8 : ∀ w ∈ wsX80, w ∈ wsX8_walkFault := fun _ h => List.mem_cons_of_mem _ (List.mem_append_right _ h)
  have f25 := hts (.fieldLink RX8 25 "PillarLightModel" "pad" "[I") (List.mem_of_getElem? (i := 2) rfl)
  refine startW (fun H locs hP hS => ?_) hP hS
  refine lv_iconst (v := 0) hx hb dX8_walkFault_0 (by decide) ?_
  refine lv_istore_n (lv' := [(1, .int 0), (0, .ref aM)]) hx hb dX8_walkFault_1 rfl hl (by decide) rfl (fun ls hl => ?_)
  refine cutW (X := Unit) 34 (fun x H locs ls => ((lpx (f_X8_walkFault_2 PD) ((ml).toNatClampNeg) 0 ()) = .inl (.inr x) ∨ (lpx (f_X8_walkFault_2 PD) ((ml).toNatClampNeg) 0 ()) = .inr x) ∧ va_P D vwCl [(aM, .inr (7, [.ref aRo, .ref aHi, .int ms, .ref aSn, .int (bI sv), .ref aAs, .ref aLg, .ref aPd, .int ml, .ref aCo, .ref aEa])), (aRo, .inl (y4.1, 151, .inl RO)), (aPd, .inl (y4.1, 80, .inl PD))] H ∧ va_D A [(aM, .inr (7, [.ref aRo, .ref aHi, .int ms, .ref aSn, .int (bI sv), .ref aAs, .ref aLg, .ref aPd, .int ml, .ref aCo, .ref aEa])), (aRo, .inl (y4.1, 151, .inl RO)), (aPd, .inl (y4.1, 80, .inl PD))] ∧ va_S A s.heap H locs ∧ lv_has ls 2 [(0, .ref aM)]) (fun x => []) ?_ (fun K34 => ?_)
  · rintro t7 H locs ls ⟨et7, hP, hD, hS, hl⟩
    have hP : va_P D vwCl [(aM, .inr (7, [.ref aRo, .ref aHi, .int ms, .ref aSn, .int (bI sv), .ref aAs, .ref aLg, .ref aPd, .int ml, .ref aCo, .ref aEa])), (aRo, .inl (y4.1, 151, .inl RO)), (aPd, .inl (y4.1, 80, .inl PD))] H := hP
    have hD : va_D A [(aM, .inr (7, [.ref aRo, .ref aHi, .int ms, .ref aSn, .int (bI sv), .ref aAs, .ref aLg, .ref aPd, .int ml, .ref aCo, .ref aEa])), (aRo, .inl (y4.1, 151, .inl RO)), (aPd, .inl (y4.1, 80, .inl PD))] := hD
    have hl : lv_has ls 2 [(0, .ref aM)] := hl
    refine lv_aload_n hx hb dX8_walkFault_34 rfl (lv_at hl 0 rfl) ?_
    refine va_get (ci := 7) (v := .int ml) (C := RX8) (T := TX8) (N := 11) hx hb hts iX8 hown hK hP 0 rfl rfl 8 (by decide) f146 (fun _ h9 => h9) rfl dX8_walkFault_35 ?_
    refine lv_if_le (tgt := 46) hx hb dX8_walkFault_38 (by decide) (fun c8 => ?_) (fun c8 => ?_)
    · refine lv_iconst (v := 0) hx hb dX8_walkFault_46 (by decide) ?_
      have em : m_X8_walkFault ml PD = (0 : Int32) := (by first | (simp only [m_X8_walkFault, lpr_k et7, if_pos c8]; done) | (simp only [m_X8_walkFault, lpr_k et7, if_pos c8]; rfl))
      exact W.iret (v := 0) hx hb hr (fun t ht hW => ⟨⟨0, (), rfl, (by rw [em]), ⟨by rw [ht]; exact hP, by exact hD⟩⟩, hS.F ht⟩) hS.2.2 dX8_walkFault_47
    · refine lv_bipush (v := (-4)) hx hb dX8_walkFault_41 (by decide) ?_
      refine lv_goto (tgt := 47) hx hb dX8_walkFault_43 (by decide) ?_
      have em : m_X8_walkFault ml PD = (-4 : Int32) := (by first | (simp only [m_X8_walkFault, lpr_k et7, if_neg c8]; done) | (simp only [m_X8_walkFault, lpr_k et7, if_neg c8]; rfl))
      exact W.iret (v := (-4)) hx hb hr (fun t ht hW => ⟨⟨(-4), (), rfl, (by rw [em]), ⟨by rw [ht]; exact hP, by exact hD⟩⟩, hS.F ht⟩) hS.2.2 dX8_walkFault_47
  · refine loopX (σ := Unit) (ρ := Int32 ⊕ Unit) 2 (f_X8_walkFault_2 PD) (fun _ _ => True) ((ml).toNatClampNeg) 0 () (fun k1 t2 H locs ls => va_P D vwCl [(aM, .inr (7, [.ref aRo, .ref aHi, .int ms, .ref aSn, .int (bI sv), .ref aAs, .ref aLg, .ref aPd, .int ml, .ref aCo, .ref aEa])), (aRo, .inl (y4.1, 151, .inl RO)), (aPd, .inl (y4.1, 80, .inl PD))] H ∧ va_D A [(aM, .inr (7, [.ref aRo, .ref aHi, .int ms, .ref aSn, .int (bI sv), .ref aAs, .ref aLg, .ref aPd, .int ml, .ref aCo, .ref aEa])), (aRo, .inl (y4.1, 151, .inl RO)), (aPd, .inl (y4.1, 80, .inl PD))] ∧ va_S A s.heap H locs ∧ lv_has ls 2 [(1, .int (nI k1)), (0, .ref aM)]) trivial ⟨hP, hD, hS, lv_sub hl [0, 1] rfl⟩ (fun t5 H locs ls et5 hit5 hh => ?_) (fun k1 t2 hkk1 hjk1 hik1 hretk1 ihk1 H locs ls hh => ?_)
    · obtain ⟨hP, hD, hS, hl⟩ := hh
      have hP : va_P D vwCl [(aM, .inr (7, [.ref aRo, .ref aHi, .int ms, .ref aSn, .int (bI sv), .ref aAs, .ref aLg, .ref aPd, .int ml, .ref aCo, .ref aEa])), (aRo, .inl (y4.1, 151, .inl RO)), (aPd, .inl (y4.1, 80, .inl PD))] H := hP
      have hD : va_D A [(aM, .inr (7, [.ref aRo, .ref aHi, .int ms, .ref aSn, .int (bI sv), .ref aAs, .ref aLg, .ref aPd, .int ml, .ref aCo, .ref aEa])), (aRo, .inl (y4.1, 151, .inl RO)), (aPd, .inl (y4.1, 80, .inl PD))] := hD
      have hl : lv_has ls 2 [(1, .int (nI (0 + (ml).toNatClampNeg))), (0, .ref aM)] := hl
      refine lv_iload_n hx hb dX8_walkFault_2 rfl (lv_at hl 0 rfl) ?_
      refine lv_aload_n hx hb dX8_walkFault_3 rfl (lv_at hl 1 rfl) ?_
      refine va_get (ci := 7) (v := .int ml) (C := RX8) (T := TX8) (N := 11) hx hb hts iX8 hown hK hP 0 rfl rfl 8 (by decide) f146 (fun _ h9 => h9) rfl dX8_walkFault_4 ?_
      refine lv_icmp_ge (tgt := 34) hx hb dX8_walkFault_7 (by decide) (fun c6 => ?_) (fun c6 => absurd (cl_le hlen (by omega) (by have := cl_lt hlen; omega)) c6)
      exact K34 t5 H locs ls ⟨Or.inr et5, hP, hD, hS, lv_sub hl [1] rfl⟩
    · obtain ⟨hP, hD, hS, hl⟩ := hh
      have hP : va_P D vwCl [(aM, .inr (7, [.ref aRo, .ref aHi, .int ms, .ref aSn, .int (bI sv), .ref aAs, .ref aLg, .ref aPd, .int ml, .ref aCo, .ref aEa])), (aRo, .inl (y4.1, 151, .inl RO)), (aPd, .inl (y4.1, 80, .inl PD))] H := hP
      have hD : va_D A [(aM, .inr (7, [.ref aRo, .ref aHi, .int ms, .ref aSn, .int (bI sv), .ref aAs, .ref aLg, .ref aPd, .int ml, .ref aCo, .ref aEa])), (aRo, .inl (y4.1, 151, .inl RO)), (aPd, .inl (y4.1, 80, .inl PD))] := hD
      have hl : lv_has ls 2 [(1, .int (nI k1)), (0, .ref aM)] := hl
      refine lv_iload_n hx hb dX8_walkFault_2 rfl (lv_at hl 0 rfl) ?_
      refine lv_aload_n hx hb dX8_walkFault_3 rfl (lv_at hl 1 rfl) ?_
      refine va_get (ci := 7) (v := .int ml) (C := RX8) (T := TX8) (N := 11) hx hb hts iX8 hown hK hP 0 rfl rfl 8 (by decide) f146 (fun _ h9 => h9) rfl dX8_walkFault_4 ?_
      refine lv_icmp_ge (tgt := 34) hx hb dX8_walkFault_7 (by decide) (fun c3 => absurd c3 (cl_ge hlen (by omega))) (fun c3 => ?_)
      refine lv_aload_n hx hb dX8_walkFault_10 rfl (lv_at hl 1 rfl) ?_
      refine va_get (ci := 7) (v := .ref aPd) (C := RX8) (T := TX8) (N := 11) hx hb hts iX8 hown hK hP 0 rfl rfl 7 (by decide) f25 (fun _ h9 => h9) rfl dX8_walkFault_11 ?_
      refine lv_iload_n hx hb dX8_walkFault_14 rfl (lv_at hl 0 rfl) ?_
      refine va_iald hx hb hK hP 2 0 rfl rfl (cl_in hlen (by omega)) dX8_walkFault_15 ?_
      refine lv_bipush (v := 48) hx hb dX8_walkFault_16 (by decide) ?_
      refine lv_bipush (v := 51) hx hb dX8_walkFault_18 (by decide) ?_
      refine callK_i (va_runS (As := [.int (PD (nI k1).toNatClampNeg), .int 48, .int 51]) (rest := []) ⟨hx, hb, hml, hown, hts⟩ (met_X8_in l  (PD (nI k1).toNatClampNeg) 48 51) (va_cwS 3 hts gX8_walkFault_X8_in rfl rfl rfl (by decide +kernel) ⟨Nat.le_of_ble_eq_true rfl, Nat.le_of_ble_eq_true rfl⟩) ⟨preS_blind, fun U hU hW => ⟨rfl, trivial⟩⟩ rfl rfl hl.1 rfl (lv_room (Nat.le_of_ble_eq_true rfl)) dX8_walkFault_20 ⟨Nat.zero_le _, Nat.zero_le _⟩) hP hS (fun r u H locs hw hP hS => ?_)
      subst hw
      refine lb_if_ne (tgt := 28) hx hb dX8_walkFault_23 (by decide) (fun c4 => ?_) (fun c4 => ?_)
      · refine lv_iinc (v := nI (k1 + 1)) (lv' := [(1, .int (nI (k1 + 1))), (0, .ref aM)]) hx hb dX8_walkFault_28 hl (k := 0) rfl (nI_1 _) (by decide) rfl (fun ls hl => ?_)
        refine lv_goto (tgt := 2) hx hb dX8_walkFault_31 (by decide) ?_
        have ef : (f_X8_walkFault_2 PD) k1 t2 = .inr () := (by first | (simp only [f_X8_walkFault_2, if_neg c4]; done) | (simp only [f_X8_walkFault_2, if_neg c4]; rfl))
        exact ihk1 _ ef trivial H locs ls ⟨hP, hD, hS, lv_sub hl [0, 1] rfl⟩
      · refine lv_iload_n hx hb dX8_walkFault_26 rfl (lv_at hl 0 rfl) ?_
        have ef : (f_X8_walkFault_2 PD) k1 t2 = .inl (.inl (nI k1)) := (by first | (simp only [f_X8_walkFault_2, if_pos c4]; done) | (simp only [f_X8_walkFault_2, if_pos c4]; rfl))
        have erk1 := hretk1 _ ef
        have em : m_X8_walkFault ml PD = nI k1 := (by first | (simp only [m_X8_walkFault, lpr_j erk1]; done) | (simp only [m_X8_walkFault, lpr_j erk1]; rfl))
        exact W.iret (v := nI k1) hx hb hr (fun t ht hW => ⟨⟨nI k1, (), rfl, (by rw [em]), ⟨by rw [ht]; exact hP, by exact hD⟩⟩, hS.F ht⟩) hS.2.2 dX8_walkFault_27
def m_X8_fault (ml : Int32) (RO : Nat → Int32) (PD : Nat → Int32) (wy : Int32) : Int32 := (if wy = 0 then (m_X8_mapFault ml RO PD) else (if wy = 1 then (m_X8_walkFault ml PD) else (-1 : Int32)))
set_option maxHeartbeats 4000000 in
set_option maxRecDepth 100000 in
theorem met_X8_fault (l : Launch) (D : va_G) (y4 : vT) (aM aRo aHi aSn aAs aLg aPd aCo aEa : Nat) (sz : Nat) (ms : Int32) (sv : Bool) (ml : Int32) (RO : Nat → Int32) (PD : Nat → Int32) (wy : Int32) (hlen : 0 ≤ ml.toInt ∧ ml.toInt ≤ (80 : Nat)) : Met l yX8_fault wsX8_fault ({ frames := 4, cells := 0, slots := 0, locals := 85 }) (va_Pc [.ref aM, .int wy] (PreW D y4 [(aM, .inr (7, [.ref aRo, .ref aHi, .int ms, .ref aSn, .int (bI sv), .ref aAs, .ref aLg, .ref aPd, .int ml, .ref aCo, .ref aEa])), (aRo, .inl (y4.1, 151, .inl RO)), (aPd, .inl (y4.1, 80, .inl PD))] sz)) (va_Qi (fun (r : Int32) (_ : Unit) => r = (m_X8_fault ml RO PD wy)) (fun _ t => PostW D (va_A [(aM, .inr (7, [.ref aRo, .ref aHi, .int ms, .ref aSn, .int (bI sv), .ref aAs, .ref aLg, .ref aPd, .int ml, .ref aCo, .ref aEa])), (aRo, .inl (y4.1, 151, .inl RO)), (aPd, .inl (y4.1, 80, .inl PD))] sz) [(aM, .inr (7, [.ref aRo, .ref aHi, .int ms, .ref aSn, .int (bI sv), .ref aAs, .ref aLg, .ref aPd, .int ml, .ref aCo, .ref aEa])), (aRo, .inl (y4.1, 151, .inl RO)), (aPd, .inl (y4.1, 80, .inl PD))] t) (va_A [(aM, .inr (7, [.ref aRo, .ref aHi, .int ms, .ref aSn, .int (bI sv), .ref aAs, .ref aLg, .ref aPd, .int ml, .ref aCo, .ref aEa])), (aRo, .inl (y4.1, 151, .inl RO)), (aPd, .inl (y4.1, 80, .inl PD))] sz)) 0 0 (va_A [(aM, .inr (7, [.ref aRo, .ref aHi, .int ms, .ref aSn, .int (bI sv), .ref aAs, .ref aLg, .ref aPd, .int ml, .ref aCo, .ref aEa])), (aRo, .inl (y4.1, 151, .inl RO)), (aPd, .inl (y4.1, 80, .inl PD))] sz) := by
  refine Met.ofW (cc := cX8_fault) (maxL := 2) (ret := (some .int)) (by decide) rfl ?_
  intro p e s m args below meth c s₁ B hml hv
  obtain ⟨rfl, hsz, hP, hK, hD0, hNW⟩ := hv
  have hx := B.exec
  have hb := B.bytes
  have hr := B.returns
  have hts := atoms_spec (ws := wsX8_fault) B.pre
  have hown : s.vm.findClass RX8 = some m.cls := findClass_of_methodNamed B.named
  have hlocks := B.notSynchronized
  subst hsz
  have hD := hD0.self (sz := s.heap.size)
  generalize hAe : va_A [(aM, .inr (7, [.ref aRo, .ref aHi, .int ms, .ref aSn, .int (bI sv), .ref aAs, .ref aLg, .ref aPd, .int ml, .ref aCo, .ref aEa])), (aRo, .inl (y4.1, 151, .inl RO)), (aPd, .inl (y4.1, 80, .inl PD))] s.heap.size = A at hD ⊢
  have hA : ∀ q : Nat, s.heap.size ≤ q → A q := fun q h => by rw [← hAe]; exact Or.inr h
  have hS : va_S A s.heap s.heap [] := va_S.rf
  have hl := lv_entry ([.ref aM, .int wy]) (n := 2) (Nat.le_of_ble_eq_true rfl)
  rw [lg_entry_eq]
  generalize (lg_sl ([.ref aM, .int wy]) ++ List.replicate (2 - (lg_sl ([.ref aM, .int wy])).length) Slot.unset).toArray = ls at hl ⊢
  have hl : lv_has ls 2 [(0, .ref aM), (1, .int wy)] := hl
  refine startW (fun H locs hP hS => ?_) hP hS
  refine lv_iload_n hx hb dX8_fault_0 rfl (lv_at hl 1 rfl) ?_
  refine lv_if_ne (tgt := 11) hx hb dX8_fault_1 (by decide) (fun c1 => ?_) (fun c1 => ?_)
  · refine lv_iload_n hx hb dX8_fault_11 rfl (lv_at hl 1 rfl) ?_
    refine lv_iconst (v := 1) hx hb dX8_fault_12 (by decide) ?_
    refine lv_icmp_ne (tgt := 23) hx hb dX8_fault_13 (by decide) (fun c2 => ?_) (fun c2 => ?_)
    · refine lv_iconst (v := (-1)) hx hb dX8_fault_23 (by decide) ?_
      have em : m_X8_fault ml RO PD wy = (-1 : Int32) := (by first | (simp only [m_X8_fault, if_neg c1, if_neg c2]; done) | (simp only [m_X8_fault, if_neg c1, if_neg c2]; rfl))
      exact W.iret (v := (-1)) hx hb hr (fun t ht hW => ⟨⟨(-1), (), rfl, (by rw [em]), ⟨by rw [ht]; exact hP, by exact hD⟩⟩, hS.F ht⟩) hS.2.2 dX8_fault_24
    · refine lv_aload_n hx hb dX8_fault_16 rfl (lv_at hl 0 rfl) ?_
      refine callW_i (wr := []) (wn := fun u => [(aM, .inr (7, [.ref aRo, .ref aHi, .int ms, .ref aSn, .int (bI sv), .ref aAs, .ref aLg, .ref aPd, .int ml, .ref aCo, .ref aEa])), (aRo, .inl (y4.1, 151, .inl RO)), (aPd, .inl (y4.1, 80, .inl PD))]) (va_runV (As := []) (rest := []) ⟨hx, hb, hml, hown, hts⟩ (met_X8_walkFault l D y4 aM aRo aHi aSn aAs aLg aPd aCo aEa H.size ms sv ml RO PD hlen) (cwV 0 hts gX8_fault_X8_walkFault rfl rfl rfl (by decide +kernel) ⟨Nat.le_of_ble_eq_true rfl, Nat.le_of_ble_eq_true rfl⟩) ⟨preW_blind, va_recv hK hP (ci := 7) (q0 := 0) rfl rfl, preW_at (hP.sub (ws' := [(aM, .inr (7, [.ref aRo, .ref aHi, .int ms, .ref aSn, .int (bI sv), .ref aAs, .ref aLg, .ref aPd, .int ml, .ref aCo, .ref aEa])), (aRo, .inl (y4.1, 151, .inl RO)), (aPd, .inl (y4.1, 80, .inl PD))]) [0, 1, 2] rfl) hK (hD.sub (ws' := [(aM, .inr (7, [.ref aRo, .ref aHi, .int ms, .ref aSn, .int (bI sv), .ref aAs, .ref aLg, .ref aPd, .int ml, .ref aCo, .ref aEa])), (aRo, .inl (y4.1, 151, .inl RO)), (aPd, .inl (y4.1, 80, .inl PD))]) [0, 1, 2] (by decide) rfl) hNW⟩ rfl rfl hl.1 rfl (lv_room (Nat.le_of_ble_eq_true rfl)) dX8_fault_17 ⟨Nat.zero_le _, Nat.zero_le _⟩) hP hD hS hA [0, 1, 2] [] [0, 1, 2] rfl rfl (by decide) (by decide) (fun _ => rfl) (by decide) (fun r u3 H locs hw hP hD hS => ?_)
      subst hw
      have hP : va_P D vwCl [(aM, .inr (7, [.ref aRo, .ref aHi, .int ms, .ref aSn, .int (bI sv), .ref aAs, .ref aLg, .ref aPd, .int ml, .ref aCo, .ref aEa])), (aRo, .inl (y4.1, 151, .inl RO)), (aPd, .inl (y4.1, 80, .inl PD))] H := hP
      have hD : va_D A [(aM, .inr (7, [.ref aRo, .ref aHi, .int ms, .ref aSn, .int (bI sv), .ref aAs, .ref aLg, .ref aPd, .int ml, .ref aCo, .ref aEa])), (aRo, .inl (y4.1, 151, .inl RO)), (aPd, .inl (y4.1, 80, .inl PD))] := hD
      refine lv_goto (tgt := 24) hx hb dX8_fault_20 (by decide) ?_
      have em : m_X8_fault ml RO PD wy = (m_X8_walkFault ml PD) := (by first | (simp only [m_X8_fault, if_neg c1, if_pos c2]; done) | (simp only [m_X8_fault, if_neg c1, if_pos c2]; rfl))
      exact W.iret (v := (m_X8_walkFault ml PD)) hx hb hr (fun t ht hW => ⟨⟨(m_X8_walkFault ml PD), (), rfl, (by rw [em]), ⟨by rw [ht]; exact hP, by exact hD⟩⟩, hS.F ht⟩) hS.2.2 dX8_fault_24
  · refine lv_aload_n hx hb dX8_fault_4 rfl (lv_at hl 0 rfl) ?_
    refine callW_i (wr := []) (wn := fun u => [(aM, .inr (7, [.ref aRo, .ref aHi, .int ms, .ref aSn, .int (bI sv), .ref aAs, .ref aLg, .ref aPd, .int ml, .ref aCo, .ref aEa])), (aRo, .inl (y4.1, 151, .inl RO)), (aPd, .inl (y4.1, 80, .inl PD))]) (va_runV (As := []) (rest := []) ⟨hx, hb, hml, hown, hts⟩ (met_X8_mapFault l D y4 aM aRo aHi aSn aAs aLg aPd aCo aEa H.size ms sv ml RO PD hlen) (cwV 0 hts gX8_fault_X8_mapFault rfl rfl rfl (by decide +kernel) ⟨Nat.le_of_ble_eq_true rfl, Nat.le_of_ble_eq_true rfl⟩) ⟨preW_blind, va_recv hK hP (ci := 7) (q0 := 0) rfl rfl, preW_at (hP.sub (ws' := [(aM, .inr (7, [.ref aRo, .ref aHi, .int ms, .ref aSn, .int (bI sv), .ref aAs, .ref aLg, .ref aPd, .int ml, .ref aCo, .ref aEa])), (aRo, .inl (y4.1, 151, .inl RO)), (aPd, .inl (y4.1, 80, .inl PD))]) [0, 1, 2] rfl) hK (hD.sub (ws' := [(aM, .inr (7, [.ref aRo, .ref aHi, .int ms, .ref aSn, .int (bI sv), .ref aAs, .ref aLg, .ref aPd, .int ml, .ref aCo, .ref aEa])), (aRo, .inl (y4.1, 151, .inl RO)), (aPd, .inl (y4.1, 80, .inl PD))]) [0, 1, 2] (by decide) rfl) hNW⟩ rfl rfl hl.1 rfl (lv_room (Nat.le_of_ble_eq_true rfl)) dX8_fault_5 ⟨Nat.zero_le _, Nat.zero_le _⟩) hP hD hS hA [0, 1, 2] [] [0, 1, 2] rfl rfl (by decide) (by decide) (fun _ => rfl) (by decide) (fun r u4 H locs hw hP hD hS => ?_)
    subst hw
    have hP : va_P D vwCl [(aM, .inr (7, [.ref aRo, .ref aHi, .int ms, .ref aSn, .int (bI sv), .ref aAs, .ref aLg, .ref aPd, .int ml, .ref aCo, .ref aEa])), (aRo, .inl (y4.1, 151, .inl RO)), (aPd, .inl (y4.1, 80, .inl PD))] H := hP
    have hD : va_D A [(aM, .inr (7, [.ref aRo, .ref aHi, .int ms, .ref aSn, .int (bI sv), .ref aAs, .ref aLg, .ref aPd, .int ml, .ref aCo, .ref aEa])), (aRo, .inl (y4.1, 151, .inl RO)), (aPd, .inl (y4.1, 80, .inl PD))] := hD
    refine lv_goto (tgt := 24) hx hb dX8_fault_8 (by decide) ?_
    have em : m_X8_fault ml RO PD wy = (m_X8_mapFault ml RO PD) := (by first | (simp only [m_X8_fault, if_pos c1]; done) | (simp only [m_X8_fault, if_pos c1]; rfl))
    exact W.iret (v := (m_X8_mapFault ml RO PD)) hx hb hr (fun t ht hW => ⟨⟨(m_X8_mapFault ml RO PD), (), rfl, (by rw [em]), ⟨by rw [ht]; exact hP, by exact hD⟩⟩, hS.F ht⟩) hS.2.2 dX8_fault_24
def m_X8_append (ml : Int32) (PD : Nat → Int32) (cd : Int32) : Int32 × Int32 × (Nat → Int32) := (if (m_X8_in cd 33 126) = false then ((-1 : Int32), ml, PD) else (if ml = 80 then ((-3 : Int32), ml, PD) else (ml + 1, ml + 1, upd PD (ml).toNatClampNeg cd)))
set_option maxHeartbeats 4000000 in
set_option maxRecDepth 100000 in
theorem met_X8_append (l : Launch) (D : va_G) (y4 : vT) (aM aRo aHi aSn aAs aLg aPd aCo aEa : Nat) (sz : Nat) (ms : Int32) (sv : Bool) (ml : Int32) (PD : Nat → Int32) (cd : Int32) (hlen : 0 ≤ ml.toInt ∧ ml.toInt ≤ (80 : Nat)) : Met l yX8_append wsX8_append ({ frames := 1, cells := 0, slots := 0, locals := 22 }) (va_Pc [.ref aM, .int cd] (PreW D y4 [(aM, .inr (7, [.ref aRo, .ref aHi, .int ms, .ref aSn, .int (bI sv), .ref aAs, .ref aLg, .ref aPd, .int ml, .ref aCo, .ref aEa])), (aPd, .inl (y4.1, 80, .inl PD))] sz)) (va_Qi (fun (r : Int32) (_ : Unit) => r = (m_X8_append ml PD cd).1) (fun _ t => PostW D (va_A [(aM, .inr (7, [.ref aRo, .ref aHi, .int ms, .ref aSn, .int (bI sv), .ref aAs, .ref aLg, .ref aPd, .int ml, .ref aCo, .ref aEa])), (aPd, .inl (y4.1, 80, .inl PD))] sz) [(aM, .inr (7, [.ref aRo, .ref aHi, .int ms, .ref aSn, .int (bI sv), .ref aAs, .ref aLg, .ref aPd, .int ((m_X8_append ml PD cd).2.1), .ref aCo, .ref aEa])), (aPd, .inl (y4.1, 80, .inl ((m_X8_append ml PD cd).2.2)))] t) (va_A [(aM, .inr (7, [.ref aRo, .ref aHi, .int ms, .ref aSn, .int (bI sv), .ref aAs, .ref aLg, .ref aPd, .int ml, .ref aCo, .ref aEa])), (aPd, .inl (y4.1, 80, .inl PD))] sz)) 0 0 (va_A [(aM, .inr (7, [.ref aRo, .ref aHi, .int ms, .ref aSn, .int (bI sv), .ref aAs, .ref aLg, .ref aPd, .int ml, .ref aCo, .ref aEa])), (aPd, .inl (y4.1, 80, .inl PD))] sz) := by
  refine Met.ofW (cc := cX8_append) (maxL := 2) (ret := (some .int)) (by decide) rfl ?_
  intro p e s m args below meth c s₁ B hml hv
  obtain ⟨rfl, hsz, hP, hK, hD0, hNW⟩ := hv
  have hx := B.exec
  have hb := B.bytes
  have hr := B.returns
  have hts := atoms_spec (ws := wsX8_append) B.pre
  have hown : s.vm.findClass RX8 = some m.cls := findClass_of_methodNamed B.named
  have hlocks := B.notSynchronized
  subst hsz
  have hD := hD0.self (sz := s.heap.size)
  generalize hAe : va_A [(aM, .inr (7, [.ref aRo, .ref aHi, .int ms, .ref aSn, .int (bI sv), .ref aAs, .ref aLg, .ref aPd, .int ml, .ref aCo, .ref aEa])), (aPd, .inl (y4.1, 80, .inl PD))] s.heap.size = A at hD ⊢
  have hA : ∀ q : Nat, s.heap.size ≤ q → A q := fun q h => by rw [← hAe]; exact Or.inr h
  have hS : va_S A s.heap s.heap [] := va_S.rf
  have hl := lv_entry ([.ref aM, .int cd]) (n := 2) (Nat.le_of_ble_eq_true rfl)
  rw [lg_entry_eq]
  generalize (lg_sl ([.ref aM, .int cd]) ++ List.replicate (2 - (lg_sl ([.ref aM, .int cd])).length) Slot.unset).toArray = ls at hl ⊢
  have hl : lv_has ls 2 [(0, .ref aM), (1, .int cd)] := hl
  have f146 := hts (.fieldLink RX8 146 "PillarLightModel" "length" "I") (List.mem_of_getElem? (i := 1) rfl)
  have iX8 : ∀ w ∈ wsX80, w ∈ wsX8_append := fun _ h => List.mem_cons_of_mem _ (List.mem_append_right _ h)
  have f25 := hts (.fieldLink RX8 25 "PillarLightModel" "pad" "[I") (List.mem_of_getElem? (i := 2) rfl)
  refine startW (fun H locs hP hS => ?_) hP hS
  refine lv_iload_n hx hb dX8_append_0 rfl (lv_at hl 1 rfl) ?_
  refine lv_bipush (v := 33) hx hb dX8_append_1 (by decide) ?_
  refine lv_bipush (v := 126) hx hb dX8_append_3 (by decide) ?_
  refine callK_i (va_runS (As := [.int cd, .int 33, .int 126]) (rest := []) ⟨hx, hb, hml, hown, hts⟩ (met_X8_in l  cd 33 126) (va_cwS 3 hts gX8_append_X8_in rfl rfl rfl (by decide +kernel) ⟨Nat.le_of_ble_eq_true rfl, Nat.le_of_ble_eq_true rfl⟩) ⟨preS_blind, fun U hU hW => ⟨rfl, trivial⟩⟩ rfl rfl hl.1 rfl (lv_room (Nat.le_of_ble_eq_true rfl)) dX8_append_5 ⟨Nat.zero_le _, Nat.zero_le _⟩) hP hS (fun r u H locs hw hP hS => ?_)
  subst hw
  refine lb_if_ne (tgt := 13) hx hb dX8_append_8 (by decide) (fun c1 => ?_) (fun c1 => ?_)
  · refine lv_aload_n hx hb dX8_append_13 rfl (lv_at hl 0 rfl) ?_
    refine va_get (ci := 7) (v := .int ml) (C := RX8) (T := TX8) (N := 11) hx hb hts iX8 hown hK hP 0 rfl rfl 8 (by decide) f146 (fun _ h9 => h9) rfl dX8_append_14 ?_
    refine lv_bipush (v := 80) hx hb dX8_append_17 (by decide) ?_
    refine lv_icmp_ne (tgt := 25) hx hb dX8_append_19 (by decide) (fun c2 => ?_) (fun c2 => ?_)
    · refine lv_aload_n hx hb dX8_append_25 rfl (lv_at hl 0 rfl) ?_
      refine va_get (ci := 7) (v := .ref aPd) (C := RX8) (T := TX8) (N := 11) hx hb hts iX8 hown hK hP 0 rfl rfl 7 (by decide) f25 (fun _ h9 => h9) rfl dX8_append_26 ?_
      refine lv_aload_n hx hb dX8_append_29 rfl (lv_at hl 0 rfl) ?_
      refine va_get (ci := 7) (v := .int ml) (C := RX8) (T := TX8) (N := 11) hx hb hts iX8 hown hK hP 0 rfl rfl 8 (by decide) f146 (fun _ h9 => h9) rfl dX8_append_30 ?_
      refine lv_iload_n hx hb dX8_append_33 rfl (lv_at hl 1 rfl) ?_
      refine va_iast hx hb hK hP hD hS 1 0 rfl rfl (ml_in hlen (by assumption)) dX8_append_34 (fun H locs hP hD hS => ?_)
      have hP : va_P D vwCl [(aM, .inr (7, [.ref aRo, .ref aHi, .int ms, .ref aSn, .int (bI sv), .ref aAs, .ref aLg, .ref aPd, .int ml, .ref aCo, .ref aEa])), (aPd, .inl (y4.1, 80, .inl (upd PD (ml).toNatClampNeg cd)))] H := hP
      have hD : va_D A [(aM, .inr (7, [.ref aRo, .ref aHi, .int ms, .ref aSn, .int (bI sv), .ref aAs, .ref aLg, .ref aPd, .int ml, .ref aCo, .ref aEa])), (aPd, .inl (y4.1, 80, .inl (upd PD (ml).toNatClampNeg cd)))] := hD
      refine lv_aload_n hx hb dX8_append_35 rfl (lv_at hl 0 rfl) ?_
      refine lv_dup hx hb dX8_append_36 rfl ?_
      refine va_get (ci := 7) (v := .int ml) (C := RX8) (T := TX8) (N := 11) hx hb hts iX8 hown hK hP 0 rfl rfl 8 (by decide) f146 (fun _ h9 => h9) rfl dX8_append_37 ?_
      refine lv_iconst (v := 1) hx hb dX8_append_40 (by decide) ?_
      refine lv_iadd hx hb dX8_append_41 ?_
      refine va_put (ci := 7) (v := .int (ml + 1)) (ty := .int) (C := RX8) (T := TX8) (N := 11) hx hb hts iX8 tyX8 tyX8_ok nmX8 hown hK hP hD hS 0 rfl rfl 8 (by decide) f146 (fun _ h9 => h9) rfl (by decide +kernel) rfl rfl (Nat.le_of_ble_eq_true rfl) dX8_append_42 (fun H locs hP hD hS => ?_)
      have hP : va_P D vwCl [(aM, .inr (7, [.ref aRo, .ref aHi, .int ms, .ref aSn, .int (bI sv), .ref aAs, .ref aLg, .ref aPd, .int (ml + 1), .ref aCo, .ref aEa])), (aPd, .inl (y4.1, 80, .inl (upd PD (ml).toNatClampNeg cd)))] H := hP
      have hD : va_D A [(aM, .inr (7, [.ref aRo, .ref aHi, .int ms, .ref aSn, .int (bI sv), .ref aAs, .ref aLg, .ref aPd, .int (ml + 1), .ref aCo, .ref aEa])), (aPd, .inl (y4.1, 80, .inl (upd PD (ml).toNatClampNeg cd)))] := hD
      refine lv_aload_n hx hb dX8_append_45 rfl (lv_at hl 0 rfl) ?_
      refine va_get (ci := 7) (v := .int (ml + 1)) (C := RX8) (T := TX8) (N := 11) hx hb hts iX8 hown hK hP 0 rfl rfl 8 (by decide) f146 (fun _ h9 => h9) rfl dX8_append_46 ?_
      have em : m_X8_append ml PD cd = (ml + 1, ml + 1, upd PD (ml).toNatClampNeg cd) := (by first | (simp only [m_X8_append, if_neg c1, if_neg c2]; done) | (simp only [m_X8_append, if_neg c1, if_neg c2]; rfl))
      exact W.iret (v := ml + 1) hx hb hr (fun t ht hW => ⟨⟨ml + 1, (), rfl, (by rw [em]), ⟨by rw [ht, em]; exact hP, by rw [em]; exact hD⟩⟩, hS.F ht⟩) hS.2.2 dX8_append_49
    · refine lv_bipush (v := (-3)) hx hb dX8_append_22 (by decide) ?_
      have em : m_X8_append ml PD cd = ((-3 : Int32), ml, PD) := (by first | (simp only [m_X8_append, if_neg c1, if_pos c2]; done) | (simp only [m_X8_append, if_neg c1, if_pos c2]; rfl))
      exact W.iret (v := (-3)) hx hb hr (fun t ht hW => ⟨⟨(-3), (), rfl, (by rw [em]), ⟨by rw [ht, em]; exact hP, by rw [em]; exact hD⟩⟩, hS.F ht⟩) hS.2.2 dX8_append_24
  · refine lv_iconst (v := (-1)) hx hb dX8_append_11 (by decide) ?_
    have em : m_X8_append ml PD cd = ((-1 : Int32), ml, PD) := (by first | (simp only [m_X8_append, if_pos c1]; done) | (simp only [m_X8_append, if_pos c1]; rfl))
    exact W.iret (v := (-1)) hx hb hr (fun t ht hW => ⟨⟨(-1), (), rfl, (by rw [em]), ⟨by rw [ht, em]; exact hP, by rw [em]; exact hD⟩⟩, hS.F ht⟩) hS.2.2 dX8_append_12
def m_X8_clear (ml : Int32) : Int32 × Int32 := (ml, (0 : Int32))
set_option maxHeartbeats 4000000 in
set_option maxRecDepth 100000 in
theorem met_X8_clear (l : Launch) (D : va_G) (y4 : vT) (aM aRo aHi aSn aAs aLg aPd aCo aEa : Nat) (sz : Nat) (ms : Int32) (sv : Bool) (ml : Int32) : Met l yX8_clear wsX8_clear ({ frames := 0, cells := 0, slots := 0, locals := 0 }) (va_Pc [.ref aM] (PreW D y4 [(aM, .inr (7, [.ref aRo, .ref aHi, .int ms, .ref aSn, .int (bI sv), .ref aAs, .ref aLg, .ref aPd, .int ml, .ref aCo, .ref aEa]))] sz)) (va_Qi (fun (r : Int32) (_ : Unit) => r = (m_X8_clear ml).1) (fun _ t => PostW D (va_A [(aM, .inr (7, [.ref aRo, .ref aHi, .int ms, .ref aSn, .int (bI sv), .ref aAs, .ref aLg, .ref aPd, .int ml, .ref aCo, .ref aEa]))] sz) [(aM, .inr (7, [.ref aRo, .ref aHi, .int ms, .ref aSn, .int (bI sv), .ref aAs, .ref aLg, .ref aPd, .int ((m_X8_clear ml).2), .ref aCo, .ref aEa]))] t) (va_A [(aM, .inr (7, [.ref aRo, .ref aHi, .int ms, .ref aSn, .int (bI sv), .ref aAs, .ref aLg, .ref aPd, .int ml, .ref aCo, .ref aEa]))] sz)) 0 0 (va_A [(aM, .inr (7, [.ref aRo, .ref aHi, .int ms, .ref aSn, .int (bI sv), .ref aAs, .ref aLg, .ref aPd, .int ml, .ref aCo, .ref aEa]))] sz) := by
  refine Met.ofW (cc := cX8_clear) (maxL := 2) (ret := (some .int)) (by decide) rfl ?_
  intro p e s m args below meth c s₁ B hml hv
  obtain ⟨rfl, hsz, hP, hK, hD0, hNW⟩ := hv
  have hx := B.exec
  have hb := B.bytes
  have hr := B.returns
  have hts := atoms_spec (ws := wsX8_clear) B.pre
  have hown : s.vm.findClass RX8 = some m.cls := findClass_of_methodNamed B.named
  have hlocks := B.notSynchronized
  subst hsz
  have hD := hD0.self (sz := s.heap.size)
  generalize hAe : va_A [(aM, .inr (7, [.ref aRo, .ref aHi, .int ms, .ref aSn, .int (bI sv), .ref aAs, .ref aLg, .ref aPd, .int ml, .ref aCo, .ref aEa]))] s.heap.size = A at hD ⊢
  have hA : ∀ q : Nat, s.heap.size ≤ q → A q := fun q h => by rw [← hAe]; exact Or.inr h
  have hS : va_S A s.heap s.heap [] := va_S.rf
  have hl := lv_entry ([.ref aM]) (n := 2) (Nat.le_of_ble_eq_true rfl)
  rw [lg_entry_eq]
  generalize (lg_sl ([.ref aM]) ++ List.replicate (2 - (lg_sl ([.ref aM])).length) Slot.unset).toArray = ls at hl ⊢
  have hl : lv_has ls 2 [(0, .ref aM)] := hl
  have f146 := hts (.fieldLink RX8 146 "PillarLightModel" "length" "I") (List.mem_of_getElem? (i := 1) rfl)
  have iX8 : ∀ w ∈ wsX80, w ∈ wsX8_clear := fun _ h => List.mem_cons_of_mem _ (List.mem_append_right _ h)
  refine startW (fun H locs hP hS => ?_) hP hS
  refine lv_aload_n hx hb dX8_clear_0 rfl (lv_at hl 0 rfl) ?_
  refine va_get (ci := 7) (v := .int ml) (C := RX8) (T := TX8) (N := 11) hx hb hts iX8 hown hK hP 0 rfl rfl 8 (by decide) f146 (fun _ h9 => h9) rfl dX8_clear_1 ?_
  refine lv_istore_n (lv' := [(1, .int ml), (0, .ref aM)]) hx hb dX8_clear_4 rfl hl (by decide) rfl (fun ls hl => ?_)
  refine lv_aload_n hx hb dX8_clear_5 rfl (lv_at hl 1 rfl) ?_
  refine lv_iconst (v := 0) hx hb dX8_clear_6 (by decide) ?_
  refine va_put (ci := 7) (v := .int 0) (ty := .int) (C := RX8) (T := TX8) (N := 11) hx hb hts iX8 tyX8 tyX8_ok nmX8 hown hK hP hD hS 0 rfl rfl 8 (by decide) f146 (fun _ h9 => h9) rfl (by decide +kernel) rfl rfl (Nat.le_of_ble_eq_true rfl) dX8_clear_7 (fun H locs hP hD hS => ?_)
  have hP : va_P D vwCl [(aM, .inr (7, [.ref aRo, .ref aHi, .int ms, .ref aSn, .int (bI sv), .ref aAs, .ref aLg, .ref aPd, .int 0, .ref aCo, .ref aEa]))] H := hP
  have hD : va_D A [(aM, .inr (7, [.ref aRo, .ref aHi, .int ms, .ref aSn, .int (bI sv), .ref aAs, .ref aLg, .ref aPd, .int 0, .ref aCo, .ref aEa]))] := hD
  refine lv_iload_n hx hb dX8_clear_10 rfl (lv_at hl 0 rfl) ?_
  have em : m_X8_clear ml = (ml, (0 : Int32)) := (by first | (simp only [m_X8_clear]; done) | (unfold m_X8_clear; rfl) | rfl)
  exact W.iret (v := ml) hx hb hr (fun t ht hW => ⟨⟨ml, (), rfl, (by rw [em]), ⟨by rw [ht, em]; exact hP, by rw [em]; exact hD⟩⟩, hS.F ht⟩) hS.2.2 dX8_clear_11
def f_X8_putAside_2 (RO : Nat → Int32) (k1 : Nat) (t2 : (Nat → Int32)) : (Nat → Int32) := upd t2 (nI k1).toNatClampNeg (RO (nI k1).toNatClampNeg)
def m_X8_putAside (RO : Nat → Int32) (AS : Nat → Int32) : (Nat → Int32) := (let t5 : (Nat → Int32) := itr (f_X8_putAside_2 RO) 151 AS; t5)
set_option maxHeartbeats 4000000 in
set_option maxRecDepth 100000 in
theorem met_X8_putAside (l : Launch) (D : va_G) (y4 : vT) (aM aRo aHi aSn aAs aLg aPd aCo aEa : Nat) (sz : Nat) (ms : Int32) (sv : Bool) (ml : Int32) (RO : Nat → Int32) (AS : Nat → Int32) : Met l yX8_putAside wsX8_putAside ({ frames := 0, cells := 0, slots := 0, locals := 0 }) (va_Pc [.ref aM] (PreW D y4 [(aM, .inr (7, [.ref aRo, .ref aHi, .int ms, .ref aSn, .int (bI sv), .ref aAs, .ref aLg, .ref aPd, .int ml, .ref aCo, .ref aEa])), (aRo, .inl (y4.1, 151, .inl RO)), (aAs, .inl (y4.1, 151, .inl AS))] sz)) (va_Qv (fun (_ : Unit) => True) (fun _ t => PostW D (va_A [(aM, .inr (7, [.ref aRo, .ref aHi, .int ms, .ref aSn, .int (bI sv), .ref aAs, .ref aLg, .ref aPd, .int ml, .ref aCo, .ref aEa])), (aRo, .inl (y4.1, 151, .inl RO)), (aAs, .inl (y4.1, 151, .inl AS))] sz) [(aM, .inr (7, [.ref aRo, .ref aHi, .int ms, .ref aSn, .int (bI sv), .ref aAs, .ref aLg, .ref aPd, .int ml, .ref aCo, .ref aEa])), (aRo, .inl (y4.1, 151, .inl RO)), (aAs, .inl (y4.1, 151, .inl (m_X8_putAside RO AS)))] t) (va_A [(aM, .inr (7, [.ref aRo, .ref aHi, .int ms, .ref aSn, .int (bI sv), .ref aAs, .ref aLg, .ref aPd, .int ml, .ref aCo, .ref aEa])), (aRo, .inl (y4.1, 151, .inl RO)), (aAs, .inl (y4.1, 151, .inl AS))] sz)) 0 0 (va_A [(aM, .inr (7, [.ref aRo, .ref aHi, .int ms, .ref aSn, .int (bI sv), .ref aAs, .ref aLg, .ref aPd, .int ml, .ref aCo, .ref aEa])), (aRo, .inl (y4.1, 151, .inl RO)), (aAs, .inl (y4.1, 151, .inl AS))] sz) := by
  refine Met.ofW (cc := cX8_putAside) (maxL := 2) (ret := none) (by decide) rfl ?_
  intro p e s m args below meth c s₁ B hml hv
  obtain ⟨rfl, hsz, hP, hK, hD0, hNW⟩ := hv
  have hx := B.exec
  have hb := B.bytes
  have hr := B.returns
  have hts := atoms_spec (ws := wsX8_putAside) B.pre
  have hown : s.vm.findClass RX8 = some m.cls := findClass_of_methodNamed B.named
  have hlocks := B.notSynchronized
  subst hsz
  have hD := hD0.self (sz := s.heap.size)
  generalize hAe : va_A [(aM, .inr (7, [.ref aRo, .ref aHi, .int ms, .ref aSn, .int (bI sv), .ref aAs, .ref aLg, .ref aPd, .int ml, .ref aCo, .ref aEa])), (aRo, .inl (y4.1, 151, .inl RO)), (aAs, .inl (y4.1, 151, .inl AS))] s.heap.size = A at hD ⊢
  have hA : ∀ q : Nat, s.heap.size ≤ q → A q := fun q h => by rw [← hAe]; exact Or.inr h
  have hS : va_S A s.heap s.heap [] := va_S.rf
  have hl := lv_entry ([.ref aM]) (n := 2) (Nat.le_of_ble_eq_true rfl)
  rw [lg_entry_eq]
  generalize (lg_sl ([.ref aM]) ++ List.replicate (2 - (lg_sl ([.ref aM])).length) Slot.unset).toArray = ls at hl ⊢
  have hl : lv_has ls 2 [(0, .ref aM)] := hl
  have f19 := hts (.fieldLink RX8 19 "PillarLightModel" "aside" "[I") (List.mem_of_getElem? (i := 1) rfl)
  have iX8 : ∀ w ∈ wsX80, w ∈ wsX8_putAside := fun _ h => List.mem_cons_of_mem _ (List.mem_append_right _ h)
  have f7 := hts (.fieldLink RX8 7 "PillarLightModel" "row" "[I") (List.mem_of_getElem? (i := 2) rfl)
  refine startW (fun H locs hP hS => ?_) hP hS
  refine lv_iconst (v := 0) hx hb dX8_putAside_0 (by decide) ?_
  refine lv_istore_n (lv' := [(1, .int 0), (0, .ref aM)]) hx hb dX8_putAside_1 rfl hl (by decide) rfl (fun ls hl => ?_)
  refine loopW (σ := (Nat → Int32)) 2 (f_X8_putAside_2 RO) 151 AS (fun k1 t2 H locs ls => va_P D vwCl [(aM, .inr (7, [.ref aRo, .ref aHi, .int ms, .ref aSn, .int (bI sv), .ref aAs, .ref aLg, .ref aPd, .int ml, .ref aCo, .ref aEa])), (aRo, .inl (y4.1, 151, .inl RO)), (aAs, .inl (y4.1, 151, .inl t2))] H ∧ va_D A [(aM, .inr (7, [.ref aRo, .ref aHi, .int ms, .ref aSn, .int (bI sv), .ref aAs, .ref aLg, .ref aPd, .int ml, .ref aCo, .ref aEa])), (aRo, .inl (y4.1, 151, .inl RO)), (aAs, .inl (y4.1, 151, .inl t2))] ∧ va_S A s.heap H locs ∧ lv_has ls 2 [(1, .int (nI k1)), (0, .ref aM)]) ⟨hP, hD, hS, lv_sub hl [0, 1] rfl⟩ (fun t5 H locs ls et5 hh => ?_) (fun k1 t2 hkk1 hek1 ihk1 H locs ls hh => ?_)
  · obtain ⟨hP, hD, hS, hl⟩ := hh
    have hP : va_P D vwCl [(aM, .inr (7, [.ref aRo, .ref aHi, .int ms, .ref aSn, .int (bI sv), .ref aAs, .ref aLg, .ref aPd, .int ml, .ref aCo, .ref aEa])), (aRo, .inl (y4.1, 151, .inl RO)), (aAs, .inl (y4.1, 151, .inl t5))] H := hP
    have hD : va_D A [(aM, .inr (7, [.ref aRo, .ref aHi, .int ms, .ref aSn, .int (bI sv), .ref aAs, .ref aLg, .ref aPd, .int ml, .ref aCo, .ref aEa])), (aRo, .inl (y4.1, 151, .inl RO)), (aAs, .inl (y4.1, 151, .inl t5))] := hD
    have hl : lv_has ls 2 [(1, .int (nI 151)), (0, .ref aM)] := hl
    refine lv_iload_n hx hb dX8_putAside_2 rfl (lv_at hl 0 rfl) ?_
    refine lv_sipush (v := 151) hx hb dX8_putAside_3 (by decide) ?_
    refine lv_icmp_ge (tgt := 27) hx hb dX8_putAside_6 (by decide) (fun c6 => ?_) (fun c6 => absurd (nI_le (a := 151) (by omega) (by omega)) c6)
    have em : m_X8_putAside RO AS = t5 := (by subst et5; first | (simp only [m_X8_putAside]; done) | (unfold m_X8_putAside; rfl) | rfl)
    exact W.vret hx hb hr (fun t ht hW => ⟨⟨(), rfl, trivial, ⟨by rw [ht, em]; exact hP, by rw [em]; exact hD⟩⟩, hS.F ht⟩) hS.2.2 dX8_putAside_27
  · obtain ⟨hP, hD, hS, hl⟩ := hh
    have hP : va_P D vwCl [(aM, .inr (7, [.ref aRo, .ref aHi, .int ms, .ref aSn, .int (bI sv), .ref aAs, .ref aLg, .ref aPd, .int ml, .ref aCo, .ref aEa])), (aRo, .inl (y4.1, 151, .inl RO)), (aAs, .inl (y4.1, 151, .inl t2))] H := hP
    have hD : va_D A [(aM, .inr (7, [.ref aRo, .ref aHi, .int ms, .ref aSn, .int (bI sv), .ref aAs, .ref aLg, .ref aPd, .int ml, .ref aCo, .ref aEa])), (aRo, .inl (y4.1, 151, .inl RO)), (aAs, .inl (y4.1, 151, .inl t2))] := hD
    have hl : lv_has ls 2 [(1, .int (nI k1)), (0, .ref aM)] := hl
    refine lv_iload_n hx hb dX8_putAside_2 rfl (lv_at hl 0 rfl) ?_
    refine lv_sipush (v := 151) hx hb dX8_putAside_3 (by decide) ?_
    refine lv_icmp_ge (tgt := 27) hx hb dX8_putAside_6 (by decide) (fun c4 => absurd c4 (nI_ge (b := 151) (by omega) (by omega))) (fun c4 => ?_)
    refine lv_aload_n hx hb dX8_putAside_9 rfl (lv_at hl 1 rfl) ?_
    refine va_get (ci := 7) (v := .ref aAs) (C := RX8) (T := TX8) (N := 11) hx hb hts iX8 hown hK hP 0 rfl rfl 5 (by decide) f19 (fun _ h9 => h9) rfl dX8_putAside_10 ?_
    refine lv_iload_n hx hb dX8_putAside_13 rfl (lv_at hl 0 rfl) ?_
    refine lv_aload_n hx hb dX8_putAside_14 rfl (lv_at hl 1 rfl) ?_
    refine va_get (ci := 7) (v := .ref aRo) (C := RX8) (T := TX8) (N := 11) hx hb hts iX8 hown hK hP 0 rfl rfl 0 (by decide) f7 (fun _ h9 => h9) rfl dX8_putAside_15 ?_
    refine lv_iload_n hx hb dX8_putAside_18 rfl (lv_at hl 0 rfl) ?_
    refine va_iald hx hb hK hP 1 0 rfl rfl (vp_in_nI (by omega) (by decide)) dX8_putAside_19 ?_
    refine va_iast hx hb hK hP hD hS 2 0 rfl rfl (vp_in_nI (by omega) (by decide)) dX8_putAside_20 (fun H locs hP hD hS => ?_)
    have hP : va_P D vwCl [(aM, .inr (7, [.ref aRo, .ref aHi, .int ms, .ref aSn, .int (bI sv), .ref aAs, .ref aLg, .ref aPd, .int ml, .ref aCo, .ref aEa])), (aRo, .inl (y4.1, 151, .inl RO)), (aAs, .inl (y4.1, 151, .inl (upd t2 (nI k1).toNatClampNeg (RO (nI k1).toNatClampNeg))))] H := hP
    have hD : va_D A [(aM, .inr (7, [.ref aRo, .ref aHi, .int ms, .ref aSn, .int (bI sv), .ref aAs, .ref aLg, .ref aPd, .int ml, .ref aCo, .ref aEa])), (aRo, .inl (y4.1, 151, .inl RO)), (aAs, .inl (y4.1, 151, .inl (upd t2 (nI k1).toNatClampNeg (RO (nI k1).toNatClampNeg))))] := hD
    refine lv_iinc (v := nI (k1 + 1)) (lv' := [(1, .int (nI (k1 + 1))), (0, .ref aM)]) hx hb dX8_putAside_21 hl (k := 0) rfl (nI_1 _) (by decide) rfl (fun ls hl => ?_)
    refine lv_goto (tgt := 2) hx hb dX8_putAside_24 (by decide) ?_
    have ef : (f_X8_putAside_2 RO) k1 t2 = upd t2 (nI k1).toNatClampNeg (RO (nI k1).toNatClampNeg) := (by first | (simp only [f_X8_putAside_2]; done) | (unfold f_X8_putAside_2; rfl) | rfl)
    rw [ef] at ihk1
    exact ihk1 H locs ls ⟨hP, hD, hS, lv_sub hl [0, 1] rfl⟩
def f_X8_putBack_2 (AS : Nat → Int32) (k1 : Nat) (t2 : (Nat → Int32)) : (Nat → Int32) := upd t2 (nI k1).toNatClampNeg (AS (nI k1).toNatClampNeg)
def m_X8_putBack (RO : Nat → Int32) (AS : Nat → Int32) : (Nat → Int32) := (let t5 : (Nat → Int32) := itr (f_X8_putBack_2 AS) 151 RO; t5)
set_option maxHeartbeats 4000000 in
set_option maxRecDepth 100000 in
theorem met_X8_putBack (l : Launch) (D : va_G) (y4 : vT) (aM aRo aHi aSn aAs aLg aPd aCo aEa : Nat) (sz : Nat) (ms : Int32) (sv : Bool) (ml : Int32) (RO : Nat → Int32) (AS : Nat → Int32) : Met l yX8_putBack wsX8_putBack ({ frames := 0, cells := 0, slots := 0, locals := 0 }) (va_Pc [.ref aM] (PreW D y4 [(aM, .inr (7, [.ref aRo, .ref aHi, .int ms, .ref aSn, .int (bI sv), .ref aAs, .ref aLg, .ref aPd, .int ml, .ref aCo, .ref aEa])), (aRo, .inl (y4.1, 151, .inl RO)), (aAs, .inl (y4.1, 151, .inl AS))] sz)) (va_Qv (fun (_ : Unit) => True) (fun _ t => PostW D (va_A [(aM, .inr (7, [.ref aRo, .ref aHi, .int ms, .ref aSn, .int (bI sv), .ref aAs, .ref aLg, .ref aPd, .int ml, .ref aCo, .ref aEa])), (aRo, .inl (y4.1, 151, .inl RO)), (aAs, .inl (y4.1, 151, .inl AS))] sz) [(aM, .inr (7, [.ref aRo, .ref aHi, .int ms, .ref aSn, .int (bI sv), .ref aAs, .ref aLg, .ref aPd, .int ml, .ref aCo, .ref aEa])), (aRo, .inl (y4.1, 151, .inl (m_X8_putBack RO AS))), (aAs, .inl (y4.1, 151, .inl AS))] t) (va_A [(aM, .inr (7, [.ref aRo, .ref aHi, .int ms, .ref aSn, .int (bI sv), .ref aAs, .ref aLg, .ref aPd, .int ml, .ref aCo, .ref aEa])), (aRo, .inl (y4.1, 151, .inl RO)), (aAs, .inl (y4.1, 151, .inl AS))] sz)) 0 0 (va_A [(aM, .inr (7, [.ref aRo, .ref aHi, .int ms, .ref aSn, .int (bI sv), .ref aAs, .ref aLg, .ref aPd, .int ml, .ref aCo, .ref aEa])), (aRo, .inl (y4.1, 151, .inl RO)), (aAs, .inl (y4.1, 151, .inl AS))] sz) := by
  refine Met.ofW (cc := cX8_putBack) (maxL := 2) (ret := none) (by decide) rfl ?_
  intro p e s m args below meth c s₁ B hml hv
  obtain ⟨rfl, hsz, hP, hK, hD0, hNW⟩ := hv
  have hx := B.exec
  have hb := B.bytes
  have hr := B.returns
  have hts := atoms_spec (ws := wsX8_putBack) B.pre
  have hown : s.vm.findClass RX8 = some m.cls := findClass_of_methodNamed B.named
  have hlocks := B.notSynchronized
  subst hsz
  have hD := hD0.self (sz := s.heap.size)
  generalize hAe : va_A [(aM, .inr (7, [.ref aRo, .ref aHi, .int ms, .ref aSn, .int (bI sv), .ref aAs, .ref aLg, .ref aPd, .int ml, .ref aCo, .ref aEa])), (aRo, .inl (y4.1, 151, .inl RO)), (aAs, .inl (y4.1, 151, .inl AS))] s.heap.size = A at hD ⊢
  have hA : ∀ q : Nat, s.heap.size ≤ q → A q := fun q h => by rw [← hAe]; exact Or.inr h
  have hS : va_S A s.heap s.heap [] := va_S.rf
  have hl := lv_entry ([.ref aM]) (n := 2) (Nat.le_of_ble_eq_true rfl)
  rw [lg_entry_eq]
  generalize (lg_sl ([.ref aM]) ++ List.replicate (2 - (lg_sl ([.ref aM])).length) Slot.unset).toArray = ls at hl ⊢
  have hl : lv_has ls 2 [(0, .ref aM)] := hl
  have f7 := hts (.fieldLink RX8 7 "PillarLightModel" "row" "[I") (List.mem_of_getElem? (i := 1) rfl)
  have iX8 : ∀ w ∈ wsX80, w ∈ wsX8_putBack := fun _ h => List.mem_cons_of_mem _ (List.mem_append_right _ h)
  have f19 := hts (.fieldLink RX8 19 "PillarLightModel" "aside" "[I") (List.mem_of_getElem? (i := 2) rfl)
  refine startW (fun H locs hP hS => ?_) hP hS
  refine lv_iconst (v := 0) hx hb dX8_putBack_0 (by decide) ?_
  refine lv_istore_n (lv' := [(1, .int 0), (0, .ref aM)]) hx hb dX8_putBack_1 rfl hl (by decide) rfl (fun ls hl => ?_)
  refine loopW (σ := (Nat → Int32)) 2 (f_X8_putBack_2 AS) 151 RO (fun k1 t2 H locs ls => va_P D vwCl [(aM, .inr (7, [.ref aRo, .ref aHi, .int ms, .ref aSn, .int (bI sv), .ref aAs, .ref aLg, .ref aPd, .int ml, .ref aCo, .ref aEa])), (aRo, .inl (y4.1, 151, .inl t2)), (aAs, .inl (y4.1, 151, .inl AS))] H ∧ va_D A [(aM, .inr (7, [.ref aRo, .ref aHi, .int ms, .ref aSn, .int (bI sv), .ref aAs, .ref aLg, .ref aPd, .int ml, .ref aCo, .ref aEa])), (aRo, .inl (y4.1, 151, .inl t2)), (aAs, .inl (y4.1, 151, .inl AS))] ∧ va_S A s.heap H locs ∧ lv_has ls 2 [(1, .int (nI k1)), (0, .ref aM)]) ⟨hP, hD, hS, lv_sub hl [0, 1] rfl⟩ (fun t5 H locs ls et5 hh => ?_) (fun k1 t2 hkk1 hek1 ihk1 H locs ls hh => ?_)
  · obtain ⟨hP, hD, hS, hl⟩ := hh
    have hP : va_P D vwCl [(aM, .inr (7, [.ref aRo, .ref aHi, .int ms, .ref aSn, .int (bI sv), .ref aAs, .ref aLg, .ref aPd, .int ml, .ref aCo, .ref aEa])), (aRo, .inl (y4.1, 151, .inl t5)), (aAs, .inl (y4.1, 151, .inl AS))] H := hP
    have hD : va_D A [(aM, .inr (7, [.ref aRo, .ref aHi, .int ms, .ref aSn, .int (bI sv), .ref aAs, .ref aLg, .ref aPd, .int ml, .ref aCo, .ref aEa])), (aRo, .inl (y4.1, 151, .inl t5)), (aAs, .inl (y4.1, 151, .inl AS))] := hD
    have hl : lv_has ls 2 [(1, .int (nI 151)), (0, .ref aM)] := hl
    refine lv_iload_n hx hb dX8_putBack_2 rfl (lv_at hl 0 rfl) ?_
    refine lv_sipush (v := 151) hx hb dX8_putBack_3 (by decide) ?_
    refine lv_icmp_ge (tgt := 27) hx hb dX8_putBack_6 (by decide) (fun c6 => ?_) (fun c6 => absurd (nI_le (a := 151) (by omega) (by omega)) c6)
    have em : m_X8_putBack RO AS = t5 := (by subst et5; first | (simp only [m_X8_putBack]; done) | (unfold m_X8_putBack; rfl) | rfl)
    exact W.vret hx hb hr (fun t ht hW => ⟨⟨(), rfl, trivial, ⟨by rw [ht, em]; exact hP, by rw [em]; exact hD⟩⟩, hS.F ht⟩) hS.2.2 dX8_putBack_27
  · obtain ⟨hP, hD, hS, hl⟩ := hh
    have hP : va_P D vwCl [(aM, .inr (7, [.ref aRo, .ref aHi, .int ms, .ref aSn, .int (bI sv), .ref aAs, .ref aLg, .ref aPd, .int ml, .ref aCo, .ref aEa])), (aRo, .inl (y4.1, 151, .inl t2)), (aAs, .inl (y4.1, 151, .inl AS))] H := hP
    have hD : va_D A [(aM, .inr (7, [.ref aRo, .ref aHi, .int ms, .ref aSn, .int (bI sv), .ref aAs, .ref aLg, .ref aPd, .int ml, .ref aCo, .ref aEa])), (aRo, .inl (y4.1, 151, .inl t2)), (aAs, .inl (y4.1, 151, .inl AS))] := hD
    have hl : lv_has ls 2 [(1, .int (nI k1)), (0, .ref aM)] := hl
    refine lv_iload_n hx hb dX8_putBack_2 rfl (lv_at hl 0 rfl) ?_
    refine lv_sipush (v := 151) hx hb dX8_putBack_3 (by decide) ?_
    refine lv_icmp_ge (tgt := 27) hx hb dX8_putBack_6 (by decide) (fun c4 => absurd c4 (nI_ge (b := 151) (by omega) (by omega))) (fun c4 => ?_)
    refine lv_aload_n hx hb dX8_putBack_9 rfl (lv_at hl 1 rfl) ?_
    refine va_get (ci := 7) (v := .ref aRo) (C := RX8) (T := TX8) (N := 11) hx hb hts iX8 hown hK hP 0 rfl rfl 0 (by decide) f7 (fun _ h9 => h9) rfl dX8_putBack_10 ?_
    refine lv_iload_n hx hb dX8_putBack_13 rfl (lv_at hl 0 rfl) ?_
    refine lv_aload_n hx hb dX8_putBack_14 rfl (lv_at hl 1 rfl) ?_
    refine va_get (ci := 7) (v := .ref aAs) (C := RX8) (T := TX8) (N := 11) hx hb hts iX8 hown hK hP 0 rfl rfl 5 (by decide) f19 (fun _ h9 => h9) rfl dX8_putBack_15 ?_
    refine lv_iload_n hx hb dX8_putBack_18 rfl (lv_at hl 0 rfl) ?_
    refine va_iald hx hb hK hP 2 0 rfl rfl (vp_in_nI (by omega) (by decide)) dX8_putBack_19 ?_
    refine va_iast hx hb hK hP hD hS 1 0 rfl rfl (vp_in_nI (by omega) (by decide)) dX8_putBack_20 (fun H locs hP hD hS => ?_)
    have hP : va_P D vwCl [(aM, .inr (7, [.ref aRo, .ref aHi, .int ms, .ref aSn, .int (bI sv), .ref aAs, .ref aLg, .ref aPd, .int ml, .ref aCo, .ref aEa])), (aRo, .inl (y4.1, 151, .inl (upd t2 (nI k1).toNatClampNeg (AS (nI k1).toNatClampNeg)))), (aAs, .inl (y4.1, 151, .inl AS))] H := hP
    have hD : va_D A [(aM, .inr (7, [.ref aRo, .ref aHi, .int ms, .ref aSn, .int (bI sv), .ref aAs, .ref aLg, .ref aPd, .int ml, .ref aCo, .ref aEa])), (aRo, .inl (y4.1, 151, .inl (upd t2 (nI k1).toNatClampNeg (AS (nI k1).toNatClampNeg)))), (aAs, .inl (y4.1, 151, .inl AS))] := hD
    refine lv_iinc (v := nI (k1 + 1)) (lv' := [(1, .int (nI (k1 + 1))), (0, .ref aM)]) hx hb dX8_putBack_21 hl (k := 0) rfl (nI_1 _) (by decide) rfl (fun ls hl => ?_)
    refine lv_goto (tgt := 2) hx hb dX8_putBack_24 (by decide) ?_
    have ef : (f_X8_putBack_2 AS) k1 t2 = upd t2 (nI k1).toNatClampNeg (AS (nI k1).toNatClampNeg) := (by first | (simp only [f_X8_putBack_2]; done) | (unfold f_X8_putBack_2; rfl) | rfl)
    rw [ef] at ihk1
    exact ihk1 H locs ls ⟨hP, hD, hS, lv_sub hl [0, 1] rfl⟩
def f_X8_save_2 (RO : Nat → Int32) (k1 : Nat) (t2 : (Nat → Int32)) : (Nat → Int32) := upd t2 (nI k1).toNatClampNeg (RO (nI k1).toNatClampNeg)
def m_X8_save (RO : Nat → Int32) (SN : Nat → Int32) : Int32 × Bool × (Nat → Int32) := (let t5 : (Nat → Int32) := itr (f_X8_save_2 RO) 151 SN; (RO 147, true, t5))
set_option maxHeartbeats 4000000 in
set_option maxRecDepth 100000 in
theorem met_X8_save (l : Launch) (D : va_G) (y4 : vT) (aM aRo aHi aSn aAs aLg aPd aCo aEa : Nat) (sz : Nat) (ms : Int32) (sv : Bool) (ml : Int32) (RO : Nat → Int32) (SN : Nat → Int32) : Met l yX8_save wsX8_save ({ frames := 0, cells := 0, slots := 0, locals := 0 }) (va_Pc [.ref aM] (PreW D y4 [(aM, .inr (7, [.ref aRo, .ref aHi, .int ms, .ref aSn, .int (bI sv), .ref aAs, .ref aLg, .ref aPd, .int ml, .ref aCo, .ref aEa])), (aRo, .inl (y4.1, 151, .inl RO)), (aSn, .inl (y4.1, 151, .inl SN))] sz)) (va_Qi (fun (r : Int32) (_ : Unit) => r = (m_X8_save RO SN).1) (fun _ t => PostW D (va_A [(aM, .inr (7, [.ref aRo, .ref aHi, .int ms, .ref aSn, .int (bI sv), .ref aAs, .ref aLg, .ref aPd, .int ml, .ref aCo, .ref aEa])), (aRo, .inl (y4.1, 151, .inl RO)), (aSn, .inl (y4.1, 151, .inl SN))] sz) [(aM, .inr (7, [.ref aRo, .ref aHi, .int ms, .ref aSn, .int (bI ((m_X8_save RO SN).2.1)), .ref aAs, .ref aLg, .ref aPd, .int ml, .ref aCo, .ref aEa])), (aRo, .inl (y4.1, 151, .inl RO)), (aSn, .inl (y4.1, 151, .inl ((m_X8_save RO SN).2.2)))] t) (va_A [(aM, .inr (7, [.ref aRo, .ref aHi, .int ms, .ref aSn, .int (bI sv), .ref aAs, .ref aLg, .ref aPd, .int ml, .ref aCo, .ref aEa])), (aRo, .inl (y4.1, 151, .inl RO)), (aSn, .inl (y4.1, 151, .inl SN))] sz)) 0 0 (va_A [(aM, .inr (7, [.ref aRo, .ref aHi, .int ms, .ref aSn, .int (bI sv), .ref aAs, .ref aLg, .ref aPd, .int ml, .ref aCo, .ref aEa])), (aRo, .inl (y4.1, 151, .inl RO)), (aSn, .inl (y4.1, 151, .inl SN))] sz) := by
  refine Met.ofW (cc := cX8_save) (maxL := 2) (ret := (some .int)) (by decide) rfl ?_
  intro p e s m args below meth c s₁ B hml hv
  obtain ⟨rfl, hsz, hP, hK, hD0, hNW⟩ := hv
  have hx := B.exec
  have hb := B.bytes
  have hr := B.returns
  have hts := atoms_spec (ws := wsX8_save) B.pre
  have hown : s.vm.findClass RX8 = some m.cls := findClass_of_methodNamed B.named
  have hlocks := B.notSynchronized
  subst hsz
  have hD := hD0.self (sz := s.heap.size)
  generalize hAe : va_A [(aM, .inr (7, [.ref aRo, .ref aHi, .int ms, .ref aSn, .int (bI sv), .ref aAs, .ref aLg, .ref aPd, .int ml, .ref aCo, .ref aEa])), (aRo, .inl (y4.1, 151, .inl RO)), (aSn, .inl (y4.1, 151, .inl SN))] s.heap.size = A at hD ⊢
  have hA : ∀ q : Nat, s.heap.size ≤ q → A q := fun q h => by rw [← hAe]; exact Or.inr h
  have hS : va_S A s.heap s.heap [] := va_S.rf
  have hl := lv_entry ([.ref aM]) (n := 2) (Nat.le_of_ble_eq_true rfl)
  rw [lg_entry_eq]
  generalize (lg_sl ([.ref aM]) ++ List.replicate (2 - (lg_sl ([.ref aM])).length) Slot.unset).toArray = ls at hl ⊢
  have hl : lv_has ls 2 [(0, .ref aM)] := hl
  have f16 := hts (.fieldLink RX8 16 "PillarLightModel" "snapshot" "[I") (List.mem_of_getElem? (i := 1) rfl)
  have iX8 : ∀ w ∈ wsX80, w ∈ wsX8_save := fun _ h => List.mem_cons_of_mem _ (List.mem_append_right _ h)
  have f7 := hts (.fieldLink RX8 7 "PillarLightModel" "row" "[I") (List.mem_of_getElem? (i := 2) rfl)
  have f45 := hts (.fieldLink RX8 45 "PillarLightModel" "isSaved" "Z") (List.mem_of_getElem? (i := 3) rfl)
  refine startW (fun H locs hP hS => ?_) hP hS
  refine lv_iconst (v := 0) hx hb dX8_save_0 (by decide) ?_
  refine lv_istore_n (lv' := [(1, .int 0), (0, .ref aM)]) hx hb dX8_save_1 rfl hl (by decide) rfl (fun ls hl => ?_)
  refine loopW (σ := (Nat → Int32)) 2 (f_X8_save_2 RO) 151 SN (fun k1 t2 H locs ls => va_P D vwCl [(aM, .inr (7, [.ref aRo, .ref aHi, .int ms, .ref aSn, .int (bI sv), .ref aAs, .ref aLg, .ref aPd, .int ml, .ref aCo, .ref aEa])), (aRo, .inl (y4.1, 151, .inl RO)), (aSn, .inl (y4.1, 151, .inl t2))] H ∧ va_D A [(aM, .inr (7, [.ref aRo, .ref aHi, .int ms, .ref aSn, .int (bI sv), .ref aAs, .ref aLg, .ref aPd, .int ml, .ref aCo, .ref aEa])), (aRo, .inl (y4.1, 151, .inl RO)), (aSn, .inl (y4.1, 151, .inl t2))] ∧ va_S A s.heap H locs ∧ lv_has ls 2 [(1, .int (nI k1)), (0, .ref aM)]) ⟨hP, hD, hS, lv_sub hl [0, 1] rfl⟩ (fun t5 H locs ls et5 hh => ?_) (fun k1 t2 hkk1 hek1 ihk1 H locs ls hh => ?_)
  · obtain ⟨hP, hD, hS, hl⟩ := hh
    have hP : va_P D vwCl [(aM, .inr (7, [.ref aRo, .ref aHi, .int ms, .ref aSn, .int (bI sv), .ref aAs, .ref aLg, .ref aPd, .int ml, .ref aCo, .ref aEa])), (aRo, .inl (y4.1, 151, .inl RO)), (aSn, .inl (y4.1, 151, .inl t5))] H := hP
    have hD : va_D A [(aM, .inr (7, [.ref aRo, .ref aHi, .int ms, .ref aSn, .int (bI sv), .ref aAs, .ref aLg, .ref aPd, .int ml, .ref aCo, .ref aEa])), (aRo, .inl (y4.1, 151, .inl RO)), (aSn, .inl (y4.1, 151, .inl t5))] := hD
    have hl : lv_has ls 2 [(1, .int (nI 151)), (0, .ref aM)] := hl
    refine lv_iload_n hx hb dX8_save_2 rfl (lv_at hl 0 rfl) ?_
    refine lv_sipush (v := 151) hx hb dX8_save_3 (by decide) ?_
    refine lv_icmp_ge (tgt := 27) hx hb dX8_save_6 (by decide) (fun c6 => ?_) (fun c6 => absurd (nI_le (a := 151) (by omega) (by omega)) c6)
    refine lv_aload_n hx hb dX8_save_27 rfl (lv_at hl 1 rfl) ?_
    refine lv_iconst (v := 1) hx hb dX8_save_28 (by decide) ?_
    refine va_put (ci := 7) (v := .int 1) (ty := .boolean) (C := RX8) (T := TX8) (N := 11) hx hb hts iX8 tyX8 tyX8_ok nmX8 hown hK hP hD hS 0 rfl rfl 4 (by decide) f45 (fun _ h9 => h9) rfl (by decide +kernel) rfl rfl (Nat.le_of_ble_eq_true rfl) dX8_save_29 (fun H locs hP hD hS => ?_)
    have hP : va_P D vwCl [(aM, .inr (7, [.ref aRo, .ref aHi, .int ms, .ref aSn, .int 1, .ref aAs, .ref aLg, .ref aPd, .int ml, .ref aCo, .ref aEa])), (aRo, .inl (y4.1, 151, .inl RO)), (aSn, .inl (y4.1, 151, .inl t5))] H := hP
    have hD : va_D A [(aM, .inr (7, [.ref aRo, .ref aHi, .int ms, .ref aSn, .int 1, .ref aAs, .ref aLg, .ref aPd, .int ml, .ref aCo, .ref aEa])), (aRo, .inl (y4.1, 151, .inl RO)), (aSn, .inl (y4.1, 151, .inl t5))] := hD
    refine lv_aload_n hx hb dX8_save_32 rfl (lv_at hl 1 rfl) ?_
    refine va_get (ci := 7) (v := .ref aRo) (C := RX8) (T := TX8) (N := 11) hx hb hts iX8 hown hK hP 0 rfl rfl 0 (by decide) f7 (fun _ h9 => h9) rfl dX8_save_33 ?_
    refine lv_sipush (v := 147) hx hb dX8_save_36 (by decide) ?_
    refine va_iald hx hb hK hP 1 0 rfl rfl (vp_in_nI (n := 147) (by decide) (by decide)) dX8_save_39 ?_
    refine W.ofeqi (y := RO 147) (congrArg RO (by decide : (147 : Int32).toNatClampNeg = 147)) ?_
    have em : m_X8_save RO SN = (RO 147, true, t5) := (by subst et5; first | (simp only [m_X8_save]; done) | (unfold m_X8_save; rfl) | rfl)
    exact W.iret (v := RO 147) hx hb hr (fun t ht hW => ⟨⟨RO 147, (), rfl, (by rw [em]), ⟨by rw [ht, em]; exact hP, by rw [em]; exact hD⟩⟩, hS.F ht⟩) hS.2.2 dX8_save_40
  · obtain ⟨hP, hD, hS, hl⟩ := hh
    have hP : va_P D vwCl [(aM, .inr (7, [.ref aRo, .ref aHi, .int ms, .ref aSn, .int (bI sv), .ref aAs, .ref aLg, .ref aPd, .int ml, .ref aCo, .ref aEa])), (aRo, .inl (y4.1, 151, .inl RO)), (aSn, .inl (y4.1, 151, .inl t2))] H := hP
    have hD : va_D A [(aM, .inr (7, [.ref aRo, .ref aHi, .int ms, .ref aSn, .int (bI sv), .ref aAs, .ref aLg, .ref aPd, .int ml, .ref aCo, .ref aEa])), (aRo, .inl (y4.1, 151, .inl RO)), (aSn, .inl (y4.1, 151, .inl t2))] := hD
    have hl : lv_has ls 2 [(1, .int (nI k1)), (0, .ref aM)] := hl
    refine lv_iload_n hx hb dX8_save_2 rfl (lv_at hl 0 rfl) ?_
    refine lv_sipush (v := 151) hx hb dX8_save_3 (by decide) ?_
    refine lv_icmp_ge (tgt := 27) hx hb dX8_save_6 (by decide) (fun c4 => absurd c4 (nI_ge (b := 151) (by omega) (by omega))) (fun c4 => ?_)
    refine lv_aload_n hx hb dX8_save_9 rfl (lv_at hl 1 rfl) ?_
    refine va_get (ci := 7) (v := .ref aSn) (C := RX8) (T := TX8) (N := 11) hx hb hts iX8 hown hK hP 0 rfl rfl 3 (by decide) f16 (fun _ h9 => h9) rfl dX8_save_10 ?_
    refine lv_iload_n hx hb dX8_save_13 rfl (lv_at hl 0 rfl) ?_
    refine lv_aload_n hx hb dX8_save_14 rfl (lv_at hl 1 rfl) ?_
    refine va_get (ci := 7) (v := .ref aRo) (C := RX8) (T := TX8) (N := 11) hx hb hts iX8 hown hK hP 0 rfl rfl 0 (by decide) f7 (fun _ h9 => h9) rfl dX8_save_15 ?_
    refine lv_iload_n hx hb dX8_save_18 rfl (lv_at hl 0 rfl) ?_
    refine va_iald hx hb hK hP 1 0 rfl rfl (vp_in_nI (by omega) (by decide)) dX8_save_19 ?_
    refine va_iast hx hb hK hP hD hS 2 0 rfl rfl (vp_in_nI (by omega) (by decide)) dX8_save_20 (fun H locs hP hD hS => ?_)
    have hP : va_P D vwCl [(aM, .inr (7, [.ref aRo, .ref aHi, .int ms, .ref aSn, .int (bI sv), .ref aAs, .ref aLg, .ref aPd, .int ml, .ref aCo, .ref aEa])), (aRo, .inl (y4.1, 151, .inl RO)), (aSn, .inl (y4.1, 151, .inl (upd t2 (nI k1).toNatClampNeg (RO (nI k1).toNatClampNeg))))] H := hP
    have hD : va_D A [(aM, .inr (7, [.ref aRo, .ref aHi, .int ms, .ref aSn, .int (bI sv), .ref aAs, .ref aLg, .ref aPd, .int ml, .ref aCo, .ref aEa])), (aRo, .inl (y4.1, 151, .inl RO)), (aSn, .inl (y4.1, 151, .inl (upd t2 (nI k1).toNatClampNeg (RO (nI k1).toNatClampNeg))))] := hD
    refine lv_iinc (v := nI (k1 + 1)) (lv' := [(1, .int (nI (k1 + 1))), (0, .ref aM)]) hx hb dX8_save_21 hl (k := 0) rfl (nI_1 _) (by decide) rfl (fun ls hl => ?_)
    refine lv_goto (tgt := 2) hx hb dX8_save_24 (by decide) ?_
    have ef : (f_X8_save_2 RO) k1 t2 = upd t2 (nI k1).toNatClampNeg (RO (nI k1).toNatClampNeg) := (by first | (simp only [f_X8_save_2]; done) | (unfold f_X8_save_2; rfl) | rfl)
    rw [ef] at ihk1
    exact ihk1 H locs ls ⟨hP, hD, hS, lv_sub hl [0, 1] rfl⟩
