def m_X8_isSqueezed (RO : Nat → Int32) (fr : Int32) (to : Int32) (li : Int32) (co : Int32) : Bool := (if (m_X8_in li ((m_X8_least (fr / 8) (to / 8)) + 1) (m_X8_most (fr / 8) (to / 8))) = false then false else (if (m_X8_in co ((m_X8_least (fr - fr / 8 * 8) (to - to / 8 * 8)) + 1) (m_X8_most (fr - fr / 8 * 8) (to - to / 8 * 8))) = false then false else (if (m_X8_side fr to (2 * li) (2 * co)) = 0 then (let v8 : Bool := (if ((to / 8) - (fr / 8)) ≤ 0 then false else true); (let v10 : Bool := (if ((to - to / 8 * 8) - (fr - fr / 8 * 8)) ≤ 0 then false else true); (let v12 : Bool := (if (bI v8) = (bI v10) then true else false); (if v12 = false then (if (m_X8_isDarkAt RO (li - 1) (co - 1)) = false then false else (if (m_X8_isDarkAt RO li co) = false then false else true)) else (if (m_X8_isDarkAt RO (li - 1) co) = false then false else (if (m_X8_isDarkAt RO li (co - 1)) = false then false else true)))))) else false)))
set_option maxHeartbeats 4000000 in
set_option maxRecDepth 100000 in
theorem met_X8_isSqueezed (l : Launch) (D : va_G) (y4 : vT) (aM aRo aHi aSn aAs aLg aPd aCo aEa : Nat) (sz : Nat) (ms : Int32) (sv : Bool) (ml : Int32) (RO : Nat → Int32) (fr : Int32) (to : Int32) (li : Int32) (co : Int32) (hfr : vp_in fr 64) (hto : vp_in to 64) (hli : vp_in li 8) (hco : vp_in co 8) : Met l yX8_isSqueezed wsX8_isSqueezed ({ frames := 2, cells := 0, slots := 0, locals := 42 }) (va_Pc [.ref aM, .int fr, .int to, .int li, .int co] (PreW D y4 [(aM, .inr (7, [.ref aRo, .ref aHi, .int ms, .ref aSn, .int (bI sv), .ref aAs, .ref aLg, .ref aPd, .int ml, .ref aCo, .ref aEa])), (aRo, .inl (y4.1, 151, .inl RO))] sz)) (va_Qi (fun (r : Int32) (_ : Unit) => r = bI (m_X8_isSqueezed RO fr to li co)) (fun _ t => PostW D (va_A [(aM, .inr (7, [.ref aRo, .ref aHi, .int ms, .ref aSn, .int (bI sv), .ref aAs, .ref aLg, .ref aPd, .int ml, .ref aCo, .ref aEa])), (aRo, .inl (y4.1, 151, .inl RO))] sz) [(aM, .inr (7, [.ref aRo, .ref aHi, .int ms, .ref aSn, .int (bI sv), .ref aAs, .ref aLg, .ref aPd, .int ml, .ref aCo, .ref aEa])), (aRo, .inl (y4.1, 151, .inl RO))] t) (va_A [(aM, .inr (7, [.ref aRo, .ref aHi, .int ms, .ref aSn, .int (bI sv), .ref aAs, .ref aLg, .ref aPd, .int ml, .ref aCo, .ref aEa])), (aRo, .inl (y4.1, 151, .inl RO))] sz)) 0 0 (va_A [(aM, .inr (7, [.ref aRo, .ref aHi, .int ms, .ref aSn, .int (bI sv), .ref aAs, .ref aLg, .ref aPd, .int ml, .ref aCo, .ref aEa])), (aRo, .inl (y4.1, 151, .inl RO))] sz) := by
  refine Met.ofW (cc := cX8_isSqueezed) (maxL := 9) (ret := (some .boolean)) (by decide) rfl ?_
  intro p e s m args below meth c s₁ B hml hv
  obtain ⟨rfl, hsz, hP, hK, hD0, hNW⟩ := hv
  have hx := B.exec
  have hb := B.bytes
  have hr := B.returns
  have hts := atoms_spec (ws := wsX8_isSqueezed) B.pre
  have hown : s.vm.findClass RX8 = some m.cls := findClass_of_methodNamed B.named
  have hlocks := B.notSynchronized
  subst hsz
  have hD := hD0.self (sz := s.heap.size)
  generalize hAe : va_A [(aM, .inr (7, [.ref aRo, .ref aHi, .int ms, .ref aSn, .int (bI sv), .ref aAs, .ref aLg, .ref aPd, .int ml, .ref aCo, .ref aEa])), (aRo, .inl (y4.1, 151, .inl RO))] s.heap.size = A at hD ⊢
  have hA : ∀ q : Nat, s.heap.size ≤ q → A q := fun q h => by rw [← hAe]; exact Or.inr h
  have hS : va_S A s.heap s.heap [] := va_S.rf
  have hl := lv_entry ([.ref aM, .int fr, .int to, .int li, .int co]) (n := 9) (Nat.le_of_ble_eq_true rfl)
  rw [lg_entry_eq]
  generalize (lg_sl ([.ref aM, .int fr, .int to, .int li, .int co]) ++ List.replicate (9 - (lg_sl ([.ref aM, .int fr, .int to, .int li, .int co])).length) Slot.unset).toArray = ls at hl ⊢
  have hl : lv_has ls 9 [(0, .ref aM), (1, .int fr), (2, .int to), (3, .int li), (4, .int co)] := hl
  refine startW (fun H locs hP hS => ?_) hP hS
  refine lv_iload_n hx hb dX8_isSqueezed_0 rfl (lv_at hl 2 rfl) ?_
  refine lv_bipush (v := 8) hx hb dX8_isSqueezed_1 (by decide) ?_
  refine lv_idiv hx hb dX8_isSqueezed_3 (by decide) ?_
  refine lv_iload_n hx hb dX8_isSqueezed_4 rfl (lv_at hl 1 rfl) ?_
  refine lv_bipush (v := 8) hx hb dX8_isSqueezed_5 (by decide) ?_
  refine lv_idiv hx hb dX8_isSqueezed_7 (by decide) ?_
  refine lv_isub hx hb dX8_isSqueezed_8 ?_
  refine lv_istore (lv' := [(5, .int ((to / 8) - (fr / 8))), (0, .ref aM), (1, .int fr), (2, .int to), (3, .int li), (4, .int co)]) hx hb dX8_isSqueezed_9 hl (by decide) rfl (fun ls hl => ?_)
  refine lv_iload_n hx hb dX8_isSqueezed_11 rfl (lv_at hl 3 rfl) ?_
  refine lv_bipush (v := 8) hx hb dX8_isSqueezed_12 (by decide) ?_
  refine lv_irem hx hb dX8_isSqueezed_14 (by decide) ?_
  refine lv_iload_n hx hb dX8_isSqueezed_15 rfl (lv_at hl 2 rfl) ?_
  refine lv_bipush (v := 8) hx hb dX8_isSqueezed_16 (by decide) ?_
  refine lv_irem hx hb dX8_isSqueezed_18 (by decide) ?_
  refine lv_isub hx hb dX8_isSqueezed_19 ?_
  refine lv_istore (lv' := [(6, .int ((to - to / 8 * 8) - (fr - fr / 8 * 8))), (5, .int ((to / 8) - (fr / 8))), (0, .ref aM), (1, .int fr), (2, .int to), (3, .int li), (4, .int co)]) hx hb dX8_isSqueezed_20 hl (by decide) rfl (fun ls hl => ?_)
  refine lv_iload_n hx hb dX8_isSqueezed_22 rfl (lv_at hl 5 rfl) ?_
  refine lv_iload_n hx hb dX8_isSqueezed_23 rfl (lv_at hl 3 rfl) ?_
  refine lv_bipush (v := 8) hx hb dX8_isSqueezed_24 (by decide) ?_
  refine lv_idiv hx hb dX8_isSqueezed_26 (by decide) ?_
  refine lv_iload_n hx hb dX8_isSqueezed_27 rfl (lv_at hl 4 rfl) ?_
  refine lv_bipush (v := 8) hx hb dX8_isSqueezed_28 (by decide) ?_
  refine lv_idiv hx hb dX8_isSqueezed_30 (by decide) ?_
  refine callK_i (va_runS (As := [.int (fr / 8), .int (to / 8)]) (rest := [.int li]) ⟨hx, hb, hml, hown, hts⟩ (met_X8_least l  (fr / 8) (to / 8)) (va_cwS 2 hts gX8_isSqueezed_X8_least rfl rfl rfl (by decide +kernel) ⟨Nat.le_of_ble_eq_true rfl, Nat.le_of_ble_eq_true rfl⟩) ⟨preS_blind, fun U hU hW => ⟨rfl, trivial⟩⟩ rfl rfl hl.1 rfl (lv_room (Nat.le_of_ble_eq_true rfl)) dX8_isSqueezed_31 ⟨Nat.zero_le _, Nat.zero_le _⟩) hP hS (fun r u H locs hw hP hS => ?_)
  subst hw
  refine lv_iconst (v := 1) hx hb dX8_isSqueezed_34 (by decide) ?_
  refine lv_iadd hx hb dX8_isSqueezed_35 ?_
  refine lv_iload_n hx hb dX8_isSqueezed_36 rfl (lv_at hl 3 rfl) ?_
  refine lv_bipush (v := 8) hx hb dX8_isSqueezed_37 (by decide) ?_
  refine lv_idiv hx hb dX8_isSqueezed_39 (by decide) ?_
  refine lv_iload_n hx hb dX8_isSqueezed_40 rfl (lv_at hl 4 rfl) ?_
  refine lv_bipush (v := 8) hx hb dX8_isSqueezed_41 (by decide) ?_
  refine lv_idiv hx hb dX8_isSqueezed_43 (by decide) ?_
  refine callK_i (va_runS (As := [.int (fr / 8), .int (to / 8)]) (rest := [.int ((m_X8_least (fr / 8) (to / 8)) + 1), .int li]) ⟨hx, hb, hml, hown, hts⟩ (met_X8_most l  (fr / 8) (to / 8)) (va_cwS 2 hts gX8_isSqueezed_X8_most rfl rfl rfl (by decide +kernel) ⟨Nat.le_of_ble_eq_true rfl, Nat.le_of_ble_eq_true rfl⟩) ⟨preS_blind, fun U hU hW => ⟨rfl, trivial⟩⟩ rfl rfl hl.1 rfl (lv_room (Nat.le_of_ble_eq_true rfl)) dX8_isSqueezed_44 ⟨Nat.zero_le _, Nat.zero_le _⟩) hP hS (fun r u H locs hw hP hS => ?_)
  subst hw
  refine callK_i (va_runS (As := [.int li, .int ((m_X8_least (fr / 8) (to / 8)) + 1), .int (m_X8_most (fr / 8) (to / 8))]) (rest := []) ⟨hx, hb, hml, hown, hts⟩ (met_X8_in l  li ((m_X8_least (fr / 8) (to / 8)) + 1) (m_X8_most (fr / 8) (to / 8))) (va_cwS 3 hts gX8_isSqueezed_X8_in rfl rfl rfl (by decide +kernel) ⟨Nat.le_of_ble_eq_true rfl, Nat.le_of_ble_eq_true rfl⟩) ⟨preS_blind, fun U hU hW => ⟨rfl, trivial⟩⟩ rfl rfl hl.1 rfl (lv_room (Nat.le_of_ble_eq_true rfl)) dX8_isSqueezed_47 ⟨Nat.zero_le _, Nat.zero_le _⟩) hP hS (fun r u H locs hw hP hS => ?_)
  subst hw
  refine lb_if_eq (tgt := 89) hx hb dX8_isSqueezed_50 (by decide) (fun c1 => ?_) (fun c1 => ?_)
  · refine lv_iconst (v := 0) hx hb dX8_isSqueezed_89 (by decide) ?_
    refine lv_istore (lv' := [(7, .int 0), (6, .int ((to - to / 8 * 8) - (fr - fr / 8 * 8))), (5, .int ((to / 8) - (fr / 8))), (0, .ref aM), (1, .int fr), (2, .int to), (3, .int li), (4, .int co)]) hx hb dX8_isSqueezed_90 hl (by decide) rfl (fun ls hl => ?_)
    refine lv_iload hx hb dX8_isSqueezed_92 (lv_at hl 0 rfl) ?_
    refine lv_if_eq (tgt := 112) hx hb dX8_isSqueezed_94 (by decide) (fun c2 => ?_) (fun c2 => absurd (by decide) c2)
    refine lv_iconst (v := 0) hx hb dX8_isSqueezed_112 (by decide) ?_
    have em : m_X8_isSqueezed RO fr to li co = false := (by first | (simp only [m_X8_isSqueezed, if_pos c1]; done) | (simp only [m_X8_isSqueezed, if_pos c1]; rfl))
    exact W.zret (v := 0) hx hb hr rfl (fun t ht hW => ⟨⟨0, (), rfl, (by rw [em]; rfl), ⟨by rw [ht]; exact hP, by exact hD⟩⟩, hS.F ht⟩) hS.2.2 dX8_isSqueezed_113
  · refine lv_iload hx hb dX8_isSqueezed_53 (lv_at hl 6 rfl) ?_
    refine lv_iload_n hx hb dX8_isSqueezed_55 rfl (lv_at hl 3 rfl) ?_
    refine lv_bipush (v := 8) hx hb dX8_isSqueezed_56 (by decide) ?_
    refine lv_irem hx hb dX8_isSqueezed_58 (by decide) ?_
    refine lv_iload_n hx hb dX8_isSqueezed_59 rfl (lv_at hl 4 rfl) ?_
    refine lv_bipush (v := 8) hx hb dX8_isSqueezed_60 (by decide) ?_
    refine lv_irem hx hb dX8_isSqueezed_62 (by decide) ?_
    refine callK_i (va_runS (As := [.int (fr - fr / 8 * 8), .int (to - to / 8 * 8)]) (rest := [.int co]) ⟨hx, hb, hml, hown, hts⟩ (met_X8_least l  (fr - fr / 8 * 8) (to - to / 8 * 8)) (va_cwS 2 hts gX8_isSqueezed_X8_least rfl rfl rfl (by decide +kernel) ⟨Nat.le_of_ble_eq_true rfl, Nat.le_of_ble_eq_true rfl⟩) ⟨preS_blind, fun U hU hW => ⟨rfl, trivial⟩⟩ rfl rfl hl.1 rfl (lv_room (Nat.le_of_ble_eq_true rfl)) dX8_isSqueezed_63 ⟨Nat.zero_le _, Nat.zero_le _⟩) hP hS (fun r u H locs hw hP hS => ?_)
    subst hw
    refine lv_iconst (v := 1) hx hb dX8_isSqueezed_66 (by decide) ?_
    refine lv_iadd hx hb dX8_isSqueezed_67 ?_
    refine lv_iload_n hx hb dX8_isSqueezed_68 rfl (lv_at hl 3 rfl) ?_
    refine lv_bipush (v := 8) hx hb dX8_isSqueezed_69 (by decide) ?_
    refine lv_irem hx hb dX8_isSqueezed_71 (by decide) ?_
    refine lv_iload_n hx hb dX8_isSqueezed_72 rfl (lv_at hl 4 rfl) ?_
    refine lv_bipush (v := 8) hx hb dX8_isSqueezed_73 (by decide) ?_
    refine lv_irem hx hb dX8_isSqueezed_75 (by decide) ?_
    refine callK_i (va_runS (As := [.int (fr - fr / 8 * 8), .int (to - to / 8 * 8)]) (rest := [.int ((m_X8_least (fr - fr / 8 * 8) (to - to / 8 * 8)) + 1), .int co]) ⟨hx, hb, hml, hown, hts⟩ (met_X8_most l  (fr - fr / 8 * 8) (to - to / 8 * 8)) (va_cwS 2 hts gX8_isSqueezed_X8_most rfl rfl rfl (by decide +kernel) ⟨Nat.le_of_ble_eq_true rfl, Nat.le_of_ble_eq_true rfl⟩) ⟨preS_blind, fun U hU hW => ⟨rfl, trivial⟩⟩ rfl rfl hl.1 rfl (lv_room (Nat.le_of_ble_eq_true rfl)) dX8_isSqueezed_76 ⟨Nat.zero_le _, Nat.zero_le _⟩) hP hS (fun r u H locs hw hP hS => ?_)
    subst hw
    refine callK_i (va_runS (As := [.int co, .int ((m_X8_least (fr - fr / 8 * 8) (to - to / 8 * 8)) + 1), .int (m_X8_most (fr - fr / 8 * 8) (to - to / 8 * 8))]) (rest := []) ⟨hx, hb, hml, hown, hts⟩ (met_X8_in l  co ((m_X8_least (fr - fr / 8 * 8) (to - to / 8 * 8)) + 1) (m_X8_most (fr - fr / 8 * 8) (to - to / 8 * 8))) (va_cwS 3 hts gX8_isSqueezed_X8_in rfl rfl rfl (by decide +kernel) ⟨Nat.le_of_ble_eq_true rfl, Nat.le_of_ble_eq_true rfl⟩) ⟨preS_blind, fun U hU hW => ⟨rfl, trivial⟩⟩ rfl rfl hl.1 rfl (lv_room (Nat.le_of_ble_eq_true rfl)) dX8_isSqueezed_79 ⟨Nat.zero_le _, Nat.zero_le _⟩) hP hS (fun r u H locs hw hP hS => ?_)
    subst hw
    refine lb_if_eq (tgt := 89) hx hb dX8_isSqueezed_82 (by decide) (fun c3 => ?_) (fun c3 => ?_)
    · refine lv_iconst (v := 0) hx hb dX8_isSqueezed_89 (by decide) ?_
      refine lv_istore (lv' := [(7, .int 0), (6, .int ((to - to / 8 * 8) - (fr - fr / 8 * 8))), (5, .int ((to / 8) - (fr / 8))), (0, .ref aM), (1, .int fr), (2, .int to), (3, .int li), (4, .int co)]) hx hb dX8_isSqueezed_90 hl (by decide) rfl (fun ls hl => ?_)
      refine lv_iload hx hb dX8_isSqueezed_92 (lv_at hl 0 rfl) ?_
      refine lv_if_eq (tgt := 112) hx hb dX8_isSqueezed_94 (by decide) (fun c4 => ?_) (fun c4 => absurd (by decide) c4)
      refine lv_iconst (v := 0) hx hb dX8_isSqueezed_112 (by decide) ?_
      have em : m_X8_isSqueezed RO fr to li co = false := (by first | (simp only [m_X8_isSqueezed, if_neg c1, if_pos c3]; done) | (simp only [m_X8_isSqueezed, if_neg c1, if_pos c3]; rfl))
      exact W.zret (v := 0) hx hb hr rfl (fun t ht hW => ⟨⟨0, (), rfl, (by rw [em]; rfl), ⟨by rw [ht]; exact hP, by exact hD⟩⟩, hS.F ht⟩) hS.2.2 dX8_isSqueezed_113
    · refine lv_iconst (v := 1) hx hb dX8_isSqueezed_85 (by decide) ?_
      refine lv_goto (tgt := 90) hx hb dX8_isSqueezed_86 (by decide) ?_
      refine lv_istore (lv' := [(7, .int 1), (6, .int ((to - to / 8 * 8) - (fr - fr / 8 * 8))), (5, .int ((to / 8) - (fr / 8))), (0, .ref aM), (1, .int fr), (2, .int to), (3, .int li), (4, .int co)]) hx hb dX8_isSqueezed_90 hl (by decide) rfl (fun ls hl => ?_)
      refine lv_iload hx hb dX8_isSqueezed_92 (lv_at hl 0 rfl) ?_
      refine lv_if_eq (tgt := 112) hx hb dX8_isSqueezed_94 (by decide) (fun c5 => absurd c5 (by decide)) (fun c5 => ?_)
      refine lv_iload_n hx hb dX8_isSqueezed_97 rfl (lv_at hl 4 rfl) ?_
      refine lv_iload_n hx hb dX8_isSqueezed_98 rfl (lv_at hl 5 rfl) ?_
      refine lv_iconst (v := 2) hx hb dX8_isSqueezed_99 (by decide) ?_
      refine lv_iload_n hx hb dX8_isSqueezed_100 rfl (lv_at hl 6 rfl) ?_
      refine lv_imul hx hb dX8_isSqueezed_101 ?_
      refine lv_iconst (v := 2) hx hb dX8_isSqueezed_102 (by decide) ?_
      refine lv_iload hx hb dX8_isSqueezed_103 (lv_at hl 7 rfl) ?_
      refine lv_imul hx hb dX8_isSqueezed_105 ?_
      refine callK_i (va_runS (As := [.int fr, .int to, .int (2 * li), .int (2 * co)]) (rest := []) ⟨hx, hb, hml, hown, hts⟩ (met_X8_side l  fr to (2 * li) (2 * co)) (va_cwS 4 hts gX8_isSqueezed_X8_side rfl rfl rfl (by decide +kernel) ⟨Nat.le_of_ble_eq_true rfl, Nat.le_of_ble_eq_true rfl⟩) ⟨preS_blind, fun U hU hW => ⟨rfl, trivial⟩⟩ rfl rfl hl.1 rfl (lv_room (Nat.le_of_ble_eq_true rfl)) dX8_isSqueezed_106 ⟨Nat.zero_le _, Nat.zero_le _⟩) hP hS (fun r u H locs hw hP hS => ?_)
      subst hw
      refine lv_if_eq (tgt := 114) hx hb dX8_isSqueezed_109 (by decide) (fun c6 => ?_) (fun c6 => ?_)
      · refine lv_iload hx hb dX8_isSqueezed_114 (lv_at hl 2 rfl) ?_
        refine cutW (X := Bool) 124 (fun x H locs ls => x = (if ((to / 8) - (fr / 8)) ≤ 0 then false else true) ∧ va_P D vwCl [(aM, .inr (7, [.ref aRo, .ref aHi, .int ms, .ref aSn, .int (bI sv), .ref aAs, .ref aLg, .ref aPd, .int ml, .ref aCo, .ref aEa])), (aRo, .inl (y4.1, 151, .inl RO))] H ∧ va_D A [(aM, .inr (7, [.ref aRo, .ref aHi, .int ms, .ref aSn, .int (bI sv), .ref aAs, .ref aLg, .ref aPd, .int ml, .ref aCo, .ref aEa])), (aRo, .inl (y4.1, 151, .inl RO))] ∧ va_S A s.heap H locs ∧ lv_has ls 9 [(6, .int ((to - to / 8 * 8) - (fr - fr / 8 * 8))), (0, .ref aM), (3, .int li), (4, .int co)]) (fun x => [.int (bI x)]) ?_ (fun K124 => ?_)
        · rintro v8 H locs ls ⟨ev8, hP, hD, hS, hl⟩
          have ev8 : v8 = (if ((to / 8) - (fr / 8)) ≤ 0 then false else true) := ev8
          have hP : va_P D vwCl [(aM, .inr (7, [.ref aRo, .ref aHi, .int ms, .ref aSn, .int (bI sv), .ref aAs, .ref aLg, .ref aPd, .int ml, .ref aCo, .ref aEa])), (aRo, .inl (y4.1, 151, .inl RO))] H := hP
          have hD : va_D A [(aM, .inr (7, [.ref aRo, .ref aHi, .int ms, .ref aSn, .int (bI sv), .ref aAs, .ref aLg, .ref aPd, .int ml, .ref aCo, .ref aEa])), (aRo, .inl (y4.1, 151, .inl RO))] := hD
          have hl : lv_has ls 9 [(6, .int ((to - to / 8 * 8) - (fr - fr / 8 * 8))), (0, .ref aM), (3, .int li), (4, .int co)] := hl
          refine lv_iload hx hb dX8_isSqueezed_124 (lv_at hl 0 rfl) ?_
          refine cutW (X := Bool) 134 (fun x H locs ls => x = (if ((to - to / 8 * 8) - (fr - fr / 8 * 8)) ≤ 0 then false else true) ∧ va_P D vwCl [(aM, .inr (7, [.ref aRo, .ref aHi, .int ms, .ref aSn, .int (bI sv), .ref aAs, .ref aLg, .ref aPd, .int ml, .ref aCo, .ref aEa])), (aRo, .inl (y4.1, 151, .inl RO))] H ∧ va_D A [(aM, .inr (7, [.ref aRo, .ref aHi, .int ms, .ref aSn, .int (bI sv), .ref aAs, .ref aLg, .ref aPd, .int ml, .ref aCo, .ref aEa])), (aRo, .inl (y4.1, 151, .inl RO))] ∧ va_S A s.heap H locs ∧ lv_has ls 9 [(0, .ref aM), (3, .int li), (4, .int co)]) (fun x => [.int (bI x), .int (bI v8)]) ?_ (fun K134 => ?_)
          · rintro v10 H locs ls ⟨ev10, hP, hD, hS, hl⟩
            have ev10 : v10 = (if ((to - to / 8 * 8) - (fr - fr / 8 * 8)) ≤ 0 then false else true) := ev10
            have hP : va_P D vwCl [(aM, .inr (7, [.ref aRo, .ref aHi, .int ms, .ref aSn, .int (bI sv), .ref aAs, .ref aLg, .ref aPd, .int ml, .ref aCo, .ref aEa])), (aRo, .inl (y4.1, 151, .inl RO))] H := hP
            have hD : va_D A [(aM, .inr (7, [.ref aRo, .ref aHi, .int ms, .ref aSn, .int (bI sv), .ref aAs, .ref aLg, .ref aPd, .int ml, .ref aCo, .ref aEa])), (aRo, .inl (y4.1, 151, .inl RO))] := hD
            have hl : lv_has ls 9 [(0, .ref aM), (3, .int li), (4, .int co)] := hl
            refine cutW (X := Bool) 142 (fun x H locs ls => x = (if (bI v8) = (bI v10) then true else false) ∧ va_P D vwCl [(aM, .inr (7, [.ref aRo, .ref aHi, .int ms, .ref aSn, .int (bI sv), .ref aAs, .ref aLg, .ref aPd, .int ml, .ref aCo, .ref aEa])), (aRo, .inl (y4.1, 151, .inl RO))] H ∧ va_D A [(aM, .inr (7, [.ref aRo, .ref aHi, .int ms, .ref aSn, .int (bI sv), .ref aAs, .ref aLg, .ref aPd, .int ml, .ref aCo, .ref aEa])), (aRo, .inl (y4.1, 151, .inl RO))] ∧ va_S A s.heap H locs ∧ lv_has ls 9 [(0, .ref aM), (3, .int li), (4, .int co)]) (fun x => [.int (bI x)]) ?_ (fun K142 => ?_)
            · rintro v12 H locs ls ⟨ev12, hP, hD, hS, hl⟩
              have ev12 : v12 = (if (bI v8) = (bI v10) then true else false) := ev12
              have hP : va_P D vwCl [(aM, .inr (7, [.ref aRo, .ref aHi, .int ms, .ref aSn, .int (bI sv), .ref aAs, .ref aLg, .ref aPd, .int ml, .ref aCo, .ref aEa])), (aRo, .inl (y4.1, 151, .inl RO))] H := hP
              have hD : va_D A [(aM, .inr (7, [.ref aRo, .ref aHi, .int ms, .ref aSn, .int (bI sv), .ref aAs, .ref aLg, .ref aPd, .int ml, .ref aCo, .ref aEa])), (aRo, .inl (y4.1, 151, .inl RO))] := hD
              have hl : lv_has ls 9 [(0, .ref aM), (3, .int li), (4, .int co)] := hl
              refine lv_istore (lv' := [(8, .int (bI v12)), (0, .ref aM), (3, .int li), (4, .int co)]) hx hb dX8_isSqueezed_142 hl (by decide) rfl (fun ls hl => ?_)
              refine lv_iload hx hb dX8_isSqueezed_144 (lv_at hl 0 rfl) ?_
              refine lb_if_eq (tgt := 181) hx hb dX8_isSqueezed_146 (by decide) (fun c13 => ?_) (fun c13 => ?_)
              · refine lv_aload_n hx hb dX8_isSqueezed_181 rfl (lv_at hl 1 rfl) ?_
                refine lv_iload_n hx hb dX8_isSqueezed_182 rfl (lv_at hl 2 rfl) ?_
                refine lv_iconst (v := 1) hx hb dX8_isSqueezed_183 (by decide) ?_
                refine lv_isub hx hb dX8_isSqueezed_184 ?_
                refine lv_iload hx hb dX8_isSqueezed_185 (lv_at hl 3 rfl) ?_
                refine lv_iconst (v := 1) hx hb dX8_isSqueezed_187 (by decide) ?_
                refine lv_isub hx hb dX8_isSqueezed_188 ?_
                refine callW_i (wr := []) (wn := fun u => [(aM, .inr (7, [.ref aRo, .ref aHi, .int ms, .ref aSn, .int (bI sv), .ref aAs, .ref aLg, .ref aPd, .int ml, .ref aCo, .ref aEa])), (aRo, .inl (y4.1, 151, .inl RO))]) (va_runV (As := [.int (li - 1), .int (co - 1)]) (rest := []) ⟨hx, hb, hml, hown, hts⟩ (met_X8_isDarkAt l D y4 aM aRo aHi aSn aAs aLg aPd aCo aEa H.size ms sv ml RO (li - 1) (co - 1) (sq_in hfr hto hli hco ⟨by assumption, by assumption⟩).2.2.1) (cwV 2 hts gX8_isSqueezed_X8_isDarkAt rfl rfl rfl (by decide +kernel) ⟨Nat.le_of_ble_eq_true rfl, Nat.le_of_ble_eq_true rfl⟩) ⟨preW_blind, va_recv hK hP (ci := 7) (q0 := 0) rfl rfl, preW_at (hP.sub (ws' := [(aM, .inr (7, [.ref aRo, .ref aHi, .int ms, .ref aSn, .int (bI sv), .ref aAs, .ref aLg, .ref aPd, .int ml, .ref aCo, .ref aEa])), (aRo, .inl (y4.1, 151, .inl RO))]) [0, 1] rfl) hK (hD.sub (ws' := [(aM, .inr (7, [.ref aRo, .ref aHi, .int ms, .ref aSn, .int (bI sv), .ref aAs, .ref aLg, .ref aPd, .int ml, .ref aCo, .ref aEa])), (aRo, .inl (y4.1, 151, .inl RO))]) [0, 1] (by decide) rfl) hNW⟩ rfl rfl hl.1 rfl (lv_room (Nat.le_of_ble_eq_true rfl)) dX8_isSqueezed_189 ⟨Nat.zero_le _, Nat.zero_le _⟩) hP hD hS hA [0, 1] [] [0, 1] rfl rfl (by decide) (by decide) (fun _ => rfl) (by decide) (fun r u14 H locs hw hP hD hS => ?_)
                subst hw
                have hP : va_P D vwCl [(aM, .inr (7, [.ref aRo, .ref aHi, .int ms, .ref aSn, .int (bI sv), .ref aAs, .ref aLg, .ref aPd, .int ml, .ref aCo, .ref aEa])), (aRo, .inl (y4.1, 151, .inl RO))] H := hP
                have hD : va_D A [(aM, .inr (7, [.ref aRo, .ref aHi, .int ms, .ref aSn, .int (bI sv), .ref aAs, .ref aLg, .ref aPd, .int ml, .ref aCo, .ref aEa])), (aRo, .inl (y4.1, 151, .inl RO))] := hD
                refine lb_if_eq (tgt := 209) hx hb dX8_isSqueezed_192 (by decide) (fun c15 => ?_) (fun c15 => ?_)
                · refine lv_iconst (v := 0) hx hb dX8_isSqueezed_209 (by decide) ?_
                  have em : m_X8_isSqueezed RO fr to li co = false := (by subst ev12 ev10 ev8; first | (simp only [m_X8_isSqueezed, if_neg c1, if_neg c3, if_pos c6, if_pos c13, if_pos c15]; done) | (simp only [m_X8_isSqueezed, if_neg c1, if_neg c3, if_pos c6, if_pos c13, if_pos c15]; rfl))
                  exact W.zret (v := 0) hx hb hr rfl (fun t ht hW => ⟨⟨0, (), rfl, (by rw [em]; rfl), ⟨by rw [ht]; exact hP, by exact hD⟩⟩, hS.F ht⟩) hS.2.2 dX8_isSqueezed_210
                · refine lv_aload_n hx hb dX8_isSqueezed_195 rfl (lv_at hl 1 rfl) ?_
                  refine lv_iload_n hx hb dX8_isSqueezed_196 rfl (lv_at hl 2 rfl) ?_
                  refine lv_iload hx hb dX8_isSqueezed_197 (lv_at hl 3 rfl) ?_
                  refine callW_i (wr := []) (wn := fun u => [(aM, .inr (7, [.ref aRo, .ref aHi, .int ms, .ref aSn, .int (bI sv), .ref aAs, .ref aLg, .ref aPd, .int ml, .ref aCo, .ref aEa])), (aRo, .inl (y4.1, 151, .inl RO))]) (va_runV (As := [.int li, .int co]) (rest := []) ⟨hx, hb, hml, hown, hts⟩ (met_X8_isDarkAt l D y4 aM aRo aHi aSn aAs aLg aPd aCo aEa H.size ms sv ml RO li co (sq_in hfr hto hli hco ⟨by assumption, by assumption⟩).2.2.2) (cwV 2 hts gX8_isSqueezed_X8_isDarkAt rfl rfl rfl (by decide +kernel) ⟨Nat.le_of_ble_eq_true rfl, Nat.le_of_ble_eq_true rfl⟩) ⟨preW_blind, va_recv hK hP (ci := 7) (q0 := 0) rfl rfl, preW_at (hP.sub (ws' := [(aM, .inr (7, [.ref aRo, .ref aHi, .int ms, .ref aSn, .int (bI sv), .ref aAs, .ref aLg, .ref aPd, .int ml, .ref aCo, .ref aEa])), (aRo, .inl (y4.1, 151, .inl RO))]) [0, 1] rfl) hK (hD.sub (ws' := [(aM, .inr (7, [.ref aRo, .ref aHi, .int ms, .ref aSn, .int (bI sv), .ref aAs, .ref aLg, .ref aPd, .int ml, .ref aCo, .ref aEa])), (aRo, .inl (y4.1, 151, .inl RO))]) [0, 1] (by decide) rfl) hNW⟩ rfl rfl hl.1 rfl (lv_room (Nat.le_of_ble_eq_true rfl)) dX8_isSqueezed_199 ⟨Nat.zero_le _, Nat.zero_le _⟩) hP hD hS hA [0, 1] [] [0, 1] rfl rfl (by decide) (by decide) (fun _ => rfl) (by decide) (fun r u16 H locs hw hP hD hS => ?_)
                  subst hw
                  have hP : va_P D vwCl [(aM, .inr (7, [.ref aRo, .ref aHi, .int ms, .ref aSn, .int (bI sv), .ref aAs, .ref aLg, .ref aPd, .int ml, .ref aCo, .ref aEa])), (aRo, .inl (y4.1, 151, .inl RO))] H := hP
                  have hD : va_D A [(aM, .inr (7, [.ref aRo, .ref aHi, .int ms, .ref aSn, .int (bI sv), .ref aAs, .ref aLg, .ref aPd, .int ml, .ref aCo, .ref aEa])), (aRo, .inl (y4.1, 151, .inl RO))] := hD
                  refine lb_if_eq (tgt := 209) hx hb dX8_isSqueezed_202 (by decide) (fun c17 => ?_) (fun c17 => ?_)
                  · refine lv_iconst (v := 0) hx hb dX8_isSqueezed_209 (by decide) ?_
                    have em : m_X8_isSqueezed RO fr to li co = false := (by subst ev12 ev10 ev8; first | (simp only [m_X8_isSqueezed, if_neg c1, if_neg c3, if_pos c6, if_pos c13, if_neg c15, if_pos c17]; done) | (simp only [m_X8_isSqueezed, if_neg c1, if_neg c3, if_pos c6, if_pos c13, if_neg c15, if_pos c17]; rfl))
                    exact W.zret (v := 0) hx hb hr rfl (fun t ht hW => ⟨⟨0, (), rfl, (by rw [em]; rfl), ⟨by rw [ht]; exact hP, by exact hD⟩⟩, hS.F ht⟩) hS.2.2 dX8_isSqueezed_210
                  · refine lv_iconst (v := 1) hx hb dX8_isSqueezed_205 (by decide) ?_
                    refine lv_goto (tgt := 210) hx hb dX8_isSqueezed_206 (by decide) ?_
                    have em : m_X8_isSqueezed RO fr to li co = true := (by subst ev12 ev10 ev8; first | (simp only [m_X8_isSqueezed, if_neg c1, if_neg c3, if_pos c6, if_pos c13, if_neg c15, if_neg c17]; done) | (simp only [m_X8_isSqueezed, if_neg c1, if_neg c3, if_pos c6, if_pos c13, if_neg c15, if_neg c17]; rfl))
                    exact W.zret (v := 1) hx hb hr rfl (fun t ht hW => ⟨⟨1, (), rfl, (by rw [em]; rfl), ⟨by rw [ht]; exact hP, by exact hD⟩⟩, hS.F ht⟩) hS.2.2 dX8_isSqueezed_210
              · refine lv_aload_n hx hb dX8_isSqueezed_149 rfl (lv_at hl 1 rfl) ?_
                refine lv_iload_n hx hb dX8_isSqueezed_150 rfl (lv_at hl 2 rfl) ?_
                refine lv_iconst (v := 1) hx hb dX8_isSqueezed_151 (by decide) ?_
                refine lv_isub hx hb dX8_isSqueezed_152 ?_
                refine lv_iload hx hb dX8_isSqueezed_153 (lv_at hl 3 rfl) ?_
                refine callW_i (wr := []) (wn := fun u => [(aM, .inr (7, [.ref aRo, .ref aHi, .int ms, .ref aSn, .int (bI sv), .ref aAs, .ref aLg, .ref aPd, .int ml, .ref aCo, .ref aEa])), (aRo, .inl (y4.1, 151, .inl RO))]) (va_runV (As := [.int (li - 1), .int co]) (rest := []) ⟨hx, hb, hml, hown, hts⟩ (met_X8_isDarkAt l D y4 aM aRo aHi aSn aAs aLg aPd aCo aEa H.size ms sv ml RO (li - 1) co (sq_in hfr hto hli hco ⟨by assumption, by assumption⟩).1) (cwV 2 hts gX8_isSqueezed_X8_isDarkAt rfl rfl rfl (by decide +kernel) ⟨Nat.le_of_ble_eq_true rfl, Nat.le_of_ble_eq_true rfl⟩) ⟨preW_blind, va_recv hK hP (ci := 7) (q0 := 0) rfl rfl, preW_at (hP.sub (ws' := [(aM, .inr (7, [.ref aRo, .ref aHi, .int ms, .ref aSn, .int (bI sv), .ref aAs, .ref aLg, .ref aPd, .int ml, .ref aCo, .ref aEa])), (aRo, .inl (y4.1, 151, .inl RO))]) [0, 1] rfl) hK (hD.sub (ws' := [(aM, .inr (7, [.ref aRo, .ref aHi, .int ms, .ref aSn, .int (bI sv), .ref aAs, .ref aLg, .ref aPd, .int ml, .ref aCo, .ref aEa])), (aRo, .inl (y4.1, 151, .inl RO))]) [0, 1] (by decide) rfl) hNW⟩ rfl rfl hl.1 rfl (lv_room (Nat.le_of_ble_eq_true rfl)) dX8_isSqueezed_155 ⟨Nat.zero_le _, Nat.zero_le _⟩) hP hD hS hA [0, 1] [] [0, 1] rfl rfl (by decide) (by decide) (fun _ => rfl) (by decide) (fun r u18 H locs hw hP hD hS => ?_)
                subst hw
                have hP : va_P D vwCl [(aM, .inr (7, [.ref aRo, .ref aHi, .int ms, .ref aSn, .int (bI sv), .ref aAs, .ref aLg, .ref aPd, .int ml, .ref aCo, .ref aEa])), (aRo, .inl (y4.1, 151, .inl RO))] H := hP
                have hD : va_D A [(aM, .inr (7, [.ref aRo, .ref aHi, .int ms, .ref aSn, .int (bI sv), .ref aAs, .ref aLg, .ref aPd, .int ml, .ref aCo, .ref aEa])), (aRo, .inl (y4.1, 151, .inl RO))] := hD
                refine lb_if_eq (tgt := 177) hx hb dX8_isSqueezed_158 (by decide) (fun c19 => ?_) (fun c19 => ?_)
                · refine lv_iconst (v := 0) hx hb dX8_isSqueezed_177 (by decide) ?_
                  refine lv_goto (tgt := 210) hx hb dX8_isSqueezed_178 (by decide) ?_
                  have em : m_X8_isSqueezed RO fr to li co = false := (by subst ev12 ev10 ev8; first | (simp only [m_X8_isSqueezed, if_neg c1, if_neg c3, if_pos c6, if_neg c13, if_pos c19]; done) | (simp only [m_X8_isSqueezed, if_neg c1, if_neg c3, if_pos c6, if_neg c13, if_pos c19]; rfl))
                  exact W.zret (v := 0) hx hb hr rfl (fun t ht hW => ⟨⟨0, (), rfl, (by rw [em]; rfl), ⟨by rw [ht]; exact hP, by exact hD⟩⟩, hS.F ht⟩) hS.2.2 dX8_isSqueezed_210
                · refine lv_aload_n hx hb dX8_isSqueezed_161 rfl (lv_at hl 1 rfl) ?_
                  refine lv_iload_n hx hb dX8_isSqueezed_162 rfl (lv_at hl 2 rfl) ?_
                  refine lv_iload hx hb dX8_isSqueezed_163 (lv_at hl 3 rfl) ?_
                  refine lv_iconst (v := 1) hx hb dX8_isSqueezed_165 (by decide) ?_
                  refine lv_isub hx hb dX8_isSqueezed_166 ?_
                  refine callW_i (wr := []) (wn := fun u => [(aM, .inr (7, [.ref aRo, .ref aHi, .int ms, .ref aSn, .int (bI sv), .ref aAs, .ref aLg, .ref aPd, .int ml, .ref aCo, .ref aEa])), (aRo, .inl (y4.1, 151, .inl RO))]) (va_runV (As := [.int li, .int (co - 1)]) (rest := []) ⟨hx, hb, hml, hown, hts⟩ (met_X8_isDarkAt l D y4 aM aRo aHi aSn aAs aLg aPd aCo aEa H.size ms sv ml RO li (co - 1) (sq_in hfr hto hli hco ⟨by assumption, by assumption⟩).2.1) (cwV 2 hts gX8_isSqueezed_X8_isDarkAt rfl rfl rfl (by decide +kernel) ⟨Nat.le_of_ble_eq_true rfl, Nat.le_of_ble_eq_true rfl⟩) ⟨preW_blind, va_recv hK hP (ci := 7) (q0 := 0) rfl rfl, preW_at (hP.sub (ws' := [(aM, .inr (7, [.ref aRo, .ref aHi, .int ms, .ref aSn, .int (bI sv), .ref aAs, .ref aLg, .ref aPd, .int ml, .ref aCo, .ref aEa])), (aRo, .inl (y4.1, 151, .inl RO))]) [0, 1] rfl) hK (hD.sub (ws' := [(aM, .inr (7, [.ref aRo, .ref aHi, .int ms, .ref aSn, .int (bI sv), .ref aAs, .ref aLg, .ref aPd, .int ml, .ref aCo, .ref aEa])), (aRo, .inl (y4.1, 151, .inl RO))]) [0, 1] (by decide) rfl) hNW⟩ rfl rfl hl.1 rfl (lv_room (Nat.le_of_ble_eq_true rfl)) dX8_isSqueezed_167 ⟨Nat.zero_le _, Nat.zero_le _⟩) hP hD hS hA [0, 1] [] [0, 1] rfl rfl (by decide) (by decide) (fun _ => rfl) (by decide) (fun r u20 H locs hw hP hD hS => ?_)
                  subst hw
                  have hP : va_P D vwCl [(aM, .inr (7, [.ref aRo, .ref aHi, .int ms, .ref aSn, .int (bI sv), .ref aAs, .ref aLg, .ref aPd, .int ml, .ref aCo, .ref aEa])), (aRo, .inl (y4.1, 151, .inl RO))] H := hP
                  have hD : va_D A [(aM, .inr (7, [.ref aRo, .ref aHi, .int ms, .ref aSn, .int (bI sv), .ref aAs, .ref aLg, .ref aPd, .int ml, .ref aCo, .ref aEa])), (aRo, .inl (y4.1, 151, .inl RO))] := hD
                  refine lb_if_eq (tgt := 177) hx hb dX8_isSqueezed_170 (by decide) (fun c21 => ?_) (fun c21 => ?_)
                  · refine lv_iconst (v := 0) hx hb dX8_isSqueezed_177 (by decide) ?_
                    refine lv_goto (tgt := 210) hx hb dX8_isSqueezed_178 (by decide) ?_
                    have em : m_X8_isSqueezed RO fr to li co = false := (by subst ev12 ev10 ev8; first | (simp only [m_X8_isSqueezed, if_neg c1, if_neg c3, if_pos c6, if_neg c13, if_neg c19, if_pos c21]; done) | (simp only [m_X8_isSqueezed, if_neg c1, if_neg c3, if_pos c6, if_neg c13, if_neg c19, if_pos c21]; rfl))
                    exact W.zret (v := 0) hx hb hr rfl (fun t ht hW => ⟨⟨0, (), rfl, (by rw [em]; rfl), ⟨by rw [ht]; exact hP, by exact hD⟩⟩, hS.F ht⟩) hS.2.2 dX8_isSqueezed_210
                  · refine lv_iconst (v := 1) hx hb dX8_isSqueezed_173 (by decide) ?_
                    refine lv_goto (tgt := 210) hx hb dX8_isSqueezed_174 (by decide) ?_
                    have em : m_X8_isSqueezed RO fr to li co = true := (by subst ev12 ev10 ev8; first | (simp only [m_X8_isSqueezed, if_neg c1, if_neg c3, if_pos c6, if_neg c13, if_neg c19, if_neg c21]; done) | (simp only [m_X8_isSqueezed, if_neg c1, if_neg c3, if_pos c6, if_neg c13, if_neg c19, if_neg c21]; rfl))
                    exact W.zret (v := 1) hx hb hr rfl (fun t ht hW => ⟨⟨1, (), rfl, (by rw [em]; rfl), ⟨by rw [ht]; exact hP, by exact hD⟩⟩, hS.F ht⟩) hS.2.2 dX8_isSqueezed_210
            · refine lv_icmp_ne (tgt := 141) hx hb dX8_isSqueezed_134 (by decide) (fun c11 => ?_) (fun c11 => ?_)
              · refine lv_iconst (v := 0) hx hb dX8_isSqueezed_141 (by decide) ?_
                exact K142 false H locs ls ⟨(by subst ev10 ev8; first | (simp only [if_neg c1, if_neg c3, if_pos c6, if_neg c11]; done) | (simp only [if_neg c1, if_neg c3, if_pos c6, if_neg c11]; rfl) | rfl), hP, hD, hS, lv_sub hl [0, 1, 2] rfl⟩
              · refine lv_iconst (v := 1) hx hb dX8_isSqueezed_137 (by decide) ?_
                refine lv_goto (tgt := 142) hx hb dX8_isSqueezed_138 (by decide) ?_
                exact K142 true H locs ls ⟨(by subst ev10 ev8; first | (simp only [if_neg c1, if_neg c3, if_pos c6, if_pos c11]; done) | (simp only [if_neg c1, if_neg c3, if_pos c6, if_pos c11]; rfl) | rfl), hP, hD, hS, lv_sub hl [0, 1, 2] rfl⟩
          · refine lv_if_le (tgt := 133) hx hb dX8_isSqueezed_126 (by decide) (fun c9 => ?_) (fun c9 => ?_)
            · refine lv_iconst (v := 0) hx hb dX8_isSqueezed_133 (by decide) ?_
              exact K134 false H locs ls ⟨(by subst ev8; first | (simp only [if_neg c1, if_neg c3, if_pos c6, if_pos c9]; done) | (simp only [if_neg c1, if_neg c3, if_pos c6, if_pos c9]; rfl) | rfl), hP, hD, hS, lv_sub hl [1, 2, 3] rfl⟩
            · refine lv_iconst (v := 1) hx hb dX8_isSqueezed_129 (by decide) ?_
              refine lv_goto (tgt := 134) hx hb dX8_isSqueezed_130 (by decide) ?_
              exact K134 true H locs ls ⟨(by subst ev8; first | (simp only [if_neg c1, if_neg c3, if_pos c6, if_neg c9]; done) | (simp only [if_neg c1, if_neg c3, if_pos c6, if_neg c9]; rfl) | rfl), hP, hD, hS, lv_sub hl [1, 2, 3] rfl⟩
        · refine lv_if_le (tgt := 123) hx hb dX8_isSqueezed_116 (by decide) (fun c7 => ?_) (fun c7 => ?_)
          · refine lv_iconst (v := 0) hx hb dX8_isSqueezed_123 (by decide) ?_
            exact K124 false H locs ls ⟨(by first | (simp only [if_neg c1, if_neg c3, if_pos c6, if_pos c7]; done) | (simp only [if_neg c1, if_neg c3, if_pos c6, if_pos c7]; rfl) | rfl), hP, hD, hS, lv_sub hl [1, 3, 6, 7] rfl⟩
          · refine lv_iconst (v := 1) hx hb dX8_isSqueezed_119 (by decide) ?_
            refine lv_goto (tgt := 124) hx hb dX8_isSqueezed_120 (by decide) ?_
            exact K124 true H locs ls ⟨(by first | (simp only [if_neg c1, if_neg c3, if_pos c6, if_neg c7]; done) | (simp only [if_neg c1, if_neg c3, if_pos c6, if_neg c7]; rfl) | rfl), hP, hD, hS, lv_sub hl [1, 3, 6, 7] rfl⟩
      · refine lv_iconst (v := 0) hx hb dX8_isSqueezed_112 (by decide) ?_
        have em : m_X8_isSqueezed RO fr to li co = false := (by first | (simp only [m_X8_isSqueezed, if_neg c1, if_neg c3, if_neg c6]; done) | (simp only [m_X8_isSqueezed, if_neg c1, if_neg c3, if_neg c6]; rfl))
        exact W.zret (v := 0) hx hb hr rfl (fun t ht hW => ⟨⟨0, (), rfl, (by rw [em]; rfl), ⟨by rw [ht]; exact hP, by exact hD⟩⟩, hS.F ht⟩) hS.2.2 dX8_isSqueezed_113
def f_X8_isFree_5 (RO : Nat → Int32) (fr : Int32) (to : Int32) (k1 : Nat) (t2 : Bool) : (Bool ⊕ Bool) ⊕ Bool := (if t2 = false then (.inl (.inr t2)) else (let v24 : Bool := (if (m_X8_isDark (RO (0 + (nI k1)).toNatClampNeg)) = false then (let q17 : Bool := m_X8_isSqueezed RO fr to ((nI k1) / 8) ((nI k1) - (nI k1) / 8 * 8); (if q17 = false then true else false)) else (if (m_X8_goesThrough fr to (nI k1)) = false then (let q21 : Bool := m_X8_isSqueezed RO fr to ((nI k1) / 8) ((nI k1) - (nI k1) / 8 * 8); (if q21 = false then true else false)) else false)); (.inr v24)))
def m_X8_isFree (RO : Nat → Int32) (fr : Int32) (to : Int32) : Bool := (lpr (lpx (f_X8_isFree_5 RO fr to) 64 0 true) id (fun t27 => t27))
set_option maxHeartbeats 4000000 in
set_option maxRecDepth 100000 in
theorem met_X8_isFree (l : Launch) (D : va_G) (y4 : vT) (aM aRo aHi aSn aAs aLg aPd aCo aEa : Nat) (sz : Nat) (ms : Int32) (sv : Bool) (ml : Int32) (RO : Nat → Int32) (fr : Int32) (to : Int32) (hfr : vp_in fr 64) (hto : vp_in to 64) : Met l yX8_isFree wsX8_isFree ({ frames := 3, cells := 0, slots := 0, locals := 74 }) (va_Pc [.ref aM, .int fr, .int to] (PreW D y4 [(aM, .inr (7, [.ref aRo, .ref aHi, .int ms, .ref aSn, .int (bI sv), .ref aAs, .ref aLg, .ref aPd, .int ml, .ref aCo, .ref aEa])), (aRo, .inl (y4.1, 151, .inl RO))] sz)) (va_Qi (fun (r : Int32) (_ : Unit) => r = bI (m_X8_isFree RO fr to)) (fun _ t => PostW D (va_A [(aM, .inr (7, [.ref aRo, .ref aHi, .int ms, .ref aSn, .int (bI sv), .ref aAs, .ref aLg, .ref aPd, .int ml, .ref aCo, .ref aEa])), (aRo, .inl (y4.1, 151, .inl RO))] sz) [(aM, .inr (7, [.ref aRo, .ref aHi, .int ms, .ref aSn, .int (bI sv), .ref aAs, .ref aLg, .ref aPd, .int ml, .ref aCo, .ref aEa])), (aRo, .inl (y4.1, 151, .inl RO))] t) (va_A [(aM, .inr (7, [.ref aRo, .ref aHi, .int ms, .ref aSn, .int (bI sv), .ref aAs, .ref aLg, .ref aPd, .int ml, .ref aCo, .ref aEa])), (aRo, .inl (y4.1, 151, .inl RO))] sz)) 0 0 (va_A [(aM, .inr (7, [.ref aRo, .ref aHi, .int ms, .ref aSn, .int (bI sv), .ref aAs, .ref aLg, .ref aPd, .int ml, .ref aCo, .ref aEa])), (aRo, .inl (y4.1, 151, .inl RO))] sz) := by
  refine Met.ofW (cc := cX8_isFree) (maxL := 5) (ret := (some .boolean)) (by decide) rfl ?_
  intro p e s m args below meth c s₁ B hml hv
  obtain ⟨rfl, hsz, hP, hK, hD0, hNW⟩ := hv
  have hx := B.exec
  have hb := B.bytes
  have hr := B.returns
  have hts := atoms_spec (ws := wsX8_isFree) B.pre
  have hown : s.vm.findClass RX8 = some m.cls := findClass_of_methodNamed B.named
  have hlocks := B.notSynchronized
  subst hsz
  have hD := hD0.self (sz := s.heap.size)
  generalize hAe : va_A [(aM, .inr (7, [.ref aRo, .ref aHi, .int ms, .ref aSn, .int (bI sv), .ref aAs, .ref aLg, .ref aPd, .int ml, .ref aCo, .ref aEa])), (aRo, .inl (y4.1, 151, .inl RO))] s.heap.size = A at hD ⊢
  have hA : ∀ q : Nat, s.heap.size ≤ q → A q := fun q h => by rw [← hAe]; exact Or.inr h
  have hS : va_S A s.heap s.heap [] := va_S.rf
  have hl := lv_entry ([.ref aM, .int fr, .int to]) (n := 5) (Nat.le_of_ble_eq_true rfl)
  rw [lg_entry_eq]
  generalize (lg_sl ([.ref aM, .int fr, .int to]) ++ List.replicate (5 - (lg_sl ([.ref aM, .int fr, .int to])).length) Slot.unset).toArray = ls at hl ⊢
  have hl : lv_has ls 5 [(0, .ref aM), (1, .int fr), (2, .int to)] := hl
  have f7 := hts (.fieldLink RX8 7 "PillarLightModel" "row" "[I") (List.mem_of_getElem? (i := 1) rfl)
  have iX8 : ∀ w ∈ wsX80, w ∈ wsX8_isFree := fun _ h => List.mem_cons_of_mem _ (List.mem_append_right _ h)
  refine startW (fun H locs hP hS => ?_) hP hS
  refine lv_iconst (v := 1) hx hb dX8_isFree_0 (by decide) ?_
  refine lv_istore_n (lv' := [(3, .int 1), (0, .ref aM), (1, .int fr), (2, .int to)]) hx hb dX8_isFree_1 rfl hl (by decide) rfl (fun ls hl => ?_)
  refine lv_iconst (v := 0) hx hb dX8_isFree_2 (by decide) ?_
  refine lv_istore (lv' := [(4, .int 0), (3, .int 1), (0, .ref aM), (1, .int fr), (2, .int to)]) hx hb dX8_isFree_3 hl (by decide) rfl (fun ls hl => ?_)
  refine cutW (X := Bool) 72 (fun x H locs ls => ((lpx (f_X8_isFree_5 RO fr to) 64 0 true) = .inl (.inr x) ∨ (lpx (f_X8_isFree_5 RO fr to) 64 0 true) = .inr x) ∧ va_P D vwCl [(aM, .inr (7, [.ref aRo, .ref aHi, .int ms, .ref aSn, .int (bI sv), .ref aAs, .ref aLg, .ref aPd, .int ml, .ref aCo, .ref aEa])), (aRo, .inl (y4.1, 151, .inl RO))] H ∧ va_D A [(aM, .inr (7, [.ref aRo, .ref aHi, .int ms, .ref aSn, .int (bI sv), .ref aAs, .ref aLg, .ref aPd, .int ml, .ref aCo, .ref aEa])), (aRo, .inl (y4.1, 151, .inl RO))] ∧ va_S A s.heap H locs ∧ lv_has ls 5 [(3, .int (bI x))]) (fun x => []) ?_ (fun K72 => ?_)
  · rintro t27 H locs ls ⟨et27, hP, hD, hS, hl⟩
    have hP : va_P D vwCl [(aM, .inr (7, [.ref aRo, .ref aHi, .int ms, .ref aSn, .int (bI sv), .ref aAs, .ref aLg, .ref aPd, .int ml, .ref aCo, .ref aEa])), (aRo, .inl (y4.1, 151, .inl RO))] H := hP
    have hD : va_D A [(aM, .inr (7, [.ref aRo, .ref aHi, .int ms, .ref aSn, .int (bI sv), .ref aAs, .ref aLg, .ref aPd, .int ml, .ref aCo, .ref aEa])), (aRo, .inl (y4.1, 151, .inl RO))] := hD
    have hl : lv_has ls 5 [(3, .int (bI t27))] := hl
    refine lv_iload_n hx hb dX8_isFree_72 rfl (lv_at hl 0 rfl) ?_
    have em : m_X8_isFree RO fr to = t27 := (by first | (simp only [m_X8_isFree, lpr_k et27]; done) | (simp only [m_X8_isFree, lpr_k et27]; rfl))
    exact W.zret (v := bI t27) hx hb hr (bI_nar _) (fun t ht hW => ⟨⟨bI t27, (), rfl, (by rw [em]), ⟨by rw [ht]; exact hP, by exact hD⟩⟩, hS.F ht⟩) hS.2.2 dX8_isFree_73
  · refine loopX (σ := Bool) (ρ := Bool ⊕ Bool) 5 (f_X8_isFree_5 RO fr to) (fun _ _ => True) 64 0 true (fun k1 t2 H locs ls => va_P D vwCl [(aM, .inr (7, [.ref aRo, .ref aHi, .int ms, .ref aSn, .int (bI sv), .ref aAs, .ref aLg, .ref aPd, .int ml, .ref aCo, .ref aEa])), (aRo, .inl (y4.1, 151, .inl RO))] H ∧ va_D A [(aM, .inr (7, [.ref aRo, .ref aHi, .int ms, .ref aSn, .int (bI sv), .ref aAs, .ref aLg, .ref aPd, .int ml, .ref aCo, .ref aEa])), (aRo, .inl (y4.1, 151, .inl RO))] ∧ va_S A s.heap H locs ∧ lv_has ls 5 [(4, .int (nI k1)), (3, .int (bI t2)), (0, .ref aM), (1, .int fr), (2, .int to)]) trivial ⟨hP, hD, hS, lv_sub hl [0, 1, 2, 3, 4] rfl⟩ (fun t25 H locs ls et25 hit25 hh => ?_) (fun k1 t2 hkk1 hjk1 hik1 hretk1 ihk1 H locs ls hh => ?_)
    · obtain ⟨hP, hD, hS, hl⟩ := hh
      have hP : va_P D vwCl [(aM, .inr (7, [.ref aRo, .ref aHi, .int ms, .ref aSn, .int (bI sv), .ref aAs, .ref aLg, .ref aPd, .int ml, .ref aCo, .ref aEa])), (aRo, .inl (y4.1, 151, .inl RO))] H := hP
      have hD : va_D A [(aM, .inr (7, [.ref aRo, .ref aHi, .int ms, .ref aSn, .int (bI sv), .ref aAs, .ref aLg, .ref aPd, .int ml, .ref aCo, .ref aEa])), (aRo, .inl (y4.1, 151, .inl RO))] := hD
      have hl : lv_has ls 5 [(4, .int (nI 64)), (3, .int (bI t25)), (0, .ref aM), (1, .int fr), (2, .int to)] := hl
      refine lv_iload hx hb dX8_isFree_5 (lv_at hl 0 rfl) ?_
      refine lv_bipush (v := 64) hx hb dX8_isFree_7 (by decide) ?_
      refine lv_icmp_ge (tgt := 72) hx hb dX8_isFree_9 (by decide) (fun c26 => ?_) (fun c26 => absurd (nI_le (a := 64) (by omega) (by omega)) c26)
      exact K72 t25 H locs ls ⟨Or.inr et25, hP, hD, hS, lv_sub hl [1] rfl⟩
    · obtain ⟨hP, hD, hS, hl⟩ := hh
      have hP : va_P D vwCl [(aM, .inr (7, [.ref aRo, .ref aHi, .int ms, .ref aSn, .int (bI sv), .ref aAs, .ref aLg, .ref aPd, .int ml, .ref aCo, .ref aEa])), (aRo, .inl (y4.1, 151, .inl RO))] H := hP
      have hD : va_D A [(aM, .inr (7, [.ref aRo, .ref aHi, .int ms, .ref aSn, .int (bI sv), .ref aAs, .ref aLg, .ref aPd, .int ml, .ref aCo, .ref aEa])), (aRo, .inl (y4.1, 151, .inl RO))] := hD
      have hl : lv_has ls 5 [(4, .int (nI k1)), (3, .int (bI t2)), (0, .ref aM), (1, .int fr), (2, .int to)] := hl
      refine lv_iload hx hb dX8_isFree_5 (lv_at hl 0 rfl) ?_
      refine lv_bipush (v := 64) hx hb dX8_isFree_7 (by decide) ?_
      refine lv_icmp_ge (tgt := 72) hx hb dX8_isFree_9 (by decide) (fun c14 => absurd c14 (nI_ge (b := 64) (by omega) (by omega))) (fun c14 => ?_)
      refine lv_iload_n hx hb dX8_isFree_12 rfl (lv_at hl 1 rfl) ?_
      refine lb_if_eq (tgt := 72) hx hb dX8_isFree_13 (by decide) (fun c15 => ?_) (fun c15 => ?_)
      · have ef : (f_X8_isFree_5 RO fr to) k1 t2 = .inl (.inr t2) := (by first | (simp only [f_X8_isFree_5, if_pos c15]; done) | (simp only [f_X8_isFree_5, if_pos c15]; rfl))
        exact K72 t2 H locs ls ⟨Or.inl (hretk1 _ ef), hP, hD, hS, lv_sub hl [1] rfl⟩
      · refine lv_aload_n hx hb dX8_isFree_16 rfl (lv_at hl 2 rfl) ?_
        refine va_get (ci := 7) (v := .ref aRo) (C := RX8) (T := TX8) (N := 11) hx hb hts iX8 hown hK hP 0 rfl rfl 0 (by decide) f7 (fun _ h9 => h9) rfl dX8_isFree_17 ?_
        refine lv_iconst (v := 0) hx hb dX8_isFree_20 (by decide) ?_
        refine lv_iload hx hb dX8_isFree_21 (lv_at hl 0 rfl) ?_
        refine lv_iadd hx hb dX8_isFree_23 ?_
        refine va_iald hx hb hK hP 1 0 rfl rfl (off_in (vp_in_nI (n := k1) (N := 64) (by omega) (by decide)) (by decide) (by decide) (by decide)) dX8_isFree_24 ?_
        refine callK_i (va_runS (As := [.int (RO (0 + (nI k1)).toNatClampNeg)]) (rest := []) ⟨hx, hb, hml, hown, hts⟩ (met_X8_isDark l  (RO (0 + (nI k1)).toNatClampNeg)) (va_cwS 1 hts gX8_isFree_X8_isDark rfl rfl rfl (by decide +kernel) ⟨Nat.le_of_ble_eq_true rfl, Nat.le_of_ble_eq_true rfl⟩) ⟨preS_blind, fun U hU hW => ⟨rfl, trivial⟩⟩ rfl rfl hl.1 rfl (lv_room (Nat.le_of_ble_eq_true rfl)) dX8_isFree_25 ⟨Nat.zero_le _, Nat.zero_le _⟩) hP hS (fun r u H locs hw hP hS => ?_)
        subst hw
        refine cutW (X := Bool) 65 (fun x H locs ls => x = (if (m_X8_isDark (RO (0 + (nI k1)).toNatClampNeg)) = false then (let q17 : Bool := m_X8_isSqueezed RO fr to ((nI k1) / 8) ((nI k1) - (nI k1) / 8 * 8); (if q17 = false then true else false)) else (if (m_X8_goesThrough fr to (nI k1)) = false then (let q21 : Bool := m_X8_isSqueezed RO fr to ((nI k1) / 8) ((nI k1) - (nI k1) / 8 * 8); (if q21 = false then true else false)) else false)) ∧ va_P D vwCl [(aM, .inr (7, [.ref aRo, .ref aHi, .int ms, .ref aSn, .int (bI sv), .ref aAs, .ref aLg, .ref aPd, .int ml, .ref aCo, .ref aEa])), (aRo, .inl (y4.1, 151, .inl RO))] H ∧ va_D A [(aM, .inr (7, [.ref aRo, .ref aHi, .int ms, .ref aSn, .int (bI sv), .ref aAs, .ref aLg, .ref aPd, .int ml, .ref aCo, .ref aEa])), (aRo, .inl (y4.1, 151, .inl RO))] ∧ va_S A s.heap H locs ∧ lv_has ls 5 [(4, .int (nI k1)), (0, .ref aM), (1, .int fr), (2, .int to)]) (fun x => [.int (bI x)]) ?_ (fun K65 => ?_)
        · rintro v24 H locs ls ⟨ev24, hP, hD, hS, hl⟩
          have ev24 : v24 = (if (m_X8_isDark (RO (0 + (nI k1)).toNatClampNeg)) = false then (let q17 : Bool := m_X8_isSqueezed RO fr to ((nI k1) / 8) ((nI k1) - (nI k1) / 8 * 8); (if q17 = false then true else false)) else (if (m_X8_goesThrough fr to (nI k1)) = false then (let q21 : Bool := m_X8_isSqueezed RO fr to ((nI k1) / 8) ((nI k1) - (nI k1) / 8 * 8); (if q21 = false then true else false)) else false)) := ev24
          have hP : va_P D vwCl [(aM, .inr (7, [.ref aRo, .ref aHi, .int ms, .ref aSn, .int (bI sv), .ref aAs, .ref aLg, .ref aPd, .int ml, .ref aCo, .ref aEa])), (aRo, .inl (y4.1, 151, .inl RO))] H := hP
          have hD : va_D A [(aM, .inr (7, [.ref aRo, .ref aHi, .int ms, .ref aSn, .int (bI sv), .ref aAs, .ref aLg, .ref aPd, .int ml, .ref aCo, .ref aEa])), (aRo, .inl (y4.1, 151, .inl RO))] := hD
          have hl : lv_has ls 5 [(4, .int (nI k1)), (0, .ref aM), (1, .int fr), (2, .int to)] := hl
          refine lv_istore_n (lv' := [(3, .int (bI v24)), (4, .int (nI k1)), (0, .ref aM), (1, .int fr), (2, .int to)]) hx hb dX8_isFree_65 rfl hl (by decide) rfl (fun ls hl => ?_)
          refine lv_iinc (v := nI (k1 + 1)) (lv' := [(4, .int (nI (k1 + 1))), (3, .int (bI v24)), (0, .ref aM), (1, .int fr), (2, .int to)]) hx hb dX8_isFree_66 hl (k := 1) rfl (nI_1 _) (by decide) rfl (fun ls hl => ?_)
          refine lv_goto (tgt := 5) hx hb dX8_isFree_69 (by decide) ?_
          have ef : (f_X8_isFree_5 RO fr to) k1 t2 = .inr v24 := (by subst ev24; first | (simp only [f_X8_isFree_5, if_neg c15]; done) | (simp only [f_X8_isFree_5, if_neg c15]; rfl))
          exact ihk1 _ ef trivial H locs ls ⟨hP, hD, hS, lv_sub hl [0, 1, 2, 3, 4] rfl⟩
        · refine lb_if_eq (tgt := 41) hx hb dX8_isFree_28 (by decide) (fun c16 => ?_) (fun c16 => ?_)
          · refine lv_aload_n hx hb dX8_isFree_41 rfl (lv_at hl 2 rfl) ?_
            refine lv_iload_n hx hb dX8_isFree_42 rfl (lv_at hl 3 rfl) ?_
            refine lv_iload_n hx hb dX8_isFree_43 rfl (lv_at hl 4 rfl) ?_
            refine lv_iload hx hb dX8_isFree_44 (lv_at hl 0 rfl) ?_
            refine lv_bipush (v := 8) hx hb dX8_isFree_46 (by decide) ?_
            refine lv_idiv hx hb dX8_isFree_48 (by decide) ?_
            refine lv_iload hx hb dX8_isFree_49 (lv_at hl 0 rfl) ?_
            refine lv_bipush (v := 8) hx hb dX8_isFree_51 (by decide) ?_
            refine lv_irem hx hb dX8_isFree_53 (by decide) ?_
            refine callW_i (wr := []) (wn := fun u => [(aM, .inr (7, [.ref aRo, .ref aHi, .int ms, .ref aSn, .int (bI sv), .ref aAs, .ref aLg, .ref aPd, .int ml, .ref aCo, .ref aEa])), (aRo, .inl (y4.1, 151, .inl RO))]) (va_runV (As := [.int fr, .int to, .int ((nI k1) / 8), .int ((nI k1) - (nI k1) / 8 * 8)]) (rest := []) ⟨hx, hb, hml, hown, hts⟩ (met_X8_isSqueezed l D y4 aM aRo aHi aSn aAs aLg aPd aCo aEa H.size ms sv ml RO fr to ((nI k1) / 8) ((nI k1) - (nI k1) / 8 * 8) hfr hto (r_in (by omega)) (c_in (by omega))) (cwV 4 hts gX8_isFree_X8_isSqueezed rfl rfl rfl (by decide +kernel) ⟨Nat.le_of_ble_eq_true rfl, Nat.le_of_ble_eq_true rfl⟩) ⟨preW_blind, va_recv hK hP (ci := 7) (q0 := 0) rfl rfl, preW_at (hP.sub (ws' := [(aM, .inr (7, [.ref aRo, .ref aHi, .int ms, .ref aSn, .int (bI sv), .ref aAs, .ref aLg, .ref aPd, .int ml, .ref aCo, .ref aEa])), (aRo, .inl (y4.1, 151, .inl RO))]) [0, 1] rfl) hK (hD.sub (ws' := [(aM, .inr (7, [.ref aRo, .ref aHi, .int ms, .ref aSn, .int (bI sv), .ref aAs, .ref aLg, .ref aPd, .int ml, .ref aCo, .ref aEa])), (aRo, .inl (y4.1, 151, .inl RO))]) [0, 1] (by decide) rfl) hNW⟩ rfl rfl hl.1 rfl (lv_room (Nat.le_of_ble_eq_true rfl)) dX8_isFree_54 ⟨Nat.zero_le _, Nat.zero_le _⟩) hP hD hS hA [0, 1] [] [0, 1] rfl rfl (by decide) (by decide) (fun _ => rfl) (by decide) (fun r u18 H locs hw hP hD hS => ?_)
            obtain ⟨q17, eq17⟩ : ∃ z, z = m_X8_isSqueezed RO fr to ((nI k1) / 8) ((nI k1) - (nI k1) / 8 * 8) := ⟨_, rfl⟩
            rw [← eq17] at hw
            subst hw
            have hP : va_P D vwCl [(aM, .inr (7, [.ref aRo, .ref aHi, .int ms, .ref aSn, .int (bI sv), .ref aAs, .ref aLg, .ref aPd, .int ml, .ref aCo, .ref aEa])), (aRo, .inl (y4.1, 151, .inl RO))] H := hP
            have hD : va_D A [(aM, .inr (7, [.ref aRo, .ref aHi, .int ms, .ref aSn, .int (bI sv), .ref aAs, .ref aLg, .ref aPd, .int ml, .ref aCo, .ref aEa])), (aRo, .inl (y4.1, 151, .inl RO))] := hD
            refine lb_if_ne (tgt := 64) hx hb dX8_isFree_57 (by decide) (fun c19 => ?_) (fun c19 => ?_)
            · refine lv_iconst (v := 0) hx hb dX8_isFree_64 (by decide) ?_
              exact K65 false H locs ls ⟨(by subst eq17; first | (simp only [if_neg c15, if_pos c16, if_neg c19]; done) | (simp only [if_neg c15, if_pos c16, if_neg c19]; rfl) | rfl), hP, hD, hS, lv_sub hl [0, 2, 3, 4] rfl⟩
            · refine lv_iconst (v := 1) hx hb dX8_isFree_60 (by decide) ?_
              refine lv_goto (tgt := 65) hx hb dX8_isFree_61 (by decide) ?_
              exact K65 true H locs ls ⟨(by subst eq17; first | (simp only [if_neg c15, if_pos c16, if_pos c19]; done) | (simp only [if_neg c15, if_pos c16, if_pos c19]; rfl) | rfl), hP, hD, hS, lv_sub hl [0, 2, 3, 4] rfl⟩
          · refine lv_iload_n hx hb dX8_isFree_31 rfl (lv_at hl 3 rfl) ?_
            refine lv_iload_n hx hb dX8_isFree_32 rfl (lv_at hl 4 rfl) ?_
            refine lv_iload hx hb dX8_isFree_33 (lv_at hl 0 rfl) ?_
            refine callK_i (va_runS (As := [.int fr, .int to, .int (nI k1)]) (rest := []) ⟨hx, hb, hml, hown, hts⟩ (met_X8_goesThrough l  fr to (nI k1)) (va_cwS 3 hts gX8_isFree_X8_goesThrough rfl rfl rfl (by decide +kernel) ⟨Nat.le_of_ble_eq_true rfl, Nat.le_of_ble_eq_true rfl⟩) ⟨preS_blind, fun U hU hW => ⟨rfl, trivial⟩⟩ rfl rfl hl.1 rfl (lv_room (Nat.le_of_ble_eq_true rfl)) dX8_isFree_35 ⟨Nat.zero_le _, Nat.zero_le _⟩) hP hS (fun r u H locs hw hP hS => ?_)
            subst hw
            refine lb_if_ne (tgt := 64) hx hb dX8_isFree_38 (by decide) (fun c20 => ?_) (fun c20 => ?_)
            · refine lv_iconst (v := 0) hx hb dX8_isFree_64 (by decide) ?_
              exact K65 false H locs ls ⟨(by first | (simp only [if_neg c15, if_neg c16, if_neg c20]; done) | (simp only [if_neg c15, if_neg c16, if_neg c20]; rfl) | rfl), hP, hD, hS, lv_sub hl [0, 2, 3, 4] rfl⟩
            · refine lv_aload_n hx hb dX8_isFree_41 rfl (lv_at hl 2 rfl) ?_
              refine lv_iload_n hx hb dX8_isFree_42 rfl (lv_at hl 3 rfl) ?_
              refine lv_iload_n hx hb dX8_isFree_43 rfl (lv_at hl 4 rfl) ?_
              refine lv_iload hx hb dX8_isFree_44 (lv_at hl 0 rfl) ?_
              refine lv_bipush (v := 8) hx hb dX8_isFree_46 (by decide) ?_
              refine lv_idiv hx hb dX8_isFree_48 (by decide) ?_
              refine lv_iload hx hb dX8_isFree_49 (lv_at hl 0 rfl) ?_
              refine lv_bipush (v := 8) hx hb dX8_isFree_51 (by decide) ?_
              refine lv_irem hx hb dX8_isFree_53 (by decide) ?_
              refine callW_i (wr := []) (wn := fun u => [(aM, .inr (7, [.ref aRo, .ref aHi, .int ms, .ref aSn, .int (bI sv), .ref aAs, .ref aLg, .ref aPd, .int ml, .ref aCo, .ref aEa])), (aRo, .inl (y4.1, 151, .inl RO))]) (va_runV (As := [.int fr, .int to, .int ((nI k1) / 8), .int ((nI k1) - (nI k1) / 8 * 8)]) (rest := []) ⟨hx, hb, hml, hown, hts⟩ (met_X8_isSqueezed l D y4 aM aRo aHi aSn aAs aLg aPd aCo aEa H.size ms sv ml RO fr to ((nI k1) / 8) ((nI k1) - (nI k1) / 8 * 8) hfr hto (r_in (by omega)) (c_in (by omega))) (cwV 4 hts gX8_isFree_X8_isSqueezed rfl rfl rfl (by decide +kernel) ⟨Nat.le_of_ble_eq_true rfl, Nat.le_of_ble_eq_true rfl⟩) ⟨preW_blind, va_recv hK hP (ci := 7) (q0 := 0) rfl rfl, preW_at (hP.sub (ws' := [(aM, .inr (7, [.ref aRo, .ref aHi, .int ms, .ref aSn, .int (bI sv), .ref aAs, .ref aLg, .ref aPd, .int ml, .ref aCo, .ref aEa])), (aRo, .inl (y4.1, 151, .inl RO))]) [0, 1] rfl) hK (hD.sub (ws' := [(aM, .inr (7, [.ref aRo, .ref aHi, .int ms, .ref aSn, .int (bI sv), .ref aAs, .ref aLg, .ref aPd, .int ml, .ref aCo, .ref aEa])), (aRo, .inl (y4.1, 151, .inl RO))]) [0, 1] (by decide) rfl) hNW⟩ rfl rfl hl.1 rfl (lv_room (Nat.le_of_ble_eq_true rfl)) dX8_isFree_54 ⟨Nat.zero_le _, Nat.zero_le _⟩) hP hD hS hA [0, 1] [] [0, 1] rfl rfl (by decide) (by decide) (fun _ => rfl) (by decide) (fun r u22 H locs hw hP hD hS => ?_)
              obtain ⟨q21, eq21⟩ : ∃ z, z = m_X8_isSqueezed RO fr to ((nI k1) / 8) ((nI k1) - (nI k1) / 8 * 8) := ⟨_, rfl⟩
              rw [← eq21] at hw
              subst hw
              have hP : va_P D vwCl [(aM, .inr (7, [.ref aRo, .ref aHi, .int ms, .ref aSn, .int (bI sv), .ref aAs, .ref aLg, .ref aPd, .int ml, .ref aCo, .ref aEa])), (aRo, .inl (y4.1, 151, .inl RO))] H := hP
              have hD : va_D A [(aM, .inr (7, [.ref aRo, .ref aHi, .int ms, .ref aSn, .int (bI sv), .ref aAs, .ref aLg, .ref aPd, .int ml, .ref aCo, .ref aEa])), (aRo, .inl (y4.1, 151, .inl RO))] := hD
              refine lb_if_ne (tgt := 64) hx hb dX8_isFree_57 (by decide) (fun c23 => ?_) (fun c23 => ?_)
              · refine lv_iconst (v := 0) hx hb dX8_isFree_64 (by decide) ?_
                exact K65 false H locs ls ⟨(by subst eq21; first | (simp only [if_neg c15, if_neg c16, if_pos c20, if_neg c23]; done) | (simp only [if_neg c15, if_neg c16, if_pos c20, if_neg c23]; rfl) | rfl), hP, hD, hS, lv_sub hl [0, 2, 3, 4] rfl⟩
              · refine lv_iconst (v := 1) hx hb dX8_isFree_60 (by decide) ?_
                refine lv_goto (tgt := 65) hx hb dX8_isFree_61 (by decide) ?_
                exact K65 true H locs ls ⟨(by subst eq21; first | (simp only [if_neg c15, if_neg c16, if_pos c20, if_pos c23]; done) | (simp only [if_neg c15, if_neg c16, if_pos c20, if_pos c23]; rfl) | rfl), hP, hD, hS, lv_sub hl [0, 2, 3, 4] rfl⟩
def m_X8_strengthAt (at_ : Int32) (ce : Int32) (sr : Int32) : Int32 := (8 * sr) / ((2 + (((at_ / 8) - (ce / 8)) * ((at_ / 8) - (ce / 8)))) + (((at_ - at_ / 8 * 8) - (ce - ce / 8 * 8)) * ((at_ - at_ / 8 * 8) - (ce - ce / 8 * 8))))
set_option maxHeartbeats 4000000 in
set_option maxRecDepth 100000 in
theorem met_X8_strengthAt (l : Launch) (at_ : Int32) (ce : Int32) (sr : Int32) (hat : vp_in at_ 64) (hce : vp_in ce 64) : Met l yX8_strengthAt wsX8_strengthAt ({ frames := 0, cells := 0, slots := 0, locals := 0 }) (va_Pc [.int at_, .int ce, .int sr] (fun _ => True)) (va_Qi (fun (r : Int32) (_ : Unit) => r = (m_X8_strengthAt at_ ce sr)) (fun _ _ => True) (fun _ => False)) 0 0 (fun _ => False) := by
  refine Met.ofW (cc := cX8_strengthAt) (maxL := 5) (ret := (some .int)) (by decide) rfl ?_
  intro p e s m args below meth c s₁ B hml hv
  obtain ⟨rfl, -⟩ := hv
  have hx := B.exec
  have hb := B.bytes
  have hr := B.returns
  have hts := atoms_spec (ws := wsX8_strengthAt) B.pre
  have hown : s.vm.findClass RX8 = some m.cls := findClass_of_methodNamed B.named
  have hlocks := B.notSynchronized
  have hS : va_S (fun _ => False) s.heap s.heap [] := va_S.rf
  have hl := lv_entry ([.int at_, .int ce, .int sr]) (n := 5) (Nat.le_of_ble_eq_true rfl)
  rw [lg_entry_eq]
  generalize (lg_sl ([.int at_, .int ce, .int sr]) ++ List.replicate (5 - (lg_sl ([.int at_, .int ce, .int sr])).length) Slot.unset).toArray = ls at hl ⊢
  have hl : lv_has ls 5 [(0, .int at_), (1, .int ce), (2, .int sr)] := hl
  refine startS (fun H locs hS => ?_) hS
  refine lv_iload_n hx hb dX8_strengthAt_0 rfl (lv_at hl 0 rfl) ?_
  refine lv_bipush (v := 8) hx hb dX8_strengthAt_1 (by decide) ?_
  refine lv_idiv hx hb dX8_strengthAt_3 (by decide) ?_
  refine lv_iload_n hx hb dX8_strengthAt_4 rfl (lv_at hl 1 rfl) ?_
  refine lv_bipush (v := 8) hx hb dX8_strengthAt_5 (by decide) ?_
  refine lv_idiv hx hb dX8_strengthAt_7 (by decide) ?_
  refine lv_isub hx hb dX8_strengthAt_8 ?_
  refine lv_istore_n (lv' := [(3, .int ((at_ / 8) - (ce / 8))), (0, .int at_), (1, .int ce), (2, .int sr)]) hx hb dX8_strengthAt_9 rfl hl (by decide) rfl (fun ls hl => ?_)
  refine lv_iload_n hx hb dX8_strengthAt_10 rfl (lv_at hl 1 rfl) ?_
  refine lv_bipush (v := 8) hx hb dX8_strengthAt_11 (by decide) ?_
  refine lv_irem hx hb dX8_strengthAt_13 (by decide) ?_
  refine lv_iload_n hx hb dX8_strengthAt_14 rfl (lv_at hl 2 rfl) ?_
  refine lv_bipush (v := 8) hx hb dX8_strengthAt_15 (by decide) ?_
  refine lv_irem hx hb dX8_strengthAt_17 (by decide) ?_
  refine lv_isub hx hb dX8_strengthAt_18 ?_
  refine lv_istore (lv' := [(4, .int ((at_ - at_ / 8 * 8) - (ce - ce / 8 * 8))), (3, .int ((at_ / 8) - (ce / 8))), (0, .int at_), (1, .int ce), (2, .int sr)]) hx hb dX8_strengthAt_19 hl (by decide) rfl (fun ls hl => ?_)
  refine lv_bipush (v := 8) hx hb dX8_strengthAt_21 (by decide) ?_
  refine lv_iload_n hx hb dX8_strengthAt_23 rfl (lv_at hl 4 rfl) ?_
  refine lv_imul hx hb dX8_strengthAt_24 ?_
  refine lv_iconst (v := 2) hx hb dX8_strengthAt_25 (by decide) ?_
  refine lv_iload_n hx hb dX8_strengthAt_26 rfl (lv_at hl 1 rfl) ?_
  refine lv_iload_n hx hb dX8_strengthAt_27 rfl (lv_at hl 1 rfl) ?_
  refine lv_imul hx hb dX8_strengthAt_28 ?_
  refine lv_iadd hx hb dX8_strengthAt_29 ?_
  refine lv_iload hx hb dX8_strengthAt_30 (lv_at hl 0 rfl) ?_
  refine lv_iload hx hb dX8_strengthAt_32 (lv_at hl 0 rfl) ?_
  refine lv_imul hx hb dX8_strengthAt_34 ?_
  refine lv_iadd hx hb dX8_strengthAt_35 ?_
  refine lv_idiv hx hb dX8_strengthAt_36 (ms_ne hat hce) ?_
  have em : m_X8_strengthAt at_ ce sr = (8 * sr) / ((2 + (((at_ / 8) - (ce / 8)) * ((at_ / 8) - (ce / 8)))) + (((at_ - at_ / 8 * 8) - (ce - ce / 8 * 8)) * ((at_ - at_ / 8 * 8) - (ce - ce / 8 * 8)))) := (by first | (simp only [m_X8_strengthAt]; done) | (unfold m_X8_strengthAt; rfl) | rfl)
  exact W.iret (v := (8 * sr) / ((2 + (((at_ / 8) - (ce / 8)) * ((at_ / 8) - (ce / 8)))) + (((at_ - at_ / 8 * 8) - (ce - ce / 8 * 8)) * ((at_ - at_ / 8 * 8) - (ce - ce / 8 * 8))))) hx hb hr (fun t ht hW => ⟨⟨(8 * sr) / ((2 + (((at_ / 8) - (ce / 8)) * ((at_ / 8) - (ce / 8)))) + (((at_ - at_ / 8 * 8) - (ce - ce / 8 * 8)) * ((at_ - at_ / 8 * 8) - (ce - ce / 8 * 8)))), (), rfl, (by rw [em]), trivial⟩, hS.F ht⟩) hS.2.2 dX8_strengthAt_37
def m_X8_given (RO : Nat → Int32) (j : Int32) (ce : Int32) : Int32 := (if (RO (141 + j).toNatClampNeg) = 0 then (0 : Int32) else (let q2 : Bool := m_X8_isFree RO (RO (129 + j).toNatClampNeg) ce; (if q2 = false then (0 : Int32) else (let q5 : Int32 := m_X8_strengthAt (RO (129 + j).toNatClampNeg) ce (RO (135 + j).toNatClampNeg); q5))))
set_option maxHeartbeats 4000000 in
set_option maxRecDepth 100000 in
theorem met_X8_given (l : Launch) (D : va_G) (y4 : vT) (aM aRo aHi aSn aAs aLg aPd aCo aEa : Nat) (sz : Nat) (ms : Int32) (sv : Bool) (ml : Int32) (RO : Nat → Int32) (j : Int32) (ce : Int32) (hj : vp_in j 6) (hfr : vp_in (RO (129 + j).toNatClampNeg) 64) (hce : vp_in ce 64) : Met l yX8_given wsX8_given ({ frames := 4, cells := 0, slots := 0, locals := 98 }) (va_Pc [.ref aM, .int j, .int ce] (PreW D y4 [(aM, .inr (7, [.ref aRo, .ref aHi, .int ms, .ref aSn, .int (bI sv), .ref aAs, .ref aLg, .ref aPd, .int ml, .ref aCo, .ref aEa])), (aRo, .inl (y4.1, 151, .inl RO))] sz)) (va_Qi (fun (r : Int32) (_ : Unit) => r = (m_X8_given RO j ce)) (fun _ t => PostW D (va_A [(aM, .inr (7, [.ref aRo, .ref aHi, .int ms, .ref aSn, .int (bI sv), .ref aAs, .ref aLg, .ref aPd, .int ml, .ref aCo, .ref aEa])), (aRo, .inl (y4.1, 151, .inl RO))] sz) [(aM, .inr (7, [.ref aRo, .ref aHi, .int ms, .ref aSn, .int (bI sv), .ref aAs, .ref aLg, .ref aPd, .int ml, .ref aCo, .ref aEa])), (aRo, .inl (y4.1, 151, .inl RO))] t) (va_A [(aM, .inr (7, [.ref aRo, .ref aHi, .int ms, .ref aSn, .int (bI sv), .ref aAs, .ref aLg, .ref aPd, .int ml, .ref aCo, .ref aEa])), (aRo, .inl (y4.1, 151, .inl RO))] sz)) 0 0 (va_A [(aM, .inr (7, [.ref aRo, .ref aHi, .int ms, .ref aSn, .int (bI sv), .ref aAs, .ref aLg, .ref aPd, .int ml, .ref aCo, .ref aEa])), (aRo, .inl (y4.1, 151, .inl RO))] sz) := by
  refine Met.ofW (cc := cX8_given) (maxL := 4) (ret := (some .int)) (by decide) rfl ?_
  intro p e s m args below meth c s₁ B hml hv
  obtain ⟨rfl, hsz, hP, hK, hD0, hNW⟩ := hv
  have hx := B.exec
  have hb := B.bytes
  have hr := B.returns
  have hts := atoms_spec (ws := wsX8_given) B.pre
  have hown : s.vm.findClass RX8 = some m.cls := findClass_of_methodNamed B.named
  have hlocks := B.notSynchronized
  subst hsz
  have hD := hD0.self (sz := s.heap.size)
  generalize hAe : va_A [(aM, .inr (7, [.ref aRo, .ref aHi, .int ms, .ref aSn, .int (bI sv), .ref aAs, .ref aLg, .ref aPd, .int ml, .ref aCo, .ref aEa])), (aRo, .inl (y4.1, 151, .inl RO))] s.heap.size = A at hD ⊢
  have hA : ∀ q : Nat, s.heap.size ≤ q → A q := fun q h => by rw [← hAe]; exact Or.inr h
  have hS : va_S A s.heap s.heap [] := va_S.rf
  have hl := lv_entry ([.ref aM, .int j, .int ce]) (n := 4) (Nat.le_of_ble_eq_true rfl)
  rw [lg_entry_eq]
  generalize (lg_sl ([.ref aM, .int j, .int ce]) ++ List.replicate (4 - (lg_sl ([.ref aM, .int j, .int ce])).length) Slot.unset).toArray = ls at hl ⊢
  have hl : lv_has ls 4 [(0, .ref aM), (1, .int j), (2, .int ce)] := hl
  have f7 := hts (.fieldLink RX8 7 "PillarLightModel" "row" "[I") (List.mem_of_getElem? (i := 1) rfl)
  have iX8 : ∀ w ∈ wsX80, w ∈ wsX8_given := fun _ h => List.mem_cons_of_mem _ (List.mem_append_right _ h)
  refine startW (fun H locs hP hS => ?_) hP hS
  refine lv_aload_n hx hb dX8_given_0 rfl (lv_at hl 0 rfl) ?_
  refine va_get (ci := 7) (v := .ref aRo) (C := RX8) (T := TX8) (N := 11) hx hb hts iX8 hown hK hP 0 rfl rfl 0 (by decide) f7 (fun _ h9 => h9) rfl dX8_given_1 ?_
  refine lv_sipush (v := 129) hx hb dX8_given_4 (by decide) ?_
  refine lv_iload_n hx hb dX8_given_7 rfl (lv_at hl 1 rfl) ?_
  refine lv_iadd hx hb dX8_given_8 ?_
  refine va_iald hx hb hK hP 1 0 rfl rfl (off_in hj (by decide) (by decide) (by decide)) dX8_given_9 ?_
  refine lv_istore_n (lv' := [(3, .int (RO (129 + j).toNatClampNeg)), (0, .ref aM), (1, .int j), (2, .int ce)]) hx hb dX8_given_10 rfl hl (by decide) rfl (fun ls hl => ?_)
  refine lv_aload_n hx hb dX8_given_11 rfl (lv_at hl 1 rfl) ?_
  refine va_get (ci := 7) (v := .ref aRo) (C := RX8) (T := TX8) (N := 11) hx hb hts iX8 hown hK hP 0 rfl rfl 0 (by decide) f7 (fun _ h9 => h9) rfl dX8_given_12 ?_
  refine lv_sipush (v := 141) hx hb dX8_given_15 (by decide) ?_
  refine lv_iload_n hx hb dX8_given_18 rfl (lv_at hl 2 rfl) ?_
  refine lv_iadd hx hb dX8_given_19 ?_
  refine va_iald hx hb hK hP 1 0 rfl rfl (off_in hj (by decide) (by decide) (by decide)) dX8_given_20 ?_
  refine lv_if_eq (tgt := 33) hx hb dX8_given_21 (by decide) (fun c1 => ?_) (fun c1 => ?_)
  · refine lv_iconst (v := 0) hx hb dX8_given_33 (by decide) ?_
    have em : m_X8_given RO j ce = (0 : Int32) := (by first | (simp only [m_X8_given, if_pos c1]; done) | (simp only [m_X8_given, if_pos c1]; rfl))
    exact W.iret (v := 0) hx hb hr (fun t ht hW => ⟨⟨0, (), rfl, (by rw [em]), ⟨by rw [ht]; exact hP, by exact hD⟩⟩, hS.F ht⟩) hS.2.2 dX8_given_34
  · refine lv_aload_n hx hb dX8_given_24 rfl (lv_at hl 1 rfl) ?_
    refine lv_iload_n hx hb dX8_given_25 rfl (lv_at hl 0 rfl) ?_
    refine lv_iload_n hx hb dX8_given_26 rfl (lv_at hl 3 rfl) ?_
    refine callW_i (wr := []) (wn := fun u => [(aM, .inr (7, [.ref aRo, .ref aHi, .int ms, .ref aSn, .int (bI sv), .ref aAs, .ref aLg, .ref aPd, .int ml, .ref aCo, .ref aEa])), (aRo, .inl (y4.1, 151, .inl RO))]) (va_runV (As := [.int (RO (129 + j).toNatClampNeg), .int ce]) (rest := []) ⟨hx, hb, hml, hown, hts⟩ (met_X8_isFree l D y4 aM aRo aHi aSn aAs aLg aPd aCo aEa H.size ms sv ml RO (RO (129 + j).toNatClampNeg) ce hfr hce) (cwV 2 hts gX8_given_X8_isFree rfl rfl rfl (by decide +kernel) ⟨Nat.le_of_ble_eq_true rfl, Nat.le_of_ble_eq_true rfl⟩) ⟨preW_blind, va_recv hK hP (ci := 7) (q0 := 0) rfl rfl, preW_at (hP.sub (ws' := [(aM, .inr (7, [.ref aRo, .ref aHi, .int ms, .ref aSn, .int (bI sv), .ref aAs, .ref aLg, .ref aPd, .int ml, .ref aCo, .ref aEa])), (aRo, .inl (y4.1, 151, .inl RO))]) [0, 1] rfl) hK (hD.sub (ws' := [(aM, .inr (7, [.ref aRo, .ref aHi, .int ms, .ref aSn, .int (bI sv), .ref aAs, .ref aLg, .ref aPd, .int ml, .ref aCo, .ref aEa])), (aRo, .inl (y4.1, 151, .inl RO))]) [0, 1] (by decide) rfl) hNW⟩ rfl rfl hl.1 rfl (lv_room (Nat.le_of_ble_eq_true rfl)) dX8_given_27 ⟨Nat.zero_le _, Nat.zero_le _⟩) hP hD hS hA [0, 1] [] [0, 1] rfl rfl (by decide) (by decide) (fun _ => rfl) (by decide) (fun r u3 H locs hw hP hD hS => ?_)
    obtain ⟨q2, eq2⟩ : ∃ z, z = m_X8_isFree RO (RO (129 + j).toNatClampNeg) ce := ⟨_, rfl⟩
    rw [← eq2] at hw
    subst hw
    have hP : va_P D vwCl [(aM, .inr (7, [.ref aRo, .ref aHi, .int ms, .ref aSn, .int (bI sv), .ref aAs, .ref aLg, .ref aPd, .int ml, .ref aCo, .ref aEa])), (aRo, .inl (y4.1, 151, .inl RO))] H := hP
    have hD : va_D A [(aM, .inr (7, [.ref aRo, .ref aHi, .int ms, .ref aSn, .int (bI sv), .ref aAs, .ref aLg, .ref aPd, .int ml, .ref aCo, .ref aEa])), (aRo, .inl (y4.1, 151, .inl RO))] := hD
    refine lb_if_ne (tgt := 35) hx hb dX8_given_30 (by decide) (fun c4 => ?_) (fun c4 => ?_)
    · refine lv_iload_n hx hb dX8_given_35 rfl (lv_at hl 0 rfl) ?_
      refine lv_iload_n hx hb dX8_given_36 rfl (lv_at hl 3 rfl) ?_
      refine lv_aload_n hx hb dX8_given_37 rfl (lv_at hl 1 rfl) ?_
      refine va_get (ci := 7) (v := .ref aRo) (C := RX8) (T := TX8) (N := 11) hx hb hts iX8 hown hK hP 0 rfl rfl 0 (by decide) f7 (fun _ h9 => h9) rfl dX8_given_38 ?_
      refine lv_sipush (v := 135) hx hb dX8_given_41 (by decide) ?_
      refine lv_iload_n hx hb dX8_given_44 rfl (lv_at hl 2 rfl) ?_
      refine lv_iadd hx hb dX8_given_45 ?_
      refine va_iald hx hb hK hP 1 0 rfl rfl (off_in hj (by decide) (by decide) (by decide)) dX8_given_46 ?_
      refine callK_i (va_runS (As := [.int (RO (129 + j).toNatClampNeg), .int ce, .int (RO (135 + j).toNatClampNeg)]) (rest := []) ⟨hx, hb, hml, hown, hts⟩ (met_X8_strengthAt l  (RO (129 + j).toNatClampNeg) ce (RO (135 + j).toNatClampNeg) hfr hce) (va_cwS 3 hts gX8_given_X8_strengthAt rfl rfl rfl (by decide +kernel) ⟨Nat.le_of_ble_eq_true rfl, Nat.le_of_ble_eq_true rfl⟩) ⟨preS_blind, fun U hU hW => ⟨rfl, trivial⟩⟩ rfl rfl hl.1 rfl (lv_room (Nat.le_of_ble_eq_true rfl)) dX8_given_47 ⟨Nat.zero_le _, Nat.zero_le _⟩) hP hS (fun r u H locs hw hP hS => ?_)
      obtain ⟨q5, eq5⟩ : ∃ z, z = m_X8_strengthAt (RO (129 + j).toNatClampNeg) ce (RO (135 + j).toNatClampNeg) := ⟨_, rfl⟩
      rw [← eq5] at hw
      replace hw := hw.symm
      subst hw
      have em : m_X8_given RO j ce = q5 := (by subst eq5 eq2; first | (simp only [m_X8_given, if_neg c1, if_neg c4]; done) | (simp only [m_X8_given, if_neg c1, if_neg c4]; rfl))
      exact W.iret (v := q5) hx hb hr (fun t ht hW => ⟨⟨q5, (), rfl, (by rw [em]), ⟨by rw [ht]; exact hP, by exact hD⟩⟩, hS.F ht⟩) hS.2.2 dX8_given_50
    · refine lv_iconst (v := 0) hx hb dX8_given_33 (by decide) ?_
      have em : m_X8_given RO j ce = (0 : Int32) := (by subst eq2; first | (simp only [m_X8_given, if_neg c1, if_pos c4]; done) | (simp only [m_X8_given, if_neg c1, if_pos c4]; rfl))
      exact W.iret (v := 0) hx hb hr (fun t ht hW => ⟨⟨0, (), rfl, (by rw [em]), ⟨by rw [ht]; exact hP, by exact hD⟩⟩, hS.F ht⟩) hS.2.2 dX8_given_34
def f_X8_lightAt_4 (RO : Nat → Int32) (ce : Int32) (k1 : Nat) (t2 : Int32) : Int32 := t2 + (m_X8_given RO (nI k1) ce)
def m_X8_lightAt (RO : Nat → Int32) (ce : Int32) : Int32 := (let t7 : Int32 := itr (f_X8_lightAt_4 RO ce) ((RO 128).toNatClampNeg) (0 : Int32); t7)
set_option maxHeartbeats 4000000 in
set_option maxRecDepth 100000 in
theorem met_X8_lightAt (l : Launch) (D : va_G) (y4 : vT) (aM aRo aHi aSn aAs aLg aPd aCo aEa : Nat) (sz : Nat) (ms : Int32) (sv : Bool) (ml : Int32) (RO : Nat → Int32) (ce : Int32) (hM : MI RO) (hce : vp_in ce 64) : Met l yX8_lightAt wsX8_lightAt ({ frames := 5, cells := 0, slots := 0, locals := 121 }) (va_Pc [.ref aM, .int ce] (PreW D y4 [(aM, .inr (7, [.ref aRo, .ref aHi, .int ms, .ref aSn, .int (bI sv), .ref aAs, .ref aLg, .ref aPd, .int ml, .ref aCo, .ref aEa])), (aRo, .inl (y4.1, 151, .inl RO))] sz)) (va_Qi (fun (r : Int32) (_ : Unit) => r = (m_X8_lightAt RO ce)) (fun _ t => PostW D (va_A [(aM, .inr (7, [.ref aRo, .ref aHi, .int ms, .ref aSn, .int (bI sv), .ref aAs, .ref aLg, .ref aPd, .int ml, .ref aCo, .ref aEa])), (aRo, .inl (y4.1, 151, .inl RO))] sz) [(aM, .inr (7, [.ref aRo, .ref aHi, .int ms, .ref aSn, .int (bI sv), .ref aAs, .ref aLg, .ref aPd, .int ml, .ref aCo, .ref aEa])), (aRo, .inl (y4.1, 151, .inl RO))] t) (va_A [(aM, .inr (7, [.ref aRo, .ref aHi, .int ms, .ref aSn, .int (bI sv), .ref aAs, .ref aLg, .ref aPd, .int ml, .ref aCo, .ref aEa])), (aRo, .inl (y4.1, 151, .inl RO))] sz)) 0 0 (va_A [(aM, .inr (7, [.ref aRo, .ref aHi, .int ms, .ref aSn, .int (bI sv), .ref aAs, .ref aLg, .ref aPd, .int ml, .ref aCo, .ref aEa])), (aRo, .inl (y4.1, 151, .inl RO))] sz) := by
  refine Met.ofW (cc := cX8_lightAt) (maxL := 4) (ret := (some .int)) (by decide) rfl ?_
  intro p e s m args below meth c s₁ B hml hv
  obtain ⟨rfl, hsz, hP, hK, hD0, hNW⟩ := hv
  have hx := B.exec
  have hb := B.bytes
  have hr := B.returns
  have hts := atoms_spec (ws := wsX8_lightAt) B.pre
  have hown : s.vm.findClass RX8 = some m.cls := findClass_of_methodNamed B.named
  have hlocks := B.notSynchronized
  subst hsz
  have hD := hD0.self (sz := s.heap.size)
  generalize hAe : va_A [(aM, .inr (7, [.ref aRo, .ref aHi, .int ms, .ref aSn, .int (bI sv), .ref aAs, .ref aLg, .ref aPd, .int ml, .ref aCo, .ref aEa])), (aRo, .inl (y4.1, 151, .inl RO))] s.heap.size = A at hD ⊢
  have hA : ∀ q : Nat, s.heap.size ≤ q → A q := fun q h => by rw [← hAe]; exact Or.inr h
  have hS : va_S A s.heap s.heap [] := va_S.rf
  have hl := lv_entry ([.ref aM, .int ce]) (n := 4) (Nat.le_of_ble_eq_true rfl)
  rw [lg_entry_eq]
  generalize (lg_sl ([.ref aM, .int ce]) ++ List.replicate (4 - (lg_sl ([.ref aM, .int ce])).length) Slot.unset).toArray = ls at hl ⊢
  have hl : lv_has ls 4 [(0, .ref aM), (1, .int ce)] := hl
  have f7 := hts (.fieldLink RX8 7 "PillarLightModel" "row" "[I") (List.mem_of_getElem? (i := 1) rfl)
  have iX8 : ∀ w ∈ wsX80, w ∈ wsX8_lightAt := fun _ h => List.mem_cons_of_mem _ (List.mem_append_right _ h)
  refine startW (fun H locs hP hS => ?_) hP hS
  refine lv_iconst (v := 0) hx hb dX8_lightAt_0 (by decide) ?_
  refine lv_istore_n (lv' := [(2, .int 0), (0, .ref aM), (1, .int ce)]) hx hb dX8_lightAt_1 rfl hl (by decide) rfl (fun ls hl => ?_)
  refine lv_iconst (v := 0) hx hb dX8_lightAt_2 (by decide) ?_
  refine lv_istore_n (lv' := [(3, .int 0), (2, .int 0), (0, .ref aM), (1, .int ce)]) hx hb dX8_lightAt_3 rfl hl (by decide) rfl (fun ls hl => ?_)
  refine loopW (σ := Int32) 4 (f_X8_lightAt_4 RO ce) ((RO 128).toNatClampNeg) (0 : Int32) (fun k1 t2 H locs ls => va_P D vwCl [(aM, .inr (7, [.ref aRo, .ref aHi, .int ms, .ref aSn, .int (bI sv), .ref aAs, .ref aLg, .ref aPd, .int ml, .ref aCo, .ref aEa])), (aRo, .inl (y4.1, 151, .inl RO))] H ∧ va_D A [(aM, .inr (7, [.ref aRo, .ref aHi, .int ms, .ref aSn, .int (bI sv), .ref aAs, .ref aLg, .ref aPd, .int ml, .ref aCo, .ref aEa])), (aRo, .inl (y4.1, 151, .inl RO))] ∧ va_S A s.heap H locs ∧ lv_has ls 4 [(3, .int (nI k1)), (2, .int t2), (0, .ref aM), (1, .int ce)]) ⟨hP, hD, hS, lv_sub hl [0, 1, 2, 3] rfl⟩ (fun t7 H locs ls et7 hh => ?_) (fun k1 t2 hkk1 hek1 ihk1 H locs ls hh => ?_)
  · obtain ⟨hP, hD, hS, hl⟩ := hh
    have hP : va_P D vwCl [(aM, .inr (7, [.ref aRo, .ref aHi, .int ms, .ref aSn, .int (bI sv), .ref aAs, .ref aLg, .ref aPd, .int ml, .ref aCo, .ref aEa])), (aRo, .inl (y4.1, 151, .inl RO))] H := hP
    have hD : va_D A [(aM, .inr (7, [.ref aRo, .ref aHi, .int ms, .ref aSn, .int (bI sv), .ref aAs, .ref aLg, .ref aPd, .int ml, .ref aCo, .ref aEa])), (aRo, .inl (y4.1, 151, .inl RO))] := hD
    have hl : lv_has ls 4 [(3, .int (nI ((RO 128).toNatClampNeg))), (2, .int t7), (0, .ref aM), (1, .int ce)] := hl
    refine lv_iload_n hx hb dX8_lightAt_4 rfl (lv_at hl 0 rfl) ?_
    refine lv_aload_n hx hb dX8_lightAt_5 rfl (lv_at hl 2 rfl) ?_
    refine va_get (ci := 7) (v := .ref aRo) (C := RX8) (T := TX8) (N := 11) hx hb hts iX8 hown hK hP 0 rfl rfl 0 (by decide) f7 (fun _ h9 => h9) rfl dX8_lightAt_6 ?_
    refine lv_sipush (v := 128) hx hb dX8_lightAt_9 (by decide) ?_
    refine va_iald hx hb hK hP 1 0 rfl rfl (vp_in_nI (n := 128) (by decide) (by decide)) dX8_lightAt_12 ?_
    refine W.ofeqi (y := RO 128) (congrArg RO (by decide : (128 : Int32).toNatClampNeg = 128)) ?_
    refine lv_icmp_ge (tgt := 31) hx hb dX8_lightAt_13 (by decide) (fun c8 => ?_) (fun c8 => absurd (cl_le hM.1 (by omega) (by have := cl_lt hM.1; omega)) c8)
    refine lv_iload_n hx hb dX8_lightAt_31 rfl (lv_at hl 1 rfl) ?_
    have em : m_X8_lightAt RO ce = t7 := (by subst et7; first | (simp only [m_X8_lightAt]; done) | (unfold m_X8_lightAt; rfl) | rfl)
    exact W.iret (v := t7) hx hb hr (fun t ht hW => ⟨⟨t7, (), rfl, (by rw [em]), ⟨by rw [ht]; exact hP, by exact hD⟩⟩, hS.F ht⟩) hS.2.2 dX8_lightAt_32
  · obtain ⟨hP, hD, hS, hl⟩ := hh
    have hP : va_P D vwCl [(aM, .inr (7, [.ref aRo, .ref aHi, .int ms, .ref aSn, .int (bI sv), .ref aAs, .ref aLg, .ref aPd, .int ml, .ref aCo, .ref aEa])), (aRo, .inl (y4.1, 151, .inl RO))] H := hP
    have hD : va_D A [(aM, .inr (7, [.ref aRo, .ref aHi, .int ms, .ref aSn, .int (bI sv), .ref aAs, .ref aLg, .ref aPd, .int ml, .ref aCo, .ref aEa])), (aRo, .inl (y4.1, 151, .inl RO))] := hD
    have hl : lv_has ls 4 [(3, .int (nI k1)), (2, .int t2), (0, .ref aM), (1, .int ce)] := hl
    refine lv_iload_n hx hb dX8_lightAt_4 rfl (lv_at hl 0 rfl) ?_
    refine lv_aload_n hx hb dX8_lightAt_5 rfl (lv_at hl 2 rfl) ?_
    refine va_get (ci := 7) (v := .ref aRo) (C := RX8) (T := TX8) (N := 11) hx hb hts iX8 hown hK hP 0 rfl rfl 0 (by decide) f7 (fun _ h9 => h9) rfl dX8_lightAt_6 ?_
    refine lv_sipush (v := 128) hx hb dX8_lightAt_9 (by decide) ?_
    refine va_iald hx hb hK hP 1 0 rfl rfl (vp_in_nI (n := 128) (by decide) (by decide)) dX8_lightAt_12 ?_
    refine W.ofeqi (y := RO 128) (congrArg RO (by decide : (128 : Int32).toNatClampNeg = 128)) ?_
    refine lv_icmp_ge (tgt := 31) hx hb dX8_lightAt_13 (by decide) (fun c5 => absurd c5 (cl_ge hM.1 (by omega))) (fun c5 => ?_)
    refine lv_iload_n hx hb dX8_lightAt_16 rfl (lv_at hl 1 rfl) ?_
    refine lv_aload_n hx hb dX8_lightAt_17 rfl (lv_at hl 2 rfl) ?_
    refine lv_iload_n hx hb dX8_lightAt_18 rfl (lv_at hl 0 rfl) ?_
    refine lv_iload_n hx hb dX8_lightAt_19 rfl (lv_at hl 3 rfl) ?_
    refine callW_i (wr := []) (wn := fun u => [(aM, .inr (7, [.ref aRo, .ref aHi, .int ms, .ref aSn, .int (bI sv), .ref aAs, .ref aLg, .ref aPd, .int ml, .ref aCo, .ref aEa])), (aRo, .inl (y4.1, 151, .inl RO))]) (va_runV (As := [.int (nI k1), .int ce]) (rest := [.int t2]) ⟨hx, hb, hml, hown, hts⟩ (met_X8_given l D y4 aM aRo aHi aSn aAs aLg aPd aCo aEa H.size ms sv ml RO (nI k1) ce (cl_in hM.1 (by omega)) (hM.2.1 _ (by omega)) hce) (cwV 2 hts gX8_lightAt_X8_given rfl rfl rfl (by decide +kernel) ⟨Nat.le_of_ble_eq_true rfl, Nat.le_of_ble_eq_true rfl⟩) ⟨preW_blind, va_recv hK hP (ci := 7) (q0 := 0) rfl rfl, preW_at (hP.sub (ws' := [(aM, .inr (7, [.ref aRo, .ref aHi, .int ms, .ref aSn, .int (bI sv), .ref aAs, .ref aLg, .ref aPd, .int ml, .ref aCo, .ref aEa])), (aRo, .inl (y4.1, 151, .inl RO))]) [0, 1] rfl) hK (hD.sub (ws' := [(aM, .inr (7, [.ref aRo, .ref aHi, .int ms, .ref aSn, .int (bI sv), .ref aAs, .ref aLg, .ref aPd, .int ml, .ref aCo, .ref aEa])), (aRo, .inl (y4.1, 151, .inl RO))]) [0, 1] (by decide) rfl) hNW⟩ rfl rfl hl.1 rfl (lv_room (Nat.le_of_ble_eq_true rfl)) dX8_lightAt_20 ⟨Nat.zero_le _, Nat.zero_le _⟩) hP hD hS hA [0, 1] [] [0, 1] rfl rfl (by decide) (by decide) (fun _ => rfl) (by decide) (fun r u6 H locs hw hP hD hS => ?_)
    subst hw
    have hP : va_P D vwCl [(aM, .inr (7, [.ref aRo, .ref aHi, .int ms, .ref aSn, .int (bI sv), .ref aAs, .ref aLg, .ref aPd, .int ml, .ref aCo, .ref aEa])), (aRo, .inl (y4.1, 151, .inl RO))] H := hP
    have hD : va_D A [(aM, .inr (7, [.ref aRo, .ref aHi, .int ms, .ref aSn, .int (bI sv), .ref aAs, .ref aLg, .ref aPd, .int ml, .ref aCo, .ref aEa])), (aRo, .inl (y4.1, 151, .inl RO))] := hD
    refine lv_iadd hx hb dX8_lightAt_23 ?_
    refine lv_istore_n (lv' := [(2, .int (t2 + (m_X8_given RO (nI k1) ce))), (3, .int (nI k1)), (0, .ref aM), (1, .int ce)]) hx hb dX8_lightAt_24 rfl hl (by decide) rfl (fun ls hl => ?_)
    refine lv_iinc (v := nI (k1 + 1)) (lv' := [(3, .int (nI (k1 + 1))), (2, .int (t2 + (m_X8_given RO (nI k1) ce))), (0, .ref aM), (1, .int ce)]) hx hb dX8_lightAt_25 hl (k := 1) rfl (nI_1 _) (by decide) rfl (fun ls hl => ?_)
    refine lv_goto (tgt := 4) hx hb dX8_lightAt_28 (by decide) ?_
    have ef : (f_X8_lightAt_4 RO ce) k1 t2 = t2 + (m_X8_given RO (nI k1) ce) := (by first | (simp only [f_X8_lightAt_4]; done) | (unfold f_X8_lightAt_4; rfl) | rfl)
    rw [ef] at ihk1
    exact ihk1 H locs ls ⟨hP, hD, hS, lv_sub hl [0, 1, 2, 3] rfl⟩
def f_X8_shine_2 (RO : Nat → Int32) (k1 : Nat) (t2 : (Nat → Int32)) : (Nat → Int32) := upd t2 (nI k1).toNatClampNeg (m_X8_lightAt RO (nI k1))
def m_X8_shine (RO : Nat → Int32) (LG : Nat → Int32) : (Nat → Int32) := (let t7 : (Nat → Int32) := itr (f_X8_shine_2 RO) 64 LG; t7)
set_option maxHeartbeats 4000000 in
set_option maxRecDepth 100000 in
theorem met_X8_shine (l : Launch) (D : va_G) (y4 : vT) (aM aRo aHi aSn aAs aLg aPd aCo aEa : Nat) (sz : Nat) (ms : Int32) (sv : Bool) (ml : Int32) (RO : Nat → Int32) (LG : Nat → Int32) (hM : MI RO) : Met l yX8_shine wsX8_shine ({ frames := 6, cells := 0, slots := 0, locals := 144 }) (va_Pc [.ref aM] (PreW D y4 [(aM, .inr (7, [.ref aRo, .ref aHi, .int ms, .ref aSn, .int (bI sv), .ref aAs, .ref aLg, .ref aPd, .int ml, .ref aCo, .ref aEa])), (aRo, .inl (y4.1, 151, .inl RO)), (aLg, .inl (y4.1, 64, .inl LG))] sz)) (va_Qv (fun (_ : Unit) => True) (fun _ t => PostW D (va_A [(aM, .inr (7, [.ref aRo, .ref aHi, .int ms, .ref aSn, .int (bI sv), .ref aAs, .ref aLg, .ref aPd, .int ml, .ref aCo, .ref aEa])), (aRo, .inl (y4.1, 151, .inl RO)), (aLg, .inl (y4.1, 64, .inl LG))] sz) [(aM, .inr (7, [.ref aRo, .ref aHi, .int ms, .ref aSn, .int (bI sv), .ref aAs, .ref aLg, .ref aPd, .int ml, .ref aCo, .ref aEa])), (aRo, .inl (y4.1, 151, .inl RO)), (aLg, .inl (y4.1, 64, .inl (m_X8_shine RO LG)))] t) (va_A [(aM, .inr (7, [.ref aRo, .ref aHi, .int ms, .ref aSn, .int (bI sv), .ref aAs, .ref aLg, .ref aPd, .int ml, .ref aCo, .ref aEa])), (aRo, .inl (y4.1, 151, .inl RO)), (aLg, .inl (y4.1, 64, .inl LG))] sz)) 0 0 (va_A [(aM, .inr (7, [.ref aRo, .ref aHi, .int ms, .ref aSn, .int (bI sv), .ref aAs, .ref aLg, .ref aPd, .int ml, .ref aCo, .ref aEa])), (aRo, .inl (y4.1, 151, .inl RO)), (aLg, .inl (y4.1, 64, .inl LG))] sz) := by
  refine Met.ofW (cc := cX8_shine) (maxL := 2) (ret := none) (by decide) rfl ?_
  intro p e s m args below meth c s₁ B hml hv
  obtain ⟨rfl, hsz, hP, hK, hD0, hNW⟩ := hv
  have hx := B.exec
  have hb := B.bytes
  have hr := B.returns
  have hts := atoms_spec (ws := wsX8_shine) B.pre
  have hown : s.vm.findClass RX8 = some m.cls := findClass_of_methodNamed B.named
  have hlocks := B.notSynchronized
  subst hsz
  have hD := hD0.self (sz := s.heap.size)
  generalize hAe : va_A [(aM, .inr (7, [.ref aRo, .ref aHi, .int ms, .ref aSn, .int (bI sv), .ref aAs, .ref aLg, .ref aPd, .int ml, .ref aCo, .ref aEa])), (aRo, .inl (y4.1, 151, .inl RO)), (aLg, .inl (y4.1, 64, .inl LG))] s.heap.size = A at hD ⊢
  have hA : ∀ q : Nat, s.heap.size ≤ q → A q := fun q h => by rw [← hAe]; exact Or.inr h
  have hS : va_S A s.heap s.heap [] := va_S.rf
  have hl := lv_entry ([.ref aM]) (n := 2) (Nat.le_of_ble_eq_true rfl)
  rw [lg_entry_eq]
  generalize (lg_sl ([.ref aM]) ++ List.replicate (2 - (lg_sl ([.ref aM])).length) Slot.unset).toArray = ls at hl ⊢
  have hl : lv_has ls 2 [(0, .ref aM)] := hl
  have f22 := hts (.fieldLink RX8 22 "PillarLightModel" "light" "[I") (List.mem_of_getElem? (i := 1) rfl)
  have iX8 : ∀ w ∈ wsX80, w ∈ wsX8_shine := fun _ h => List.mem_cons_of_mem _ (List.mem_append_right _ h)
  refine startW (fun H locs hP hS => ?_) hP hS
  refine lv_iconst (v := 0) hx hb dX8_shine_0 (by decide) ?_
  refine lv_istore_n (lv' := [(1, .int 0), (0, .ref aM)]) hx hb dX8_shine_1 rfl hl (by decide) rfl (fun ls hl => ?_)
  refine loopW (σ := (Nat → Int32)) 2 (f_X8_shine_2 RO) 64 LG (fun k1 t2 H locs ls => va_P D vwCl [(aM, .inr (7, [.ref aRo, .ref aHi, .int ms, .ref aSn, .int (bI sv), .ref aAs, .ref aLg, .ref aPd, .int ml, .ref aCo, .ref aEa])), (aRo, .inl (y4.1, 151, .inl RO)), (aLg, .inl (y4.1, 64, .inl t2))] H ∧ va_D A [(aM, .inr (7, [.ref aRo, .ref aHi, .int ms, .ref aSn, .int (bI sv), .ref aAs, .ref aLg, .ref aPd, .int ml, .ref aCo, .ref aEa])), (aRo, .inl (y4.1, 151, .inl RO)), (aLg, .inl (y4.1, 64, .inl t2))] ∧ va_S A s.heap H locs ∧ lv_has ls 2 [(1, .int (nI k1)), (0, .ref aM)]) ⟨hP, hD, hS, lv_sub hl [0, 1] rfl⟩ (fun t7 H locs ls et7 hh => ?_) (fun k1 t2 hkk1 hek1 ihk1 H locs ls hh => ?_)
  · obtain ⟨hP, hD, hS, hl⟩ := hh
    have hP : va_P D vwCl [(aM, .inr (7, [.ref aRo, .ref aHi, .int ms, .ref aSn, .int (bI sv), .ref aAs, .ref aLg, .ref aPd, .int ml, .ref aCo, .ref aEa])), (aRo, .inl (y4.1, 151, .inl RO)), (aLg, .inl (y4.1, 64, .inl t7))] H := hP
    have hD : va_D A [(aM, .inr (7, [.ref aRo, .ref aHi, .int ms, .ref aSn, .int (bI sv), .ref aAs, .ref aLg, .ref aPd, .int ml, .ref aCo, .ref aEa])), (aRo, .inl (y4.1, 151, .inl RO)), (aLg, .inl (y4.1, 64, .inl t7))] := hD
    have hl : lv_has ls 2 [(1, .int (nI 64)), (0, .ref aM)] := hl
    refine lv_iload_n hx hb dX8_shine_2 rfl (lv_at hl 0 rfl) ?_
    refine lv_bipush (v := 64) hx hb dX8_shine_3 (by decide) ?_
    refine lv_icmp_ge (tgt := 25) hx hb dX8_shine_5 (by decide) (fun c8 => ?_) (fun c8 => absurd (nI_le (a := 64) (by omega) (by omega)) c8)
    have em : m_X8_shine RO LG = t7 := (by subst et7; first | (simp only [m_X8_shine]; done) | (unfold m_X8_shine; rfl) | rfl)
    exact W.vret hx hb hr (fun t ht hW => ⟨⟨(), rfl, trivial, ⟨by rw [ht, em]; exact hP, by rw [em]; exact hD⟩⟩, hS.F ht⟩) hS.2.2 dX8_shine_25
  · obtain ⟨hP, hD, hS, hl⟩ := hh
    have hP : va_P D vwCl [(aM, .inr (7, [.ref aRo, .ref aHi, .int ms, .ref aSn, .int (bI sv), .ref aAs, .ref aLg, .ref aPd, .int ml, .ref aCo, .ref aEa])), (aRo, .inl (y4.1, 151, .inl RO)), (aLg, .inl (y4.1, 64, .inl t2))] H := hP
    have hD : va_D A [(aM, .inr (7, [.ref aRo, .ref aHi, .int ms, .ref aSn, .int (bI sv), .ref aAs, .ref aLg, .ref aPd, .int ml, .ref aCo, .ref aEa])), (aRo, .inl (y4.1, 151, .inl RO)), (aLg, .inl (y4.1, 64, .inl t2))] := hD
    have hl : lv_has ls 2 [(1, .int (nI k1)), (0, .ref aM)] := hl
    refine lv_iload_n hx hb dX8_shine_2 rfl (lv_at hl 0 rfl) ?_
    refine lv_bipush (v := 64) hx hb dX8_shine_3 (by decide) ?_
    refine lv_icmp_ge (tgt := 25) hx hb dX8_shine_5 (by decide) (fun c5 => absurd c5 (nI_ge (b := 64) (by omega) (by omega))) (fun c5 => ?_)
    refine lv_aload_n hx hb dX8_shine_8 rfl (lv_at hl 1 rfl) ?_
    refine va_get (ci := 7) (v := .ref aLg) (C := RX8) (T := TX8) (N := 11) hx hb hts iX8 hown hK hP 0 rfl rfl 6 (by decide) f22 (fun _ h9 => h9) rfl dX8_shine_9 ?_
    refine lv_iload_n hx hb dX8_shine_12 rfl (lv_at hl 0 rfl) ?_
    refine lv_aload_n hx hb dX8_shine_13 rfl (lv_at hl 1 rfl) ?_
    refine lv_iload_n hx hb dX8_shine_14 rfl (lv_at hl 0 rfl) ?_
    refine callW_i (wr := [(aLg, .inl (y4.1, 64, .inl t2))]) (wn := fun u => [(aM, .inr (7, [.ref aRo, .ref aHi, .int ms, .ref aSn, .int (bI sv), .ref aAs, .ref aLg, .ref aPd, .int ml, .ref aCo, .ref aEa])), (aRo, .inl (y4.1, 151, .inl RO)), (aLg, .inl (y4.1, 64, .inl t2))]) (va_runV (As := [.int (nI k1)]) (rest := [.int (nI k1), .ref aLg]) ⟨hx, hb, hml, hown, hts⟩ (met_X8_lightAt l D y4 aM aRo aHi aSn aAs aLg aPd aCo aEa H.size ms sv ml RO (nI k1) hM (vp_in_nI (by omega) (by decide))) (cwV 1 hts gX8_shine_X8_lightAt rfl rfl rfl (by decide +kernel) ⟨Nat.le_of_ble_eq_true rfl, Nat.le_of_ble_eq_true rfl⟩) ⟨preW_blind, va_recv hK hP (ci := 7) (q0 := 0) rfl rfl, preW_at (hP.sub (ws' := [(aM, .inr (7, [.ref aRo, .ref aHi, .int ms, .ref aSn, .int (bI sv), .ref aAs, .ref aLg, .ref aPd, .int ml, .ref aCo, .ref aEa])), (aRo, .inl (y4.1, 151, .inl RO))]) [0, 1] rfl) hK (hD.sub (ws' := [(aM, .inr (7, [.ref aRo, .ref aHi, .int ms, .ref aSn, .int (bI sv), .ref aAs, .ref aLg, .ref aPd, .int ml, .ref aCo, .ref aEa])), (aRo, .inl (y4.1, 151, .inl RO))]) [0, 1] (by decide) rfl) hNW⟩ rfl rfl hl.1 rfl (lv_room (Nat.le_of_ble_eq_true rfl)) dX8_shine_15 ⟨Nat.zero_le _, Nat.zero_le _⟩) hP hD hS hA [0, 1] [2] [1, 2, 0] rfl rfl (by decide) (by decide) (fun _ => rfl) (by decide) (fun r u6 H locs hw hP hD hS => ?_)
    subst hw
    have hP : va_P D vwCl [(aM, .inr (7, [.ref aRo, .ref aHi, .int ms, .ref aSn, .int (bI sv), .ref aAs, .ref aLg, .ref aPd, .int ml, .ref aCo, .ref aEa])), (aRo, .inl (y4.1, 151, .inl RO)), (aLg, .inl (y4.1, 64, .inl t2))] H := hP
    have hD : va_D A [(aM, .inr (7, [.ref aRo, .ref aHi, .int ms, .ref aSn, .int (bI sv), .ref aAs, .ref aLg, .ref aPd, .int ml, .ref aCo, .ref aEa])), (aRo, .inl (y4.1, 151, .inl RO)), (aLg, .inl (y4.1, 64, .inl t2))] := hD
    refine va_iast hx hb hK hP hD hS 2 0 rfl rfl (vp_in_nI (by omega) (by decide)) dX8_shine_18 (fun H locs hP hD hS => ?_)
    have hP : va_P D vwCl [(aM, .inr (7, [.ref aRo, .ref aHi, .int ms, .ref aSn, .int (bI sv), .ref aAs, .ref aLg, .ref aPd, .int ml, .ref aCo, .ref aEa])), (aRo, .inl (y4.1, 151, .inl RO)), (aLg, .inl (y4.1, 64, .inl (upd t2 (nI k1).toNatClampNeg (m_X8_lightAt RO (nI k1)))))] H := hP
    have hD : va_D A [(aM, .inr (7, [.ref aRo, .ref aHi, .int ms, .ref aSn, .int (bI sv), .ref aAs, .ref aLg, .ref aPd, .int ml, .ref aCo, .ref aEa])), (aRo, .inl (y4.1, 151, .inl RO)), (aLg, .inl (y4.1, 64, .inl (upd t2 (nI k1).toNatClampNeg (m_X8_lightAt RO (nI k1)))))] := hD
    refine lv_iinc (v := nI (k1 + 1)) (lv' := [(1, .int (nI (k1 + 1))), (0, .ref aM)]) hx hb dX8_shine_19 hl (k := 0) rfl (nI_1 _) (by decide) rfl (fun ls hl => ?_)
    refine lv_goto (tgt := 2) hx hb dX8_shine_22 (by decide) ?_
    have ef : (f_X8_shine_2 RO) k1 t2 = upd t2 (nI k1).toNatClampNeg (m_X8_lightAt RO (nI k1)) := (by first | (simp only [f_X8_shine_2]; done) | (unfold f_X8_shine_2; rfl) | rfl)
    rw [ef] at ihk1
    exact ihk1 H locs ls ⟨hP, hD, hS, lv_sub hl [0, 1] rfl⟩
def f_X8_litCells_8 (RO : Nat → Int32) (LG : Nat → Int32) (k2 : Nat) (t3 : Int32) : Int32 := (let v9 : Bool := (if ((m_X8_shine RO LG) (nI k2).toNatClampNeg) < (RO 149) then false else true); t3 + (bI v9))
def m_X8_litCells (RO : Nat → Int32) (LG : Nat → Int32) : Int32 := (let t10 : Int32 := itr (f_X8_litCells_8 RO LG) 64 (0 : Int32); t10)
set_option maxHeartbeats 4000000 in
set_option maxRecDepth 100000 in
theorem met_X8_litCells (l : Launch) (D : va_G) (y4 : vT) (aM aRo aHi aSn aAs aLg aPd aCo aEa : Nat) (sz : Nat) (ms : Int32) (sv : Bool) (ml : Int32) (RO : Nat → Int32) (LG : Nat → Int32) (hM : MI RO) : Met l yX8_litCells wsX8_litCells ({ frames := 7, cells := 0, slots := 0, locals := 165 }) (va_Pc [.ref aM] (PreW D y4 [(aM, .inr (7, [.ref aRo, .ref aHi, .int ms, .ref aSn, .int (bI sv), .ref aAs, .ref aLg, .ref aPd, .int ml, .ref aCo, .ref aEa])), (aRo, .inl (y4.1, 151, .inl RO)), (aLg, .inl (y4.1, 64, .inl LG))] sz)) (va_Qi (fun (r : Int32) (_ : (Nat → Int32)) => r = (m_X8_litCells RO LG)) (fun u t => PostW D (va_A [(aM, .inr (7, [.ref aRo, .ref aHi, .int ms, .ref aSn, .int (bI sv), .ref aAs, .ref aLg, .ref aPd, .int ml, .ref aCo, .ref aEa])), (aRo, .inl (y4.1, 151, .inl RO)), (aLg, .inl (y4.1, 64, .inl LG))] sz) [(aM, .inr (7, [.ref aRo, .ref aHi, .int ms, .ref aSn, .int (bI sv), .ref aAs, .ref aLg, .ref aPd, .int ml, .ref aCo, .ref aEa])), (aRo, .inl (y4.1, 151, .inl RO)), (aLg, .inl (y4.1, 64, .inl u))] t) (va_A [(aM, .inr (7, [.ref aRo, .ref aHi, .int ms, .ref aSn, .int (bI sv), .ref aAs, .ref aLg, .ref aPd, .int ml, .ref aCo, .ref aEa])), (aRo, .inl (y4.1, 151, .inl RO)), (aLg, .inl (y4.1, 64, .inl LG))] sz)) 0 0 (va_A [(aM, .inr (7, [.ref aRo, .ref aHi, .int ms, .ref aSn, .int (bI sv), .ref aAs, .ref aLg, .ref aPd, .int ml, .ref aCo, .ref aEa])), (aRo, .inl (y4.1, 151, .inl RO)), (aLg, .inl (y4.1, 64, .inl LG))] sz) := by
  refine Met.ofW (cc := cX8_litCells) (maxL := 3) (ret := (some .int)) (by decide) rfl ?_
  intro p e s m args below meth c s₁ B hml hv
  obtain ⟨rfl, hsz, hP, hK, hD0, hNW⟩ := hv
  have hx := B.exec
  have hb := B.bytes
  have hr := B.returns
  have hts := atoms_spec (ws := wsX8_litCells) B.pre
  have hown : s.vm.findClass RX8 = some m.cls := findClass_of_methodNamed B.named
  have hlocks := B.notSynchronized
  subst hsz
  have hD := hD0.self (sz := s.heap.size)
  generalize hAe : va_A [(aM, .inr (7, [.ref aRo, .ref aHi, .int ms, .ref aSn, .int (bI sv), .ref aAs, .ref aLg, .ref aPd, .int ml, .ref aCo, .ref aEa])), (aRo, .inl (y4.1, 151, .inl RO)), (aLg, .inl (y4.1, 64, .inl LG))] s.heap.size = A at hD ⊢
  have hA : ∀ q : Nat, s.heap.size ≤ q → A q := fun q h => by rw [← hAe]; exact Or.inr h
  have hS : va_S A s.heap s.heap [] := va_S.rf
  have hl := lv_entry ([.ref aM]) (n := 3) (Nat.le_of_ble_eq_true rfl)
  rw [lg_entry_eq]
  generalize (lg_sl ([.ref aM]) ++ List.replicate (3 - (lg_sl ([.ref aM])).length) Slot.unset).toArray = ls at hl ⊢
  have hl : lv_has ls 3 [(0, .ref aM)] := hl
  have f22 := hts (.fieldLink RX8 22 "PillarLightModel" "light" "[I") (List.mem_of_getElem? (i := 1) rfl)
  have iX8 : ∀ w ∈ wsX80, w ∈ wsX8_litCells := fun _ h => List.mem_cons_of_mem _ (List.mem_append_right _ h)
  have f7 := hts (.fieldLink RX8 7 "PillarLightModel" "row" "[I") (List.mem_of_getElem? (i := 2) rfl)
  refine startW (fun H locs hP hS => ?_) hP hS
  refine lv_aload_n hx hb dX8_litCells_0 rfl (lv_at hl 0 rfl) ?_
  refine callW_v (wr := []) (wn := fun u => [(aM, .inr (7, [.ref aRo, .ref aHi, .int ms, .ref aSn, .int (bI sv), .ref aAs, .ref aLg, .ref aPd, .int ml, .ref aCo, .ref aEa])), (aRo, .inl (y4.1, 151, .inl RO)), (aLg, .inl (y4.1, 64, .inl (m_X8_shine RO LG)))]) (va_runV (As := []) (rest := []) ⟨hx, hb, hml, hown, hts⟩ (met_X8_shine l D y4 aM aRo aHi aSn aAs aLg aPd aCo aEa H.size ms sv ml RO LG hM) (cwV 0 hts gX8_litCells_X8_shine rfl rfl rfl (by decide +kernel) ⟨Nat.le_of_ble_eq_true rfl, Nat.le_of_ble_eq_true rfl⟩) ⟨preW_blind, va_recv hK hP (ci := 7) (q0 := 0) rfl rfl, preW_at (hP.sub (ws' := [(aM, .inr (7, [.ref aRo, .ref aHi, .int ms, .ref aSn, .int (bI sv), .ref aAs, .ref aLg, .ref aPd, .int ml, .ref aCo, .ref aEa])), (aRo, .inl (y4.1, 151, .inl RO)), (aLg, .inl (y4.1, 64, .inl LG))]) [0, 1, 2] rfl) hK (hD.sub (ws' := [(aM, .inr (7, [.ref aRo, .ref aHi, .int ms, .ref aSn, .int (bI sv), .ref aAs, .ref aLg, .ref aPd, .int ml, .ref aCo, .ref aEa])), (aRo, .inl (y4.1, 151, .inl RO)), (aLg, .inl (y4.1, 64, .inl LG))]) [0, 1, 2] (by decide) rfl) hNW⟩ rfl rfl hl.1 rfl (lv_room (Nat.le_of_ble_eq_true rfl)) dX8_litCells_1 ⟨Nat.zero_le _, Nat.zero_le _⟩) hP hD hS hA [0, 1, 2] [] [0, 1, 2] rfl rfl (by decide) (by decide) (fun _ => rfl) (by decide) (fun u1 H locs hw hP hD hS => ?_)
  have hP : va_P D vwCl [(aM, .inr (7, [.ref aRo, .ref aHi, .int ms, .ref aSn, .int (bI sv), .ref aAs, .ref aLg, .ref aPd, .int ml, .ref aCo, .ref aEa])), (aRo, .inl (y4.1, 151, .inl RO)), (aLg, .inl (y4.1, 64, .inl (m_X8_shine RO LG)))] H := hP
  have hD : va_D A [(aM, .inr (7, [.ref aRo, .ref aHi, .int ms, .ref aSn, .int (bI sv), .ref aAs, .ref aLg, .ref aPd, .int ml, .ref aCo, .ref aEa])), (aRo, .inl (y4.1, 151, .inl RO)), (aLg, .inl (y4.1, 64, .inl (m_X8_shine RO LG)))] := hD
  refine lv_iconst (v := 0) hx hb dX8_litCells_4 (by decide) ?_
  refine lv_istore_n (lv' := [(1, .int 0), (0, .ref aM)]) hx hb dX8_litCells_5 rfl hl (by decide) rfl (fun ls hl => ?_)
  refine lv_iconst (v := 0) hx hb dX8_litCells_6 (by decide) ?_
  refine lv_istore_n (lv' := [(2, .int 0), (1, .int 0), (0, .ref aM)]) hx hb dX8_litCells_7 rfl hl (by decide) rfl (fun ls hl => ?_)
  refine loopW (σ := Int32) 8 (f_X8_litCells_8 RO LG) 64 (0 : Int32) (fun k2 t3 H locs ls => va_P D vwCl [(aM, .inr (7, [.ref aRo, .ref aHi, .int ms, .ref aSn, .int (bI sv), .ref aAs, .ref aLg, .ref aPd, .int ml, .ref aCo, .ref aEa])), (aRo, .inl (y4.1, 151, .inl RO)), (aLg, .inl (y4.1, 64, .inl (m_X8_shine RO LG)))] H ∧ va_D A [(aM, .inr (7, [.ref aRo, .ref aHi, .int ms, .ref aSn, .int (bI sv), .ref aAs, .ref aLg, .ref aPd, .int ml, .ref aCo, .ref aEa])), (aRo, .inl (y4.1, 151, .inl RO)), (aLg, .inl (y4.1, 64, .inl (m_X8_shine RO LG)))] ∧ va_S A s.heap H locs ∧ lv_has ls 3 [(2, .int (nI k2)), (1, .int t3), (0, .ref aM)]) ⟨hP, hD, hS, lv_sub hl [0, 1, 2] rfl⟩ (fun t10 H locs ls et10 hh => ?_) (fun k2 t3 hkk2 hek2 ihk2 H locs ls hh => ?_)
  · obtain ⟨hP, hD, hS, hl⟩ := hh
    have hP : va_P D vwCl [(aM, .inr (7, [.ref aRo, .ref aHi, .int ms, .ref aSn, .int (bI sv), .ref aAs, .ref aLg, .ref aPd, .int ml, .ref aCo, .ref aEa])), (aRo, .inl (y4.1, 151, .inl RO)), (aLg, .inl (y4.1, 64, .inl (m_X8_shine RO LG)))] H := hP
    have hD : va_D A [(aM, .inr (7, [.ref aRo, .ref aHi, .int ms, .ref aSn, .int (bI sv), .ref aAs, .ref aLg, .ref aPd, .int ml, .ref aCo, .ref aEa])), (aRo, .inl (y4.1, 151, .inl RO)), (aLg, .inl (y4.1, 64, .inl (m_X8_shine RO LG)))] := hD
    have hl : lv_has ls 3 [(2, .int (nI 64)), (1, .int t10), (0, .ref aM)] := hl
    refine lv_iload_n hx hb dX8_litCells_8 rfl (lv_at hl 0 rfl) ?_
    refine lv_bipush (v := 64) hx hb dX8_litCells_9 (by decide) ?_
    refine lv_icmp_ge (tgt := 45) hx hb dX8_litCells_11 (by decide) (fun c11 => ?_) (fun c11 => absurd (nI_le (a := 64) (by omega) (by omega)) c11)
    refine lv_iload_n hx hb dX8_litCells_45 rfl (lv_at hl 1 rfl) ?_
    have em : m_X8_litCells RO LG = t10 := (by subst et10; first | (simp only [m_X8_litCells]; done) | (unfold m_X8_litCells; rfl) | rfl)
    exact W.iret (v := t10) hx hb hr (fun t ht hW => ⟨⟨t10, (m_X8_shine RO LG), rfl, (by rw [em]), ⟨by rw [ht]; exact hP, by exact hD⟩⟩, hS.F ht⟩) hS.2.2 dX8_litCells_46
  · obtain ⟨hP, hD, hS, hl⟩ := hh
    have hP : va_P D vwCl [(aM, .inr (7, [.ref aRo, .ref aHi, .int ms, .ref aSn, .int (bI sv), .ref aAs, .ref aLg, .ref aPd, .int ml, .ref aCo, .ref aEa])), (aRo, .inl (y4.1, 151, .inl RO)), (aLg, .inl (y4.1, 64, .inl (m_X8_shine RO LG)))] H := hP
    have hD : va_D A [(aM, .inr (7, [.ref aRo, .ref aHi, .int ms, .ref aSn, .int (bI sv), .ref aAs, .ref aLg, .ref aPd, .int ml, .ref aCo, .ref aEa])), (aRo, .inl (y4.1, 151, .inl RO)), (aLg, .inl (y4.1, 64, .inl (m_X8_shine RO LG)))] := hD
    have hl : lv_has ls 3 [(2, .int (nI k2)), (1, .int t3), (0, .ref aM)] := hl
    refine lv_iload_n hx hb dX8_litCells_8 rfl (lv_at hl 0 rfl) ?_
    refine lv_bipush (v := 64) hx hb dX8_litCells_9 (by decide) ?_
    refine lv_icmp_ge (tgt := 45) hx hb dX8_litCells_11 (by decide) (fun c7 => absurd c7 (nI_ge (b := 64) (by omega) (by omega))) (fun c7 => ?_)
    refine lv_iload_n hx hb dX8_litCells_14 rfl (lv_at hl 1 rfl) ?_
    refine lv_aload_n hx hb dX8_litCells_15 rfl (lv_at hl 2 rfl) ?_
    refine va_get (ci := 7) (v := .ref aLg) (C := RX8) (T := TX8) (N := 11) hx hb hts iX8 hown hK hP 0 rfl rfl 6 (by decide) f22 (fun _ h9 => h9) rfl dX8_litCells_16 ?_
    refine lv_iload_n hx hb dX8_litCells_19 rfl (lv_at hl 0 rfl) ?_
    refine va_iald hx hb hK hP 2 0 rfl rfl (vp_in_nI (by omega) (by decide)) dX8_litCells_20 ?_
    refine lv_aload_n hx hb dX8_litCells_21 rfl (lv_at hl 2 rfl) ?_
    refine va_get (ci := 7) (v := .ref aRo) (C := RX8) (T := TX8) (N := 11) hx hb hts iX8 hown hK hP 0 rfl rfl 0 (by decide) f7 (fun _ h9 => h9) rfl dX8_litCells_22 ?_
    refine lv_sipush (v := 149) hx hb dX8_litCells_25 (by decide) ?_
    refine va_iald hx hb hK hP 1 0 rfl rfl (vp_in_nI (n := 149) (by decide) (by decide)) dX8_litCells_28 ?_
    refine W.ofeqi (y := RO 149) (congrArg RO (by decide : (149 : Int32).toNatClampNeg = 149)) ?_
    refine cutW (X := Bool) 37 (fun x H locs ls => x = (if ((m_X8_shine RO LG) (nI k2).toNatClampNeg) < (RO 149) then false else true) ∧ va_P D vwCl [(aM, .inr (7, [.ref aRo, .ref aHi, .int ms, .ref aSn, .int (bI sv), .ref aAs, .ref aLg, .ref aPd, .int ml, .ref aCo, .ref aEa])), (aRo, .inl (y4.1, 151, .inl RO)), (aLg, .inl (y4.1, 64, .inl (m_X8_shine RO LG)))] H ∧ va_D A [(aM, .inr (7, [.ref aRo, .ref aHi, .int ms, .ref aSn, .int (bI sv), .ref aAs, .ref aLg, .ref aPd, .int ml, .ref aCo, .ref aEa])), (aRo, .inl (y4.1, 151, .inl RO)), (aLg, .inl (y4.1, 64, .inl (m_X8_shine RO LG)))] ∧ va_S A s.heap H locs ∧ lv_has ls 3 [(2, .int (nI k2)), (0, .ref aM)]) (fun x => [.int (bI x), .int t3]) ?_ (fun K37 => ?_)
    · rintro v9 H locs ls ⟨ev9, hP, hD, hS, hl⟩
      have ev9 : v9 = (if ((m_X8_shine RO LG) (nI k2).toNatClampNeg) < (RO 149) then false else true) := ev9
      have hP : va_P D vwCl [(aM, .inr (7, [.ref aRo, .ref aHi, .int ms, .ref aSn, .int (bI sv), .ref aAs, .ref aLg, .ref aPd, .int ml, .ref aCo, .ref aEa])), (aRo, .inl (y4.1, 151, .inl RO)), (aLg, .inl (y4.1, 64, .inl (m_X8_shine RO LG)))] H := hP
      have hD : va_D A [(aM, .inr (7, [.ref aRo, .ref aHi, .int ms, .ref aSn, .int (bI sv), .ref aAs, .ref aLg, .ref aPd, .int ml, .ref aCo, .ref aEa])), (aRo, .inl (y4.1, 151, .inl RO)), (aLg, .inl (y4.1, 64, .inl (m_X8_shine RO LG)))] := hD
      have hl : lv_has ls 3 [(2, .int (nI k2)), (0, .ref aM)] := hl
      refine lv_iadd hx hb dX8_litCells_37 ?_
      refine lv_istore_n (lv' := [(1, .int (t3 + (bI v9))), (2, .int (nI k2)), (0, .ref aM)]) hx hb dX8_litCells_38 rfl hl (by decide) rfl (fun ls hl => ?_)
      refine lv_iinc (v := nI (k2 + 1)) (lv' := [(2, .int (nI (k2 + 1))), (1, .int (t3 + (bI v9))), (0, .ref aM)]) hx hb dX8_litCells_39 hl (k := 1) rfl (nI_1 _) (by decide) rfl (fun ls hl => ?_)
      refine lv_goto (tgt := 8) hx hb dX8_litCells_42 (by decide) ?_
      have ef : (f_X8_litCells_8 RO LG) k2 t3 = t3 + (bI v9) := (by subst ev9; first | (simp only [f_X8_litCells_8]; done) | (unfold f_X8_litCells_8; rfl) | rfl)
      rw [ef] at ihk2
      exact ihk2 H locs ls ⟨hP, hD, hS, lv_sub hl [0, 1, 2] rfl⟩
    · refine lv_icmp_lt (tgt := 36) hx hb dX8_litCells_29 (by decide) (fun c8 => ?_) (fun c8 => ?_)
      · refine lv_iconst (v := 0) hx hb dX8_litCells_36 (by decide) ?_
        exact K37 false H locs ls ⟨(by first | (simp only [if_pos c8]; done) | (simp only [if_pos c8]; rfl) | rfl), hP, hD, hS, lv_sub hl [0, 2] rfl⟩
      · refine lv_iconst (v := 1) hx hb dX8_litCells_32 (by decide) ?_
        refine lv_goto (tgt := 37) hx hb dX8_litCells_33 (by decide) ?_
        exact K37 true H locs ls ⟨(by first | (simp only [if_neg c8]; done) | (simp only [if_neg c8]; rfl) | rfl), hP, hD, hS, lv_sub hl [0, 2] rfl⟩
def m_X8_isNear (RO : Nat → Int32) (ce : Int32) : Bool := (if (RO 150) < (m_X8_size (((RO 147) / 8) - (ce / 8))) then false else (let q2 : Int32 := m_X8_size (((RO 147) - (RO 147) / 8 * 8) - (ce - ce / 8 * 8)); (if (RO 150) < q2 then false else true)))
set_option maxHeartbeats 4000000 in
set_option maxRecDepth 100000 in
theorem met_X8_isNear (l : Launch) (D : va_G) (y4 : vT) (aM aRo aHi aSn aAs aLg aPd aCo aEa : Nat) (sz : Nat) (ms : Int32) (sv : Bool) (ml : Int32) (RO : Nat → Int32) (ce : Int32) : Met l yX8_isNear wsX8_isNear ({ frames := 1, cells := 0, slots := 0, locals := 20 }) (va_Pc [.ref aM, .int ce] (PreW D y4 [(aM, .inr (7, [.ref aRo, .ref aHi, .int ms, .ref aSn, .int (bI sv), .ref aAs, .ref aLg, .ref aPd, .int ml, .ref aCo, .ref aEa])), (aRo, .inl (y4.1, 151, .inl RO))] sz)) (va_Qi (fun (r : Int32) (_ : Unit) => r = bI (m_X8_isNear RO ce)) (fun _ t => PostW D (va_A [(aM, .inr (7, [.ref aRo, .ref aHi, .int ms, .ref aSn, .int (bI sv), .ref aAs, .ref aLg, .ref aPd, .int ml, .ref aCo, .ref aEa])), (aRo, .inl (y4.1, 151, .inl RO))] sz) [(aM, .inr (7, [.ref aRo, .ref aHi, .int ms, .ref aSn, .int (bI sv), .ref aAs, .ref aLg, .ref aPd, .int ml, .ref aCo, .ref aEa])), (aRo, .inl (y4.1, 151, .inl RO))] t) (va_A [(aM, .inr (7, [.ref aRo, .ref aHi, .int ms, .ref aSn, .int (bI sv), .ref aAs, .ref aLg, .ref aPd, .int ml, .ref aCo, .ref aEa])), (aRo, .inl (y4.1, 151, .inl RO))] sz)) 0 0 (va_A [(aM, .inr (7, [.ref aRo, .ref aHi, .int ms, .ref aSn, .int (bI sv), .ref aAs, .ref aLg, .ref aPd, .int ml, .ref aCo, .ref aEa])), (aRo, .inl (y4.1, 151, .inl RO))] sz) := by
  refine Met.ofW (cc := cX8_isNear) (maxL := 3) (ret := (some .boolean)) (by decide) rfl ?_
  intro p e s m args below meth c s₁ B hml hv
  obtain ⟨rfl, hsz, hP, hK, hD0, hNW⟩ := hv
  have hx := B.exec
  have hb := B.bytes
  have hr := B.returns
  have hts := atoms_spec (ws := wsX8_isNear) B.pre
  have hown : s.vm.findClass RX8 = some m.cls := findClass_of_methodNamed B.named
  have hlocks := B.notSynchronized
  subst hsz
  have hD := hD0.self (sz := s.heap.size)
  generalize hAe : va_A [(aM, .inr (7, [.ref aRo, .ref aHi, .int ms, .ref aSn, .int (bI sv), .ref aAs, .ref aLg, .ref aPd, .int ml, .ref aCo, .ref aEa])), (aRo, .inl (y4.1, 151, .inl RO))] s.heap.size = A at hD ⊢
  have hA : ∀ q : Nat, s.heap.size ≤ q → A q := fun q h => by rw [← hAe]; exact Or.inr h
  have hS : va_S A s.heap s.heap [] := va_S.rf
  have hl := lv_entry ([.ref aM, .int ce]) (n := 3) (Nat.le_of_ble_eq_true rfl)
  rw [lg_entry_eq]
  generalize (lg_sl ([.ref aM, .int ce]) ++ List.replicate (3 - (lg_sl ([.ref aM, .int ce])).length) Slot.unset).toArray = ls at hl ⊢
  have hl : lv_has ls 3 [(0, .ref aM), (1, .int ce)] := hl
  have f7 := hts (.fieldLink RX8 7 "PillarLightModel" "row" "[I") (List.mem_of_getElem? (i := 1) rfl)
  have iX8 : ∀ w ∈ wsX80, w ∈ wsX8_isNear := fun _ h => List.mem_cons_of_mem _ (List.mem_append_right _ h)
  refine startW (fun H locs hP hS => ?_) hP hS
  refine lv_aload_n hx hb dX8_isNear_0 rfl (lv_at hl 0 rfl) ?_
  refine va_get (ci := 7) (v := .ref aRo) (C := RX8) (T := TX8) (N := 11) hx hb hts iX8 hown hK hP 0 rfl rfl 0 (by decide) f7 (fun _ h9 => h9) rfl dX8_isNear_1 ?_
  refine lv_sipush (v := 147) hx hb dX8_isNear_4 (by decide) ?_
  refine va_iald hx hb hK hP 1 0 rfl rfl (vp_in_nI (n := 147) (by decide) (by decide)) dX8_isNear_7 ?_
  refine W.ofeqi (y := RO 147) (congrArg RO (by decide : (147 : Int32).toNatClampNeg = 147)) ?_
  refine lv_istore_n (lv' := [(2, .int (RO 147)), (0, .ref aM), (1, .int ce)]) hx hb dX8_isNear_8 rfl hl (by decide) rfl (fun ls hl => ?_)
  refine lv_iload_n hx hb dX8_isNear_9 rfl (lv_at hl 0 rfl) ?_
  refine lv_bipush (v := 8) hx hb dX8_isNear_10 (by decide) ?_
  refine lv_idiv hx hb dX8_isNear_12 (by decide) ?_
  refine lv_iload_n hx hb dX8_isNear_13 rfl (lv_at hl 2 rfl) ?_
  refine lv_bipush (v := 8) hx hb dX8_isNear_14 (by decide) ?_
  refine lv_idiv hx hb dX8_isNear_16 (by decide) ?_
  refine lv_isub hx hb dX8_isNear_17 ?_
  refine callK_i (va_runS (As := [.int (((RO 147) / 8) - (ce / 8))]) (rest := []) ⟨hx, hb, hml, hown, hts⟩ (met_X8_size l  (((RO 147) / 8) - (ce / 8))) (va_cwS 1 hts gX8_isNear_X8_size rfl rfl rfl (by decide +kernel) ⟨Nat.le_of_ble_eq_true rfl, Nat.le_of_ble_eq_true rfl⟩) ⟨preS_blind, fun U hU hW => ⟨rfl, trivial⟩⟩ rfl rfl hl.1 rfl (lv_room (Nat.le_of_ble_eq_true rfl)) dX8_isNear_18 ⟨Nat.zero_le _, Nat.zero_le _⟩) hP hS (fun r u H locs hw hP hS => ?_)
  subst hw
  refine lv_aload_n hx hb dX8_isNear_21 rfl (lv_at hl 1 rfl) ?_
  refine va_get (ci := 7) (v := .ref aRo) (C := RX8) (T := TX8) (N := 11) hx hb hts iX8 hown hK hP 0 rfl rfl 0 (by decide) f7 (fun _ h9 => h9) rfl dX8_isNear_22 ?_
  refine lv_sipush (v := 150) hx hb dX8_isNear_25 (by decide) ?_
  refine va_iald hx hb hK hP 1 0 rfl rfl (vp_in_nI (n := 150) (by decide) (by decide)) dX8_isNear_28 ?_
  refine W.ofeqi (y := RO 150) (congrArg RO (by decide : (150 : Int32).toNatClampNeg = 150)) ?_
  refine lv_icmp_gt (tgt := 59) hx hb dX8_isNear_29 (by decide) (fun c1 => ?_) (fun c1 => ?_)
  · refine lv_iconst (v := 0) hx hb dX8_isNear_59 (by decide) ?_
    have em : m_X8_isNear RO ce = false := (by first | (simp only [m_X8_isNear, if_pos c1]; done) | (simp only [m_X8_isNear, if_pos c1]; rfl))
    exact W.zret (v := 0) hx hb hr rfl (fun t ht hW => ⟨⟨0, (), rfl, (by rw [em]; rfl), ⟨by rw [ht]; exact hP, by exact hD⟩⟩, hS.F ht⟩) hS.2.2 dX8_isNear_60
  · refine lv_iload_n hx hb dX8_isNear_32 rfl (lv_at hl 0 rfl) ?_
    refine lv_bipush (v := 8) hx hb dX8_isNear_33 (by decide) ?_
    refine lv_irem hx hb dX8_isNear_35 (by decide) ?_
    refine lv_iload_n hx hb dX8_isNear_36 rfl (lv_at hl 2 rfl) ?_
    refine lv_bipush (v := 8) hx hb dX8_isNear_37 (by decide) ?_
    refine lv_irem hx hb dX8_isNear_39 (by decide) ?_
    refine lv_isub hx hb dX8_isNear_40 ?_
    refine callK_i (va_runS (As := [.int (((RO 147) - (RO 147) / 8 * 8) - (ce - ce / 8 * 8))]) (rest := []) ⟨hx, hb, hml, hown, hts⟩ (met_X8_size l  (((RO 147) - (RO 147) / 8 * 8) - (ce - ce / 8 * 8))) (va_cwS 1 hts gX8_isNear_X8_size rfl rfl rfl (by decide +kernel) ⟨Nat.le_of_ble_eq_true rfl, Nat.le_of_ble_eq_true rfl⟩) ⟨preS_blind, fun U hU hW => ⟨rfl, trivial⟩⟩ rfl rfl hl.1 rfl (lv_room (Nat.le_of_ble_eq_true rfl)) dX8_isNear_41 ⟨Nat.zero_le _, Nat.zero_le _⟩) hP hS (fun r u H locs hw hP hS => ?_)
    obtain ⟨q2, eq2⟩ : ∃ z, z = m_X8_size (((RO 147) - (RO 147) / 8 * 8) - (ce - ce / 8 * 8)) := ⟨_, rfl⟩
    rw [← eq2] at hw
    replace hw := hw.symm
    subst hw
    refine lv_aload_n hx hb dX8_isNear_44 rfl (lv_at hl 1 rfl) ?_
    refine va_get (ci := 7) (v := .ref aRo) (C := RX8) (T := TX8) (N := 11) hx hb hts iX8 hown hK hP 0 rfl rfl 0 (by decide) f7 (fun _ h9 => h9) rfl dX8_isNear_45 ?_
    refine lv_sipush (v := 150) hx hb dX8_isNear_48 (by decide) ?_
    refine va_iald hx hb hK hP 1 0 rfl rfl (vp_in_nI (n := 150) (by decide) (by decide)) dX8_isNear_51 ?_
    refine W.ofeqi (y := RO 150) (congrArg RO (by decide : (150 : Int32).toNatClampNeg = 150)) ?_
    refine lv_icmp_gt (tgt := 59) hx hb dX8_isNear_52 (by decide) (fun c3 => ?_) (fun c3 => ?_)
    · refine lv_iconst (v := 0) hx hb dX8_isNear_59 (by decide) ?_
      have em : m_X8_isNear RO ce = false := (by subst eq2; first | (simp only [m_X8_isNear, if_neg c1, if_pos c3]; done) | (simp only [m_X8_isNear, if_neg c1, if_pos c3]; rfl))
      exact W.zret (v := 0) hx hb hr rfl (fun t ht hW => ⟨⟨0, (), rfl, (by rw [em]; rfl), ⟨by rw [ht]; exact hP, by exact hD⟩⟩, hS.F ht⟩) hS.2.2 dX8_isNear_60
    · refine lv_iconst (v := 1) hx hb dX8_isNear_55 (by decide) ?_
      refine lv_goto (tgt := 60) hx hb dX8_isNear_56 (by decide) ?_
      have em : m_X8_isNear RO ce = true := (by subst eq2; first | (simp only [m_X8_isNear, if_neg c1, if_neg c3]; done) | (simp only [m_X8_isNear, if_neg c1, if_neg c3]; rfl))
      exact W.zret (v := 1) hx hb hr rfl (fun t ht hW => ⟨⟨1, (), rfl, (by rw [em]; rfl), ⟨by rw [ht]; exact hP, by exact hD⟩⟩, hS.F ht⟩) hS.2.2 dX8_isNear_60
def m_X8_isSeen (RO : Nat → Int32) (ce : Int32) : Bool := (if (m_X8_isNear RO ce) = false then (if (m_X8_lightAt RO ce) < (RO 149) then false else (if (m_X8_isFree RO (RO 147) ce) = false then false else true)) else (if (m_X8_isFree RO (RO 147) ce) = false then false else true))
set_option maxHeartbeats 4000000 in
set_option maxRecDepth 100000 in
theorem met_X8_isSeen (l : Launch) (D : va_G) (y4 : vT) (aM aRo aHi aSn aAs aLg aPd aCo aEa : Nat) (sz : Nat) (ms : Int32) (sv : Bool) (ml : Int32) (RO : Nat → Int32) (ce : Int32) (hM : MI RO) (hce : vp_in ce 64) : Met l yX8_isSeen wsX8_isSeen ({ frames := 6, cells := 0, slots := 0, locals := 144 }) (va_Pc [.ref aM, .int ce] (PreW D y4 [(aM, .inr (7, [.ref aRo, .ref aHi, .int ms, .ref aSn, .int (bI sv), .ref aAs, .ref aLg, .ref aPd, .int ml, .ref aCo, .ref aEa])), (aRo, .inl (y4.1, 151, .inl RO))] sz)) (va_Qi (fun (r : Int32) (_ : Unit) => r = bI (m_X8_isSeen RO ce)) (fun _ t => PostW D (va_A [(aM, .inr (7, [.ref aRo, .ref aHi, .int ms, .ref aSn, .int (bI sv), .ref aAs, .ref aLg, .ref aPd, .int ml, .ref aCo, .ref aEa])), (aRo, .inl (y4.1, 151, .inl RO))] sz) [(aM, .inr (7, [.ref aRo, .ref aHi, .int ms, .ref aSn, .int (bI sv), .ref aAs, .ref aLg, .ref aPd, .int ml, .ref aCo, .ref aEa])), (aRo, .inl (y4.1, 151, .inl RO))] t) (va_A [(aM, .inr (7, [.ref aRo, .ref aHi, .int ms, .ref aSn, .int (bI sv), .ref aAs, .ref aLg, .ref aPd, .int ml, .ref aCo, .ref aEa])), (aRo, .inl (y4.1, 151, .inl RO))] sz)) 0 0 (va_A [(aM, .inr (7, [.ref aRo, .ref aHi, .int ms, .ref aSn, .int (bI sv), .ref aAs, .ref aLg, .ref aPd, .int ml, .ref aCo, .ref aEa])), (aRo, .inl (y4.1, 151, .inl RO))] sz) := by
  refine Met.ofW (cc := cX8_isSeen) (maxL := 2) (ret := (some .boolean)) (by decide) rfl ?_
  intro p e s m args below meth c s₁ B hml hv
  obtain ⟨rfl, hsz, hP, hK, hD0, hNW⟩ := hv
  have hx := B.exec
  have hb := B.bytes
  have hr := B.returns
  have hts := atoms_spec (ws := wsX8_isSeen) B.pre
  have hown : s.vm.findClass RX8 = some m.cls := findClass_of_methodNamed B.named
  have hlocks := B.notSynchronized
  subst hsz
  have hD := hD0.self (sz := s.heap.size)
  generalize hAe : va_A [(aM, .inr (7, [.ref aRo, .ref aHi, .int ms, .ref aSn, .int (bI sv), .ref aAs, .ref aLg, .ref aPd, .int ml, .ref aCo, .ref aEa])), (aRo, .inl (y4.1, 151, .inl RO))] s.heap.size = A at hD ⊢
  have hA : ∀ q : Nat, s.heap.size ≤ q → A q := fun q h => by rw [← hAe]; exact Or.inr h
  have hS : va_S A s.heap s.heap [] := va_S.rf
  have hl := lv_entry ([.ref aM, .int ce]) (n := 2) (Nat.le_of_ble_eq_true rfl)
  rw [lg_entry_eq]
  generalize (lg_sl ([.ref aM, .int ce]) ++ List.replicate (2 - (lg_sl ([.ref aM, .int ce])).length) Slot.unset).toArray = ls at hl ⊢
  have hl : lv_has ls 2 [(0, .ref aM), (1, .int ce)] := hl
  have f7 := hts (.fieldLink RX8 7 "PillarLightModel" "row" "[I") (List.mem_of_getElem? (i := 1) rfl)
  have iX8 : ∀ w ∈ wsX80, w ∈ wsX8_isSeen := fun _ h => List.mem_cons_of_mem _ (List.mem_append_right _ h)
  refine startW (fun H locs hP hS => ?_) hP hS
  refine lv_aload_n hx hb dX8_isSeen_0 rfl (lv_at hl 0 rfl) ?_
  refine lv_iload_n hx hb dX8_isSeen_1 rfl (lv_at hl 1 rfl) ?_
  refine callW_i (wr := []) (wn := fun u => [(aM, .inr (7, [.ref aRo, .ref aHi, .int ms, .ref aSn, .int (bI sv), .ref aAs, .ref aLg, .ref aPd, .int ml, .ref aCo, .ref aEa])), (aRo, .inl (y4.1, 151, .inl RO))]) (va_runV (As := [.int ce]) (rest := []) ⟨hx, hb, hml, hown, hts⟩ (met_X8_isNear l D y4 aM aRo aHi aSn aAs aLg aPd aCo aEa H.size ms sv ml RO ce) (cwV 1 hts gX8_isSeen_X8_isNear rfl rfl rfl (by decide +kernel) ⟨Nat.le_of_ble_eq_true rfl, Nat.le_of_ble_eq_true rfl⟩) ⟨preW_blind, va_recv hK hP (ci := 7) (q0 := 0) rfl rfl, preW_at (hP.sub (ws' := [(aM, .inr (7, [.ref aRo, .ref aHi, .int ms, .ref aSn, .int (bI sv), .ref aAs, .ref aLg, .ref aPd, .int ml, .ref aCo, .ref aEa])), (aRo, .inl (y4.1, 151, .inl RO))]) [0, 1] rfl) hK (hD.sub (ws' := [(aM, .inr (7, [.ref aRo, .ref aHi, .int ms, .ref aSn, .int (bI sv), .ref aAs, .ref aLg, .ref aPd, .int ml, .ref aCo, .ref aEa])), (aRo, .inl (y4.1, 151, .inl RO))]) [0, 1] (by decide) rfl) hNW⟩ rfl rfl hl.1 rfl (lv_room (Nat.le_of_ble_eq_true rfl)) dX8_isSeen_2 ⟨Nat.zero_le _, Nat.zero_le _⟩) hP hD hS hA [0, 1] [] [0, 1] rfl rfl (by decide) (by decide) (fun _ => rfl) (by decide) (fun r u1 H locs hw hP hD hS => ?_)
  subst hw
  have hP : va_P D vwCl [(aM, .inr (7, [.ref aRo, .ref aHi, .int ms, .ref aSn, .int (bI sv), .ref aAs, .ref aLg, .ref aPd, .int ml, .ref aCo, .ref aEa])), (aRo, .inl (y4.1, 151, .inl RO))] H := hP
  have hD : va_D A [(aM, .inr (7, [.ref aRo, .ref aHi, .int ms, .ref aSn, .int (bI sv), .ref aAs, .ref aLg, .ref aPd, .int ml, .ref aCo, .ref aEa])), (aRo, .inl (y4.1, 151, .inl RO))] := hD
  refine lb_if_ne (tgt := 24) hx hb dX8_isSeen_5 (by decide) (fun c2 => ?_) (fun c2 => ?_)
  · refine lv_aload_n hx hb dX8_isSeen_24 rfl (lv_at hl 0 rfl) ?_
    refine lv_aload_n hx hb dX8_isSeen_25 rfl (lv_at hl 0 rfl) ?_
    refine va_get (ci := 7) (v := .ref aRo) (C := RX8) (T := TX8) (N := 11) hx hb hts iX8 hown hK hP 0 rfl rfl 0 (by decide) f7 (fun _ h9 => h9) rfl dX8_isSeen_26 ?_
    refine lv_sipush (v := 147) hx hb dX8_isSeen_29 (by decide) ?_
    refine va_iald hx hb hK hP 1 0 rfl rfl (vp_in_nI (n := 147) (by decide) (by decide)) dX8_isSeen_32 ?_
    refine W.ofeqi (y := RO 147) (congrArg RO (by decide : (147 : Int32).toNatClampNeg = 147)) ?_
    refine lv_iload_n hx hb dX8_isSeen_33 rfl (lv_at hl 1 rfl) ?_
    refine callW_i (wr := []) (wn := fun u => [(aM, .inr (7, [.ref aRo, .ref aHi, .int ms, .ref aSn, .int (bI sv), .ref aAs, .ref aLg, .ref aPd, .int ml, .ref aCo, .ref aEa])), (aRo, .inl (y4.1, 151, .inl RO))]) (va_runV (As := [.int (RO 147), .int ce]) (rest := []) ⟨hx, hb, hml, hown, hts⟩ (met_X8_isFree l D y4 aM aRo aHi aSn aAs aLg aPd aCo aEa H.size ms sv ml RO (RO 147) ce hM.2.2 hce) (cwV 2 hts gX8_isSeen_X8_isFree rfl rfl rfl (by decide +kernel) ⟨Nat.le_of_ble_eq_true rfl, Nat.le_of_ble_eq_true rfl⟩) ⟨preW_blind, va_recv hK hP (ci := 7) (q0 := 0) rfl rfl, preW_at (hP.sub (ws' := [(aM, .inr (7, [.ref aRo, .ref aHi, .int ms, .ref aSn, .int (bI sv), .ref aAs, .ref aLg, .ref aPd, .int ml, .ref aCo, .ref aEa])), (aRo, .inl (y4.1, 151, .inl RO))]) [0, 1] rfl) hK (hD.sub (ws' := [(aM, .inr (7, [.ref aRo, .ref aHi, .int ms, .ref aSn, .int (bI sv), .ref aAs, .ref aLg, .ref aPd, .int ml, .ref aCo, .ref aEa])), (aRo, .inl (y4.1, 151, .inl RO))]) [0, 1] (by decide) rfl) hNW⟩ rfl rfl hl.1 rfl (lv_room (Nat.le_of_ble_eq_true rfl)) dX8_isSeen_34 ⟨Nat.zero_le _, Nat.zero_le _⟩) hP hD hS hA [0, 1] [] [0, 1] rfl rfl (by decide) (by decide) (fun _ => rfl) (by decide) (fun r u3 H locs hw hP hD hS => ?_)
    subst hw
    have hP : va_P D vwCl [(aM, .inr (7, [.ref aRo, .ref aHi, .int ms, .ref aSn, .int (bI sv), .ref aAs, .ref aLg, .ref aPd, .int ml, .ref aCo, .ref aEa])), (aRo, .inl (y4.1, 151, .inl RO))] H := hP
    have hD : va_D A [(aM, .inr (7, [.ref aRo, .ref aHi, .int ms, .ref aSn, .int (bI sv), .ref aAs, .ref aLg, .ref aPd, .int ml, .ref aCo, .ref aEa])), (aRo, .inl (y4.1, 151, .inl RO))] := hD
    refine lb_if_eq (tgt := 44) hx hb dX8_isSeen_37 (by decide) (fun c4 => ?_) (fun c4 => ?_)
    · refine lv_iconst (v := 0) hx hb dX8_isSeen_44 (by decide) ?_
      have em : m_X8_isSeen RO ce = false := (by first | (simp only [m_X8_isSeen, if_neg c2, if_pos c4]; done) | (simp only [m_X8_isSeen, if_neg c2, if_pos c4]; rfl))
      exact W.zret (v := 0) hx hb hr rfl (fun t ht hW => ⟨⟨0, (), rfl, (by rw [em]; rfl), ⟨by rw [ht]; exact hP, by exact hD⟩⟩, hS.F ht⟩) hS.2.2 dX8_isSeen_45
    · refine lv_iconst (v := 1) hx hb dX8_isSeen_40 (by decide) ?_
      refine lv_goto (tgt := 45) hx hb dX8_isSeen_41 (by decide) ?_
      have em : m_X8_isSeen RO ce = true := (by first | (simp only [m_X8_isSeen, if_neg c2, if_neg c4]; done) | (simp only [m_X8_isSeen, if_neg c2, if_neg c4]; rfl))
      exact W.zret (v := 1) hx hb hr rfl (fun t ht hW => ⟨⟨1, (), rfl, (by rw [em]; rfl), ⟨by rw [ht]; exact hP, by exact hD⟩⟩, hS.F ht⟩) hS.2.2 dX8_isSeen_45
  · refine lv_aload_n hx hb dX8_isSeen_8 rfl (lv_at hl 0 rfl) ?_
    refine lv_iload_n hx hb dX8_isSeen_9 rfl (lv_at hl 1 rfl) ?_
    refine callW_i (wr := []) (wn := fun u => [(aM, .inr (7, [.ref aRo, .ref aHi, .int ms, .ref aSn, .int (bI sv), .ref aAs, .ref aLg, .ref aPd, .int ml, .ref aCo, .ref aEa])), (aRo, .inl (y4.1, 151, .inl RO))]) (va_runV (As := [.int ce]) (rest := []) ⟨hx, hb, hml, hown, hts⟩ (met_X8_lightAt l D y4 aM aRo aHi aSn aAs aLg aPd aCo aEa H.size ms sv ml RO ce hM hce) (cwV 1 hts gX8_isSeen_X8_lightAt rfl rfl rfl (by decide +kernel) ⟨Nat.le_of_ble_eq_true rfl, Nat.le_of_ble_eq_true rfl⟩) ⟨preW_blind, va_recv hK hP (ci := 7) (q0 := 0) rfl rfl, preW_at (hP.sub (ws' := [(aM, .inr (7, [.ref aRo, .ref aHi, .int ms, .ref aSn, .int (bI sv), .ref aAs, .ref aLg, .ref aPd, .int ml, .ref aCo, .ref aEa])), (aRo, .inl (y4.1, 151, .inl RO))]) [0, 1] rfl) hK (hD.sub (ws' := [(aM, .inr (7, [.ref aRo, .ref aHi, .int ms, .ref aSn, .int (bI sv), .ref aAs, .ref aLg, .ref aPd, .int ml, .ref aCo, .ref aEa])), (aRo, .inl (y4.1, 151, .inl RO))]) [0, 1] (by decide) rfl) hNW⟩ rfl rfl hl.1 rfl (lv_room (Nat.le_of_ble_eq_true rfl)) dX8_isSeen_10 ⟨Nat.zero_le _, Nat.zero_le _⟩) hP hD hS hA [0, 1] [] [0, 1] rfl rfl (by decide) (by decide) (fun _ => rfl) (by decide) (fun r u5 H locs hw hP hD hS => ?_)
    subst hw
    have hP : va_P D vwCl [(aM, .inr (7, [.ref aRo, .ref aHi, .int ms, .ref aSn, .int (bI sv), .ref aAs, .ref aLg, .ref aPd, .int ml, .ref aCo, .ref aEa])), (aRo, .inl (y4.1, 151, .inl RO))] H := hP
    have hD : va_D A [(aM, .inr (7, [.ref aRo, .ref aHi, .int ms, .ref aSn, .int (bI sv), .ref aAs, .ref aLg, .ref aPd, .int ml, .ref aCo, .ref aEa])), (aRo, .inl (y4.1, 151, .inl RO))] := hD
    refine lv_aload_n hx hb dX8_isSeen_13 rfl (lv_at hl 0 rfl) ?_
    refine va_get (ci := 7) (v := .ref aRo) (C := RX8) (T := TX8) (N := 11) hx hb hts iX8 hown hK hP 0 rfl rfl 0 (by decide) f7 (fun _ h9 => h9) rfl dX8_isSeen_14 ?_
    refine lv_sipush (v := 149) hx hb dX8_isSeen_17 (by decide) ?_
    refine va_iald hx hb hK hP 1 0 rfl rfl (vp_in_nI (n := 149) (by decide) (by decide)) dX8_isSeen_20 ?_
    refine W.ofeqi (y := RO 149) (congrArg RO (by decide : (149 : Int32).toNatClampNeg = 149)) ?_
    refine lv_icmp_lt (tgt := 44) hx hb dX8_isSeen_21 (by decide) (fun c6 => ?_) (fun c6 => ?_)
    · refine lv_iconst (v := 0) hx hb dX8_isSeen_44 (by decide) ?_
      have em : m_X8_isSeen RO ce = false := (by first | (simp only [m_X8_isSeen, if_pos c2, if_pos c6]; done) | (simp only [m_X8_isSeen, if_pos c2, if_pos c6]; rfl))
      exact W.zret (v := 0) hx hb hr rfl (fun t ht hW => ⟨⟨0, (), rfl, (by rw [em]; rfl), ⟨by rw [ht]; exact hP, by exact hD⟩⟩, hS.F ht⟩) hS.2.2 dX8_isSeen_45
    · refine lv_aload_n hx hb dX8_isSeen_24 rfl (lv_at hl 0 rfl) ?_
      refine lv_aload_n hx hb dX8_isSeen_25 rfl (lv_at hl 0 rfl) ?_
      refine va_get (ci := 7) (v := .ref aRo) (C := RX8) (T := TX8) (N := 11) hx hb hts iX8 hown hK hP 0 rfl rfl 0 (by decide) f7 (fun _ h9 => h9) rfl dX8_isSeen_26 ?_
      refine lv_sipush (v := 147) hx hb dX8_isSeen_29 (by decide) ?_
      refine va_iald hx hb hK hP 1 0 rfl rfl (vp_in_nI (n := 147) (by decide) (by decide)) dX8_isSeen_32 ?_
      refine W.ofeqi (y := RO 147) (congrArg RO (by decide : (147 : Int32).toNatClampNeg = 147)) ?_
      refine lv_iload_n hx hb dX8_isSeen_33 rfl (lv_at hl 1 rfl) ?_
      refine callW_i (wr := []) (wn := fun u => [(aM, .inr (7, [.ref aRo, .ref aHi, .int ms, .ref aSn, .int (bI sv), .ref aAs, .ref aLg, .ref aPd, .int ml, .ref aCo, .ref aEa])), (aRo, .inl (y4.1, 151, .inl RO))]) (va_runV (As := [.int (RO 147), .int ce]) (rest := []) ⟨hx, hb, hml, hown, hts⟩ (met_X8_isFree l D y4 aM aRo aHi aSn aAs aLg aPd aCo aEa H.size ms sv ml RO (RO 147) ce hM.2.2 hce) (cwV 2 hts gX8_isSeen_X8_isFree rfl rfl rfl (by decide +kernel) ⟨Nat.le_of_ble_eq_true rfl, Nat.le_of_ble_eq_true rfl⟩) ⟨preW_blind, va_recv hK hP (ci := 7) (q0 := 0) rfl rfl, preW_at (hP.sub (ws' := [(aM, .inr (7, [.ref aRo, .ref aHi, .int ms, .ref aSn, .int (bI sv), .ref aAs, .ref aLg, .ref aPd, .int ml, .ref aCo, .ref aEa])), (aRo, .inl (y4.1, 151, .inl RO))]) [0, 1] rfl) hK (hD.sub (ws' := [(aM, .inr (7, [.ref aRo, .ref aHi, .int ms, .ref aSn, .int (bI sv), .ref aAs, .ref aLg, .ref aPd, .int ml, .ref aCo, .ref aEa])), (aRo, .inl (y4.1, 151, .inl RO))]) [0, 1] (by decide) rfl) hNW⟩ rfl rfl hl.1 rfl (lv_room (Nat.le_of_ble_eq_true rfl)) dX8_isSeen_34 ⟨Nat.zero_le _, Nat.zero_le _⟩) hP hD hS hA [0, 1] [] [0, 1] rfl rfl (by decide) (by decide) (fun _ => rfl) (by decide) (fun r u7 H locs hw hP hD hS => ?_)
      subst hw
      have hP : va_P D vwCl [(aM, .inr (7, [.ref aRo, .ref aHi, .int ms, .ref aSn, .int (bI sv), .ref aAs, .ref aLg, .ref aPd, .int ml, .ref aCo, .ref aEa])), (aRo, .inl (y4.1, 151, .inl RO))] H := hP
      have hD : va_D A [(aM, .inr (7, [.ref aRo, .ref aHi, .int ms, .ref aSn, .int (bI sv), .ref aAs, .ref aLg, .ref aPd, .int ml, .ref aCo, .ref aEa])), (aRo, .inl (y4.1, 151, .inl RO))] := hD
      refine lb_if_eq (tgt := 44) hx hb dX8_isSeen_37 (by decide) (fun c8 => ?_) (fun c8 => ?_)
      · refine lv_iconst (v := 0) hx hb dX8_isSeen_44 (by decide) ?_
        have em : m_X8_isSeen RO ce = false := (by first | (simp only [m_X8_isSeen, if_pos c2, if_neg c6, if_pos c8]; done) | (simp only [m_X8_isSeen, if_pos c2, if_neg c6, if_pos c8]; rfl))
        exact W.zret (v := 0) hx hb hr rfl (fun t ht hW => ⟨⟨0, (), rfl, (by rw [em]; rfl), ⟨by rw [ht]; exact hP, by exact hD⟩⟩, hS.F ht⟩) hS.2.2 dX8_isSeen_45
      · refine lv_iconst (v := 1) hx hb dX8_isSeen_40 (by decide) ?_
        refine lv_goto (tgt := 45) hx hb dX8_isSeen_41 (by decide) ?_
        have em : m_X8_isSeen RO ce = true := (by first | (simp only [m_X8_isSeen, if_pos c2, if_neg c6, if_neg c8]; done) | (simp only [m_X8_isSeen, if_pos c2, if_neg c6, if_neg c8]; rfl))
        exact W.zret (v := 1) hx hb hr rfl (fun t ht hW => ⟨⟨1, (), rfl, (by rw [em]; rfl), ⟨by rw [ht]; exact hP, by exact hD⟩⟩, hS.F ht⟩) hS.2.2 dX8_isSeen_45
def f_X8_seenCells_4 (RO : Nat → Int32) (k1 : Nat) (t2 : Int32) : Int32 := (let v10 : Bool := (if (m_X8_isSeen RO (nI k1)) = false then false else true); t2 + (bI v10))
def m_X8_seenCells (RO : Nat → Int32) : Int32 := (let t11 : Int32 := itr (f_X8_seenCells_4 RO) 64 (0 : Int32); t11)
set_option maxHeartbeats 4000000 in
set_option maxRecDepth 100000 in
theorem met_X8_seenCells (l : Launch) (D : va_G) (y4 : vT) (aM aRo aHi aSn aAs aLg aPd aCo aEa : Nat) (sz : Nat) (ms : Int32) (sv : Bool) (ml : Int32) (RO : Nat → Int32) (hM : MI RO) : Met l yX8_seenCells wsX8_seenCells ({ frames := 7, cells := 0, slots := 0, locals := 165 }) (va_Pc [.ref aM] (PreW D y4 [(aM, .inr (7, [.ref aRo, .ref aHi, .int ms, .ref aSn, .int (bI sv), .ref aAs, .ref aLg, .ref aPd, .int ml, .ref aCo, .ref aEa])), (aRo, .inl (y4.1, 151, .inl RO))] sz)) (va_Qi (fun (r : Int32) (_ : Unit) => r = (m_X8_seenCells RO)) (fun _ t => PostW D (va_A [(aM, .inr (7, [.ref aRo, .ref aHi, .int ms, .ref aSn, .int (bI sv), .ref aAs, .ref aLg, .ref aPd, .int ml, .ref aCo, .ref aEa])), (aRo, .inl (y4.1, 151, .inl RO))] sz) [(aM, .inr (7, [.ref aRo, .ref aHi, .int ms, .ref aSn, .int (bI sv), .ref aAs, .ref aLg, .ref aPd, .int ml, .ref aCo, .ref aEa])), (aRo, .inl (y4.1, 151, .inl RO))] t) (va_A [(aM, .inr (7, [.ref aRo, .ref aHi, .int ms, .ref aSn, .int (bI sv), .ref aAs, .ref aLg, .ref aPd, .int ml, .ref aCo, .ref aEa])), (aRo, .inl (y4.1, 151, .inl RO))] sz)) 0 0 (va_A [(aM, .inr (7, [.ref aRo, .ref aHi, .int ms, .ref aSn, .int (bI sv), .ref aAs, .ref aLg, .ref aPd, .int ml, .ref aCo, .ref aEa])), (aRo, .inl (y4.1, 151, .inl RO))] sz) := by
  refine Met.ofW (cc := cX8_seenCells) (maxL := 3) (ret := (some .int)) (by decide) rfl ?_
  intro p e s m args below meth c s₁ B hml hv
  obtain ⟨rfl, hsz, hP, hK, hD0, hNW⟩ := hv
  have hx := B.exec
  have hb := B.bytes
  have hr := B.returns
  have hts := atoms_spec (ws := wsX8_seenCells) B.pre
  have hown : s.vm.findClass RX8 = some m.cls := findClass_of_methodNamed B.named
  have hlocks := B.notSynchronized
  subst hsz
  have hD := hD0.self (sz := s.heap.size)
  generalize hAe : va_A [(aM, .inr (7, [.ref aRo, .ref aHi, .int ms, .ref aSn, .int (bI sv), .ref aAs, .ref aLg, .ref aPd, .int ml, .ref aCo, .ref aEa])), (aRo, .inl (y4.1, 151, .inl RO))] s.heap.size = A at hD ⊢
  have hA : ∀ q : Nat, s.heap.size ≤ q → A q := fun q h => by rw [← hAe]; exact Or.inr h
  have hS : va_S A s.heap s.heap [] := va_S.rf
  have hl := lv_entry ([.ref aM]) (n := 3) (Nat.le_of_ble_eq_true rfl)
  rw [lg_entry_eq]
  generalize (lg_sl ([.ref aM]) ++ List.replicate (3 - (lg_sl ([.ref aM])).length) Slot.unset).toArray = ls at hl ⊢
  have hl : lv_has ls 3 [(0, .ref aM)] := hl
  refine startW (fun H locs hP hS => ?_) hP hS
  refine lv_iconst (v := 0) hx hb dX8_seenCells_0 (by decide) ?_
  refine lv_istore_n (lv' := [(1, .int 0), (0, .ref aM)]) hx hb dX8_seenCells_1 rfl hl (by decide) rfl (fun ls hl => ?_)
  refine lv_iconst (v := 0) hx hb dX8_seenCells_2 (by decide) ?_
  refine lv_istore_n (lv' := [(2, .int 0), (1, .int 0), (0, .ref aM)]) hx hb dX8_seenCells_3 rfl hl (by decide) rfl (fun ls hl => ?_)
  refine loopW (σ := Int32) 4 (f_X8_seenCells_4 RO) 64 (0 : Int32) (fun k1 t2 H locs ls => va_P D vwCl [(aM, .inr (7, [.ref aRo, .ref aHi, .int ms, .ref aSn, .int (bI sv), .ref aAs, .ref aLg, .ref aPd, .int ml, .ref aCo, .ref aEa])), (aRo, .inl (y4.1, 151, .inl RO))] H ∧ va_D A [(aM, .inr (7, [.ref aRo, .ref aHi, .int ms, .ref aSn, .int (bI sv), .ref aAs, .ref aLg, .ref aPd, .int ml, .ref aCo, .ref aEa])), (aRo, .inl (y4.1, 151, .inl RO))] ∧ va_S A s.heap H locs ∧ lv_has ls 3 [(2, .int (nI k1)), (1, .int t2), (0, .ref aM)]) ⟨hP, hD, hS, lv_sub hl [0, 1, 2] rfl⟩ (fun t11 H locs ls et11 hh => ?_) (fun k1 t2 hkk1 hek1 ihk1 H locs ls hh => ?_)
  · obtain ⟨hP, hD, hS, hl⟩ := hh
    have hP : va_P D vwCl [(aM, .inr (7, [.ref aRo, .ref aHi, .int ms, .ref aSn, .int (bI sv), .ref aAs, .ref aLg, .ref aPd, .int ml, .ref aCo, .ref aEa])), (aRo, .inl (y4.1, 151, .inl RO))] H := hP
    have hD : va_D A [(aM, .inr (7, [.ref aRo, .ref aHi, .int ms, .ref aSn, .int (bI sv), .ref aAs, .ref aLg, .ref aPd, .int ml, .ref aCo, .ref aEa])), (aRo, .inl (y4.1, 151, .inl RO))] := hD
    have hl : lv_has ls 3 [(2, .int (nI 64)), (1, .int t11), (0, .ref aM)] := hl
    refine lv_iload_n hx hb dX8_seenCells_4 rfl (lv_at hl 0 rfl) ?_
    refine lv_bipush (v := 64) hx hb dX8_seenCells_5 (by decide) ?_
    refine lv_icmp_ge (tgt := 32) hx hb dX8_seenCells_7 (by decide) (fun c12 => ?_) (fun c12 => absurd (nI_le (a := 64) (by omega) (by omega)) c12)
    refine lv_iload_n hx hb dX8_seenCells_32 rfl (lv_at hl 1 rfl) ?_
    have em : m_X8_seenCells RO = t11 := (by subst et11; first | (simp only [m_X8_seenCells]; done) | (unfold m_X8_seenCells; rfl) | rfl)
    exact W.iret (v := t11) hx hb hr (fun t ht hW => ⟨⟨t11, (), rfl, (by rw [em]), ⟨by rw [ht]; exact hP, by exact hD⟩⟩, hS.F ht⟩) hS.2.2 dX8_seenCells_33
  · obtain ⟨hP, hD, hS, hl⟩ := hh
    have hP : va_P D vwCl [(aM, .inr (7, [.ref aRo, .ref aHi, .int ms, .ref aSn, .int (bI sv), .ref aAs, .ref aLg, .ref aPd, .int ml, .ref aCo, .ref aEa])), (aRo, .inl (y4.1, 151, .inl RO))] H := hP
    have hD : va_D A [(aM, .inr (7, [.ref aRo, .ref aHi, .int ms, .ref aSn, .int (bI sv), .ref aAs, .ref aLg, .ref aPd, .int ml, .ref aCo, .ref aEa])), (aRo, .inl (y4.1, 151, .inl RO))] := hD
    have hl : lv_has ls 3 [(2, .int (nI k1)), (1, .int t2), (0, .ref aM)] := hl
    refine lv_iload_n hx hb dX8_seenCells_4 rfl (lv_at hl 0 rfl) ?_
    refine lv_bipush (v := 64) hx hb dX8_seenCells_5 (by decide) ?_
    refine lv_icmp_ge (tgt := 32) hx hb dX8_seenCells_7 (by decide) (fun c7 => absurd c7 (nI_ge (b := 64) (by omega) (by omega))) (fun c7 => ?_)
    refine lv_iload_n hx hb dX8_seenCells_10 rfl (lv_at hl 1 rfl) ?_
    refine lv_aload_n hx hb dX8_seenCells_11 rfl (lv_at hl 2 rfl) ?_
    refine lv_iload_n hx hb dX8_seenCells_12 rfl (lv_at hl 0 rfl) ?_
    refine callW_i (wr := []) (wn := fun u => [(aM, .inr (7, [.ref aRo, .ref aHi, .int ms, .ref aSn, .int (bI sv), .ref aAs, .ref aLg, .ref aPd, .int ml, .ref aCo, .ref aEa])), (aRo, .inl (y4.1, 151, .inl RO))]) (va_runV (As := [.int (nI k1)]) (rest := [.int t2]) ⟨hx, hb, hml, hown, hts⟩ (met_X8_isSeen l D y4 aM aRo aHi aSn aAs aLg aPd aCo aEa H.size ms sv ml RO (nI k1) hM (vp_in_nI (by omega) (by decide))) (cwV 1 hts gX8_seenCells_X8_isSeen rfl rfl rfl (by decide +kernel) ⟨Nat.le_of_ble_eq_true rfl, Nat.le_of_ble_eq_true rfl⟩) ⟨preW_blind, va_recv hK hP (ci := 7) (q0 := 0) rfl rfl, preW_at (hP.sub (ws' := [(aM, .inr (7, [.ref aRo, .ref aHi, .int ms, .ref aSn, .int (bI sv), .ref aAs, .ref aLg, .ref aPd, .int ml, .ref aCo, .ref aEa])), (aRo, .inl (y4.1, 151, .inl RO))]) [0, 1] rfl) hK (hD.sub (ws' := [(aM, .inr (7, [.ref aRo, .ref aHi, .int ms, .ref aSn, .int (bI sv), .ref aAs, .ref aLg, .ref aPd, .int ml, .ref aCo, .ref aEa])), (aRo, .inl (y4.1, 151, .inl RO))]) [0, 1] (by decide) rfl) hNW⟩ rfl rfl hl.1 rfl (lv_room (Nat.le_of_ble_eq_true rfl)) dX8_seenCells_13 ⟨Nat.zero_le _, Nat.zero_le _⟩) hP hD hS hA [0, 1] [] [0, 1] rfl rfl (by decide) (by decide) (fun _ => rfl) (by decide) (fun r u8 H locs hw hP hD hS => ?_)
    subst hw
    have hP : va_P D vwCl [(aM, .inr (7, [.ref aRo, .ref aHi, .int ms, .ref aSn, .int (bI sv), .ref aAs, .ref aLg, .ref aPd, .int ml, .ref aCo, .ref aEa])), (aRo, .inl (y4.1, 151, .inl RO))] H := hP
    have hD : va_D A [(aM, .inr (7, [.ref aRo, .ref aHi, .int ms, .ref aSn, .int (bI sv), .ref aAs, .ref aLg, .ref aPd, .int ml, .ref aCo, .ref aEa])), (aRo, .inl (y4.1, 151, .inl RO))] := hD
    refine cutW (X := Bool) 24 (fun x H locs ls => x = (if (m_X8_isSeen RO (nI k1)) = false then false else true) ∧ va_P D vwCl [(aM, .inr (7, [.ref aRo, .ref aHi, .int ms, .ref aSn, .int (bI sv), .ref aAs, .ref aLg, .ref aPd, .int ml, .ref aCo, .ref aEa])), (aRo, .inl (y4.1, 151, .inl RO))] H ∧ va_D A [(aM, .inr (7, [.ref aRo, .ref aHi, .int ms, .ref aSn, .int (bI sv), .ref aAs, .ref aLg, .ref aPd, .int ml, .ref aCo, .ref aEa])), (aRo, .inl (y4.1, 151, .inl RO))] ∧ va_S A s.heap H locs ∧ lv_has ls 3 [(2, .int (nI k1)), (0, .ref aM)]) (fun x => [.int (bI x), .int t2]) ?_ (fun K24 => ?_)
    · rintro v10 H locs ls ⟨ev10, hP, hD, hS, hl⟩
      have ev10 : v10 = (if (m_X8_isSeen RO (nI k1)) = false then false else true) := ev10
      have hP : va_P D vwCl [(aM, .inr (7, [.ref aRo, .ref aHi, .int ms, .ref aSn, .int (bI sv), .ref aAs, .ref aLg, .ref aPd, .int ml, .ref aCo, .ref aEa])), (aRo, .inl (y4.1, 151, .inl RO))] H := hP
      have hD : va_D A [(aM, .inr (7, [.ref aRo, .ref aHi, .int ms, .ref aSn, .int (bI sv), .ref aAs, .ref aLg, .ref aPd, .int ml, .ref aCo, .ref aEa])), (aRo, .inl (y4.1, 151, .inl RO))] := hD
      have hl : lv_has ls 3 [(2, .int (nI k1)), (0, .ref aM)] := hl
      refine lv_iadd hx hb dX8_seenCells_24 ?_
      refine lv_istore_n (lv' := [(1, .int (t2 + (bI v10))), (2, .int (nI k1)), (0, .ref aM)]) hx hb dX8_seenCells_25 rfl hl (by decide) rfl (fun ls hl => ?_)
      refine lv_iinc (v := nI (k1 + 1)) (lv' := [(2, .int (nI (k1 + 1))), (1, .int (t2 + (bI v10))), (0, .ref aM)]) hx hb dX8_seenCells_26 hl (k := 1) rfl (nI_1 _) (by decide) rfl (fun ls hl => ?_)
      refine lv_goto (tgt := 4) hx hb dX8_seenCells_29 (by decide) ?_
      have ef : (f_X8_seenCells_4 RO) k1 t2 = t2 + (bI v10) := (by subst ev10; first | (simp only [f_X8_seenCells_4]; done) | (unfold f_X8_seenCells_4; rfl) | rfl)
      rw [ef] at ihk1
      exact ihk1 H locs ls ⟨hP, hD, hS, lv_sub hl [0, 1, 2] rfl⟩
    · refine lb_if_eq (tgt := 23) hx hb dX8_seenCells_16 (by decide) (fun c9 => ?_) (fun c9 => ?_)
      · refine lv_iconst (v := 0) hx hb dX8_seenCells_23 (by decide) ?_
        exact K24 false H locs ls ⟨(by first | (simp only [if_pos c9]; done) | (simp only [if_pos c9]; rfl) | rfl), hP, hD, hS, lv_sub hl [0, 2] rfl⟩
      · refine lv_iconst (v := 1) hx hb dX8_seenCells_19 (by decide) ?_
        refine lv_goto (tgt := 24) hx hb dX8_seenCells_20 (by decide) ?_
        exact K24 true H locs ls ⟨(by first | (simp only [if_neg c9]; done) | (simp only [if_neg c9]; rfl) | rfl), hP, hD, hS, lv_sub hl [0, 2] rfl⟩
theorem o64 : ∀ k : Nat, k < 64 → ((64 : Int32) + nI k).toNatClampNeg = 64 + k := by decide +kernel
theorem o129 : ∀ k : Nat, k < 6 → ((129 : Int32) + nI k).toNatClampNeg = 129 + k := by decide +kernel
theorem o135 : ∀ k : Nat, k < 6 → ((135 : Int32) + nI k).toNatClampNeg = 135 + k := by decide +kernel
theorem o141 : ∀ k : Nat, k < 6 → ((141 : Int32) + nI k).toNatClampNeg = 141 + k := by decide +kernel
theorem MI_agree {RO t : Nat → Int32} (h : MI RO) (e : ∀ x : Nat, x < 64 ∨ 128 ≤ x → t x = RO x) : MI t := by
  obtain ⟨h1, h2, h3⟩ := h
  have e1 := e 128 (by omega)
  have e2 := e 147 (by omega)
  refine ⟨by rw [e1]; exact h1, fun i hi => ?_, by rw [e2]; exact h3⟩
  rw [e1] at hi
  have h6 := cl_lt h1
  have := h2 i hi
  rw [o129 i (by omega)] at this ⊢
  rw [e _ (by omega)]
  exact this

def f_X8_remember_2 (k1 : Nat) (t2 : (Nat → Int32)) : (((Nat → Int32)) ⊕ ((Nat → Int32))) ⊕ ((Nat → Int32)) := (let v12 : Bool := (if (t2 (64 + (nI k1)).toNatClampNeg) = 1 then true else (if (m_X8_isSeen t2 (nI k1)) = false then false else true)); (.inr (upd t2 (64 + (nI k1)).toNatClampNeg (bI v12))))
def m_X8_remember (RO : Nat → Int32) : (Nat → Int32) := (lpr (lpx f_X8_remember_2 64 0 RO) id (fun t15 => t15))
set_option maxHeartbeats 4000000 in
set_option maxRecDepth 100000 in
theorem met_X8_remember (l : Launch) (D : va_G) (y4 : vT) (aM aRo aHi aSn aAs aLg aPd aCo aEa : Nat) (sz : Nat) (ms : Int32) (sv : Bool) (ml : Int32) (RO : Nat → Int32) (hM : MI RO) : Met l yX8_remember wsX8_remember ({ frames := 7, cells := 0, slots := 0, locals := 165 }) (va_Pc [.ref aM] (PreW D y4 [(aM, .inr (7, [.ref aRo, .ref aHi, .int ms, .ref aSn, .int (bI sv), .ref aAs, .ref aLg, .ref aPd, .int ml, .ref aCo, .ref aEa])), (aRo, .inl (y4.1, 151, .inl RO))] sz)) (va_Qv (fun (_ : Unit) => True) (fun _ t => PostW D (va_A [(aM, .inr (7, [.ref aRo, .ref aHi, .int ms, .ref aSn, .int (bI sv), .ref aAs, .ref aLg, .ref aPd, .int ml, .ref aCo, .ref aEa])), (aRo, .inl (y4.1, 151, .inl RO))] sz) [(aM, .inr (7, [.ref aRo, .ref aHi, .int ms, .ref aSn, .int (bI sv), .ref aAs, .ref aLg, .ref aPd, .int ml, .ref aCo, .ref aEa])), (aRo, .inl (y4.1, 151, .inl (m_X8_remember RO)))] t) (va_A [(aM, .inr (7, [.ref aRo, .ref aHi, .int ms, .ref aSn, .int (bI sv), .ref aAs, .ref aLg, .ref aPd, .int ml, .ref aCo, .ref aEa])), (aRo, .inl (y4.1, 151, .inl RO))] sz)) 0 0 (va_A [(aM, .inr (7, [.ref aRo, .ref aHi, .int ms, .ref aSn, .int (bI sv), .ref aAs, .ref aLg, .ref aPd, .int ml, .ref aCo, .ref aEa])), (aRo, .inl (y4.1, 151, .inl RO))] sz) := by
  refine Met.ofW (cc := cX8_remember) (maxL := 2) (ret := none) (by decide) rfl ?_
  intro p e s m args below meth c s₁ B hml hv
  obtain ⟨rfl, hsz, hP, hK, hD0, hNW⟩ := hv
  have hx := B.exec
  have hb := B.bytes
  have hr := B.returns
  have hts := atoms_spec (ws := wsX8_remember) B.pre
  have hown : s.vm.findClass RX8 = some m.cls := findClass_of_methodNamed B.named
  have hlocks := B.notSynchronized
  subst hsz
  have hD := hD0.self (sz := s.heap.size)
  generalize hAe : va_A [(aM, .inr (7, [.ref aRo, .ref aHi, .int ms, .ref aSn, .int (bI sv), .ref aAs, .ref aLg, .ref aPd, .int ml, .ref aCo, .ref aEa])), (aRo, .inl (y4.1, 151, .inl RO))] s.heap.size = A at hD ⊢
  have hA : ∀ q : Nat, s.heap.size ≤ q → A q := fun q h => by rw [← hAe]; exact Or.inr h
  have hS : va_S A s.heap s.heap [] := va_S.rf
  have hl := lv_entry ([.ref aM]) (n := 2) (Nat.le_of_ble_eq_true rfl)
  rw [lg_entry_eq]
  generalize (lg_sl ([.ref aM]) ++ List.replicate (2 - (lg_sl ([.ref aM])).length) Slot.unset).toArray = ls at hl ⊢
  have hl : lv_has ls 2 [(0, .ref aM)] := hl
  have f7 := hts (.fieldLink RX8 7 "PillarLightModel" "row" "[I") (List.mem_of_getElem? (i := 1) rfl)
  have iX8 : ∀ w ∈ wsX80, w ∈ wsX8_remember := fun _ h => List.mem_cons_of_mem _ (List.mem_append_right _ h)
  refine startW (fun H locs hP hS => ?_) hP hS
  refine lv_iconst (v := 0) hx hb dX8_remember_0 (by decide) ?_
  refine lv_istore_n (lv' := [(1, .int 0), (0, .ref aM)]) hx hb dX8_remember_1 rfl hl (by decide) rfl (fun ls hl => ?_)
  refine cutW (X := (Nat → Int32)) 49 (fun x H locs ls => ((lpx f_X8_remember_2 64 0 RO) = .inl (.inr x) ∨ (lpx f_X8_remember_2 64 0 RO) = .inr x) ∧ va_P D vwCl [(aM, .inr (7, [.ref aRo, .ref aHi, .int ms, .ref aSn, .int (bI sv), .ref aAs, .ref aLg, .ref aPd, .int ml, .ref aCo, .ref aEa])), (aRo, .inl (y4.1, 151, .inl x))] H ∧ va_D A [(aM, .inr (7, [.ref aRo, .ref aHi, .int ms, .ref aSn, .int (bI sv), .ref aAs, .ref aLg, .ref aPd, .int ml, .ref aCo, .ref aEa])), (aRo, .inl (y4.1, 151, .inl x))] ∧ va_S A s.heap H locs ∧ lv_has ls 2 []) (fun x => []) ?_ (fun K49 => ?_)
  · rintro t15 H locs ls ⟨et15, hP, hD, hS, hl⟩
    have hP : va_P D vwCl [(aM, .inr (7, [.ref aRo, .ref aHi, .int ms, .ref aSn, .int (bI sv), .ref aAs, .ref aLg, .ref aPd, .int ml, .ref aCo, .ref aEa])), (aRo, .inl (y4.1, 151, .inl t15))] H := hP
    have hD : va_D A [(aM, .inr (7, [.ref aRo, .ref aHi, .int ms, .ref aSn, .int (bI sv), .ref aAs, .ref aLg, .ref aPd, .int ml, .ref aCo, .ref aEa])), (aRo, .inl (y4.1, 151, .inl t15))] := hD
    have hl : lv_has ls 2 [] := hl
    have em : m_X8_remember RO = t15 := (by first | (simp only [m_X8_remember, lpr_k et15]; done) | (simp only [m_X8_remember, lpr_k et15]; rfl))
    exact W.vret hx hb hr (fun t ht hW => ⟨⟨(), rfl, trivial, ⟨by rw [ht, em]; exact hP, by rw [em]; exact hD⟩⟩, hS.F ht⟩) hS.2.2 dX8_remember_49
  · refine loopX (σ := (Nat → Int32)) (ρ := ((Nat → Int32)) ⊕ ((Nat → Int32))) 2 f_X8_remember_2 (fun _ t => ∀ x : Nat, x < 64 ∨ 128 ≤ x → t x = RO x) 64 0 RO (fun k1 t2 H locs ls => va_P D vwCl [(aM, .inr (7, [.ref aRo, .ref aHi, .int ms, .ref aSn, .int (bI sv), .ref aAs, .ref aLg, .ref aPd, .int ml, .ref aCo, .ref aEa])), (aRo, .inl (y4.1, 151, .inl t2))] H ∧ va_D A [(aM, .inr (7, [.ref aRo, .ref aHi, .int ms, .ref aSn, .int (bI sv), .ref aAs, .ref aLg, .ref aPd, .int ml, .ref aCo, .ref aEa])), (aRo, .inl (y4.1, 151, .inl t2))] ∧ va_S A s.heap H locs ∧ lv_has ls 2 [(1, .int (nI k1)), (0, .ref aM)]) (fun _ _ => rfl) ⟨hP, hD, hS, lv_sub hl [0, 1] rfl⟩ (fun t13 H locs ls et13 hit13 hh => ?_) (fun k1 t2 hkk1 hjk1 hik1 hretk1 ihk1 H locs ls hh => ?_)
    · obtain ⟨hP, hD, hS, hl⟩ := hh
      have hP : va_P D vwCl [(aM, .inr (7, [.ref aRo, .ref aHi, .int ms, .ref aSn, .int (bI sv), .ref aAs, .ref aLg, .ref aPd, .int ml, .ref aCo, .ref aEa])), (aRo, .inl (y4.1, 151, .inl t13))] H := hP
      have hD : va_D A [(aM, .inr (7, [.ref aRo, .ref aHi, .int ms, .ref aSn, .int (bI sv), .ref aAs, .ref aLg, .ref aPd, .int ml, .ref aCo, .ref aEa])), (aRo, .inl (y4.1, 151, .inl t13))] := hD
      have hl : lv_has ls 2 [(1, .int (nI 64)), (0, .ref aM)] := hl
      refine lv_iload_n hx hb dX8_remember_2 rfl (lv_at hl 0 rfl) ?_
      refine lv_bipush (v := 64) hx hb dX8_remember_3 (by decide) ?_
      refine lv_icmp_ge (tgt := 49) hx hb dX8_remember_5 (by decide) (fun c14 => ?_) (fun c14 => absurd (nI_le (a := 64) (by omega) (by omega)) c14)
      exact K49 t13 H locs ls ⟨Or.inr et13, hP, hD, hS, lv_sub hl [] rfl⟩
    · obtain ⟨hP, hD, hS, hl⟩ := hh
      have hP : va_P D vwCl [(aM, .inr (7, [.ref aRo, .ref aHi, .int ms, .ref aSn, .int (bI sv), .ref aAs, .ref aLg, .ref aPd, .int ml, .ref aCo, .ref aEa])), (aRo, .inl (y4.1, 151, .inl t2))] H := hP
      have hD : va_D A [(aM, .inr (7, [.ref aRo, .ref aHi, .int ms, .ref aSn, .int (bI sv), .ref aAs, .ref aLg, .ref aPd, .int ml, .ref aCo, .ref aEa])), (aRo, .inl (y4.1, 151, .inl t2))] := hD
      have hl : lv_has ls 2 [(1, .int (nI k1)), (0, .ref aM)] := hl
      have hMt : MI t2 := MI_agree hM hik1
      refine lv_iload_n hx hb dX8_remember_2 rfl (lv_at hl 0 rfl) ?_
      refine lv_bipush (v := 64) hx hb dX8_remember_3 (by decide) ?_
      refine lv_icmp_ge (tgt := 49) hx hb dX8_remember_5 (by decide) (fun c8 => absurd c8 (nI_ge (b := 64) (by omega) (by omega))) (fun c8 => ?_)
      refine lv_aload_n hx hb dX8_remember_8 rfl (lv_at hl 1 rfl) ?_
      refine va_get (ci := 7) (v := .ref aRo) (C := RX8) (T := TX8) (N := 11) hx hb hts iX8 hown hK hP 0 rfl rfl 0 (by decide) f7 (fun _ h9 => h9) rfl dX8_remember_9 ?_
      refine lv_bipush (v := 64) hx hb dX8_remember_12 (by decide) ?_
      refine lv_iload_n hx hb dX8_remember_14 rfl (lv_at hl 0 rfl) ?_
      refine lv_iadd hx hb dX8_remember_15 ?_
      refine lv_aload_n hx hb dX8_remember_16 rfl (lv_at hl 1 rfl) ?_
      refine va_get (ci := 7) (v := .ref aRo) (C := RX8) (T := TX8) (N := 11) hx hb hts iX8 hown hK hP 0 rfl rfl 0 (by decide) f7 (fun _ h9 => h9) rfl dX8_remember_17 ?_
      refine lv_bipush (v := 64) hx hb dX8_remember_20 (by decide) ?_
      refine lv_iload_n hx hb dX8_remember_22 rfl (lv_at hl 0 rfl) ?_
      refine lv_iadd hx hb dX8_remember_23 ?_
      refine va_iald hx hb hK hP 1 0 rfl rfl (off_in (vp_in_nI (n := k1) (N := 64) (by omega) (by decide)) (by decide) (by decide) (by decide)) dX8_remember_24 ?_
      refine lv_iconst (v := 1) hx hb dX8_remember_25 (by decide) ?_
      refine cutW (X := Bool) 42 (fun x H locs ls => x = (if (t2 (64 + (nI k1)).toNatClampNeg) = 1 then true else (if (m_X8_isSeen t2 (nI k1)) = false then false else true)) ∧ va_P D vwCl [(aM, .inr (7, [.ref aRo, .ref aHi, .int ms, .ref aSn, .int (bI sv), .ref aAs, .ref aLg, .ref aPd, .int ml, .ref aCo, .ref aEa])), (aRo, .inl (y4.1, 151, .inl t2))] H ∧ va_D A [(aM, .inr (7, [.ref aRo, .ref aHi, .int ms, .ref aSn, .int (bI sv), .ref aAs, .ref aLg, .ref aPd, .int ml, .ref aCo, .ref aEa])), (aRo, .inl (y4.1, 151, .inl t2))] ∧ va_S A s.heap H locs ∧ lv_has ls 2 [(1, .int (nI k1)), (0, .ref aM)]) (fun x => [.int (bI x), .int (64 + (nI k1)), .ref aRo]) ?_ (fun K42 => ?_)
      · rintro v12 H locs ls ⟨ev12, hP, hD, hS, hl⟩
        have ev12 : v12 = (if (t2 (64 + (nI k1)).toNatClampNeg) = 1 then true else (if (m_X8_isSeen t2 (nI k1)) = false then false else true)) := ev12
        have hP : va_P D vwCl [(aM, .inr (7, [.ref aRo, .ref aHi, .int ms, .ref aSn, .int (bI sv), .ref aAs, .ref aLg, .ref aPd, .int ml, .ref aCo, .ref aEa])), (aRo, .inl (y4.1, 151, .inl t2))] H := hP
        have hD : va_D A [(aM, .inr (7, [.ref aRo, .ref aHi, .int ms, .ref aSn, .int (bI sv), .ref aAs, .ref aLg, .ref aPd, .int ml, .ref aCo, .ref aEa])), (aRo, .inl (y4.1, 151, .inl t2))] := hD
        have hl : lv_has ls 2 [(1, .int (nI k1)), (0, .ref aM)] := hl
        refine va_iast hx hb hK hP hD hS 1 0 rfl rfl (off_in (vp_in_nI (n := k1) (N := 64) (by omega) (by decide)) (by decide) (by decide) (by decide)) dX8_remember_42 (fun H locs hP hD hS => ?_)
        have hP : va_P D vwCl [(aM, .inr (7, [.ref aRo, .ref aHi, .int ms, .ref aSn, .int (bI sv), .ref aAs, .ref aLg, .ref aPd, .int ml, .ref aCo, .ref aEa])), (aRo, .inl (y4.1, 151, .inl (upd t2 (64 + (nI k1)).toNatClampNeg (bI v12))))] H := hP
        have hD : va_D A [(aM, .inr (7, [.ref aRo, .ref aHi, .int ms, .ref aSn, .int (bI sv), .ref aAs, .ref aLg, .ref aPd, .int ml, .ref aCo, .ref aEa])), (aRo, .inl (y4.1, 151, .inl (upd t2 (64 + (nI k1)).toNatClampNeg (bI v12))))] := hD
        refine lv_iinc (v := nI (k1 + 1)) (lv' := [(1, .int (nI (k1 + 1))), (0, .ref aM)]) hx hb dX8_remember_43 hl (k := 0) rfl (nI_1 _) (by decide) rfl (fun ls hl => ?_)
        refine lv_goto (tgt := 2) hx hb dX8_remember_46 (by decide) ?_
        have ef : f_X8_remember_2 k1 t2 = .inr (upd t2 (64 + (nI k1)).toNatClampNeg (bI v12)) := (by subst ev12; first | (simp only [f_X8_remember_2]; done) | (unfold f_X8_remember_2; rfl) | rfl)
        exact ihk1 _ ef (fun x hx => (pk_un (by rw [o64 _ (by omega)]; omega)).trans (hik1 x hx)) H locs ls ⟨hP, hD, hS, lv_sub hl [0, 1] rfl⟩
      · refine lv_icmp_eq (tgt := 37) hx hb dX8_remember_26 (by decide) (fun c9 => ?_) (fun c9 => ?_)
        · refine lv_iconst (v := 1) hx hb dX8_remember_37 (by decide) ?_
          refine lv_goto (tgt := 42) hx hb dX8_remember_38 (by decide) ?_
          exact K42 true H locs ls ⟨(by first | (simp only [if_pos c9]; done) | (simp only [if_pos c9]; rfl) | rfl), hP, hD, hS, lv_sub hl [0, 1] rfl⟩
        · refine lv_aload_n hx hb dX8_remember_29 rfl (lv_at hl 1 rfl) ?_
          refine lv_iload_n hx hb dX8_remember_30 rfl (lv_at hl 0 rfl) ?_
          refine callW_i (wr := []) (wn := fun u => [(aM, .inr (7, [.ref aRo, .ref aHi, .int ms, .ref aSn, .int (bI sv), .ref aAs, .ref aLg, .ref aPd, .int ml, .ref aCo, .ref aEa])), (aRo, .inl (y4.1, 151, .inl t2))]) (va_runV (As := [.int (nI k1)]) (rest := [.int (64 + (nI k1)), .ref aRo]) ⟨hx, hb, hml, hown, hts⟩ (met_X8_isSeen l D y4 aM aRo aHi aSn aAs aLg aPd aCo aEa H.size ms sv ml t2 (nI k1) (by assumption) (vp_in_nI (by omega) (by decide))) (cwV 1 hts gX8_remember_X8_isSeen rfl rfl rfl (by decide +kernel) ⟨Nat.le_of_ble_eq_true rfl, Nat.le_of_ble_eq_true rfl⟩) ⟨preW_blind, va_recv hK hP (ci := 7) (q0 := 0) rfl rfl, preW_at (hP.sub (ws' := [(aM, .inr (7, [.ref aRo, .ref aHi, .int ms, .ref aSn, .int (bI sv), .ref aAs, .ref aLg, .ref aPd, .int ml, .ref aCo, .ref aEa])), (aRo, .inl (y4.1, 151, .inl t2))]) [0, 1] rfl) hK (hD.sub (ws' := [(aM, .inr (7, [.ref aRo, .ref aHi, .int ms, .ref aSn, .int (bI sv), .ref aAs, .ref aLg, .ref aPd, .int ml, .ref aCo, .ref aEa])), (aRo, .inl (y4.1, 151, .inl t2))]) [0, 1] (by decide) rfl) hNW⟩ rfl rfl hl.1 rfl (lv_room (Nat.le_of_ble_eq_true rfl)) dX8_remember_31 ⟨Nat.zero_le _, Nat.zero_le _⟩) hP hD hS hA [0, 1] [] [0, 1] rfl rfl (by decide) (by decide) (fun _ => rfl) (by decide) (fun r u10 H locs hw hP hD hS => ?_)
          subst hw
          have hP : va_P D vwCl [(aM, .inr (7, [.ref aRo, .ref aHi, .int ms, .ref aSn, .int (bI sv), .ref aAs, .ref aLg, .ref aPd, .int ml, .ref aCo, .ref aEa])), (aRo, .inl (y4.1, 151, .inl t2))] H := hP
          have hD : va_D A [(aM, .inr (7, [.ref aRo, .ref aHi, .int ms, .ref aSn, .int (bI sv), .ref aAs, .ref aLg, .ref aPd, .int ml, .ref aCo, .ref aEa])), (aRo, .inl (y4.1, 151, .inl t2))] := hD
          refine lb_if_eq (tgt := 41) hx hb dX8_remember_34 (by decide) (fun c11 => ?_) (fun c11 => ?_)
          · refine lv_iconst (v := 0) hx hb dX8_remember_41 (by decide) ?_
            exact K42 false H locs ls ⟨(by first | (simp only [if_neg c9, if_pos c11]; done) | (simp only [if_neg c9, if_pos c11]; rfl) | rfl), hP, hD, hS, lv_sub hl [0, 1] rfl⟩
          · refine lv_iconst (v := 1) hx hb dX8_remember_37 (by decide) ?_
            refine lv_goto (tgt := 42) hx hb dX8_remember_38 (by decide) ?_
            exact K42 true H locs ls ⟨(by first | (simp only [if_neg c9, if_neg c11]; done) | (simp only [if_neg c9, if_neg c11]; rfl) | rfl), hP, hD, hS, lv_sub hl [0, 1] rfl⟩
def f_X8_knownCells_4 (RO : Nat → Int32) (k1 : Nat) (t2 : Int32) : Int32 := t2 + (RO (64 + (nI k1)).toNatClampNeg)
def m_X8_knownCells (RO : Nat → Int32) : Int32 := (let t5 : Int32 := itr (f_X8_knownCells_4 RO) 64 (0 : Int32); t5)
set_option maxHeartbeats 4000000 in
set_option maxRecDepth 100000 in
theorem met_X8_knownCells (l : Launch) (D : va_G) (y4 : vT) (aM aRo aHi aSn aAs aLg aPd aCo aEa : Nat) (sz : Nat) (ms : Int32) (sv : Bool) (ml : Int32) (RO : Nat → Int32) : Met l yX8_knownCells wsX8_knownCells ({ frames := 0, cells := 0, slots := 0, locals := 0 }) (va_Pc [.ref aM] (PreW D y4 [(aM, .inr (7, [.ref aRo, .ref aHi, .int ms, .ref aSn, .int (bI sv), .ref aAs, .ref aLg, .ref aPd, .int ml, .ref aCo, .ref aEa])), (aRo, .inl (y4.1, 151, .inl RO))] sz)) (va_Qi (fun (r : Int32) (_ : Unit) => r = (m_X8_knownCells RO)) (fun _ t => PostW D (va_A [(aM, .inr (7, [.ref aRo, .ref aHi, .int ms, .ref aSn, .int (bI sv), .ref aAs, .ref aLg, .ref aPd, .int ml, .ref aCo, .ref aEa])), (aRo, .inl (y4.1, 151, .inl RO))] sz) [(aM, .inr (7, [.ref aRo, .ref aHi, .int ms, .ref aSn, .int (bI sv), .ref aAs, .ref aLg, .ref aPd, .int ml, .ref aCo, .ref aEa])), (aRo, .inl (y4.1, 151, .inl RO))] t) (va_A [(aM, .inr (7, [.ref aRo, .ref aHi, .int ms, .ref aSn, .int (bI sv), .ref aAs, .ref aLg, .ref aPd, .int ml, .ref aCo, .ref aEa])), (aRo, .inl (y4.1, 151, .inl RO))] sz)) 0 0 (va_A [(aM, .inr (7, [.ref aRo, .ref aHi, .int ms, .ref aSn, .int (bI sv), .ref aAs, .ref aLg, .ref aPd, .int ml, .ref aCo, .ref aEa])), (aRo, .inl (y4.1, 151, .inl RO))] sz) := by
  refine Met.ofW (cc := cX8_knownCells) (maxL := 3) (ret := (some .int)) (by decide) rfl ?_
  intro p e s m args below meth c s₁ B hml hv
  obtain ⟨rfl, hsz, hP, hK, hD0, hNW⟩ := hv
  have hx := B.exec
  have hb := B.bytes
  have hr := B.returns
  have hts := atoms_spec (ws := wsX8_knownCells) B.pre
  have hown : s.vm.findClass RX8 = some m.cls := findClass_of_methodNamed B.named
  have hlocks := B.notSynchronized
  subst hsz
  have hD := hD0.self (sz := s.heap.size)
  generalize hAe : va_A [(aM, .inr (7, [.ref aRo, .ref aHi, .int ms, .ref aSn, .int (bI sv), .ref aAs, .ref aLg, .ref aPd, .int ml, .ref aCo, .ref aEa])), (aRo, .inl (y4.1, 151, .inl RO))] s.heap.size = A at hD ⊢
  have hA : ∀ q : Nat, s.heap.size ≤ q → A q := fun q h => by rw [← hAe]; exact Or.inr h
  have hS : va_S A s.heap s.heap [] := va_S.rf
  have hl := lv_entry ([.ref aM]) (n := 3) (Nat.le_of_ble_eq_true rfl)
  rw [lg_entry_eq]
  generalize (lg_sl ([.ref aM]) ++ List.replicate (3 - (lg_sl ([.ref aM])).length) Slot.unset).toArray = ls at hl ⊢
  have hl : lv_has ls 3 [(0, .ref aM)] := hl
  have f7 := hts (.fieldLink RX8 7 "PillarLightModel" "row" "[I") (List.mem_of_getElem? (i := 1) rfl)
  have iX8 : ∀ w ∈ wsX80, w ∈ wsX8_knownCells := fun _ h => List.mem_cons_of_mem _ (List.mem_append_right _ h)
  refine startW (fun H locs hP hS => ?_) hP hS
  refine lv_iconst (v := 0) hx hb dX8_knownCells_0 (by decide) ?_
  refine lv_istore_n (lv' := [(1, .int 0), (0, .ref aM)]) hx hb dX8_knownCells_1 rfl hl (by decide) rfl (fun ls hl => ?_)
  refine lv_iconst (v := 0) hx hb dX8_knownCells_2 (by decide) ?_
  refine lv_istore_n (lv' := [(2, .int 0), (1, .int 0), (0, .ref aM)]) hx hb dX8_knownCells_3 rfl hl (by decide) rfl (fun ls hl => ?_)
  refine loopW (σ := Int32) 4 (f_X8_knownCells_4 RO) 64 (0 : Int32) (fun k1 t2 H locs ls => va_P D vwCl [(aM, .inr (7, [.ref aRo, .ref aHi, .int ms, .ref aSn, .int (bI sv), .ref aAs, .ref aLg, .ref aPd, .int ml, .ref aCo, .ref aEa])), (aRo, .inl (y4.1, 151, .inl RO))] H ∧ va_D A [(aM, .inr (7, [.ref aRo, .ref aHi, .int ms, .ref aSn, .int (bI sv), .ref aAs, .ref aLg, .ref aPd, .int ml, .ref aCo, .ref aEa])), (aRo, .inl (y4.1, 151, .inl RO))] ∧ va_S A s.heap H locs ∧ lv_has ls 3 [(2, .int (nI k1)), (1, .int t2), (0, .ref aM)]) ⟨hP, hD, hS, lv_sub hl [0, 1, 2] rfl⟩ (fun t5 H locs ls et5 hh => ?_) (fun k1 t2 hkk1 hek1 ihk1 H locs ls hh => ?_)
  · obtain ⟨hP, hD, hS, hl⟩ := hh
    have hP : va_P D vwCl [(aM, .inr (7, [.ref aRo, .ref aHi, .int ms, .ref aSn, .int (bI sv), .ref aAs, .ref aLg, .ref aPd, .int ml, .ref aCo, .ref aEa])), (aRo, .inl (y4.1, 151, .inl RO))] H := hP
    have hD : va_D A [(aM, .inr (7, [.ref aRo, .ref aHi, .int ms, .ref aSn, .int (bI sv), .ref aAs, .ref aLg, .ref aPd, .int ml, .ref aCo, .ref aEa])), (aRo, .inl (y4.1, 151, .inl RO))] := hD
    have hl : lv_has ls 3 [(2, .int (nI 64)), (1, .int t5), (0, .ref aM)] := hl
    refine lv_iload_n hx hb dX8_knownCells_4 rfl (lv_at hl 0 rfl) ?_
    refine lv_bipush (v := 64) hx hb dX8_knownCells_5 (by decide) ?_
    refine lv_icmp_ge (tgt := 28) hx hb dX8_knownCells_7 (by decide) (fun c6 => ?_) (fun c6 => absurd (nI_le (a := 64) (by omega) (by omega)) c6)
    refine lv_iload_n hx hb dX8_knownCells_28 rfl (lv_at hl 1 rfl) ?_
    have em : m_X8_knownCells RO = t5 := (by subst et5; first | (simp only [m_X8_knownCells]; done) | (unfold m_X8_knownCells; rfl) | rfl)
    exact W.iret (v := t5) hx hb hr (fun t ht hW => ⟨⟨t5, (), rfl, (by rw [em]), ⟨by rw [ht]; exact hP, by exact hD⟩⟩, hS.F ht⟩) hS.2.2 dX8_knownCells_29
  · obtain ⟨hP, hD, hS, hl⟩ := hh
    have hP : va_P D vwCl [(aM, .inr (7, [.ref aRo, .ref aHi, .int ms, .ref aSn, .int (bI sv), .ref aAs, .ref aLg, .ref aPd, .int ml, .ref aCo, .ref aEa])), (aRo, .inl (y4.1, 151, .inl RO))] H := hP
    have hD : va_D A [(aM, .inr (7, [.ref aRo, .ref aHi, .int ms, .ref aSn, .int (bI sv), .ref aAs, .ref aLg, .ref aPd, .int ml, .ref aCo, .ref aEa])), (aRo, .inl (y4.1, 151, .inl RO))] := hD
    have hl : lv_has ls 3 [(2, .int (nI k1)), (1, .int t2), (0, .ref aM)] := hl
    refine lv_iload_n hx hb dX8_knownCells_4 rfl (lv_at hl 0 rfl) ?_
    refine lv_bipush (v := 64) hx hb dX8_knownCells_5 (by decide) ?_
    refine lv_icmp_ge (tgt := 28) hx hb dX8_knownCells_7 (by decide) (fun c4 => absurd c4 (nI_ge (b := 64) (by omega) (by omega))) (fun c4 => ?_)
    refine lv_iload_n hx hb dX8_knownCells_10 rfl (lv_at hl 1 rfl) ?_
    refine lv_aload_n hx hb dX8_knownCells_11 rfl (lv_at hl 2 rfl) ?_
    refine va_get (ci := 7) (v := .ref aRo) (C := RX8) (T := TX8) (N := 11) hx hb hts iX8 hown hK hP 0 rfl rfl 0 (by decide) f7 (fun _ h9 => h9) rfl dX8_knownCells_12 ?_
    refine lv_bipush (v := 64) hx hb dX8_knownCells_15 (by decide) ?_
    refine lv_iload_n hx hb dX8_knownCells_17 rfl (lv_at hl 0 rfl) ?_
    refine lv_iadd hx hb dX8_knownCells_18 ?_
    refine va_iald hx hb hK hP 1 0 rfl rfl (off_in (vp_in_nI (n := k1) (N := 64) (by omega) (by decide)) (by decide) (by decide) (by decide)) dX8_knownCells_19 ?_
    refine lv_iadd hx hb dX8_knownCells_20 ?_
    refine lv_istore_n (lv' := [(1, .int (t2 + (RO (64 + (nI k1)).toNatClampNeg))), (2, .int (nI k1)), (0, .ref aM)]) hx hb dX8_knownCells_21 rfl hl (by decide) rfl (fun ls hl => ?_)
    refine lv_iinc (v := nI (k1 + 1)) (lv' := [(2, .int (nI (k1 + 1))), (1, .int (t2 + (RO (64 + (nI k1)).toNatClampNeg))), (0, .ref aM)]) hx hb dX8_knownCells_22 hl (k := 1) rfl (nI_1 _) (by decide) rfl (fun ls hl => ?_)
    refine lv_goto (tgt := 4) hx hb dX8_knownCells_25 (by decide) ?_
    have ef : (f_X8_knownCells_4 RO) k1 t2 = t2 + (RO (64 + (nI k1)).toNatClampNeg) := (by first | (simp only [f_X8_knownCells_4]; done) | (unfold f_X8_knownCells_4; rfl) | rfl)
    rw [ef] at ihk1
    exact ihk1 H locs ls ⟨hP, hD, hS, lv_sub hl [0, 1, 2] rfl⟩
