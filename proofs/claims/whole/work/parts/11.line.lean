def m_X3_start (fr : Int32) (to : Int32) : Int32 × Int32 × Int32 × Int32 × Int32 × Int32 × Int32 := (let v2 : Int32 := (if 0 ≤ ((to / 8) - (fr / 8)) then (8 : Int32) else (-8 : Int32)); (let v4 : Int32 := (if 0 ≤ ((to - to / 8 * 8) - (fr - fr / 8 * 8)) then (1 : Int32) else (-1 : Int32)); (let v6 : Int32 := (if 0 ≤ ((to / 8) - (fr / 8)) then (to / 8) - (fr / 8) else -((to / 8) - (fr / 8))); (let v8 : Int32 := (if 0 ≤ ((to - to / 8 * 8) - (fr - fr / 8 * 8)) then (to - to / 8 * 8) - (fr - fr / 8 * 8) else -((to - to / 8 * 8) - (fr - fr / 8 * 8))); (fr, to, v2, v4, v6, v8, v8 - v6)))))
set_option maxHeartbeats 4000000 in
set_option maxRecDepth 100000 in
theorem met_X3_start (l : Launch) (D : va_G) (y4 : vT) (aLi : Nat) (sz : Nat) (L0 : Int32) (L1 : Int32) (L2 : Int32) (L3 : Int32) (L4 : Int32) (L5 : Int32) (L6 : Int32) (fr : Int32) (to : Int32) : Met l yX3_start wsX3_start ({ frames := 0, cells := 0, slots := 0, locals := 0 }) (va_Pc [.ref aLi, .int fr, .int to] (PreW D y4 [(aLi, .inr (2, [.int L0, .int L1, .int L2, .int L3, .int L4, .int L5, .int L6]))] sz)) (va_Qv (fun (_ : Unit) => True) (fun _ t => PostW D (va_A [(aLi, .inr (2, [.int L0, .int L1, .int L2, .int L3, .int L4, .int L5, .int L6]))] sz) [(aLi, .inr (2, [.int ((m_X3_start fr to).1), .int ((m_X3_start fr to).2.1), .int ((m_X3_start fr to).2.2.1), .int ((m_X3_start fr to).2.2.2.1), .int ((m_X3_start fr to).2.2.2.2.1), .int ((m_X3_start fr to).2.2.2.2.2.1), .int ((m_X3_start fr to).2.2.2.2.2.2)]))] t) (va_A [(aLi, .inr (2, [.int L0, .int L1, .int L2, .int L3, .int L4, .int L5, .int L6]))] sz)) 0 0 (va_A [(aLi, .inr (2, [.int L0, .int L1, .int L2, .int L3, .int L4, .int L5, .int L6]))] sz) := by
  refine Met.ofW (cc := cX3_start) (maxL := 5) (ret := none) (by decide) rfl ?_
  intro p e s m args below meth c s₁ B hml hv
  obtain ⟨rfl, hsz, hP, hK, hD0, hNW⟩ := hv
  have hx := B.exec
  have hb := B.bytes
  have hr := B.returns
  have hts := atoms_spec (ws := wsX3_start) B.pre
  have hown : s.vm.findClass RX3 = some m.cls := findClass_of_methodNamed B.named
  have hlocks := B.notSynchronized
  subst hsz
  have hD := hD0.self (sz := s.heap.size)
  generalize hAe : va_A [(aLi, .inr (2, [.int L0, .int L1, .int L2, .int L3, .int L4, .int L5, .int L6]))] s.heap.size = A at hD ⊢
  have hA : ∀ q : Nat, s.heap.size ≤ q → A q := fun q h => by rw [← hAe]; exact Or.inr h
  have hS : va_S A s.heap s.heap [] := va_S.rf
  have hl := lv_entry ([.ref aLi, .int fr, .int to]) (n := 5) (Nat.le_of_ble_eq_true rfl)
  rw [lg_entry_eq]
  generalize (lg_sl ([.ref aLi, .int fr, .int to]) ++ List.replicate (5 - (lg_sl ([.ref aLi, .int fr, .int to])).length) Slot.unset).toArray = ls at hl ⊢
  have hl : lv_has ls 5 [(0, .ref aLi), (1, .int fr), (2, .int to)] := hl
  have f9 := hts (.fieldLink RX3 9 "PillarLight$Line" "cell" "I") (List.mem_of_getElem? (i := 1) rfl)
  have iX3 : ∀ w ∈ wsX30, w ∈ wsX3_start := fun _ h => List.mem_cons_of_mem _ (List.mem_append_right _ h)
  have f15 := hts (.fieldLink RX3 15 "PillarLight$Line" "goal" "I") (List.mem_of_getElem? (i := 2) rfl)
  have f18 := hts (.fieldLink RX3 18 "PillarLight$Line" "rowStep" "I") (List.mem_of_getElem? (i := 3) rfl)
  have f21 := hts (.fieldLink RX3 21 "PillarLight$Line" "columnStep" "I") (List.mem_of_getElem? (i := 4) rfl)
  have f24 := hts (.fieldLink RX3 24 "PillarLight$Line" "rows" "I") (List.mem_of_getElem? (i := 5) rfl)
  have f27 := hts (.fieldLink RX3 27 "PillarLight$Line" "columns" "I") (List.mem_of_getElem? (i := 6) rfl)
  have f30 := hts (.fieldLink RX3 30 "PillarLight$Line" "lead" "I") (List.mem_of_getElem? (i := 7) rfl)
  refine startW (fun H locs hP hS => ?_) hP hS
  refine lv_iload_n hx hb dX3_start_0 rfl (lv_at hl 2 rfl) ?_
  refine lv_bipush (v := 8) hx hb dX3_start_1 (by decide) ?_
  refine lv_idiv hx hb dX3_start_3 (by decide) ?_
  refine lv_iload_n hx hb dX3_start_4 rfl (lv_at hl 1 rfl) ?_
  refine lv_bipush (v := 8) hx hb dX3_start_5 (by decide) ?_
  refine lv_idiv hx hb dX3_start_7 (by decide) ?_
  refine lv_isub hx hb dX3_start_8 ?_
  refine lv_istore_n (lv' := [(3, .int ((to / 8) - (fr / 8))), (0, .ref aLi), (1, .int fr), (2, .int to)]) hx hb dX3_start_9 rfl hl (by decide) rfl (fun ls hl => ?_)
  refine lv_iload_n hx hb dX3_start_10 rfl (lv_at hl 3 rfl) ?_
  refine lv_bipush (v := 8) hx hb dX3_start_11 (by decide) ?_
  refine lv_irem hx hb dX3_start_13 (by decide) ?_
  refine lv_iload_n hx hb dX3_start_14 rfl (lv_at hl 2 rfl) ?_
  refine lv_bipush (v := 8) hx hb dX3_start_15 (by decide) ?_
  refine lv_irem hx hb dX3_start_17 (by decide) ?_
  refine lv_isub hx hb dX3_start_18 ?_
  refine lv_istore (lv' := [(4, .int ((to - to / 8 * 8) - (fr - fr / 8 * 8))), (3, .int ((to / 8) - (fr / 8))), (0, .ref aLi), (1, .int fr), (2, .int to)]) hx hb dX3_start_19 hl (by decide) rfl (fun ls hl => ?_)
  refine lv_aload_n hx hb dX3_start_21 rfl (lv_at hl 2 rfl) ?_
  refine lv_iload_n hx hb dX3_start_22 rfl (lv_at hl 3 rfl) ?_
  refine va_put (ci := 2) (v := .int fr) (ty := .int) (C := RX3) (T := TX3) (N := 7) hx hb hts iX3 tyX3 tyX3_ok nmX3 hown hK hP hD hS 0 rfl rfl 0 (by decide) f9 (fun _ h9 => h9) rfl (by decide +kernel) rfl rfl (Nat.le_of_ble_eq_true rfl) dX3_start_23 (fun H locs hP hD hS => ?_)
  have hP : va_P D vwCl [(aLi, .inr (2, [.int fr, .int L1, .int L2, .int L3, .int L4, .int L5, .int L6]))] H := hP
  have hD : va_D A [(aLi, .inr (2, [.int fr, .int L1, .int L2, .int L3, .int L4, .int L5, .int L6]))] := hD
  refine lv_aload_n hx hb dX3_start_26 rfl (lv_at hl 2 rfl) ?_
  refine lv_iload_n hx hb dX3_start_27 rfl (lv_at hl 4 rfl) ?_
  refine va_put (ci := 2) (v := .int to) (ty := .int) (C := RX3) (T := TX3) (N := 7) hx hb hts iX3 tyX3 tyX3_ok nmX3 hown hK hP hD hS 0 rfl rfl 1 (by decide) f15 (fun _ h9 => h9) rfl (by decide +kernel) rfl rfl (Nat.le_of_ble_eq_true rfl) dX3_start_28 (fun H locs hP hD hS => ?_)
  have hP : va_P D vwCl [(aLi, .inr (2, [.int fr, .int to, .int L2, .int L3, .int L4, .int L5, .int L6]))] H := hP
  have hD : va_D A [(aLi, .inr (2, [.int fr, .int to, .int L2, .int L3, .int L4, .int L5, .int L6]))] := hD
  refine lv_aload_n hx hb dX3_start_31 rfl (lv_at hl 2 rfl) ?_
  refine lv_iload_n hx hb dX3_start_32 rfl (lv_at hl 1 rfl) ?_
  refine cutW (X := Int32) 43 (fun x H locs ls => x = (if 0 ≤ ((to / 8) - (fr / 8)) then (8 : Int32) else (-8 : Int32)) ∧ va_P D vwCl [(aLi, .inr (2, [.int fr, .int to, .int L2, .int L3, .int L4, .int L5, .int L6]))] H ∧ va_D A [(aLi, .inr (2, [.int fr, .int to, .int L2, .int L3, .int L4, .int L5, .int L6]))] ∧ va_S A s.heap H locs ∧ lv_has ls 5 [(4, .int ((to - to / 8 * 8) - (fr - fr / 8 * 8))), (3, .int ((to / 8) - (fr / 8))), (0, .ref aLi)]) (fun x => [.int x, .ref aLi]) ?_ (fun K43 => ?_)
  · rintro v2 H locs ls ⟨ev2, hP, hD, hS, hl⟩
    have ev2 : v2 = (if 0 ≤ ((to / 8) - (fr / 8)) then (8 : Int32) else (-8 : Int32)) := ev2
    have hP : va_P D vwCl [(aLi, .inr (2, [.int fr, .int to, .int L2, .int L3, .int L4, .int L5, .int L6]))] H := hP
    have hD : va_D A [(aLi, .inr (2, [.int fr, .int to, .int L2, .int L3, .int L4, .int L5, .int L6]))] := hD
    have hl : lv_has ls 5 [(4, .int ((to - to / 8 * 8) - (fr - fr / 8 * 8))), (3, .int ((to / 8) - (fr / 8))), (0, .ref aLi)] := hl
    refine va_put (ci := 2) (v := .int v2) (ty := .int) (C := RX3) (T := TX3) (N := 7) hx hb hts iX3 tyX3 tyX3_ok nmX3 hown hK hP hD hS 0 rfl rfl 2 (by decide) f18 (fun _ h9 => h9) rfl (by decide +kernel) rfl rfl (Nat.le_of_ble_eq_true rfl) dX3_start_43 (fun H locs hP hD hS => ?_)
    have hP : va_P D vwCl [(aLi, .inr (2, [.int fr, .int to, .int v2, .int L3, .int L4, .int L5, .int L6]))] H := hP
    have hD : va_D A [(aLi, .inr (2, [.int fr, .int to, .int v2, .int L3, .int L4, .int L5, .int L6]))] := hD
    refine lv_aload_n hx hb dX3_start_46 rfl (lv_at hl 2 rfl) ?_
    refine lv_iload hx hb dX3_start_47 (lv_at hl 0 rfl) ?_
    refine cutW (X := Int32) 57 (fun x H locs ls => x = (if 0 ≤ ((to - to / 8 * 8) - (fr - fr / 8 * 8)) then (1 : Int32) else (-1 : Int32)) ∧ va_P D vwCl [(aLi, .inr (2, [.int fr, .int to, .int v2, .int L3, .int L4, .int L5, .int L6]))] H ∧ va_D A [(aLi, .inr (2, [.int fr, .int to, .int v2, .int L3, .int L4, .int L5, .int L6]))] ∧ va_S A s.heap H locs ∧ lv_has ls 5 [(4, .int ((to - to / 8 * 8) - (fr - fr / 8 * 8))), (3, .int ((to / 8) - (fr / 8))), (0, .ref aLi)]) (fun x => [.int x, .ref aLi]) ?_ (fun K57 => ?_)
    · rintro v4 H locs ls ⟨ev4, hP, hD, hS, hl⟩
      have ev4 : v4 = (if 0 ≤ ((to - to / 8 * 8) - (fr - fr / 8 * 8)) then (1 : Int32) else (-1 : Int32)) := ev4
      have hP : va_P D vwCl [(aLi, .inr (2, [.int fr, .int to, .int v2, .int L3, .int L4, .int L5, .int L6]))] H := hP
      have hD : va_D A [(aLi, .inr (2, [.int fr, .int to, .int v2, .int L3, .int L4, .int L5, .int L6]))] := hD
      have hl : lv_has ls 5 [(4, .int ((to - to / 8 * 8) - (fr - fr / 8 * 8))), (3, .int ((to / 8) - (fr / 8))), (0, .ref aLi)] := hl
      refine va_put (ci := 2) (v := .int v4) (ty := .int) (C := RX3) (T := TX3) (N := 7) hx hb hts iX3 tyX3 tyX3_ok nmX3 hown hK hP hD hS 0 rfl rfl 3 (by decide) f21 (fun _ h9 => h9) rfl (by decide +kernel) rfl rfl (Nat.le_of_ble_eq_true rfl) dX3_start_57 (fun H locs hP hD hS => ?_)
      have hP : va_P D vwCl [(aLi, .inr (2, [.int fr, .int to, .int v2, .int v4, .int L4, .int L5, .int L6]))] H := hP
      have hD : va_D A [(aLi, .inr (2, [.int fr, .int to, .int v2, .int v4, .int L4, .int L5, .int L6]))] := hD
      refine lv_aload_n hx hb dX3_start_60 rfl (lv_at hl 2 rfl) ?_
      refine lv_iload_n hx hb dX3_start_61 rfl (lv_at hl 1 rfl) ?_
      refine cutW (X := Int32) 71 (fun x H locs ls => x = (if 0 ≤ ((to / 8) - (fr / 8)) then (to / 8) - (fr / 8) else -((to / 8) - (fr / 8))) ∧ va_P D vwCl [(aLi, .inr (2, [.int fr, .int to, .int v2, .int v4, .int L4, .int L5, .int L6]))] H ∧ va_D A [(aLi, .inr (2, [.int fr, .int to, .int v2, .int v4, .int L4, .int L5, .int L6]))] ∧ va_S A s.heap H locs ∧ lv_has ls 5 [(4, .int ((to - to / 8 * 8) - (fr - fr / 8 * 8))), (0, .ref aLi)]) (fun x => [.int x, .ref aLi]) ?_ (fun K71 => ?_)
      · rintro v6 H locs ls ⟨ev6, hP, hD, hS, hl⟩
        have ev6 : v6 = (if 0 ≤ ((to / 8) - (fr / 8)) then (to / 8) - (fr / 8) else -((to / 8) - (fr / 8))) := ev6
        have hP : va_P D vwCl [(aLi, .inr (2, [.int fr, .int to, .int v2, .int v4, .int L4, .int L5, .int L6]))] H := hP
        have hD : va_D A [(aLi, .inr (2, [.int fr, .int to, .int v2, .int v4, .int L4, .int L5, .int L6]))] := hD
        have hl : lv_has ls 5 [(4, .int ((to - to / 8 * 8) - (fr - fr / 8 * 8))), (0, .ref aLi)] := hl
        refine va_put (ci := 2) (v := .int v6) (ty := .int) (C := RX3) (T := TX3) (N := 7) hx hb hts iX3 tyX3 tyX3_ok nmX3 hown hK hP hD hS 0 rfl rfl 4 (by decide) f24 (fun _ h9 => h9) rfl (by decide +kernel) rfl rfl (Nat.le_of_ble_eq_true rfl) dX3_start_71 (fun H locs hP hD hS => ?_)
        have hP : va_P D vwCl [(aLi, .inr (2, [.int fr, .int to, .int v2, .int v4, .int v6, .int L5, .int L6]))] H := hP
        have hD : va_D A [(aLi, .inr (2, [.int fr, .int to, .int v2, .int v4, .int v6, .int L5, .int L6]))] := hD
        refine lv_aload_n hx hb dX3_start_74 rfl (lv_at hl 1 rfl) ?_
        refine lv_iload hx hb dX3_start_75 (lv_at hl 0 rfl) ?_
        refine cutW (X := Int32) 88 (fun x H locs ls => x = (if 0 ≤ ((to - to / 8 * 8) - (fr - fr / 8 * 8)) then (to - to / 8 * 8) - (fr - fr / 8 * 8) else -((to - to / 8 * 8) - (fr - fr / 8 * 8))) ∧ va_P D vwCl [(aLi, .inr (2, [.int fr, .int to, .int v2, .int v4, .int v6, .int L5, .int L6]))] H ∧ va_D A [(aLi, .inr (2, [.int fr, .int to, .int v2, .int v4, .int v6, .int L5, .int L6]))] ∧ va_S A s.heap H locs ∧ lv_has ls 5 [(0, .ref aLi)]) (fun x => [.int x, .ref aLi]) ?_ (fun K88 => ?_)
        · rintro v8 H locs ls ⟨ev8, hP, hD, hS, hl⟩
          have ev8 : v8 = (if 0 ≤ ((to - to / 8 * 8) - (fr - fr / 8 * 8)) then (to - to / 8 * 8) - (fr - fr / 8 * 8) else -((to - to / 8 * 8) - (fr - fr / 8 * 8))) := ev8
          have hP : va_P D vwCl [(aLi, .inr (2, [.int fr, .int to, .int v2, .int v4, .int v6, .int L5, .int L6]))] H := hP
          have hD : va_D A [(aLi, .inr (2, [.int fr, .int to, .int v2, .int v4, .int v6, .int L5, .int L6]))] := hD
          have hl : lv_has ls 5 [(0, .ref aLi)] := hl
          refine va_put (ci := 2) (v := .int v8) (ty := .int) (C := RX3) (T := TX3) (N := 7) hx hb hts iX3 tyX3 tyX3_ok nmX3 hown hK hP hD hS 0 rfl rfl 5 (by decide) f27 (fun _ h9 => h9) rfl (by decide +kernel) rfl rfl (Nat.le_of_ble_eq_true rfl) dX3_start_88 (fun H locs hP hD hS => ?_)
          have hP : va_P D vwCl [(aLi, .inr (2, [.int fr, .int to, .int v2, .int v4, .int v6, .int v8, .int L6]))] H := hP
          have hD : va_D A [(aLi, .inr (2, [.int fr, .int to, .int v2, .int v4, .int v6, .int v8, .int L6]))] := hD
          refine lv_aload_n hx hb dX3_start_91 rfl (lv_at hl 0 rfl) ?_
          refine lv_aload_n hx hb dX3_start_92 rfl (lv_at hl 0 rfl) ?_
          refine va_get (ci := 2) (v := .int v8) (C := RX3) (T := TX3) (N := 7) hx hb hts iX3 hown hK hP 0 rfl rfl 5 (by decide) f27 (fun _ h9 => h9) rfl dX3_start_93 ?_
          refine lv_aload_n hx hb dX3_start_96 rfl (lv_at hl 0 rfl) ?_
          refine va_get (ci := 2) (v := .int v6) (C := RX3) (T := TX3) (N := 7) hx hb hts iX3 hown hK hP 0 rfl rfl 4 (by decide) f24 (fun _ h9 => h9) rfl dX3_start_97 ?_
          refine lv_isub hx hb dX3_start_100 ?_
          refine va_put (ci := 2) (v := .int (v8 - v6)) (ty := .int) (C := RX3) (T := TX3) (N := 7) hx hb hts iX3 tyX3 tyX3_ok nmX3 hown hK hP hD hS 0 rfl rfl 6 (by decide) f30 (fun _ h9 => h9) rfl (by decide +kernel) rfl rfl (Nat.le_of_ble_eq_true rfl) dX3_start_101 (fun H locs hP hD hS => ?_)
          have hP : va_P D vwCl [(aLi, .inr (2, [.int fr, .int to, .int v2, .int v4, .int v6, .int v8, .int (v8 - v6)]))] H := hP
          have hD : va_D A [(aLi, .inr (2, [.int fr, .int to, .int v2, .int v4, .int v6, .int v8, .int (v8 - v6)]))] := hD
          have em : m_X3_start fr to = (fr, to, v2, v4, v6, v8, v8 - v6) := (by replace ev8 := Eq.symm ev8; subst ev8; replace ev6 := Eq.symm ev6; subst ev6; replace ev4 := Eq.symm ev4; subst ev4; replace ev2 := Eq.symm ev2; subst ev2; first | (simp only [m_X3_start]; done) | (unfold m_X3_start; rfl) | rfl)
          exact W.vret hx hb hr (fun t ht hW => ⟨⟨(), rfl, trivial, ⟨by rw [ht, em]; exact hP, by rw [em]; exact hD⟩⟩, hS.F ht⟩) hS.2.2 dX3_start_104
        · refine lv_if_ge (tgt := 86) hx hb dX3_start_77 (by decide) (fun c7 => ?_) (fun c7 => ?_)
          · refine lv_iload hx hb dX3_start_86 (lv_at hl 0 rfl) ?_
            exact K88 ((to - to / 8 * 8) - (fr - fr / 8 * 8)) H locs ls ⟨(by replace ev6 := Eq.symm ev6; subst ev6; replace ev4 := Eq.symm ev4; subst ev4; replace ev2 := Eq.symm ev2; subst ev2; first | (simp only [if_pos c7]; done) | (simp only [if_pos c7]; rfl) | rfl), hP, hD, hS, lv_sub hl [1] rfl⟩
          · refine lv_iload hx hb dX3_start_80 (lv_at hl 0 rfl) ?_
            refine lv_ineg hx hb dX3_start_82 ?_
            refine lv_goto (tgt := 88) hx hb dX3_start_83 (by decide) ?_
            exact K88 (-((to - to / 8 * 8) - (fr - fr / 8 * 8))) H locs ls ⟨(by replace ev6 := Eq.symm ev6; subst ev6; replace ev4 := Eq.symm ev4; subst ev4; replace ev2 := Eq.symm ev2; subst ev2; first | (simp only [if_neg c7]; done) | (simp only [if_neg c7]; rfl) | rfl), hP, hD, hS, lv_sub hl [1] rfl⟩
      · refine lv_if_ge (tgt := 70) hx hb dX3_start_62 (by decide) (fun c5 => ?_) (fun c5 => ?_)
        · refine lv_iload_n hx hb dX3_start_70 rfl (lv_at hl 1 rfl) ?_
          exact K71 ((to / 8) - (fr / 8)) H locs ls ⟨(by replace ev4 := Eq.symm ev4; subst ev4; replace ev2 := Eq.symm ev2; subst ev2; first | (simp only [if_pos c5]; done) | (simp only [if_pos c5]; rfl) | rfl), hP, hD, hS, lv_sub hl [0, 2] rfl⟩
        · refine lv_iload_n hx hb dX3_start_65 rfl (lv_at hl 1 rfl) ?_
          refine lv_ineg hx hb dX3_start_66 ?_
          refine lv_goto (tgt := 71) hx hb dX3_start_67 (by decide) ?_
          exact K71 (-((to / 8) - (fr / 8))) H locs ls ⟨(by replace ev4 := Eq.symm ev4; subst ev4; replace ev2 := Eq.symm ev2; subst ev2; first | (simp only [if_neg c5]; done) | (simp only [if_neg c5]; rfl) | rfl), hP, hD, hS, lv_sub hl [0, 2] rfl⟩
    · refine lv_if_ge (tgt := 56) hx hb dX3_start_49 (by decide) (fun c3 => ?_) (fun c3 => ?_)
      · refine lv_iconst (v := 1) hx hb dX3_start_56 (by decide) ?_
        exact K57 (1 : Int32) H locs ls ⟨(by replace ev2 := Eq.symm ev2; subst ev2; first | (simp only [if_pos c3]; done) | (simp only [if_pos c3]; rfl) | rfl), hP, hD, hS, lv_sub hl [0, 1, 2] rfl⟩
      · refine lv_iconst (v := (-1)) hx hb dX3_start_52 (by decide) ?_
        refine lv_goto (tgt := 57) hx hb dX3_start_53 (by decide) ?_
        exact K57 (-1 : Int32) H locs ls ⟨(by replace ev2 := Eq.symm ev2; subst ev2; first | (simp only [if_neg c3]; done) | (simp only [if_neg c3]; rfl) | rfl), hP, hD, hS, lv_sub hl [0, 1, 2] rfl⟩
  · refine lv_if_ge (tgt := 41) hx hb dX3_start_33 (by decide) (fun c1 => ?_) (fun c1 => ?_)
    · refine lv_bipush (v := 8) hx hb dX3_start_41 (by decide) ?_
      exact K43 (8 : Int32) H locs ls ⟨(by first | (simp only [if_pos c1]; done) | (simp only [if_pos c1]; rfl) | rfl), hP, hD, hS, lv_sub hl [0, 1, 2] rfl⟩
    · refine lv_bipush (v := (-8)) hx hb dX3_start_36 (by decide) ?_
      refine lv_goto (tgt := 43) hx hb dX3_start_38 (by decide) ?_
      exact K43 (-8 : Int32) H locs ls ⟨(by first | (simp only [if_neg c1]; done) | (simp only [if_neg c1]; rfl) | rfl), hP, hD, hS, lv_sub hl [0, 1, 2] rfl⟩
def m_X3_advance (L0 : Int32) (L2 : Int32) (L3 : Int32) (L4 : Int32) (L5 : Int32) (L6 : Int32) : Int32 × Int32 := (let v2 : Int32 := (if 0 < L6 then L0 else L0 + L2); (let v3 : Int32 := (if 0 < L6 then L6 else L6 + (2 * L5)); (if L6 < 0 then (v2, v3) else (v2 + L3, v3 - (2 * L4)))))
set_option maxHeartbeats 4000000 in
set_option maxRecDepth 100000 in
theorem met_X3_advance (l : Launch) (D : va_G) (y4 : vT) (aLi : Nat) (sz : Nat) (L0 : Int32) (L1 : Int32) (L2 : Int32) (L3 : Int32) (L4 : Int32) (L5 : Int32) (L6 : Int32) : Met l yX3_advance wsX3_advance ({ frames := 0, cells := 0, slots := 0, locals := 0 }) (va_Pc [.ref aLi] (PreW D y4 [(aLi, .inr (2, [.int L0, .int L1, .int L2, .int L3, .int L4, .int L5, .int L6]))] sz)) (va_Qv (fun (_ : Unit) => True) (fun _ t => PostW D (va_A [(aLi, .inr (2, [.int L0, .int L1, .int L2, .int L3, .int L4, .int L5, .int L6]))] sz) [(aLi, .inr (2, [.int ((m_X3_advance L0 L2 L3 L4 L5 L6).1), .int L1, .int L2, .int L3, .int L4, .int L5, .int ((m_X3_advance L0 L2 L3 L4 L5 L6).2)]))] t) (va_A [(aLi, .inr (2, [.int L0, .int L1, .int L2, .int L3, .int L4, .int L5, .int L6]))] sz)) 0 0 (va_A [(aLi, .inr (2, [.int L0, .int L1, .int L2, .int L3, .int L4, .int L5, .int L6]))] sz) := by
  refine Met.ofW (cc := cX3_advance) (maxL := 2) (ret := none) (by decide) rfl ?_
  intro p e s m args below meth c s₁ B hml hv
  obtain ⟨rfl, hsz, hP, hK, hD0, hNW⟩ := hv
  have hx := B.exec
  have hb := B.bytes
  have hr := B.returns
  have hts := atoms_spec (ws := wsX3_advance) B.pre
  have hown : s.vm.findClass RX3 = some m.cls := findClass_of_methodNamed B.named
  have hlocks := B.notSynchronized
  subst hsz
  have hD := hD0.self (sz := s.heap.size)
  generalize hAe : va_A [(aLi, .inr (2, [.int L0, .int L1, .int L2, .int L3, .int L4, .int L5, .int L6]))] s.heap.size = A at hD ⊢
  have hA : ∀ q : Nat, s.heap.size ≤ q → A q := fun q h => by rw [← hAe]; exact Or.inr h
  have hS : va_S A s.heap s.heap [] := va_S.rf
  have hl := lv_entry ([.ref aLi]) (n := 2) (Nat.le_of_ble_eq_true rfl)
  rw [lg_entry_eq]
  generalize (lg_sl ([.ref aLi]) ++ List.replicate (2 - (lg_sl ([.ref aLi])).length) Slot.unset).toArray = ls at hl ⊢
  have hl : lv_has ls 2 [(0, .ref aLi)] := hl
  have f30 := hts (.fieldLink RX3 30 "PillarLight$Line" "lead" "I") (List.mem_of_getElem? (i := 1) rfl)
  have iX3 : ∀ w ∈ wsX30, w ∈ wsX3_advance := fun _ h => List.mem_cons_of_mem _ (List.mem_append_right _ h)
  have f9 := hts (.fieldLink RX3 9 "PillarLight$Line" "cell" "I") (List.mem_of_getElem? (i := 2) rfl)
  have f18 := hts (.fieldLink RX3 18 "PillarLight$Line" "rowStep" "I") (List.mem_of_getElem? (i := 3) rfl)
  have f27 := hts (.fieldLink RX3 27 "PillarLight$Line" "columns" "I") (List.mem_of_getElem? (i := 4) rfl)
  have f21 := hts (.fieldLink RX3 21 "PillarLight$Line" "columnStep" "I") (List.mem_of_getElem? (i := 5) rfl)
  have f24 := hts (.fieldLink RX3 24 "PillarLight$Line" "rows" "I") (List.mem_of_getElem? (i := 6) rfl)
  refine startW (fun H locs hP hS => ?_) hP hS
  refine lv_aload_n hx hb dX3_advance_0 rfl (lv_at hl 0 rfl) ?_
  refine va_get (ci := 2) (v := .int L6) (C := RX3) (T := TX3) (N := 7) hx hb hts iX3 hown hK hP 0 rfl rfl 6 (by decide) f30 (fun _ h9 => h9) rfl dX3_advance_1 ?_
  refine lv_istore_n (lv' := [(1, .int L6), (0, .ref aLi)]) hx hb dX3_advance_4 rfl hl (by decide) rfl (fun ls hl => ?_)
  refine lv_iload_n hx hb dX3_advance_5 rfl (lv_at hl 0 rfl) ?_
  refine cutW (X := Int32 × Int32) 37 (fun x H locs ls => x.1 = (if 0 < L6 then L0 else L0 + L2) ∧ x.2 = (if 0 < L6 then L6 else L6 + (2 * L5)) ∧ va_P D vwCl [(aLi, .inr (2, [.int x.1, .int L1, .int L2, .int L3, .int L4, .int L5, .int x.2]))] H ∧ va_D A [(aLi, .inr (2, [.int x.1, .int L1, .int L2, .int L3, .int L4, .int L5, .int x.2]))] ∧ va_S A s.heap H locs ∧ lv_has ls 2 [(1, .int L6), (0, .ref aLi)]) (fun x => []) ?_ (fun K37 => ?_)
  · rintro ⟨v2, v3⟩ H locs ls ⟨ev2, ev3, hP, hD, hS, hl⟩
    have ev2 : v2 = (if 0 < L6 then L0 else L0 + L2) := ev2
    have ev3 : v3 = (if 0 < L6 then L6 else L6 + (2 * L5)) := ev3
    have hP : va_P D vwCl [(aLi, .inr (2, [.int v2, .int L1, .int L2, .int L3, .int L4, .int L5, .int v3]))] H := hP
    have hD : va_D A [(aLi, .inr (2, [.int v2, .int L1, .int L2, .int L3, .int L4, .int L5, .int v3]))] := hD
    have hl : lv_has ls 2 [(1, .int L6), (0, .ref aLi)] := hl
    refine lv_iload_n hx hb dX3_advance_37 rfl (lv_at hl 0 rfl) ?_
    refine lv_if_lt (tgt := 69) hx hb dX3_advance_38 (by decide) (fun c4 => ?_) (fun c4 => ?_)
    · have em : m_X3_advance L0 L2 L3 L4 L5 L6 = (v2, v3) := (by replace ev3 := Eq.symm ev3; subst ev3; replace ev2 := Eq.symm ev2; subst ev2; first | (simp only [m_X3_advance, if_pos c4]; done) | (simp only [m_X3_advance, if_pos c4]; rfl))
      exact W.vret hx hb hr (fun t ht hW => ⟨⟨(), rfl, trivial, ⟨by rw [ht, em]; exact hP, by rw [em]; exact hD⟩⟩, hS.F ht⟩) hS.2.2 dX3_advance_69
    · refine lv_aload_n hx hb dX3_advance_41 rfl (lv_at hl 1 rfl) ?_
      refine lv_dup hx hb dX3_advance_42 rfl ?_
      refine va_get (ci := 2) (v := .int v2) (C := RX3) (T := TX3) (N := 7) hx hb hts iX3 hown hK hP 0 rfl rfl 0 (by decide) f9 (fun _ h9 => h9) rfl dX3_advance_43 ?_
      refine lv_aload_n hx hb dX3_advance_46 rfl (lv_at hl 1 rfl) ?_
      refine va_get (ci := 2) (v := .int L3) (C := RX3) (T := TX3) (N := 7) hx hb hts iX3 hown hK hP 0 rfl rfl 3 (by decide) f21 (fun _ h9 => h9) rfl dX3_advance_47 ?_
      refine lv_iadd hx hb dX3_advance_50 ?_
      refine va_put (ci := 2) (v := .int (v2 + L3)) (ty := .int) (C := RX3) (T := TX3) (N := 7) hx hb hts iX3 tyX3 tyX3_ok nmX3 hown hK hP hD hS 0 rfl rfl 0 (by decide) f9 (fun _ h9 => h9) rfl (by decide +kernel) rfl rfl (Nat.le_of_ble_eq_true rfl) dX3_advance_51 (fun H locs hP hD hS => ?_)
      have hP : va_P D vwCl [(aLi, .inr (2, [.int (v2 + L3), .int L1, .int L2, .int L3, .int L4, .int L5, .int v3]))] H := hP
      have hD : va_D A [(aLi, .inr (2, [.int (v2 + L3), .int L1, .int L2, .int L3, .int L4, .int L5, .int v3]))] := hD
      refine lv_aload_n hx hb dX3_advance_54 rfl (lv_at hl 1 rfl) ?_
      refine lv_dup hx hb dX3_advance_55 rfl ?_
      refine va_get (ci := 2) (v := .int v3) (C := RX3) (T := TX3) (N := 7) hx hb hts iX3 hown hK hP 0 rfl rfl 6 (by decide) f30 (fun _ h9 => h9) rfl dX3_advance_56 ?_
      refine lv_iconst (v := 2) hx hb dX3_advance_59 (by decide) ?_
      refine lv_aload_n hx hb dX3_advance_60 rfl (lv_at hl 1 rfl) ?_
      refine va_get (ci := 2) (v := .int L4) (C := RX3) (T := TX3) (N := 7) hx hb hts iX3 hown hK hP 0 rfl rfl 4 (by decide) f24 (fun _ h9 => h9) rfl dX3_advance_61 ?_
      refine lv_imul hx hb dX3_advance_64 ?_
      refine lv_isub hx hb dX3_advance_65 ?_
      refine va_put (ci := 2) (v := .int (v3 - (2 * L4))) (ty := .int) (C := RX3) (T := TX3) (N := 7) hx hb hts iX3 tyX3 tyX3_ok nmX3 hown hK hP hD hS 0 rfl rfl 6 (by decide) f30 (fun _ h9 => h9) rfl (by decide +kernel) rfl rfl (Nat.le_of_ble_eq_true rfl) dX3_advance_66 (fun H locs hP hD hS => ?_)
      have hP : va_P D vwCl [(aLi, .inr (2, [.int (v2 + L3), .int L1, .int L2, .int L3, .int L4, .int L5, .int (v3 - (2 * L4))]))] H := hP
      have hD : va_D A [(aLi, .inr (2, [.int (v2 + L3), .int L1, .int L2, .int L3, .int L4, .int L5, .int (v3 - (2 * L4))]))] := hD
      have em : m_X3_advance L0 L2 L3 L4 L5 L6 = (v2 + L3, v3 - (2 * L4)) := (by replace ev3 := Eq.symm ev3; subst ev3; replace ev2 := Eq.symm ev2; subst ev2; first | (simp only [m_X3_advance, if_neg c4]; done) | (simp only [m_X3_advance, if_neg c4]; rfl))
      exact W.vret hx hb hr (fun t ht hW => ⟨⟨(), rfl, trivial, ⟨by rw [ht, em]; exact hP, by rw [em]; exact hD⟩⟩, hS.F ht⟩) hS.2.2 dX3_advance_69
  · refine lv_if_gt (tgt := 37) hx hb dX3_advance_6 (by decide) (fun c1 => ?_) (fun c1 => ?_)
    · exact K37 (L0, L6) H locs ls ⟨(by first | (simp only [if_pos c1]; done) | (simp only [if_pos c1]; rfl) | rfl), (by first | (simp only [if_pos c1]; done) | (simp only [if_pos c1]; rfl) | rfl), hP, hD, hS, lv_sub hl [0, 1] rfl⟩
    · refine lv_aload_n hx hb dX3_advance_9 rfl (lv_at hl 1 rfl) ?_
      refine lv_dup hx hb dX3_advance_10 rfl ?_
      refine va_get (ci := 2) (v := .int L0) (C := RX3) (T := TX3) (N := 7) hx hb hts iX3 hown hK hP 0 rfl rfl 0 (by decide) f9 (fun _ h9 => h9) rfl dX3_advance_11 ?_
      refine lv_aload_n hx hb dX3_advance_14 rfl (lv_at hl 1 rfl) ?_
      refine va_get (ci := 2) (v := .int L2) (C := RX3) (T := TX3) (N := 7) hx hb hts iX3 hown hK hP 0 rfl rfl 2 (by decide) f18 (fun _ h9 => h9) rfl dX3_advance_15 ?_
      refine lv_iadd hx hb dX3_advance_18 ?_
      refine va_put (ci := 2) (v := .int (L0 + L2)) (ty := .int) (C := RX3) (T := TX3) (N := 7) hx hb hts iX3 tyX3 tyX3_ok nmX3 hown hK hP hD hS 0 rfl rfl 0 (by decide) f9 (fun _ h9 => h9) rfl (by decide +kernel) rfl rfl (Nat.le_of_ble_eq_true rfl) dX3_advance_19 (fun H locs hP hD hS => ?_)
      have hP : va_P D vwCl [(aLi, .inr (2, [.int (L0 + L2), .int L1, .int L2, .int L3, .int L4, .int L5, .int L6]))] H := hP
      have hD : va_D A [(aLi, .inr (2, [.int (L0 + L2), .int L1, .int L2, .int L3, .int L4, .int L5, .int L6]))] := hD
      refine lv_aload_n hx hb dX3_advance_22 rfl (lv_at hl 1 rfl) ?_
      refine lv_dup hx hb dX3_advance_23 rfl ?_
      refine va_get (ci := 2) (v := .int L6) (C := RX3) (T := TX3) (N := 7) hx hb hts iX3 hown hK hP 0 rfl rfl 6 (by decide) f30 (fun _ h9 => h9) rfl dX3_advance_24 ?_
      refine lv_iconst (v := 2) hx hb dX3_advance_27 (by decide) ?_
      refine lv_aload_n hx hb dX3_advance_28 rfl (lv_at hl 1 rfl) ?_
      refine va_get (ci := 2) (v := .int L5) (C := RX3) (T := TX3) (N := 7) hx hb hts iX3 hown hK hP 0 rfl rfl 5 (by decide) f27 (fun _ h9 => h9) rfl dX3_advance_29 ?_
      refine lv_imul hx hb dX3_advance_32 ?_
      refine lv_iadd hx hb dX3_advance_33 ?_
      refine va_put (ci := 2) (v := .int (L6 + (2 * L5))) (ty := .int) (C := RX3) (T := TX3) (N := 7) hx hb hts iX3 tyX3 tyX3_ok nmX3 hown hK hP hD hS 0 rfl rfl 6 (by decide) f30 (fun _ h9 => h9) rfl (by decide +kernel) rfl rfl (Nat.le_of_ble_eq_true rfl) dX3_advance_34 (fun H locs hP hD hS => ?_)
      have hP : va_P D vwCl [(aLi, .inr (2, [.int (L0 + L2), .int L1, .int L2, .int L3, .int L4, .int L5, .int (L6 + (2 * L5))]))] H := hP
      have hD : va_D A [(aLi, .inr (2, [.int (L0 + L2), .int L1, .int L2, .int L3, .int L4, .int L5, .int (L6 + (2 * L5))]))] := hD
      exact K37 (L0 + L2, L6 + (2 * L5)) H locs ls ⟨(by first | (simp only [if_neg c1]; done) | (simp only [if_neg c1]; rfl) | rfl), (by first | (simp only [if_neg c1]; done) | (simp only [if_neg c1]; rfl) | rfl), hP, hD, hS, lv_sub hl [0, 1] rfl⟩
def m_X3_isStopped (K : Nat → Int32) (x : Int32) : Bool := (if x < 0 then false else (if 64 ≤ x then false else (if (K (x).toNatClampNeg) = 1 then true else (if (K (x).toNatClampNeg) = 3 then true else false))))
set_option maxHeartbeats 4000000 in
set_option maxRecDepth 100000 in
theorem met_X3_isStopped (l : Launch) (D : va_G) (y4 : vT) (aK : Nat) (sz : Nat) (K : Nat → Int32) (x : Int32) : Met l yX3_isStopped wsX3_isStopped ({ frames := 0, cells := 0, slots := 0, locals := 0 }) (va_Pc [.ref aK, .int x] (PreW D y4 [(aK, .inl (y4.1, 64, .inl K))] sz)) (va_Qi (fun (r : Int32) (_ : Unit) => r = bI (m_X3_isStopped K x)) (fun _ t => PostW D (va_A [(aK, .inl (y4.1, 64, .inl K))] sz) [(aK, .inl (y4.1, 64, .inl K))] t) (va_A [(aK, .inl (y4.1, 64, .inl K))] sz)) 0 0 (va_A [(aK, .inl (y4.1, 64, .inl K))] sz) := by
  refine Met.ofW (cc := cX3_isStopped) (maxL := 2) (ret := (some .boolean)) (by decide) rfl ?_
  intro p e s m args below meth c s₁ B hml hv
  obtain ⟨rfl, hsz, hP, hK, hD0, hNW⟩ := hv
  have hx := B.exec
  have hb := B.bytes
  have hr := B.returns
  have hts := atoms_spec (ws := wsX3_isStopped) B.pre
  have hown : s.vm.findClass RX3 = some m.cls := findClass_of_methodNamed B.named
  have hlocks := B.notSynchronized
  subst hsz
  have hD := hD0.self (sz := s.heap.size)
  generalize hAe : va_A [(aK, .inl (y4.1, 64, .inl K))] s.heap.size = A at hD ⊢
  have hA : ∀ q : Nat, s.heap.size ≤ q → A q := fun q h => by rw [← hAe]; exact Or.inr h
  have hS : va_S A s.heap s.heap [] := va_S.rf
  have hl := lv_entry ([.ref aK, .int x]) (n := 2) (Nat.le_of_ble_eq_true rfl)
  rw [lg_entry_eq]
  generalize (lg_sl ([.ref aK, .int x]) ++ List.replicate (2 - (lg_sl ([.ref aK, .int x])).length) Slot.unset).toArray = ls at hl ⊢
  have hl : lv_has ls 2 [(0, .ref aK), (1, .int x)] := hl
  refine startW (fun H locs hP hS => ?_) hP hS
  refine lv_iload_n hx hb dX3_isStopped_0 rfl (lv_at hl 1 rfl) ?_
  refine lv_if_lt (tgt := 28) hx hb dX3_isStopped_1 (by decide) (fun c1 => ?_) (fun c1 => ?_)
  · refine lv_iconst (v := 0) hx hb dX3_isStopped_28 (by decide) ?_
    have em : m_X3_isStopped K x = false := (by first | (simp only [m_X3_isStopped, if_pos c1]; done) | (simp only [m_X3_isStopped, if_pos c1]; rfl))
    exact W.zret (v := 0) hx hb hr rfl (fun t ht hW => ⟨⟨0, (), rfl, (by rw [em]; rfl), ⟨by rw [ht]; exact hP, by exact hD⟩⟩, hS.F ht⟩) hS.2.2 dX3_isStopped_29
  · refine lv_iload_n hx hb dX3_isStopped_4 rfl (lv_at hl 1 rfl) ?_
    refine lv_bipush (v := 64) hx hb dX3_isStopped_5 (by decide) ?_
    refine lv_icmp_ge (tgt := 28) hx hb dX3_isStopped_7 (by decide) (fun c2 => ?_) (fun c2 => ?_)
    · refine lv_iconst (v := 0) hx hb dX3_isStopped_28 (by decide) ?_
      have em : m_X3_isStopped K x = false := (by first | (simp only [m_X3_isStopped, if_neg c1, if_pos c2]; done) | (simp only [m_X3_isStopped, if_neg c1, if_pos c2]; rfl))
      exact W.zret (v := 0) hx hb hr rfl (fun t ht hW => ⟨⟨0, (), rfl, (by rw [em]; rfl), ⟨by rw [ht]; exact hP, by exact hD⟩⟩, hS.F ht⟩) hS.2.2 dX3_isStopped_29
    · refine lv_aload_n hx hb dX3_isStopped_10 rfl (lv_at hl 0 rfl) ?_
      refine lv_iload_n hx hb dX3_isStopped_11 rfl (lv_at hl 1 rfl) ?_
      refine va_iald hx hb hK hP 0 0 rfl rfl (by first | assumption | exact vp_in_cmp (by assumption) (by assumption) (by decide)) dX3_isStopped_12 ?_
      refine lv_iconst (v := 1) hx hb dX3_isStopped_13 (by decide) ?_
      refine lv_icmp_eq (tgt := 24) hx hb dX3_isStopped_14 (by decide) (fun c3 => ?_) (fun c3 => ?_)
      · refine lv_iconst (v := 1) hx hb dX3_isStopped_24 (by decide) ?_
        refine lv_goto (tgt := 29) hx hb dX3_isStopped_25 (by decide) ?_
        have em : m_X3_isStopped K x = true := (by first | (simp only [m_X3_isStopped, if_neg c1, if_neg c2, if_pos c3]; done) | (simp only [m_X3_isStopped, if_neg c1, if_neg c2, if_pos c3]; rfl))
        exact W.zret (v := 1) hx hb hr rfl (fun t ht hW => ⟨⟨1, (), rfl, (by rw [em]; rfl), ⟨by rw [ht]; exact hP, by exact hD⟩⟩, hS.F ht⟩) hS.2.2 dX3_isStopped_29
      · refine lv_aload_n hx hb dX3_isStopped_17 rfl (lv_at hl 0 rfl) ?_
        refine lv_iload_n hx hb dX3_isStopped_18 rfl (lv_at hl 1 rfl) ?_
        refine va_iald hx hb hK hP 0 0 rfl rfl (by first | assumption | exact vp_in_cmp (by assumption) (by assumption) (by decide)) dX3_isStopped_19 ?_
        refine lv_iconst (v := 3) hx hb dX3_isStopped_20 (by decide) ?_
        refine lv_icmp_ne (tgt := 28) hx hb dX3_isStopped_21 (by decide) (fun c4 => ?_) (fun c4 => ?_)
        · refine lv_iconst (v := 0) hx hb dX3_isStopped_28 (by decide) ?_
          have em : m_X3_isStopped K x = false := (by first | (simp only [m_X3_isStopped, if_neg c1, if_neg c2, if_neg c3, if_neg c4]; done) | (simp only [m_X3_isStopped, if_neg c1, if_neg c2, if_neg c3, if_neg c4]; rfl))
          exact W.zret (v := 0) hx hb hr rfl (fun t ht hW => ⟨⟨0, (), rfl, (by rw [em]; rfl), ⟨by rw [ht]; exact hP, by exact hD⟩⟩, hS.F ht⟩) hS.2.2 dX3_isStopped_29
        · refine lv_iconst (v := 1) hx hb dX3_isStopped_24 (by decide) ?_
          refine lv_goto (tgt := 29) hx hb dX3_isStopped_25 (by decide) ?_
          have em : m_X3_isStopped K x = true := (by first | (simp only [m_X3_isStopped, if_neg c1, if_neg c2, if_neg c3, if_pos c4]; done) | (simp only [m_X3_isStopped, if_neg c1, if_neg c2, if_neg c3, if_pos c4]; rfl))
          exact W.zret (v := 1) hx hb hr rfl (fun t ht hW => ⟨⟨1, (), rfl, (by rw [em]; rfl), ⟨by rw [ht]; exact hP, by exact hD⟩⟩, hS.F ht⟩) hS.2.2 dX3_isStopped_29
def f_X3_isFreeAlong_9 (K : Nat → Int32) (q1 : Int32 × Int32 × Int32 × Int32 × Int32 × Int32 × Int32) (k3 : Nat) (t4 : Int32 × Int32) : (Bool ⊕ (Int32 × Int32)) ⊕ (Int32 × Int32) := (if t4.1 = q1.2.1 then (.inl (.inr (t4.1, t4.2))) else (if t4.2 = 0 then (if (m_X3_isStopped K (t4.1 + q1.2.2.1)) = false then (let q37 : Int32 × Int32 := m_X3_advance t4.1 q1.2.2.1 q1.2.2.2.1 q1.2.2.2.2.1 q1.2.2.2.2.2.1 t4.2; (if q37.1 = q1.2.1 then (.inr (q37.1, q37.2)) else (if (m_X3_isStopped K q37.1) = false then (.inr (q37.1, q37.2)) else (.inl (.inl false))))) else (if (m_X3_isStopped K (t4.1 + q1.2.2.2.1)) = false then (let q44 : Int32 × Int32 := m_X3_advance t4.1 q1.2.2.1 q1.2.2.2.1 q1.2.2.2.2.1 q1.2.2.2.2.2.1 t4.2; (if q44.1 = q1.2.1 then (.inr (q44.1, q44.2)) else (if (m_X3_isStopped K q44.1) = false then (.inr (q44.1, q44.2)) else (.inl (.inl false))))) else (.inl (.inl false)))) else (let q30 : Int32 × Int32 := m_X3_advance t4.1 q1.2.2.1 q1.2.2.2.1 q1.2.2.2.2.1 q1.2.2.2.2.2.1 t4.2; (if q30.1 = q1.2.1 then (.inr (q30.1, q30.2)) else (if (m_X3_isStopped K q30.1) = false then (.inr (q30.1, q30.2)) else (.inl (.inl false)))))))
def m_X3_isFreeAlong (K : Nat → Int32) (fr : Int32) (to : Int32) : Bool := (let q1 : Int32 × Int32 × Int32 × Int32 × Int32 × Int32 × Int32 := m_X3_start fr to; (lpr (lpx (f_X3_isFreeAlong_9 K q1) 16 0 (q1.1, q1.2.2.2.2.2.2)) id (fun t51 => true)))
set_option maxHeartbeats 4000000 in
set_option maxRecDepth 100000 in
theorem met_X3_isFreeAlong (l : Launch) (D : va_G) (y4 : vT) (aLi aK : Nat) (sz : Nat) (L0 : Int32) (L1 : Int32) (L2 : Int32) (L3 : Int32) (L4 : Int32) (L5 : Int32) (L6 : Int32) (K : Nat → Int32) (fr : Int32) (to : Int32) : Met l yX3_isFreeAlong wsX3_isFreeAlong ({ frames := 1, cells := 0, slots := 0, locals := 24 }) (va_Pc [.ref aLi, .ref aK, .int fr, .int to] (PreW D y4 [(aLi, .inr (2, [.int L0, .int L1, .int L2, .int L3, .int L4, .int L5, .int L6])), (aK, .inl (y4.1, 64, .inl K))] sz)) (va_Qi (fun (r : Int32) (_ : Int32 × Int32 × Int32 × Int32 × Int32 × Int32 × Int32) => r = bI (m_X3_isFreeAlong K fr to)) (fun u t => PostW D (va_A [(aLi, .inr (2, [.int L0, .int L1, .int L2, .int L3, .int L4, .int L5, .int L6])), (aK, .inl (y4.1, 64, .inl K))] sz) [(aLi, .inr (2, [.int u.1, .int u.2.1, .int u.2.2.1, .int u.2.2.2.1, .int u.2.2.2.2.1, .int u.2.2.2.2.2.1, .int u.2.2.2.2.2.2])), (aK, .inl (y4.1, 64, .inl K))] t) (va_A [(aLi, .inr (2, [.int L0, .int L1, .int L2, .int L3, .int L4, .int L5, .int L6])), (aK, .inl (y4.1, 64, .inl K))] sz)) 0 0 (va_A [(aLi, .inr (2, [.int L0, .int L1, .int L2, .int L3, .int L4, .int L5, .int L6])), (aK, .inl (y4.1, 64, .inl K))] sz) := by
  refine Met.ofW (cc := cX3_isFreeAlong) (maxL := 5) (ret := (some .boolean)) (by decide) rfl ?_
  intro p e s m args below meth c s₁ B hml hv
  obtain ⟨rfl, hsz, hP, hK, hD0, hNW⟩ := hv
  have hx := B.exec
  have hb := B.bytes
  have hr := B.returns
  have hts := atoms_spec (ws := wsX3_isFreeAlong) B.pre
  have hown : s.vm.findClass RX3 = some m.cls := findClass_of_methodNamed B.named
  have hlocks := B.notSynchronized
  subst hsz
  have hD := hD0.self (sz := s.heap.size)
  generalize hAe : va_A [(aLi, .inr (2, [.int L0, .int L1, .int L2, .int L3, .int L4, .int L5, .int L6])), (aK, .inl (y4.1, 64, .inl K))] s.heap.size = A at hD ⊢
  have hA : ∀ q : Nat, s.heap.size ≤ q → A q := fun q h => by rw [← hAe]; exact Or.inr h
  have hS : va_S A s.heap s.heap [] := va_S.rf
  have hl := lv_entry ([.ref aLi, .ref aK, .int fr, .int to]) (n := 5) (Nat.le_of_ble_eq_true rfl)
  rw [lg_entry_eq]
  generalize (lg_sl ([.ref aLi, .ref aK, .int fr, .int to]) ++ List.replicate (5 - (lg_sl ([.ref aLi, .ref aK, .int fr, .int to])).length) Slot.unset).toArray = ls at hl ⊢
  have hl : lv_has ls 5 [(0, .ref aLi), (1, .ref aK), (2, .int fr), (3, .int to)] := hl
  have f9 := hts (.fieldLink RX3 9 "PillarLight$Line" "cell" "I") (List.mem_of_getElem? (i := 1) rfl)
  have iX3 : ∀ w ∈ wsX30, w ∈ wsX3_isFreeAlong := fun _ h => List.mem_cons_of_mem _ (List.mem_append_right _ h)
  have f15 := hts (.fieldLink RX3 15 "PillarLight$Line" "goal" "I") (List.mem_of_getElem? (i := 2) rfl)
  have f30 := hts (.fieldLink RX3 30 "PillarLight$Line" "lead" "I") (List.mem_of_getElem? (i := 3) rfl)
  have f18 := hts (.fieldLink RX3 18 "PillarLight$Line" "rowStep" "I") (List.mem_of_getElem? (i := 4) rfl)
  have f21 := hts (.fieldLink RX3 21 "PillarLight$Line" "columnStep" "I") (List.mem_of_getElem? (i := 5) rfl)
  refine startW (fun H locs hP hS => ?_) hP hS
  refine lv_aload_n hx hb dX3_isFreeAlong_0 rfl (lv_at hl 0 rfl) ?_
  refine lv_iload_n hx hb dX3_isFreeAlong_1 rfl (lv_at hl 2 rfl) ?_
  refine lv_iload_n hx hb dX3_isFreeAlong_2 rfl (lv_at hl 3 rfl) ?_
  refine callW_v (wr := [(aK, .inl (y4.1, 64, .inl K))]) (wn := fun u => [(aLi, .inr (2, [.int ((m_X3_start fr to).1), .int ((m_X3_start fr to).2.1), .int ((m_X3_start fr to).2.2.1), .int ((m_X3_start fr to).2.2.2.1), .int ((m_X3_start fr to).2.2.2.2.1), .int ((m_X3_start fr to).2.2.2.2.2.1), .int ((m_X3_start fr to).2.2.2.2.2.2)])), (aK, .inl (y4.1, 64, .inl K))]) (va_runV (As := [.int fr, .int to]) (rest := []) ⟨hx, hb, hml, hown, hts⟩ (met_X3_start l D y4 aLi H.size L0 L1 L2 L3 L4 L5 L6 fr to) (cwV 2 hts gX3_isFreeAlong_X3_start rfl rfl rfl (by decide +kernel) ⟨Nat.le_of_ble_eq_true rfl, Nat.le_of_ble_eq_true rfl⟩) ⟨preW_blind, va_recv hK hP (ci := 2) (q0 := 0) rfl rfl, preW_at (hP.sub (ws' := [(aLi, .inr (2, [.int L0, .int L1, .int L2, .int L3, .int L4, .int L5, .int L6]))]) [0] rfl) hK (hD.sub (ws' := [(aLi, .inr (2, [.int L0, .int L1, .int L2, .int L3, .int L4, .int L5, .int L6]))]) [0] (by decide) rfl) hNW⟩ rfl rfl hl.1 rfl (lv_room (Nat.le_of_ble_eq_true rfl)) dX3_isFreeAlong_3 ⟨Nat.zero_le _, Nat.zero_le _⟩) hP hD hS hA [0] [1] [1, 0] rfl rfl (by decide) (by decide) (fun _ => rfl) (by decide) (fun u2 H locs hw hP hD hS => ?_)
  obtain ⟨q1, eq1⟩ : ∃ z, z = m_X3_start fr to := ⟨_, rfl⟩
  rw [← eq1] at hP hD
  have hP : va_P D vwCl [(aLi, .inr (2, [.int q1.1, .int q1.2.1, .int q1.2.2.1, .int q1.2.2.2.1, .int q1.2.2.2.2.1, .int q1.2.2.2.2.2.1, .int q1.2.2.2.2.2.2])), (aK, .inl (y4.1, 64, .inl K))] H := hP
  have hD : va_D A [(aLi, .inr (2, [.int q1.1, .int q1.2.1, .int q1.2.2.1, .int q1.2.2.2.1, .int q1.2.2.2.2.1, .int q1.2.2.2.2.2.1, .int q1.2.2.2.2.2.2])), (aK, .inl (y4.1, 64, .inl K))] := hD
  refine lv_iconst (v := 0) hx hb dX3_isFreeAlong_6 (by decide) ?_
  refine lv_istore (lv' := [(4, .int 0), (0, .ref aLi), (1, .ref aK), (2, .int fr), (3, .int to)]) hx hb dX3_isFreeAlong_7 hl (by decide) rfl (fun ls hl => ?_)
  refine cutW (X := Int32 × Int32) 102 (fun x H locs ls => ((lpx (f_X3_isFreeAlong_9 K q1) 16 0 (q1.1, q1.2.2.2.2.2.2)) = .inl (.inr x) ∨ (lpx (f_X3_isFreeAlong_9 K q1) 16 0 (q1.1, q1.2.2.2.2.2.2)) = .inr x) ∧ va_P D vwCl [(aLi, .inr (2, [.int x.1, .int q1.2.1, .int q1.2.2.1, .int q1.2.2.2.1, .int q1.2.2.2.2.1, .int q1.2.2.2.2.2.1, .int x.2])), (aK, .inl (y4.1, 64, .inl K))] H ∧ va_D A [(aLi, .inr (2, [.int x.1, .int q1.2.1, .int q1.2.2.1, .int q1.2.2.2.1, .int q1.2.2.2.2.1, .int q1.2.2.2.2.2.1, .int x.2])), (aK, .inl (y4.1, 64, .inl K))] ∧ va_S A s.heap H locs ∧ lv_has ls 5 []) (fun x => []) ?_ (fun K102 => ?_)
  · rintro t51 H locs ls ⟨et51, hP, hD, hS, hl⟩
    have hP : va_P D vwCl [(aLi, .inr (2, [.int t51.1, .int q1.2.1, .int q1.2.2.1, .int q1.2.2.2.1, .int q1.2.2.2.2.1, .int q1.2.2.2.2.2.1, .int t51.2])), (aK, .inl (y4.1, 64, .inl K))] H := hP
    have hD : va_D A [(aLi, .inr (2, [.int t51.1, .int q1.2.1, .int q1.2.2.1, .int q1.2.2.2.1, .int q1.2.2.2.2.1, .int q1.2.2.2.2.2.1, .int t51.2])), (aK, .inl (y4.1, 64, .inl K))] := hD
    have hl : lv_has ls 5 [] := hl
    refine lv_iconst (v := 1) hx hb dX3_isFreeAlong_102 (by decide) ?_
    have em : m_X3_isFreeAlong K fr to = true := (by replace eq1 := Eq.symm eq1; subst eq1; first | (simp only [m_X3_isFreeAlong, lpr_k et51]; done) | (simp only [m_X3_isFreeAlong, lpr_k et51]; rfl))
    exact W.zret (v := 1) hx hb hr rfl (fun t ht hW => ⟨⟨1, (t51.1, q1.2.1, q1.2.2.1, q1.2.2.2.1, q1.2.2.2.2.1, q1.2.2.2.2.2.1, t51.2), rfl, (by rw [em]; rfl), ⟨by rw [ht]; exact hP, by exact hD⟩⟩, hS.F ht⟩) hS.2.2 dX3_isFreeAlong_103
  · refine loopX (σ := Int32 × Int32) (ρ := Bool ⊕ (Int32 × Int32)) 9 (f_X3_isFreeAlong_9 K q1) (fun _ _ => True) 16 0 (q1.1, q1.2.2.2.2.2.2) (fun k3 t4 H locs ls => va_P D vwCl [(aLi, .inr (2, [.int t4.1, .int q1.2.1, .int q1.2.2.1, .int q1.2.2.2.1, .int q1.2.2.2.2.1, .int q1.2.2.2.2.2.1, .int t4.2])), (aK, .inl (y4.1, 64, .inl K))] H ∧ va_D A [(aLi, .inr (2, [.int t4.1, .int q1.2.1, .int q1.2.2.1, .int q1.2.2.2.1, .int q1.2.2.2.2.1, .int q1.2.2.2.2.2.1, .int t4.2])), (aK, .inl (y4.1, 64, .inl K))] ∧ va_S A s.heap H locs ∧ lv_has ls 5 [(4, .int (nI k3)), (0, .ref aLi), (1, .ref aK)]) trivial ⟨hP, hD, hS, lv_sub hl [0, 1, 2] rfl⟩ (fun t49 H locs ls et49 hit49 hh => ?_) (fun k3 t4 hkk3 hjk3 hik3 hretk3 ihk3 H locs ls hh => ?_)
    · obtain ⟨hP, hD, hS, hl⟩ := hh
      have hP : va_P D vwCl [(aLi, .inr (2, [.int t49.1, .int q1.2.1, .int q1.2.2.1, .int q1.2.2.2.1, .int q1.2.2.2.2.1, .int q1.2.2.2.2.2.1, .int t49.2])), (aK, .inl (y4.1, 64, .inl K))] H := hP
      have hD : va_D A [(aLi, .inr (2, [.int t49.1, .int q1.2.1, .int q1.2.2.1, .int q1.2.2.2.1, .int q1.2.2.2.2.1, .int q1.2.2.2.2.2.1, .int t49.2])), (aK, .inl (y4.1, 64, .inl K))] := hD
      have hl : lv_has ls 5 [(4, .int (nI 16)), (0, .ref aLi), (1, .ref aK)] := hl
      refine lv_iload hx hb dX3_isFreeAlong_9 (lv_at hl 0 rfl) ?_
      refine lv_bipush (v := 16) hx hb dX3_isFreeAlong_11 (by decide) ?_
      refine lv_icmp_ge (tgt := 102) hx hb dX3_isFreeAlong_13 (by decide) (fun c50 => ?_) (fun c50 => absurd (nI_le (a := 16) (by omega) (by omega)) c50)
      exact K102 t49 H locs ls ⟨Or.inr et49, hP, hD, hS, lv_sub hl [] rfl⟩
    · obtain ⟨hP, hD, hS, hl⟩ := hh
      have hP : va_P D vwCl [(aLi, .inr (2, [.int t4.1, .int q1.2.1, .int q1.2.2.1, .int q1.2.2.2.1, .int q1.2.2.2.2.1, .int q1.2.2.2.2.2.1, .int t4.2])), (aK, .inl (y4.1, 64, .inl K))] H := hP
      have hD : va_D A [(aLi, .inr (2, [.int t4.1, .int q1.2.1, .int q1.2.2.1, .int q1.2.2.2.1, .int q1.2.2.2.2.1, .int q1.2.2.2.2.2.1, .int t4.2])), (aK, .inl (y4.1, 64, .inl K))] := hD
      have hl : lv_has ls 5 [(4, .int (nI k3)), (0, .ref aLi), (1, .ref aK)] := hl
      refine lv_iload hx hb dX3_isFreeAlong_9 (lv_at hl 0 rfl) ?_
      refine lv_bipush (v := 16) hx hb dX3_isFreeAlong_11 (by decide) ?_
      refine lv_icmp_ge (tgt := 102) hx hb dX3_isFreeAlong_13 (by decide) (fun c27 => absurd c27 (nI_ge (b := 16) (by omega) (by omega))) (fun c27 => ?_)
      refine lv_aload_n hx hb dX3_isFreeAlong_16 rfl (lv_at hl 1 rfl) ?_
      refine va_get (ci := 2) (v := .int t4.1) (C := RX3) (T := TX3) (N := 7) hx hb hts iX3 hown hK hP 0 rfl rfl 0 (by decide) f9 (fun _ h9 => h9) rfl dX3_isFreeAlong_17 ?_
      refine lv_aload_n hx hb dX3_isFreeAlong_20 rfl (lv_at hl 1 rfl) ?_
      refine va_get (ci := 2) (v := .int q1.2.1) (C := RX3) (T := TX3) (N := 7) hx hb hts iX3 hown hK hP 0 rfl rfl 1 (by decide) f15 (fun _ h9 => h9) rfl dX3_isFreeAlong_21 ?_
      refine lv_icmp_eq (tgt := 102) hx hb dX3_isFreeAlong_24 (by decide) (fun c28 => ?_) (fun c28 => ?_)
      · have ef : (f_X3_isFreeAlong_9 K q1) k3 t4 = .inl (.inr (t4.1, t4.2)) := (by first | (simp only [f_X3_isFreeAlong_9, if_pos c28]; done) | (simp only [f_X3_isFreeAlong_9, if_pos c28]; rfl))
        exact K102 (t4.1, t4.2) H locs ls ⟨Or.inl (hretk3 _ ef), hP, hD, hS, lv_sub hl [] rfl⟩
      · refine lv_aload_n hx hb dX3_isFreeAlong_27 rfl (lv_at hl 1 rfl) ?_
        refine va_get (ci := 2) (v := .int t4.2) (C := RX3) (T := TX3) (N := 7) hx hb hts iX3 hown hK hP 0 rfl rfl 6 (by decide) f30 (fun _ h9 => h9) rfl dX3_isFreeAlong_28 ?_
        refine lv_if_ne (tgt := 68) hx hb dX3_isFreeAlong_31 (by decide) (fun c29 => ?_) (fun c29 => ?_)
        · refine lv_aload_n hx hb dX3_isFreeAlong_68 rfl (lv_at hl 1 rfl) ?_
          refine callW_v (wr := [(aK, .inl (y4.1, 64, .inl K))]) (wn := fun u => [(aLi, .inr (2, [.int ((m_X3_advance t4.1 q1.2.2.1 q1.2.2.2.1 q1.2.2.2.2.1 q1.2.2.2.2.2.1 t4.2).1), .int q1.2.1, .int q1.2.2.1, .int q1.2.2.2.1, .int q1.2.2.2.2.1, .int q1.2.2.2.2.2.1, .int ((m_X3_advance t4.1 q1.2.2.1 q1.2.2.2.1 q1.2.2.2.2.1 q1.2.2.2.2.2.1 t4.2).2)])), (aK, .inl (y4.1, 64, .inl K))]) (va_runV (As := []) (rest := []) ⟨hx, hb, hml, hown, hts⟩ (met_X3_advance l D y4 aLi H.size t4.1 q1.2.1 q1.2.2.1 q1.2.2.2.1 q1.2.2.2.2.1 q1.2.2.2.2.2.1 t4.2) (cwV 0 hts gX3_isFreeAlong_X3_advance rfl rfl rfl (by decide +kernel) ⟨Nat.le_of_ble_eq_true rfl, Nat.le_of_ble_eq_true rfl⟩) ⟨preW_blind, va_recv hK hP (ci := 2) (q0 := 0) rfl rfl, preW_at (hP.sub (ws' := [(aLi, .inr (2, [.int t4.1, .int q1.2.1, .int q1.2.2.1, .int q1.2.2.2.1, .int q1.2.2.2.2.1, .int q1.2.2.2.2.2.1, .int t4.2]))]) [0] rfl) hK (hD.sub (ws' := [(aLi, .inr (2, [.int t4.1, .int q1.2.1, .int q1.2.2.1, .int q1.2.2.2.1, .int q1.2.2.2.2.1, .int q1.2.2.2.2.2.1, .int t4.2]))]) [0] (by decide) rfl) hNW⟩ rfl rfl hl.1 rfl (lv_room (Nat.le_of_ble_eq_true rfl)) dX3_isFreeAlong_69 ⟨Nat.zero_le _, Nat.zero_le _⟩) hP hD hS hA [0] [1] [1, 0] rfl rfl (by decide) (by decide) (fun _ => rfl) (by decide) (fun u31 H locs hw hP hD hS => ?_)
          obtain ⟨q30, eq30⟩ : ∃ z, z = m_X3_advance t4.1 q1.2.2.1 q1.2.2.2.1 q1.2.2.2.2.1 q1.2.2.2.2.2.1 t4.2 := ⟨_, rfl⟩
          rw [← eq30] at hP hD
          have hP : va_P D vwCl [(aLi, .inr (2, [.int q30.1, .int q1.2.1, .int q1.2.2.1, .int q1.2.2.2.1, .int q1.2.2.2.2.1, .int q1.2.2.2.2.2.1, .int q30.2])), (aK, .inl (y4.1, 64, .inl K))] H := hP
          have hD : va_D A [(aLi, .inr (2, [.int q30.1, .int q1.2.1, .int q1.2.2.1, .int q1.2.2.2.1, .int q1.2.2.2.2.1, .int q1.2.2.2.2.2.1, .int q30.2])), (aK, .inl (y4.1, 64, .inl K))] := hD
          refine lv_aload_n hx hb dX3_isFreeAlong_72 rfl (lv_at hl 1 rfl) ?_
          refine va_get (ci := 2) (v := .int q30.1) (C := RX3) (T := TX3) (N := 7) hx hb hts iX3 hown hK hP 0 rfl rfl 0 (by decide) f9 (fun _ h9 => h9) rfl dX3_isFreeAlong_73 ?_
          refine lv_aload_n hx hb dX3_isFreeAlong_76 rfl (lv_at hl 1 rfl) ?_
          refine va_get (ci := 2) (v := .int q1.2.1) (C := RX3) (T := TX3) (N := 7) hx hb hts iX3 hown hK hP 0 rfl rfl 1 (by decide) f15 (fun _ h9 => h9) rfl dX3_isFreeAlong_77 ?_
          refine lv_icmp_eq (tgt := 96) hx hb dX3_isFreeAlong_80 (by decide) (fun c32 => ?_) (fun c32 => ?_)
          · refine lv_iinc (v := nI (k3 + 1)) (lv' := [(4, .int (nI (k3 + 1))), (0, .ref aLi), (1, .ref aK)]) hx hb dX3_isFreeAlong_96 hl (k := 0) rfl (nI_1 _) (by decide) rfl (fun ls hl => ?_)
            refine lv_goto (tgt := 9) hx hb dX3_isFreeAlong_99 (by decide) ?_
            have ef : (f_X3_isFreeAlong_9 K q1) k3 t4 = .inr (q30.1, q30.2) := (by replace eq30 := Eq.symm eq30; subst eq30; first | (simp only [f_X3_isFreeAlong_9, if_neg c28, if_neg c29, if_pos c32]; done) | (simp only [f_X3_isFreeAlong_9, if_neg c28, if_neg c29, if_pos c32]; rfl))
            exact ihk3 _ ef trivial H locs ls ⟨hP, hD, hS, lv_sub hl [0, 1, 2] rfl⟩
          · refine lv_aload_n hx hb dX3_isFreeAlong_83 rfl (lv_at hl 2 rfl) ?_
            refine lv_aload_n hx hb dX3_isFreeAlong_84 rfl (lv_at hl 1 rfl) ?_
            refine va_get (ci := 2) (v := .int q30.1) (C := RX3) (T := TX3) (N := 7) hx hb hts iX3 hown hK hP 0 rfl rfl 0 (by decide) f9 (fun _ h9 => h9) rfl dX3_isFreeAlong_85 ?_
            refine callW_i (wr := [(aLi, .inr (2, [.int q30.1, .int q1.2.1, .int q1.2.2.1, .int q1.2.2.2.1, .int q1.2.2.2.2.1, .int q1.2.2.2.2.2.1, .int q30.2]))]) (wn := fun u => [(aLi, .inr (2, [.int q30.1, .int q1.2.1, .int q1.2.2.1, .int q1.2.2.2.1, .int q1.2.2.2.2.1, .int q1.2.2.2.2.2.1, .int q30.2])), (aK, .inl (y4.1, 64, .inl K))]) (va_runS (As := [.ref aK, .int q30.1]) (rest := []) ⟨hx, hb, hml, hown, hts⟩ (met_X3_isStopped l D y4 aK H.size K q30.1) (va_cwS 2 hts gX3_isFreeAlong_X3_isStopped rfl rfl rfl (by decide +kernel) ⟨Nat.le_of_ble_eq_true rfl, Nat.le_of_ble_eq_true rfl⟩) ⟨preW_blind, preW_at (hP.sub (ws' := [(aK, .inl (y4.1, 64, .inl K))]) [1] rfl) hK (hD.sub (ws' := [(aK, .inl (y4.1, 64, .inl K))]) [1] (by decide) rfl) hNW⟩ rfl rfl hl.1 rfl (lv_room (Nat.le_of_ble_eq_true rfl)) dX3_isFreeAlong_88 ⟨Nat.zero_le _, Nat.zero_le _⟩) hP hD hS hA [1] [0] [0, 1] rfl rfl (by decide) (by decide) (fun _ => rfl) (by decide) (fun r u33 H locs hw hP hD hS => ?_)
            replace hw := Eq.symm hw
            subst hw
            have hP : va_P D vwCl [(aLi, .inr (2, [.int q30.1, .int q1.2.1, .int q1.2.2.1, .int q1.2.2.2.1, .int q1.2.2.2.2.1, .int q1.2.2.2.2.2.1, .int q30.2])), (aK, .inl (y4.1, 64, .inl K))] H := hP
            have hD : va_D A [(aLi, .inr (2, [.int q30.1, .int q1.2.1, .int q1.2.2.1, .int q1.2.2.2.1, .int q1.2.2.2.2.1, .int q1.2.2.2.2.2.1, .int q30.2])), (aK, .inl (y4.1, 64, .inl K))] := hD
            refine lb_if_eq (tgt := 96) hx hb dX3_isFreeAlong_91 (by decide) (fun c34 => ?_) (fun c34 => ?_)
            · refine lv_iinc (v := nI (k3 + 1)) (lv' := [(4, .int (nI (k3 + 1))), (0, .ref aLi), (1, .ref aK)]) hx hb dX3_isFreeAlong_96 hl (k := 0) rfl (nI_1 _) (by decide) rfl (fun ls hl => ?_)
              refine lv_goto (tgt := 9) hx hb dX3_isFreeAlong_99 (by decide) ?_
              have ef : (f_X3_isFreeAlong_9 K q1) k3 t4 = .inr (q30.1, q30.2) := (by replace eq30 := Eq.symm eq30; subst eq30; first | (simp only [f_X3_isFreeAlong_9, if_neg c28, if_neg c29, if_neg c32, if_pos c34]; done) | (simp only [f_X3_isFreeAlong_9, if_neg c28, if_neg c29, if_neg c32, if_pos c34]; rfl))
              exact ihk3 _ ef trivial H locs ls ⟨hP, hD, hS, lv_sub hl [0, 1, 2] rfl⟩
            · refine lv_iconst (v := 0) hx hb dX3_isFreeAlong_94 (by decide) ?_
              have ef : (f_X3_isFreeAlong_9 K q1) k3 t4 = .inl (.inl false) := (by replace eq30 := Eq.symm eq30; subst eq30; first | (simp only [f_X3_isFreeAlong_9, if_neg c28, if_neg c29, if_neg c32, if_neg c34]; done) | (simp only [f_X3_isFreeAlong_9, if_neg c28, if_neg c29, if_neg c32, if_neg c34]; rfl))
              have erk3 := hretk3 _ ef
              have em : m_X3_isFreeAlong K fr to = false := (by replace eq1 := Eq.symm eq1; subst eq1; first | (simp only [m_X3_isFreeAlong, lpr_j erk3]; done) | (simp only [m_X3_isFreeAlong, lpr_j erk3]; rfl))
              exact W.zret (v := 0) hx hb hr rfl (fun t ht hW => ⟨⟨0, (q30.1, q1.2.1, q1.2.2.1, q1.2.2.2.1, q1.2.2.2.2.1, q1.2.2.2.2.2.1, q30.2), rfl, (by rw [em]; rfl), ⟨by rw [ht]; exact hP, by exact hD⟩⟩, hS.F ht⟩) hS.2.2 dX3_isFreeAlong_95
        · refine lv_aload_n hx hb dX3_isFreeAlong_34 rfl (lv_at hl 2 rfl) ?_
          refine lv_aload_n hx hb dX3_isFreeAlong_35 rfl (lv_at hl 1 rfl) ?_
          refine va_get (ci := 2) (v := .int t4.1) (C := RX3) (T := TX3) (N := 7) hx hb hts iX3 hown hK hP 0 rfl rfl 0 (by decide) f9 (fun _ h9 => h9) rfl dX3_isFreeAlong_36 ?_
          refine lv_aload_n hx hb dX3_isFreeAlong_39 rfl (lv_at hl 1 rfl) ?_
          refine va_get (ci := 2) (v := .int q1.2.2.1) (C := RX3) (T := TX3) (N := 7) hx hb hts iX3 hown hK hP 0 rfl rfl 2 (by decide) f18 (fun _ h9 => h9) rfl dX3_isFreeAlong_40 ?_
          refine lv_iadd hx hb dX3_isFreeAlong_43 ?_
          refine callW_i (wr := [(aLi, .inr (2, [.int t4.1, .int q1.2.1, .int q1.2.2.1, .int q1.2.2.2.1, .int q1.2.2.2.2.1, .int q1.2.2.2.2.2.1, .int t4.2]))]) (wn := fun u => [(aLi, .inr (2, [.int t4.1, .int q1.2.1, .int q1.2.2.1, .int q1.2.2.2.1, .int q1.2.2.2.2.1, .int q1.2.2.2.2.2.1, .int t4.2])), (aK, .inl (y4.1, 64, .inl K))]) (va_runS (As := [.ref aK, .int (t4.1 + q1.2.2.1)]) (rest := []) ⟨hx, hb, hml, hown, hts⟩ (met_X3_isStopped l D y4 aK H.size K (t4.1 + q1.2.2.1)) (va_cwS 2 hts gX3_isFreeAlong_X3_isStopped rfl rfl rfl (by decide +kernel) ⟨Nat.le_of_ble_eq_true rfl, Nat.le_of_ble_eq_true rfl⟩) ⟨preW_blind, preW_at (hP.sub (ws' := [(aK, .inl (y4.1, 64, .inl K))]) [1] rfl) hK (hD.sub (ws' := [(aK, .inl (y4.1, 64, .inl K))]) [1] (by decide) rfl) hNW⟩ rfl rfl hl.1 rfl (lv_room (Nat.le_of_ble_eq_true rfl)) dX3_isFreeAlong_44 ⟨Nat.zero_le _, Nat.zero_le _⟩) hP hD hS hA [1] [0] [0, 1] rfl rfl (by decide) (by decide) (fun _ => rfl) (by decide) (fun r u35 H locs hw hP hD hS => ?_)
          replace hw := Eq.symm hw
          subst hw
          have hP : va_P D vwCl [(aLi, .inr (2, [.int t4.1, .int q1.2.1, .int q1.2.2.1, .int q1.2.2.2.1, .int q1.2.2.2.2.1, .int q1.2.2.2.2.2.1, .int t4.2])), (aK, .inl (y4.1, 64, .inl K))] H := hP
          have hD : va_D A [(aLi, .inr (2, [.int t4.1, .int q1.2.1, .int q1.2.2.1, .int q1.2.2.2.1, .int q1.2.2.2.2.1, .int q1.2.2.2.2.2.1, .int t4.2])), (aK, .inl (y4.1, 64, .inl K))] := hD
          refine lb_if_eq (tgt := 68) hx hb dX3_isFreeAlong_47 (by decide) (fun c36 => ?_) (fun c36 => ?_)
          · refine lv_aload_n hx hb dX3_isFreeAlong_68 rfl (lv_at hl 1 rfl) ?_
            refine callW_v (wr := [(aK, .inl (y4.1, 64, .inl K))]) (wn := fun u => [(aLi, .inr (2, [.int ((m_X3_advance t4.1 q1.2.2.1 q1.2.2.2.1 q1.2.2.2.2.1 q1.2.2.2.2.2.1 t4.2).1), .int q1.2.1, .int q1.2.2.1, .int q1.2.2.2.1, .int q1.2.2.2.2.1, .int q1.2.2.2.2.2.1, .int ((m_X3_advance t4.1 q1.2.2.1 q1.2.2.2.1 q1.2.2.2.2.1 q1.2.2.2.2.2.1 t4.2).2)])), (aK, .inl (y4.1, 64, .inl K))]) (va_runV (As := []) (rest := []) ⟨hx, hb, hml, hown, hts⟩ (met_X3_advance l D y4 aLi H.size t4.1 q1.2.1 q1.2.2.1 q1.2.2.2.1 q1.2.2.2.2.1 q1.2.2.2.2.2.1 t4.2) (cwV 0 hts gX3_isFreeAlong_X3_advance rfl rfl rfl (by decide +kernel) ⟨Nat.le_of_ble_eq_true rfl, Nat.le_of_ble_eq_true rfl⟩) ⟨preW_blind, va_recv hK hP (ci := 2) (q0 := 0) rfl rfl, preW_at (hP.sub (ws' := [(aLi, .inr (2, [.int t4.1, .int q1.2.1, .int q1.2.2.1, .int q1.2.2.2.1, .int q1.2.2.2.2.1, .int q1.2.2.2.2.2.1, .int t4.2]))]) [0] rfl) hK (hD.sub (ws' := [(aLi, .inr (2, [.int t4.1, .int q1.2.1, .int q1.2.2.1, .int q1.2.2.2.1, .int q1.2.2.2.2.1, .int q1.2.2.2.2.2.1, .int t4.2]))]) [0] (by decide) rfl) hNW⟩ rfl rfl hl.1 rfl (lv_room (Nat.le_of_ble_eq_true rfl)) dX3_isFreeAlong_69 ⟨Nat.zero_le _, Nat.zero_le _⟩) hP hD hS hA [0] [1] [1, 0] rfl rfl (by decide) (by decide) (fun _ => rfl) (by decide) (fun u38 H locs hw hP hD hS => ?_)
            obtain ⟨q37, eq37⟩ : ∃ z, z = m_X3_advance t4.1 q1.2.2.1 q1.2.2.2.1 q1.2.2.2.2.1 q1.2.2.2.2.2.1 t4.2 := ⟨_, rfl⟩
            rw [← eq37] at hP hD
            have hP : va_P D vwCl [(aLi, .inr (2, [.int q37.1, .int q1.2.1, .int q1.2.2.1, .int q1.2.2.2.1, .int q1.2.2.2.2.1, .int q1.2.2.2.2.2.1, .int q37.2])), (aK, .inl (y4.1, 64, .inl K))] H := hP
            have hD : va_D A [(aLi, .inr (2, [.int q37.1, .int q1.2.1, .int q1.2.2.1, .int q1.2.2.2.1, .int q1.2.2.2.2.1, .int q1.2.2.2.2.2.1, .int q37.2])), (aK, .inl (y4.1, 64, .inl K))] := hD
            refine lv_aload_n hx hb dX3_isFreeAlong_72 rfl (lv_at hl 1 rfl) ?_
            refine va_get (ci := 2) (v := .int q37.1) (C := RX3) (T := TX3) (N := 7) hx hb hts iX3 hown hK hP 0 rfl rfl 0 (by decide) f9 (fun _ h9 => h9) rfl dX3_isFreeAlong_73 ?_
            refine lv_aload_n hx hb dX3_isFreeAlong_76 rfl (lv_at hl 1 rfl) ?_
            refine va_get (ci := 2) (v := .int q1.2.1) (C := RX3) (T := TX3) (N := 7) hx hb hts iX3 hown hK hP 0 rfl rfl 1 (by decide) f15 (fun _ h9 => h9) rfl dX3_isFreeAlong_77 ?_
            refine lv_icmp_eq (tgt := 96) hx hb dX3_isFreeAlong_80 (by decide) (fun c39 => ?_) (fun c39 => ?_)
            · refine lv_iinc (v := nI (k3 + 1)) (lv' := [(4, .int (nI (k3 + 1))), (0, .ref aLi), (1, .ref aK)]) hx hb dX3_isFreeAlong_96 hl (k := 0) rfl (nI_1 _) (by decide) rfl (fun ls hl => ?_)
              refine lv_goto (tgt := 9) hx hb dX3_isFreeAlong_99 (by decide) ?_
              have ef : (f_X3_isFreeAlong_9 K q1) k3 t4 = .inr (q37.1, q37.2) := (by replace eq37 := Eq.symm eq37; subst eq37; first | (simp only [f_X3_isFreeAlong_9, if_neg c28, if_pos c29, if_pos c36, if_pos c39]; done) | (simp only [f_X3_isFreeAlong_9, if_neg c28, if_pos c29, if_pos c36, if_pos c39]; rfl))
              exact ihk3 _ ef trivial H locs ls ⟨hP, hD, hS, lv_sub hl [0, 1, 2] rfl⟩
            · refine lv_aload_n hx hb dX3_isFreeAlong_83 rfl (lv_at hl 2 rfl) ?_
              refine lv_aload_n hx hb dX3_isFreeAlong_84 rfl (lv_at hl 1 rfl) ?_
              refine va_get (ci := 2) (v := .int q37.1) (C := RX3) (T := TX3) (N := 7) hx hb hts iX3 hown hK hP 0 rfl rfl 0 (by decide) f9 (fun _ h9 => h9) rfl dX3_isFreeAlong_85 ?_
              refine callW_i (wr := [(aLi, .inr (2, [.int q37.1, .int q1.2.1, .int q1.2.2.1, .int q1.2.2.2.1, .int q1.2.2.2.2.1, .int q1.2.2.2.2.2.1, .int q37.2]))]) (wn := fun u => [(aLi, .inr (2, [.int q37.1, .int q1.2.1, .int q1.2.2.1, .int q1.2.2.2.1, .int q1.2.2.2.2.1, .int q1.2.2.2.2.2.1, .int q37.2])), (aK, .inl (y4.1, 64, .inl K))]) (va_runS (As := [.ref aK, .int q37.1]) (rest := []) ⟨hx, hb, hml, hown, hts⟩ (met_X3_isStopped l D y4 aK H.size K q37.1) (va_cwS 2 hts gX3_isFreeAlong_X3_isStopped rfl rfl rfl (by decide +kernel) ⟨Nat.le_of_ble_eq_true rfl, Nat.le_of_ble_eq_true rfl⟩) ⟨preW_blind, preW_at (hP.sub (ws' := [(aK, .inl (y4.1, 64, .inl K))]) [1] rfl) hK (hD.sub (ws' := [(aK, .inl (y4.1, 64, .inl K))]) [1] (by decide) rfl) hNW⟩ rfl rfl hl.1 rfl (lv_room (Nat.le_of_ble_eq_true rfl)) dX3_isFreeAlong_88 ⟨Nat.zero_le _, Nat.zero_le _⟩) hP hD hS hA [1] [0] [0, 1] rfl rfl (by decide) (by decide) (fun _ => rfl) (by decide) (fun r u40 H locs hw hP hD hS => ?_)
              replace hw := Eq.symm hw
              subst hw
              have hP : va_P D vwCl [(aLi, .inr (2, [.int q37.1, .int q1.2.1, .int q1.2.2.1, .int q1.2.2.2.1, .int q1.2.2.2.2.1, .int q1.2.2.2.2.2.1, .int q37.2])), (aK, .inl (y4.1, 64, .inl K))] H := hP
              have hD : va_D A [(aLi, .inr (2, [.int q37.1, .int q1.2.1, .int q1.2.2.1, .int q1.2.2.2.1, .int q1.2.2.2.2.1, .int q1.2.2.2.2.2.1, .int q37.2])), (aK, .inl (y4.1, 64, .inl K))] := hD
              refine lb_if_eq (tgt := 96) hx hb dX3_isFreeAlong_91 (by decide) (fun c41 => ?_) (fun c41 => ?_)
              · refine lv_iinc (v := nI (k3 + 1)) (lv' := [(4, .int (nI (k3 + 1))), (0, .ref aLi), (1, .ref aK)]) hx hb dX3_isFreeAlong_96 hl (k := 0) rfl (nI_1 _) (by decide) rfl (fun ls hl => ?_)
                refine lv_goto (tgt := 9) hx hb dX3_isFreeAlong_99 (by decide) ?_
                have ef : (f_X3_isFreeAlong_9 K q1) k3 t4 = .inr (q37.1, q37.2) := (by replace eq37 := Eq.symm eq37; subst eq37; first | (simp only [f_X3_isFreeAlong_9, if_neg c28, if_pos c29, if_pos c36, if_neg c39, if_pos c41]; done) | (simp only [f_X3_isFreeAlong_9, if_neg c28, if_pos c29, if_pos c36, if_neg c39, if_pos c41]; rfl))
                exact ihk3 _ ef trivial H locs ls ⟨hP, hD, hS, lv_sub hl [0, 1, 2] rfl⟩
              · refine lv_iconst (v := 0) hx hb dX3_isFreeAlong_94 (by decide) ?_
                have ef : (f_X3_isFreeAlong_9 K q1) k3 t4 = .inl (.inl false) := (by replace eq37 := Eq.symm eq37; subst eq37; first | (simp only [f_X3_isFreeAlong_9, if_neg c28, if_pos c29, if_pos c36, if_neg c39, if_neg c41]; done) | (simp only [f_X3_isFreeAlong_9, if_neg c28, if_pos c29, if_pos c36, if_neg c39, if_neg c41]; rfl))
                have erk3 := hretk3 _ ef
                have em : m_X3_isFreeAlong K fr to = false := (by replace eq1 := Eq.symm eq1; subst eq1; first | (simp only [m_X3_isFreeAlong, lpr_j erk3]; done) | (simp only [m_X3_isFreeAlong, lpr_j erk3]; rfl))
                exact W.zret (v := 0) hx hb hr rfl (fun t ht hW => ⟨⟨0, (q37.1, q1.2.1, q1.2.2.1, q1.2.2.2.1, q1.2.2.2.2.1, q1.2.2.2.2.2.1, q37.2), rfl, (by rw [em]; rfl), ⟨by rw [ht]; exact hP, by exact hD⟩⟩, hS.F ht⟩) hS.2.2 dX3_isFreeAlong_95
          · refine lv_aload_n hx hb dX3_isFreeAlong_50 rfl (lv_at hl 2 rfl) ?_
            refine lv_aload_n hx hb dX3_isFreeAlong_51 rfl (lv_at hl 1 rfl) ?_
            refine va_get (ci := 2) (v := .int t4.1) (C := RX3) (T := TX3) (N := 7) hx hb hts iX3 hown hK hP 0 rfl rfl 0 (by decide) f9 (fun _ h9 => h9) rfl dX3_isFreeAlong_52 ?_
            refine lv_aload_n hx hb dX3_isFreeAlong_55 rfl (lv_at hl 1 rfl) ?_
            refine va_get (ci := 2) (v := .int q1.2.2.2.1) (C := RX3) (T := TX3) (N := 7) hx hb hts iX3 hown hK hP 0 rfl rfl 3 (by decide) f21 (fun _ h9 => h9) rfl dX3_isFreeAlong_56 ?_
            refine lv_iadd hx hb dX3_isFreeAlong_59 ?_
            refine callW_i (wr := [(aLi, .inr (2, [.int t4.1, .int q1.2.1, .int q1.2.2.1, .int q1.2.2.2.1, .int q1.2.2.2.2.1, .int q1.2.2.2.2.2.1, .int t4.2]))]) (wn := fun u => [(aLi, .inr (2, [.int t4.1, .int q1.2.1, .int q1.2.2.1, .int q1.2.2.2.1, .int q1.2.2.2.2.1, .int q1.2.2.2.2.2.1, .int t4.2])), (aK, .inl (y4.1, 64, .inl K))]) (va_runS (As := [.ref aK, .int (t4.1 + q1.2.2.2.1)]) (rest := []) ⟨hx, hb, hml, hown, hts⟩ (met_X3_isStopped l D y4 aK H.size K (t4.1 + q1.2.2.2.1)) (va_cwS 2 hts gX3_isFreeAlong_X3_isStopped rfl rfl rfl (by decide +kernel) ⟨Nat.le_of_ble_eq_true rfl, Nat.le_of_ble_eq_true rfl⟩) ⟨preW_blind, preW_at (hP.sub (ws' := [(aK, .inl (y4.1, 64, .inl K))]) [1] rfl) hK (hD.sub (ws' := [(aK, .inl (y4.1, 64, .inl K))]) [1] (by decide) rfl) hNW⟩ rfl rfl hl.1 rfl (lv_room (Nat.le_of_ble_eq_true rfl)) dX3_isFreeAlong_60 ⟨Nat.zero_le _, Nat.zero_le _⟩) hP hD hS hA [1] [0] [0, 1] rfl rfl (by decide) (by decide) (fun _ => rfl) (by decide) (fun r u42 H locs hw hP hD hS => ?_)
            replace hw := Eq.symm hw
            subst hw
            have hP : va_P D vwCl [(aLi, .inr (2, [.int t4.1, .int q1.2.1, .int q1.2.2.1, .int q1.2.2.2.1, .int q1.2.2.2.2.1, .int q1.2.2.2.2.2.1, .int t4.2])), (aK, .inl (y4.1, 64, .inl K))] H := hP
            have hD : va_D A [(aLi, .inr (2, [.int t4.1, .int q1.2.1, .int q1.2.2.1, .int q1.2.2.2.1, .int q1.2.2.2.2.1, .int q1.2.2.2.2.2.1, .int t4.2])), (aK, .inl (y4.1, 64, .inl K))] := hD
            refine lb_if_eq (tgt := 68) hx hb dX3_isFreeAlong_63 (by decide) (fun c43 => ?_) (fun c43 => ?_)
            · refine lv_aload_n hx hb dX3_isFreeAlong_68 rfl (lv_at hl 1 rfl) ?_
              refine callW_v (wr := [(aK, .inl (y4.1, 64, .inl K))]) (wn := fun u => [(aLi, .inr (2, [.int ((m_X3_advance t4.1 q1.2.2.1 q1.2.2.2.1 q1.2.2.2.2.1 q1.2.2.2.2.2.1 t4.2).1), .int q1.2.1, .int q1.2.2.1, .int q1.2.2.2.1, .int q1.2.2.2.2.1, .int q1.2.2.2.2.2.1, .int ((m_X3_advance t4.1 q1.2.2.1 q1.2.2.2.1 q1.2.2.2.2.1 q1.2.2.2.2.2.1 t4.2).2)])), (aK, .inl (y4.1, 64, .inl K))]) (va_runV (As := []) (rest := []) ⟨hx, hb, hml, hown, hts⟩ (met_X3_advance l D y4 aLi H.size t4.1 q1.2.1 q1.2.2.1 q1.2.2.2.1 q1.2.2.2.2.1 q1.2.2.2.2.2.1 t4.2) (cwV 0 hts gX3_isFreeAlong_X3_advance rfl rfl rfl (by decide +kernel) ⟨Nat.le_of_ble_eq_true rfl, Nat.le_of_ble_eq_true rfl⟩) ⟨preW_blind, va_recv hK hP (ci := 2) (q0 := 0) rfl rfl, preW_at (hP.sub (ws' := [(aLi, .inr (2, [.int t4.1, .int q1.2.1, .int q1.2.2.1, .int q1.2.2.2.1, .int q1.2.2.2.2.1, .int q1.2.2.2.2.2.1, .int t4.2]))]) [0] rfl) hK (hD.sub (ws' := [(aLi, .inr (2, [.int t4.1, .int q1.2.1, .int q1.2.2.1, .int q1.2.2.2.1, .int q1.2.2.2.2.1, .int q1.2.2.2.2.2.1, .int t4.2]))]) [0] (by decide) rfl) hNW⟩ rfl rfl hl.1 rfl (lv_room (Nat.le_of_ble_eq_true rfl)) dX3_isFreeAlong_69 ⟨Nat.zero_le _, Nat.zero_le _⟩) hP hD hS hA [0] [1] [1, 0] rfl rfl (by decide) (by decide) (fun _ => rfl) (by decide) (fun u45 H locs hw hP hD hS => ?_)
              obtain ⟨q44, eq44⟩ : ∃ z, z = m_X3_advance t4.1 q1.2.2.1 q1.2.2.2.1 q1.2.2.2.2.1 q1.2.2.2.2.2.1 t4.2 := ⟨_, rfl⟩
              rw [← eq44] at hP hD
              have hP : va_P D vwCl [(aLi, .inr (2, [.int q44.1, .int q1.2.1, .int q1.2.2.1, .int q1.2.2.2.1, .int q1.2.2.2.2.1, .int q1.2.2.2.2.2.1, .int q44.2])), (aK, .inl (y4.1, 64, .inl K))] H := hP
              have hD : va_D A [(aLi, .inr (2, [.int q44.1, .int q1.2.1, .int q1.2.2.1, .int q1.2.2.2.1, .int q1.2.2.2.2.1, .int q1.2.2.2.2.2.1, .int q44.2])), (aK, .inl (y4.1, 64, .inl K))] := hD
              refine lv_aload_n hx hb dX3_isFreeAlong_72 rfl (lv_at hl 1 rfl) ?_
              refine va_get (ci := 2) (v := .int q44.1) (C := RX3) (T := TX3) (N := 7) hx hb hts iX3 hown hK hP 0 rfl rfl 0 (by decide) f9 (fun _ h9 => h9) rfl dX3_isFreeAlong_73 ?_
              refine lv_aload_n hx hb dX3_isFreeAlong_76 rfl (lv_at hl 1 rfl) ?_
              refine va_get (ci := 2) (v := .int q1.2.1) (C := RX3) (T := TX3) (N := 7) hx hb hts iX3 hown hK hP 0 rfl rfl 1 (by decide) f15 (fun _ h9 => h9) rfl dX3_isFreeAlong_77 ?_
              refine lv_icmp_eq (tgt := 96) hx hb dX3_isFreeAlong_80 (by decide) (fun c46 => ?_) (fun c46 => ?_)
              · refine lv_iinc (v := nI (k3 + 1)) (lv' := [(4, .int (nI (k3 + 1))), (0, .ref aLi), (1, .ref aK)]) hx hb dX3_isFreeAlong_96 hl (k := 0) rfl (nI_1 _) (by decide) rfl (fun ls hl => ?_)
                refine lv_goto (tgt := 9) hx hb dX3_isFreeAlong_99 (by decide) ?_
                have ef : (f_X3_isFreeAlong_9 K q1) k3 t4 = .inr (q44.1, q44.2) := (by replace eq44 := Eq.symm eq44; subst eq44; first | (simp only [f_X3_isFreeAlong_9, if_neg c28, if_pos c29, if_neg c36, if_pos c43, if_pos c46]; done) | (simp only [f_X3_isFreeAlong_9, if_neg c28, if_pos c29, if_neg c36, if_pos c43, if_pos c46]; rfl))
                exact ihk3 _ ef trivial H locs ls ⟨hP, hD, hS, lv_sub hl [0, 1, 2] rfl⟩
              · refine lv_aload_n hx hb dX3_isFreeAlong_83 rfl (lv_at hl 2 rfl) ?_
                refine lv_aload_n hx hb dX3_isFreeAlong_84 rfl (lv_at hl 1 rfl) ?_
                refine va_get (ci := 2) (v := .int q44.1) (C := RX3) (T := TX3) (N := 7) hx hb hts iX3 hown hK hP 0 rfl rfl 0 (by decide) f9 (fun _ h9 => h9) rfl dX3_isFreeAlong_85 ?_
                refine callW_i (wr := [(aLi, .inr (2, [.int q44.1, .int q1.2.1, .int q1.2.2.1, .int q1.2.2.2.1, .int q1.2.2.2.2.1, .int q1.2.2.2.2.2.1, .int q44.2]))]) (wn := fun u => [(aLi, .inr (2, [.int q44.1, .int q1.2.1, .int q1.2.2.1, .int q1.2.2.2.1, .int q1.2.2.2.2.1, .int q1.2.2.2.2.2.1, .int q44.2])), (aK, .inl (y4.1, 64, .inl K))]) (va_runS (As := [.ref aK, .int q44.1]) (rest := []) ⟨hx, hb, hml, hown, hts⟩ (met_X3_isStopped l D y4 aK H.size K q44.1) (va_cwS 2 hts gX3_isFreeAlong_X3_isStopped rfl rfl rfl (by decide +kernel) ⟨Nat.le_of_ble_eq_true rfl, Nat.le_of_ble_eq_true rfl⟩) ⟨preW_blind, preW_at (hP.sub (ws' := [(aK, .inl (y4.1, 64, .inl K))]) [1] rfl) hK (hD.sub (ws' := [(aK, .inl (y4.1, 64, .inl K))]) [1] (by decide) rfl) hNW⟩ rfl rfl hl.1 rfl (lv_room (Nat.le_of_ble_eq_true rfl)) dX3_isFreeAlong_88 ⟨Nat.zero_le _, Nat.zero_le _⟩) hP hD hS hA [1] [0] [0, 1] rfl rfl (by decide) (by decide) (fun _ => rfl) (by decide) (fun r u47 H locs hw hP hD hS => ?_)
                replace hw := Eq.symm hw
                subst hw
                have hP : va_P D vwCl [(aLi, .inr (2, [.int q44.1, .int q1.2.1, .int q1.2.2.1, .int q1.2.2.2.1, .int q1.2.2.2.2.1, .int q1.2.2.2.2.2.1, .int q44.2])), (aK, .inl (y4.1, 64, .inl K))] H := hP
                have hD : va_D A [(aLi, .inr (2, [.int q44.1, .int q1.2.1, .int q1.2.2.1, .int q1.2.2.2.1, .int q1.2.2.2.2.1, .int q1.2.2.2.2.2.1, .int q44.2])), (aK, .inl (y4.1, 64, .inl K))] := hD
                refine lb_if_eq (tgt := 96) hx hb dX3_isFreeAlong_91 (by decide) (fun c48 => ?_) (fun c48 => ?_)
                · refine lv_iinc (v := nI (k3 + 1)) (lv' := [(4, .int (nI (k3 + 1))), (0, .ref aLi), (1, .ref aK)]) hx hb dX3_isFreeAlong_96 hl (k := 0) rfl (nI_1 _) (by decide) rfl (fun ls hl => ?_)
                  refine lv_goto (tgt := 9) hx hb dX3_isFreeAlong_99 (by decide) ?_
                  have ef : (f_X3_isFreeAlong_9 K q1) k3 t4 = .inr (q44.1, q44.2) := (by replace eq44 := Eq.symm eq44; subst eq44; first | (simp only [f_X3_isFreeAlong_9, if_neg c28, if_pos c29, if_neg c36, if_pos c43, if_neg c46, if_pos c48]; done) | (simp only [f_X3_isFreeAlong_9, if_neg c28, if_pos c29, if_neg c36, if_pos c43, if_neg c46, if_pos c48]; rfl))
                  exact ihk3 _ ef trivial H locs ls ⟨hP, hD, hS, lv_sub hl [0, 1, 2] rfl⟩
                · refine lv_iconst (v := 0) hx hb dX3_isFreeAlong_94 (by decide) ?_
                  have ef : (f_X3_isFreeAlong_9 K q1) k3 t4 = .inl (.inl false) := (by replace eq44 := Eq.symm eq44; subst eq44; first | (simp only [f_X3_isFreeAlong_9, if_neg c28, if_pos c29, if_neg c36, if_pos c43, if_neg c46, if_neg c48]; done) | (simp only [f_X3_isFreeAlong_9, if_neg c28, if_pos c29, if_neg c36, if_pos c43, if_neg c46, if_neg c48]; rfl))
                  have erk3 := hretk3 _ ef
                  have em : m_X3_isFreeAlong K fr to = false := (by replace eq1 := Eq.symm eq1; subst eq1; first | (simp only [m_X3_isFreeAlong, lpr_j erk3]; done) | (simp only [m_X3_isFreeAlong, lpr_j erk3]; rfl))
                  exact W.zret (v := 0) hx hb hr rfl (fun t ht hW => ⟨⟨0, (q44.1, q1.2.1, q1.2.2.1, q1.2.2.2.1, q1.2.2.2.2.1, q1.2.2.2.2.2.1, q44.2), rfl, (by rw [em]; rfl), ⟨by rw [ht]; exact hP, by exact hD⟩⟩, hS.F ht⟩) hS.2.2 dX3_isFreeAlong_95
            · refine lv_iconst (v := 0) hx hb dX3_isFreeAlong_66 (by decide) ?_
              have ef : (f_X3_isFreeAlong_9 K q1) k3 t4 = .inl (.inl false) := (by first | (simp only [f_X3_isFreeAlong_9, if_neg c28, if_pos c29, if_neg c36, if_neg c43]; done) | (simp only [f_X3_isFreeAlong_9, if_neg c28, if_pos c29, if_neg c36, if_neg c43]; rfl))
              have erk3 := hretk3 _ ef
              have em : m_X3_isFreeAlong K fr to = false := (by replace eq1 := Eq.symm eq1; subst eq1; first | (simp only [m_X3_isFreeAlong, lpr_j erk3]; done) | (simp only [m_X3_isFreeAlong, lpr_j erk3]; rfl))
              exact W.zret (v := 0) hx hb hr rfl (fun t ht hW => ⟨⟨0, (t4.1, q1.2.1, q1.2.2.1, q1.2.2.2.1, q1.2.2.2.2.1, q1.2.2.2.2.2.1, t4.2), rfl, (by rw [em]; rfl), ⟨by rw [ht]; exact hP, by exact hD⟩⟩, hS.F ht⟩) hS.2.2 dX3_isFreeAlong_67
def f_X3_firstStop_9 (K : Nat → Int32) (q1 : Int32 × Int32 × Int32 × Int32 × Int32 × Int32 × Int32) (k3 : Nat) (t4 : Int32 × Int32) : (Int32 ⊕ (Int32 × Int32)) ⊕ (Int32 × Int32) := (if t4.1 = q1.2.1 then (.inl (.inr (t4.1, t4.2))) else (let q14 : Int32 × Int32 := m_X3_advance t4.1 q1.2.2.1 q1.2.2.2.1 q1.2.2.2.2.1 q1.2.2.2.2.2.1 t4.2; (if q14.1 = q1.2.1 then (.inr (q14.1, q14.2)) else (if (m_X3_isStopped K q14.1) = false then (.inr (q14.1, q14.2)) else (.inl (.inl q14.1))))))
def m_X3_firstStop (K : Nat → Int32) (fr : Int32) (to : Int32) : Int32 := (let q1 : Int32 × Int32 × Int32 × Int32 × Int32 × Int32 × Int32 := m_X3_start fr to; (lpr (lpx (f_X3_firstStop_9 K q1) 16 0 (q1.1, q1.2.2.2.2.2.2)) id (fun t21 => (-4 : Int32))))
set_option maxHeartbeats 4000000 in
set_option maxRecDepth 100000 in
theorem met_X3_firstStop (l : Launch) (D : va_G) (y4 : vT) (aLi aK : Nat) (sz : Nat) (L0 : Int32) (L1 : Int32) (L2 : Int32) (L3 : Int32) (L4 : Int32) (L5 : Int32) (L6 : Int32) (K : Nat → Int32) (fr : Int32) (to : Int32) : Met l yX3_firstStop wsX3_firstStop ({ frames := 1, cells := 0, slots := 0, locals := 24 }) (va_Pc [.ref aLi, .ref aK, .int fr, .int to] (PreW D y4 [(aLi, .inr (2, [.int L0, .int L1, .int L2, .int L3, .int L4, .int L5, .int L6])), (aK, .inl (y4.1, 64, .inl K))] sz)) (va_Qi (fun (r : Int32) (_ : Int32 × Int32 × Int32 × Int32 × Int32 × Int32 × Int32) => r = (m_X3_firstStop K fr to)) (fun u t => PostW D (va_A [(aLi, .inr (2, [.int L0, .int L1, .int L2, .int L3, .int L4, .int L5, .int L6])), (aK, .inl (y4.1, 64, .inl K))] sz) [(aLi, .inr (2, [.int u.1, .int u.2.1, .int u.2.2.1, .int u.2.2.2.1, .int u.2.2.2.2.1, .int u.2.2.2.2.2.1, .int u.2.2.2.2.2.2])), (aK, .inl (y4.1, 64, .inl K))] t) (va_A [(aLi, .inr (2, [.int L0, .int L1, .int L2, .int L3, .int L4, .int L5, .int L6])), (aK, .inl (y4.1, 64, .inl K))] sz)) 0 0 (va_A [(aLi, .inr (2, [.int L0, .int L1, .int L2, .int L3, .int L4, .int L5, .int L6])), (aK, .inl (y4.1, 64, .inl K))] sz) := by
  refine Met.ofW (cc := cX3_firstStop) (maxL := 5) (ret := (some .int)) (by decide) rfl ?_
  intro p e s m args below meth c s₁ B hml hv
  obtain ⟨rfl, hsz, hP, hK, hD0, hNW⟩ := hv
  have hx := B.exec
  have hb := B.bytes
  have hr := B.returns
  have hts := atoms_spec (ws := wsX3_firstStop) B.pre
  have hown : s.vm.findClass RX3 = some m.cls := findClass_of_methodNamed B.named
  have hlocks := B.notSynchronized
  subst hsz
  have hD := hD0.self (sz := s.heap.size)
  generalize hAe : va_A [(aLi, .inr (2, [.int L0, .int L1, .int L2, .int L3, .int L4, .int L5, .int L6])), (aK, .inl (y4.1, 64, .inl K))] s.heap.size = A at hD ⊢
  have hA : ∀ q : Nat, s.heap.size ≤ q → A q := fun q h => by rw [← hAe]; exact Or.inr h
  have hS : va_S A s.heap s.heap [] := va_S.rf
  have hl := lv_entry ([.ref aLi, .ref aK, .int fr, .int to]) (n := 5) (Nat.le_of_ble_eq_true rfl)
  rw [lg_entry_eq]
  generalize (lg_sl ([.ref aLi, .ref aK, .int fr, .int to]) ++ List.replicate (5 - (lg_sl ([.ref aLi, .ref aK, .int fr, .int to])).length) Slot.unset).toArray = ls at hl ⊢
  have hl : lv_has ls 5 [(0, .ref aLi), (1, .ref aK), (2, .int fr), (3, .int to)] := hl
  have f9 := hts (.fieldLink RX3 9 "PillarLight$Line" "cell" "I") (List.mem_of_getElem? (i := 1) rfl)
  have iX3 : ∀ w ∈ wsX30, w ∈ wsX3_firstStop := fun _ h => List.mem_cons_of_mem _ (List.mem_append_right _ h)
  have f15 := hts (.fieldLink RX3 15 "PillarLight$Line" "goal" "I") (List.mem_of_getElem? (i := 2) rfl)
  refine startW (fun H locs hP hS => ?_) hP hS
  refine lv_aload_n hx hb dX3_firstStop_0 rfl (lv_at hl 0 rfl) ?_
  refine lv_iload_n hx hb dX3_firstStop_1 rfl (lv_at hl 2 rfl) ?_
  refine lv_iload_n hx hb dX3_firstStop_2 rfl (lv_at hl 3 rfl) ?_
  refine callW_v (wr := [(aK, .inl (y4.1, 64, .inl K))]) (wn := fun u => [(aLi, .inr (2, [.int ((m_X3_start fr to).1), .int ((m_X3_start fr to).2.1), .int ((m_X3_start fr to).2.2.1), .int ((m_X3_start fr to).2.2.2.1), .int ((m_X3_start fr to).2.2.2.2.1), .int ((m_X3_start fr to).2.2.2.2.2.1), .int ((m_X3_start fr to).2.2.2.2.2.2)])), (aK, .inl (y4.1, 64, .inl K))]) (va_runV (As := [.int fr, .int to]) (rest := []) ⟨hx, hb, hml, hown, hts⟩ (met_X3_start l D y4 aLi H.size L0 L1 L2 L3 L4 L5 L6 fr to) (cwV 2 hts gX3_firstStop_X3_start rfl rfl rfl (by decide +kernel) ⟨Nat.le_of_ble_eq_true rfl, Nat.le_of_ble_eq_true rfl⟩) ⟨preW_blind, va_recv hK hP (ci := 2) (q0 := 0) rfl rfl, preW_at (hP.sub (ws' := [(aLi, .inr (2, [.int L0, .int L1, .int L2, .int L3, .int L4, .int L5, .int L6]))]) [0] rfl) hK (hD.sub (ws' := [(aLi, .inr (2, [.int L0, .int L1, .int L2, .int L3, .int L4, .int L5, .int L6]))]) [0] (by decide) rfl) hNW⟩ rfl rfl hl.1 rfl (lv_room (Nat.le_of_ble_eq_true rfl)) dX3_firstStop_3 ⟨Nat.zero_le _, Nat.zero_le _⟩) hP hD hS hA [0] [1] [1, 0] rfl rfl (by decide) (by decide) (fun _ => rfl) (by decide) (fun u2 H locs hw hP hD hS => ?_)
  obtain ⟨q1, eq1⟩ : ∃ z, z = m_X3_start fr to := ⟨_, rfl⟩
  rw [← eq1] at hP hD
  have hP : va_P D vwCl [(aLi, .inr (2, [.int q1.1, .int q1.2.1, .int q1.2.2.1, .int q1.2.2.2.1, .int q1.2.2.2.2.1, .int q1.2.2.2.2.2.1, .int q1.2.2.2.2.2.2])), (aK, .inl (y4.1, 64, .inl K))] H := hP
  have hD : va_D A [(aLi, .inr (2, [.int q1.1, .int q1.2.1, .int q1.2.2.1, .int q1.2.2.2.1, .int q1.2.2.2.2.1, .int q1.2.2.2.2.2.1, .int q1.2.2.2.2.2.2])), (aK, .inl (y4.1, 64, .inl K))] := hD
  refine lv_iconst (v := 0) hx hb dX3_firstStop_6 (by decide) ?_
  refine lv_istore (lv' := [(4, .int 0), (0, .ref aLi), (1, .ref aK), (2, .int fr), (3, .int to)]) hx hb dX3_firstStop_7 hl (by decide) rfl (fun ls hl => ?_)
  refine cutW (X := Int32 × Int32) 64 (fun x H locs ls => ((lpx (f_X3_firstStop_9 K q1) 16 0 (q1.1, q1.2.2.2.2.2.2)) = .inl (.inr x) ∨ (lpx (f_X3_firstStop_9 K q1) 16 0 (q1.1, q1.2.2.2.2.2.2)) = .inr x) ∧ va_P D vwCl [(aLi, .inr (2, [.int x.1, .int q1.2.1, .int q1.2.2.1, .int q1.2.2.2.1, .int q1.2.2.2.2.1, .int q1.2.2.2.2.2.1, .int x.2])), (aK, .inl (y4.1, 64, .inl K))] H ∧ va_D A [(aLi, .inr (2, [.int x.1, .int q1.2.1, .int q1.2.2.1, .int q1.2.2.2.1, .int q1.2.2.2.2.1, .int q1.2.2.2.2.2.1, .int x.2])), (aK, .inl (y4.1, 64, .inl K))] ∧ va_S A s.heap H locs ∧ lv_has ls 5 []) (fun x => []) ?_ (fun K64 => ?_)
  · rintro t21 H locs ls ⟨et21, hP, hD, hS, hl⟩
    have hP : va_P D vwCl [(aLi, .inr (2, [.int t21.1, .int q1.2.1, .int q1.2.2.1, .int q1.2.2.2.1, .int q1.2.2.2.2.1, .int q1.2.2.2.2.2.1, .int t21.2])), (aK, .inl (y4.1, 64, .inl K))] H := hP
    have hD : va_D A [(aLi, .inr (2, [.int t21.1, .int q1.2.1, .int q1.2.2.1, .int q1.2.2.2.1, .int q1.2.2.2.2.1, .int q1.2.2.2.2.2.1, .int t21.2])), (aK, .inl (y4.1, 64, .inl K))] := hD
    have hl : lv_has ls 5 [] := hl
    refine lv_bipush (v := (-4)) hx hb dX3_firstStop_64 (by decide) ?_
    have em : m_X3_firstStop K fr to = (-4 : Int32) := (by replace eq1 := Eq.symm eq1; subst eq1; first | (simp only [m_X3_firstStop, lpr_k et21]; done) | (simp only [m_X3_firstStop, lpr_k et21]; rfl))
    exact W.iret (v := (-4)) hx hb hr (fun t ht hW => ⟨⟨(-4), (t21.1, q1.2.1, q1.2.2.1, q1.2.2.2.1, q1.2.2.2.2.1, q1.2.2.2.2.2.1, t21.2), rfl, (by rw [em]), ⟨by rw [ht]; exact hP, by exact hD⟩⟩, hS.F ht⟩) hS.2.2 dX3_firstStop_66
  · refine loopX (σ := Int32 × Int32) (ρ := Int32 ⊕ (Int32 × Int32)) 9 (f_X3_firstStop_9 K q1) (fun _ _ => True) 16 0 (q1.1, q1.2.2.2.2.2.2) (fun k3 t4 H locs ls => va_P D vwCl [(aLi, .inr (2, [.int t4.1, .int q1.2.1, .int q1.2.2.1, .int q1.2.2.2.1, .int q1.2.2.2.2.1, .int q1.2.2.2.2.2.1, .int t4.2])), (aK, .inl (y4.1, 64, .inl K))] H ∧ va_D A [(aLi, .inr (2, [.int t4.1, .int q1.2.1, .int q1.2.2.1, .int q1.2.2.2.1, .int q1.2.2.2.2.1, .int q1.2.2.2.2.2.1, .int t4.2])), (aK, .inl (y4.1, 64, .inl K))] ∧ va_S A s.heap H locs ∧ lv_has ls 5 [(4, .int (nI k3)), (0, .ref aLi), (1, .ref aK)]) trivial ⟨hP, hD, hS, lv_sub hl [0, 1, 2] rfl⟩ (fun t19 H locs ls et19 hit19 hh => ?_) (fun k3 t4 hkk3 hjk3 hik3 hretk3 ihk3 H locs ls hh => ?_)
    · obtain ⟨hP, hD, hS, hl⟩ := hh
      have hP : va_P D vwCl [(aLi, .inr (2, [.int t19.1, .int q1.2.1, .int q1.2.2.1, .int q1.2.2.2.1, .int q1.2.2.2.2.1, .int q1.2.2.2.2.2.1, .int t19.2])), (aK, .inl (y4.1, 64, .inl K))] H := hP
      have hD : va_D A [(aLi, .inr (2, [.int t19.1, .int q1.2.1, .int q1.2.2.1, .int q1.2.2.2.1, .int q1.2.2.2.2.1, .int q1.2.2.2.2.2.1, .int t19.2])), (aK, .inl (y4.1, 64, .inl K))] := hD
      have hl : lv_has ls 5 [(4, .int (nI 16)), (0, .ref aLi), (1, .ref aK)] := hl
      refine lv_iload hx hb dX3_firstStop_9 (lv_at hl 0 rfl) ?_
      refine lv_bipush (v := 16) hx hb dX3_firstStop_11 (by decide) ?_
      refine lv_icmp_ge (tgt := 64) hx hb dX3_firstStop_13 (by decide) (fun c20 => ?_) (fun c20 => absurd (nI_le (a := 16) (by omega) (by omega)) c20)
      exact K64 t19 H locs ls ⟨Or.inr et19, hP, hD, hS, lv_sub hl [] rfl⟩
    · obtain ⟨hP, hD, hS, hl⟩ := hh
      have hP : va_P D vwCl [(aLi, .inr (2, [.int t4.1, .int q1.2.1, .int q1.2.2.1, .int q1.2.2.2.1, .int q1.2.2.2.2.1, .int q1.2.2.2.2.2.1, .int t4.2])), (aK, .inl (y4.1, 64, .inl K))] H := hP
      have hD : va_D A [(aLi, .inr (2, [.int t4.1, .int q1.2.1, .int q1.2.2.1, .int q1.2.2.2.1, .int q1.2.2.2.2.1, .int q1.2.2.2.2.2.1, .int t4.2])), (aK, .inl (y4.1, 64, .inl K))] := hD
      have hl : lv_has ls 5 [(4, .int (nI k3)), (0, .ref aLi), (1, .ref aK)] := hl
      refine lv_iload hx hb dX3_firstStop_9 (lv_at hl 0 rfl) ?_
      refine lv_bipush (v := 16) hx hb dX3_firstStop_11 (by decide) ?_
      refine lv_icmp_ge (tgt := 64) hx hb dX3_firstStop_13 (by decide) (fun c12 => absurd c12 (nI_ge (b := 16) (by omega) (by omega))) (fun c12 => ?_)
      refine lv_aload_n hx hb dX3_firstStop_16 rfl (lv_at hl 1 rfl) ?_
      refine va_get (ci := 2) (v := .int t4.1) (C := RX3) (T := TX3) (N := 7) hx hb hts iX3 hown hK hP 0 rfl rfl 0 (by decide) f9 (fun _ h9 => h9) rfl dX3_firstStop_17 ?_
      refine lv_aload_n hx hb dX3_firstStop_20 rfl (lv_at hl 1 rfl) ?_
      refine va_get (ci := 2) (v := .int q1.2.1) (C := RX3) (T := TX3) (N := 7) hx hb hts iX3 hown hK hP 0 rfl rfl 1 (by decide) f15 (fun _ h9 => h9) rfl dX3_firstStop_21 ?_
      refine lv_icmp_eq (tgt := 64) hx hb dX3_firstStop_24 (by decide) (fun c13 => ?_) (fun c13 => ?_)
      · have ef : (f_X3_firstStop_9 K q1) k3 t4 = .inl (.inr (t4.1, t4.2)) := (by first | (simp only [f_X3_firstStop_9, if_pos c13]; done) | (simp only [f_X3_firstStop_9, if_pos c13]; rfl))
        exact K64 (t4.1, t4.2) H locs ls ⟨Or.inl (hretk3 _ ef), hP, hD, hS, lv_sub hl [] rfl⟩
      · refine lv_aload_n hx hb dX3_firstStop_27 rfl (lv_at hl 1 rfl) ?_
        refine callW_v (wr := [(aK, .inl (y4.1, 64, .inl K))]) (wn := fun u => [(aLi, .inr (2, [.int ((m_X3_advance t4.1 q1.2.2.1 q1.2.2.2.1 q1.2.2.2.2.1 q1.2.2.2.2.2.1 t4.2).1), .int q1.2.1, .int q1.2.2.1, .int q1.2.2.2.1, .int q1.2.2.2.2.1, .int q1.2.2.2.2.2.1, .int ((m_X3_advance t4.1 q1.2.2.1 q1.2.2.2.1 q1.2.2.2.2.1 q1.2.2.2.2.2.1 t4.2).2)])), (aK, .inl (y4.1, 64, .inl K))]) (va_runV (As := []) (rest := []) ⟨hx, hb, hml, hown, hts⟩ (met_X3_advance l D y4 aLi H.size t4.1 q1.2.1 q1.2.2.1 q1.2.2.2.1 q1.2.2.2.2.1 q1.2.2.2.2.2.1 t4.2) (cwV 0 hts gX3_firstStop_X3_advance rfl rfl rfl (by decide +kernel) ⟨Nat.le_of_ble_eq_true rfl, Nat.le_of_ble_eq_true rfl⟩) ⟨preW_blind, va_recv hK hP (ci := 2) (q0 := 0) rfl rfl, preW_at (hP.sub (ws' := [(aLi, .inr (2, [.int t4.1, .int q1.2.1, .int q1.2.2.1, .int q1.2.2.2.1, .int q1.2.2.2.2.1, .int q1.2.2.2.2.2.1, .int t4.2]))]) [0] rfl) hK (hD.sub (ws' := [(aLi, .inr (2, [.int t4.1, .int q1.2.1, .int q1.2.2.1, .int q1.2.2.2.1, .int q1.2.2.2.2.1, .int q1.2.2.2.2.2.1, .int t4.2]))]) [0] (by decide) rfl) hNW⟩ rfl rfl hl.1 rfl (lv_room (Nat.le_of_ble_eq_true rfl)) dX3_firstStop_28 ⟨Nat.zero_le _, Nat.zero_le _⟩) hP hD hS hA [0] [1] [1, 0] rfl rfl (by decide) (by decide) (fun _ => rfl) (by decide) (fun u15 H locs hw hP hD hS => ?_)
        obtain ⟨q14, eq14⟩ : ∃ z, z = m_X3_advance t4.1 q1.2.2.1 q1.2.2.2.1 q1.2.2.2.2.1 q1.2.2.2.2.2.1 t4.2 := ⟨_, rfl⟩
        rw [← eq14] at hP hD
        have hP : va_P D vwCl [(aLi, .inr (2, [.int q14.1, .int q1.2.1, .int q1.2.2.1, .int q1.2.2.2.1, .int q1.2.2.2.2.1, .int q1.2.2.2.2.2.1, .int q14.2])), (aK, .inl (y4.1, 64, .inl K))] H := hP
        have hD : va_D A [(aLi, .inr (2, [.int q14.1, .int q1.2.1, .int q1.2.2.1, .int q1.2.2.2.1, .int q1.2.2.2.2.1, .int q1.2.2.2.2.2.1, .int q14.2])), (aK, .inl (y4.1, 64, .inl K))] := hD
        refine lv_aload_n hx hb dX3_firstStop_31 rfl (lv_at hl 1 rfl) ?_
        refine va_get (ci := 2) (v := .int q14.1) (C := RX3) (T := TX3) (N := 7) hx hb hts iX3 hown hK hP 0 rfl rfl 0 (by decide) f9 (fun _ h9 => h9) rfl dX3_firstStop_32 ?_
        refine lv_aload_n hx hb dX3_firstStop_35 rfl (lv_at hl 1 rfl) ?_
        refine va_get (ci := 2) (v := .int q1.2.1) (C := RX3) (T := TX3) (N := 7) hx hb hts iX3 hown hK hP 0 rfl rfl 1 (by decide) f15 (fun _ h9 => h9) rfl dX3_firstStop_36 ?_
        refine lv_icmp_eq (tgt := 58) hx hb dX3_firstStop_39 (by decide) (fun c16 => ?_) (fun c16 => ?_)
        · refine lv_iinc (v := nI (k3 + 1)) (lv' := [(4, .int (nI (k3 + 1))), (0, .ref aLi), (1, .ref aK)]) hx hb dX3_firstStop_58 hl (k := 0) rfl (nI_1 _) (by decide) rfl (fun ls hl => ?_)
          refine lv_goto (tgt := 9) hx hb dX3_firstStop_61 (by decide) ?_
          have ef : (f_X3_firstStop_9 K q1) k3 t4 = .inr (q14.1, q14.2) := (by replace eq14 := Eq.symm eq14; subst eq14; first | (simp only [f_X3_firstStop_9, if_neg c13, if_pos c16]; done) | (simp only [f_X3_firstStop_9, if_neg c13, if_pos c16]; rfl))
          exact ihk3 _ ef trivial H locs ls ⟨hP, hD, hS, lv_sub hl [0, 1, 2] rfl⟩
        · refine lv_aload_n hx hb dX3_firstStop_42 rfl (lv_at hl 2 rfl) ?_
          refine lv_aload_n hx hb dX3_firstStop_43 rfl (lv_at hl 1 rfl) ?_
          refine va_get (ci := 2) (v := .int q14.1) (C := RX3) (T := TX3) (N := 7) hx hb hts iX3 hown hK hP 0 rfl rfl 0 (by decide) f9 (fun _ h9 => h9) rfl dX3_firstStop_44 ?_
          refine callW_i (wr := [(aLi, .inr (2, [.int q14.1, .int q1.2.1, .int q1.2.2.1, .int q1.2.2.2.1, .int q1.2.2.2.2.1, .int q1.2.2.2.2.2.1, .int q14.2]))]) (wn := fun u => [(aLi, .inr (2, [.int q14.1, .int q1.2.1, .int q1.2.2.1, .int q1.2.2.2.1, .int q1.2.2.2.2.1, .int q1.2.2.2.2.2.1, .int q14.2])), (aK, .inl (y4.1, 64, .inl K))]) (va_runS (As := [.ref aK, .int q14.1]) (rest := []) ⟨hx, hb, hml, hown, hts⟩ (met_X3_isStopped l D y4 aK H.size K q14.1) (va_cwS 2 hts gX3_firstStop_X3_isStopped rfl rfl rfl (by decide +kernel) ⟨Nat.le_of_ble_eq_true rfl, Nat.le_of_ble_eq_true rfl⟩) ⟨preW_blind, preW_at (hP.sub (ws' := [(aK, .inl (y4.1, 64, .inl K))]) [1] rfl) hK (hD.sub (ws' := [(aK, .inl (y4.1, 64, .inl K))]) [1] (by decide) rfl) hNW⟩ rfl rfl hl.1 rfl (lv_room (Nat.le_of_ble_eq_true rfl)) dX3_firstStop_47 ⟨Nat.zero_le _, Nat.zero_le _⟩) hP hD hS hA [1] [0] [0, 1] rfl rfl (by decide) (by decide) (fun _ => rfl) (by decide) (fun r u17 H locs hw hP hD hS => ?_)
          replace hw := Eq.symm hw
          subst hw
          have hP : va_P D vwCl [(aLi, .inr (2, [.int q14.1, .int q1.2.1, .int q1.2.2.1, .int q1.2.2.2.1, .int q1.2.2.2.2.1, .int q1.2.2.2.2.2.1, .int q14.2])), (aK, .inl (y4.1, 64, .inl K))] H := hP
          have hD : va_D A [(aLi, .inr (2, [.int q14.1, .int q1.2.1, .int q1.2.2.1, .int q1.2.2.2.1, .int q1.2.2.2.2.1, .int q1.2.2.2.2.2.1, .int q14.2])), (aK, .inl (y4.1, 64, .inl K))] := hD
          refine lb_if_eq (tgt := 58) hx hb dX3_firstStop_50 (by decide) (fun c18 => ?_) (fun c18 => ?_)
          · refine lv_iinc (v := nI (k3 + 1)) (lv' := [(4, .int (nI (k3 + 1))), (0, .ref aLi), (1, .ref aK)]) hx hb dX3_firstStop_58 hl (k := 0) rfl (nI_1 _) (by decide) rfl (fun ls hl => ?_)
            refine lv_goto (tgt := 9) hx hb dX3_firstStop_61 (by decide) ?_
            have ef : (f_X3_firstStop_9 K q1) k3 t4 = .inr (q14.1, q14.2) := (by replace eq14 := Eq.symm eq14; subst eq14; first | (simp only [f_X3_firstStop_9, if_neg c13, if_neg c16, if_pos c18]; done) | (simp only [f_X3_firstStop_9, if_neg c13, if_neg c16, if_pos c18]; rfl))
            exact ihk3 _ ef trivial H locs ls ⟨hP, hD, hS, lv_sub hl [0, 1, 2] rfl⟩
          · refine lv_aload_n hx hb dX3_firstStop_53 rfl (lv_at hl 1 rfl) ?_
            refine va_get (ci := 2) (v := .int q14.1) (C := RX3) (T := TX3) (N := 7) hx hb hts iX3 hown hK hP 0 rfl rfl 0 (by decide) f9 (fun _ h9 => h9) rfl dX3_firstStop_54 ?_
            have ef : (f_X3_firstStop_9 K q1) k3 t4 = .inl (.inl q14.1) := (by replace eq14 := Eq.symm eq14; subst eq14; first | (simp only [f_X3_firstStop_9, if_neg c13, if_neg c16, if_neg c18]; done) | (simp only [f_X3_firstStop_9, if_neg c13, if_neg c16, if_neg c18]; rfl))
            have erk3 := hretk3 _ ef
            have em : m_X3_firstStop K fr to = q14.1 := (by replace eq1 := Eq.symm eq1; subst eq1; first | (simp only [m_X3_firstStop, lpr_j erk3]; done) | (simp only [m_X3_firstStop, lpr_j erk3]; rfl))
            exact W.iret (v := q14.1) hx hb hr (fun t ht hW => ⟨⟨q14.1, (q14.1, q1.2.1, q1.2.2.1, q1.2.2.2.1, q1.2.2.2.2.1, q1.2.2.2.2.2.1, q14.2), rfl, (by rw [em]), ⟨by rw [ht]; exact hP, by exact hD⟩⟩, hS.F ht⟩) hS.2.2 dX3_firstStop_57
def m_X3_isStoppedAt (L2 : Int32) (L3 : Int32) (L4 : Int32) (L5 : Int32) (K : Nat → Int32) (fr : Int32) (th : Int32) : Bool := (let v2 : Int32 := (if L2 ≤ 0 then (-1 : Int32) else (1 : Int32)); (let q3 : Bool := m_X7_isWithin (((m_X0_row th) - (m_X0_row fr)) * v2) 0 L4; (if q3 = false then false else (let q5 : Bool := m_X7_isWithin (((m_X0_column th) - (m_X0_column fr)) * L3) 0 L5; (if q5 = false then false else (if (iabs (2 * (((((m_X0_row th) - (m_X0_row fr)) * v2) * L5) - ((((m_X0_column th) - (m_X0_column fr)) * L3) * L4)))) = (L4 + L5) then (let v9 : Int32 := (if (2 * (((((m_X0_row th) - (m_X0_row fr)) * v2) * L5) - ((((m_X0_column th) - (m_X0_column fr)) * L3) * L4))) ≤ 0 then (th + L2) - L3 else (th - L2) + L3); (m_X3_isStopped K v9)) else (if (L4 + L5) ≤ (iabs (2 * (((((m_X0_row th) - (m_X0_row fr)) * v2) * L5) - ((((m_X0_column th) - (m_X0_column fr)) * L3) * L4)))) then false else true)))))))
set_option maxHeartbeats 4000000 in
set_option maxRecDepth 100000 in
theorem met_X3_isStoppedAt (l : Launch) (D : va_G) (y4 : vT) (aLi aK : Nat) (sz : Nat) (L0 : Int32) (L1 : Int32) (L2 : Int32) (L3 : Int32) (L4 : Int32) (L5 : Int32) (L6 : Int32) (K : Nat → Int32) (fr : Int32) (th : Int32) : Met l yX3_isStoppedAt wsX3_isStoppedAt ({ frames := 1, cells := 0, slots := 0, locals := 33 }) (va_Pc [.ref aLi, .ref aK, .int fr, .int th] (PreW D y4 [(aLi, .inr (2, [.int L0, .int L1, .int L2, .int L3, .int L4, .int L5, .int L6])), (aK, .inl (y4.1, 64, .inl K))] sz)) (va_Qi (fun (r : Int32) (_ : Unit) => r = bI (m_X3_isStoppedAt L2 L3 L4 L5 K fr th)) (fun _ t => PostW D (va_A [(aLi, .inr (2, [.int L0, .int L1, .int L2, .int L3, .int L4, .int L5, .int L6])), (aK, .inl (y4.1, 64, .inl K))] sz) [(aLi, .inr (2, [.int L0, .int L1, .int L2, .int L3, .int L4, .int L5, .int L6])), (aK, .inl (y4.1, 64, .inl K))] t) (va_A [(aLi, .inr (2, [.int L0, .int L1, .int L2, .int L3, .int L4, .int L5, .int L6])), (aK, .inl (y4.1, 64, .inl K))] sz)) 0 0 (va_A [(aLi, .inr (2, [.int L0, .int L1, .int L2, .int L3, .int L4, .int L5, .int L6])), (aK, .inl (y4.1, 64, .inl K))] sz) := by
  refine Met.ofW (cc := cX3_isStoppedAt) (maxL := 8) (ret := (some .boolean)) (by decide) rfl ?_
  intro p e s m args below meth c s₁ B hml hv
  obtain ⟨rfl, hsz, hP, hK, hD0, hNW⟩ := hv
  have hx := B.exec
  have hb := B.bytes
  have hr := B.returns
  have hts := atoms_spec (ws := wsX3_isStoppedAt) B.pre
  have hown : s.vm.findClass RX3 = some m.cls := findClass_of_methodNamed B.named
  have hlocks := B.notSynchronized
  subst hsz
  have hD := hD0.self (sz := s.heap.size)
  generalize hAe : va_A [(aLi, .inr (2, [.int L0, .int L1, .int L2, .int L3, .int L4, .int L5, .int L6])), (aK, .inl (y4.1, 64, .inl K))] s.heap.size = A at hD ⊢
  have hA : ∀ q : Nat, s.heap.size ≤ q → A q := fun q h => by rw [← hAe]; exact Or.inr h
  have hS : va_S A s.heap s.heap [] := va_S.rf
  have hl := lv_entry ([.ref aLi, .ref aK, .int fr, .int th]) (n := 8) (Nat.le_of_ble_eq_true rfl)
  rw [lg_entry_eq]
  generalize (lg_sl ([.ref aLi, .ref aK, .int fr, .int th]) ++ List.replicate (8 - (lg_sl ([.ref aLi, .ref aK, .int fr, .int th])).length) Slot.unset).toArray = ls at hl ⊢
  have hl : lv_has ls 8 [(0, .ref aLi), (1, .ref aK), (2, .int fr), (3, .int th)] := hl
  have f18 := hts (.fieldLink RX3 18 "PillarLight$Line" "rowStep" "I") (List.mem_of_getElem? (i := 1) rfl)
  have iX3 : ∀ w ∈ wsX30, w ∈ wsX3_isStoppedAt := fun _ h => List.mem_cons_of_mem _ (List.mem_append_right _ h)
  have f21 := hts (.fieldLink RX3 21 "PillarLight$Line" "columnStep" "I") (List.mem_of_getElem? (i := 2) rfl)
  have f24 := hts (.fieldLink RX3 24 "PillarLight$Line" "rows" "I") (List.mem_of_getElem? (i := 3) rfl)
  have f27 := hts (.fieldLink RX3 27 "PillarLight$Line" "columns" "I") (List.mem_of_getElem? (i := 4) rfl)
  have fabs61 := hts (.methodLink RX3 61 Lib.Math.abs.name) (List.mem_of_getElem? (i := 5) rfl)
  have fabsst := hts (.static Lib.Math.abs.name) (List.mem_of_getElem? (i := 6) rfl)
  have fabsin := hts (.initialized "java/lang/Math") (List.mem_of_getElem? (i := 7) rfl)
  have fabsco := hts (.code Lib.Math.abs.name Lib.Math.abs.code 1 (some .int)) (List.mem_of_getElem? (i := 8) rfl)
  refine startW (fun H locs hP hS => ?_) hP hS
  refine lv_iload_n hx hb dX3_isStoppedAt_0 rfl (lv_at hl 3 rfl) ?_
  refine callK_i (va_runS (As := [.int th]) (rest := []) ⟨hx, hb, hml, hown, hts⟩ (met_X0_row l  th) (va_cwS 1 hts gX3_isStoppedAt_X0_row rfl rfl rfl (by decide +kernel) ⟨Nat.le_of_ble_eq_true rfl, Nat.le_of_ble_eq_true rfl⟩) ⟨preS_blind, fun U hU hW => ⟨rfl, trivial⟩⟩ rfl rfl hl.1 rfl (lv_room (Nat.le_of_ble_eq_true rfl)) dX3_isStoppedAt_1 ⟨Nat.zero_le _, Nat.zero_le _⟩) hP hS (fun r u H locs hw hP hS => ?_)
  replace hw := Eq.symm hw
  subst hw
  refine lv_iload_n hx hb dX3_isStoppedAt_4 rfl (lv_at hl 2 rfl) ?_
  refine callK_i (va_runS (As := [.int fr]) (rest := [.int (m_X0_row th)]) ⟨hx, hb, hml, hown, hts⟩ (met_X0_row l  fr) (va_cwS 1 hts gX3_isStoppedAt_X0_row rfl rfl rfl (by decide +kernel) ⟨Nat.le_of_ble_eq_true rfl, Nat.le_of_ble_eq_true rfl⟩) ⟨preS_blind, fun U hU hW => ⟨rfl, trivial⟩⟩ rfl rfl hl.1 rfl (lv_room (Nat.le_of_ble_eq_true rfl)) dX3_isStoppedAt_5 ⟨Nat.zero_le _, Nat.zero_le _⟩) hP hS (fun r u H locs hw hP hS => ?_)
  replace hw := Eq.symm hw
  subst hw
  refine lv_isub hx hb dX3_isStoppedAt_8 ?_
  refine lv_aload_n hx hb dX3_isStoppedAt_9 rfl (lv_at hl 0 rfl) ?_
  refine va_get (ci := 2) (v := .int L2) (C := RX3) (T := TX3) (N := 7) hx hb hts iX3 hown hK hP 0 rfl rfl 2 (by decide) f18 (fun _ h9 => h9) rfl dX3_isStoppedAt_10 ?_
  refine cutW (X := Int32) 21 (fun x H locs ls => x = (if L2 ≤ 0 then (-1 : Int32) else (1 : Int32)) ∧ va_P D vwCl [(aLi, .inr (2, [.int L0, .int L1, .int L2, .int L3, .int L4, .int L5, .int L6])), (aK, .inl (y4.1, 64, .inl K))] H ∧ va_D A [(aLi, .inr (2, [.int L0, .int L1, .int L2, .int L3, .int L4, .int L5, .int L6])), (aK, .inl (y4.1, 64, .inl K))] ∧ va_S A s.heap H locs ∧ lv_has ls 8 [(0, .ref aLi), (1, .ref aK), (2, .int fr), (3, .int th)]) (fun x => [.int x, .int ((m_X0_row th) - (m_X0_row fr))]) ?_ (fun K21 => ?_)
  · rintro v2 H locs ls ⟨ev2, hP, hD, hS, hl⟩
    have ev2 : v2 = (if L2 ≤ 0 then (-1 : Int32) else (1 : Int32)) := ev2
    have hP : va_P D vwCl [(aLi, .inr (2, [.int L0, .int L1, .int L2, .int L3, .int L4, .int L5, .int L6])), (aK, .inl (y4.1, 64, .inl K))] H := hP
    have hD : va_D A [(aLi, .inr (2, [.int L0, .int L1, .int L2, .int L3, .int L4, .int L5, .int L6])), (aK, .inl (y4.1, 64, .inl K))] := hD
    have hl : lv_has ls 8 [(0, .ref aLi), (1, .ref aK), (2, .int fr), (3, .int th)] := hl
    refine lv_imul hx hb dX3_isStoppedAt_21 ?_
    refine lv_istore (lv' := [(4, .int (((m_X0_row th) - (m_X0_row fr)) * v2)), (0, .ref aLi), (1, .ref aK), (2, .int fr), (3, .int th)]) hx hb dX3_isStoppedAt_22 hl (by decide) rfl (fun ls hl => ?_)
    refine lv_iload_n hx hb dX3_isStoppedAt_24 rfl (lv_at hl 4 rfl) ?_
    refine callK_i (va_runS (As := [.int th]) (rest := []) ⟨hx, hb, hml, hown, hts⟩ (met_X0_column l  th) (va_cwS 1 hts gX3_isStoppedAt_X0_column rfl rfl rfl (by decide +kernel) ⟨Nat.le_of_ble_eq_true rfl, Nat.le_of_ble_eq_true rfl⟩) ⟨preS_blind, fun U hU hW => ⟨rfl, trivial⟩⟩ rfl rfl hl.1 rfl (lv_room (Nat.le_of_ble_eq_true rfl)) dX3_isStoppedAt_25 ⟨Nat.zero_le _, Nat.zero_le _⟩) hP hS (fun r u H locs hw hP hS => ?_)
    replace hw := Eq.symm hw
    subst hw
    refine lv_iload_n hx hb dX3_isStoppedAt_28 rfl (lv_at hl 3 rfl) ?_
    refine callK_i (va_runS (As := [.int fr]) (rest := [.int (m_X0_column th)]) ⟨hx, hb, hml, hown, hts⟩ (met_X0_column l  fr) (va_cwS 1 hts gX3_isStoppedAt_X0_column rfl rfl rfl (by decide +kernel) ⟨Nat.le_of_ble_eq_true rfl, Nat.le_of_ble_eq_true rfl⟩) ⟨preS_blind, fun U hU hW => ⟨rfl, trivial⟩⟩ rfl rfl hl.1 rfl (lv_room (Nat.le_of_ble_eq_true rfl)) dX3_isStoppedAt_29 ⟨Nat.zero_le _, Nat.zero_le _⟩) hP hS (fun r u H locs hw hP hS => ?_)
    replace hw := Eq.symm hw
    subst hw
    refine lv_isub hx hb dX3_isStoppedAt_32 ?_
    refine lv_aload_n hx hb dX3_isStoppedAt_33 rfl (lv_at hl 1 rfl) ?_
    refine va_get (ci := 2) (v := .int L3) (C := RX3) (T := TX3) (N := 7) hx hb hts iX3 hown hK hP 0 rfl rfl 3 (by decide) f21 (fun _ h9 => h9) rfl dX3_isStoppedAt_34 ?_
    refine lv_imul hx hb dX3_isStoppedAt_37 ?_
    refine lv_istore (lv' := [(5, .int (((m_X0_column th) - (m_X0_column fr)) * L3)), (4, .int (((m_X0_row th) - (m_X0_row fr)) * v2)), (0, .ref aLi), (1, .ref aK), (2, .int fr), (3, .int th)]) hx hb dX3_isStoppedAt_38 hl (by decide) rfl (fun ls hl => ?_)
    refine lv_iload hx hb dX3_isStoppedAt_40 (lv_at hl 1 rfl) ?_
    refine lv_iconst (v := 0) hx hb dX3_isStoppedAt_42 (by decide) ?_
    refine lv_aload_n hx hb dX3_isStoppedAt_43 rfl (lv_at hl 2 rfl) ?_
    refine va_get (ci := 2) (v := .int L4) (C := RX3) (T := TX3) (N := 7) hx hb hts iX3 hown hK hP 0 rfl rfl 4 (by decide) f24 (fun _ h9 => h9) rfl dX3_isStoppedAt_44 ?_
    refine callK_i (va_runSN (As := [.int (((m_X0_row th) - (m_X0_row fr)) * v2), .int 0, .int L4]) (rest := []) ⟨hx, hb, hml, hown, hts⟩ (met_X7_isWithin l  (((m_X0_row th) - (m_X0_row fr)) * v2) 0 L4) ⟨va_cnB 3 hts gX3_isStoppedAt_X7_isWithin_n57 rfl rfl rfl hNW.1 (hts _ (List.mem_of_getElem? (i := 17) rfl)) (by decide +kernel) ⟨Nat.le_of_ble_eq_true rfl, Nat.le_of_ble_eq_true rfl⟩, hts _ (List.mem_of_getElem? (i := 16) rfl), trivial⟩ ⟨preS_blind, fun U hU hW => ⟨rfl, trivial⟩⟩ rfl rfl hl.1 rfl (lv_room (Nat.le_of_ble_eq_true rfl)) dX3_isStoppedAt_47 ⟨Nat.zero_le _, Nat.zero_le _⟩) hP hS (fun r u H locs hw hP hS => ?_)
    obtain ⟨q3, eq3⟩ : ∃ z, z = m_X7_isWithin (((m_X0_row th) - (m_X0_row fr)) * v2) 0 L4 := ⟨_, rfl⟩
    rw [← eq3] at hw
    replace hw := Eq.symm hw
    subst hw
    refine lb_if_eq (tgt := 66) hx hb dX3_isStoppedAt_50 (by decide) (fun c4 => ?_) (fun c4 => ?_)
    · refine lv_iconst (v := 0) hx hb dX3_isStoppedAt_66 (by decide) ?_
      have em : m_X3_isStoppedAt L2 L3 L4 L5 K fr th = false := (by replace eq3 := Eq.symm eq3; subst eq3; replace ev2 := Eq.symm ev2; subst ev2; first | (simp only [m_X3_isStoppedAt, if_pos c4]; done) | (simp only [m_X3_isStoppedAt, if_pos c4]; rfl))
      exact W.zret (v := 0) hx hb hr rfl (fun t ht hW => ⟨⟨0, (), rfl, (by rw [em]; rfl), ⟨by rw [ht]; exact hP, by exact hD⟩⟩, hS.F ht⟩) hS.2.2 dX3_isStoppedAt_67
    · refine lv_iload hx hb dX3_isStoppedAt_53 (lv_at hl 0 rfl) ?_
      refine lv_iconst (v := 0) hx hb dX3_isStoppedAt_55 (by decide) ?_
      refine lv_aload_n hx hb dX3_isStoppedAt_56 rfl (lv_at hl 2 rfl) ?_
      refine va_get (ci := 2) (v := .int L5) (C := RX3) (T := TX3) (N := 7) hx hb hts iX3 hown hK hP 0 rfl rfl 5 (by decide) f27 (fun _ h9 => h9) rfl dX3_isStoppedAt_57 ?_
      refine callK_i (va_runSN (As := [.int (((m_X0_column th) - (m_X0_column fr)) * L3), .int 0, .int L5]) (rest := []) ⟨hx, hb, hml, hown, hts⟩ (met_X7_isWithin l  (((m_X0_column th) - (m_X0_column fr)) * L3) 0 L5) ⟨va_cnB 3 hts gX3_isStoppedAt_X7_isWithin_n57 rfl rfl rfl hNW.1 (hts _ (List.mem_of_getElem? (i := 17) rfl)) (by decide +kernel) ⟨Nat.le_of_ble_eq_true rfl, Nat.le_of_ble_eq_true rfl⟩, hts _ (List.mem_of_getElem? (i := 16) rfl), trivial⟩ ⟨preS_blind, fun U hU hW => ⟨rfl, trivial⟩⟩ rfl rfl hl.1 rfl (lv_room (Nat.le_of_ble_eq_true rfl)) dX3_isStoppedAt_60 ⟨Nat.zero_le _, Nat.zero_le _⟩) hP hS (fun r u H locs hw hP hS => ?_)
      obtain ⟨q5, eq5⟩ : ∃ z, z = m_X7_isWithin (((m_X0_column th) - (m_X0_column fr)) * L3) 0 L5 := ⟨_, rfl⟩
      rw [← eq5] at hw
      replace hw := Eq.symm hw
      subst hw
      refine lb_if_ne (tgt := 68) hx hb dX3_isStoppedAt_63 (by decide) (fun c6 => ?_) (fun c6 => ?_)
      · refine lv_iconst (v := 2) hx hb dX3_isStoppedAt_68 (by decide) ?_
        refine lv_iload hx hb dX3_isStoppedAt_69 (lv_at hl 1 rfl) ?_
        refine lv_aload_n hx hb dX3_isStoppedAt_71 rfl (lv_at hl 2 rfl) ?_
        refine va_get (ci := 2) (v := .int L5) (C := RX3) (T := TX3) (N := 7) hx hb hts iX3 hown hK hP 0 rfl rfl 5 (by decide) f27 (fun _ h9 => h9) rfl dX3_isStoppedAt_72 ?_
        refine lv_imul hx hb dX3_isStoppedAt_75 ?_
        refine lv_iload hx hb dX3_isStoppedAt_76 (lv_at hl 0 rfl) ?_
        refine lv_aload_n hx hb dX3_isStoppedAt_78 rfl (lv_at hl 2 rfl) ?_
        refine va_get (ci := 2) (v := .int L4) (C := RX3) (T := TX3) (N := 7) hx hb hts iX3 hown hK hP 0 rfl rfl 4 (by decide) f24 (fun _ h9 => h9) rfl dX3_isStoppedAt_79 ?_
        refine lv_imul hx hb dX3_isStoppedAt_82 ?_
        refine lv_isub hx hb dX3_isStoppedAt_83 ?_
        refine lv_imul hx hb dX3_isStoppedAt_84 ?_
        refine lv_istore (lv' := [(6, .int (2 * (((((m_X0_row th) - (m_X0_row fr)) * v2) * L5) - ((((m_X0_column th) - (m_X0_column fr)) * L3) * L4)))), (5, .int (((m_X0_column th) - (m_X0_column fr)) * L3)), (4, .int (((m_X0_row th) - (m_X0_row fr)) * v2)), (0, .ref aLi), (1, .ref aK), (2, .int fr), (3, .int th)]) hx hb dX3_isStoppedAt_85 hl (by decide) rfl (fun ls hl => ?_)
        refine lv_iload hx hb dX3_isStoppedAt_87 (lv_at hl 0 rfl) ?_
        refine va_mabs hx hb (hml.trans hl.1.symm) hown fabs61 fabsst fabsin fabsco (Nat.le_of_ble_eq_true rfl) (Nat.le_of_ble_eq_true rfl) (Nat.zero_le _) (Nat.zero_le _) (x := 2 * (((((m_X0_row th) - (m_X0_row fr)) * v2) * L5) - ((((m_X0_column th) - (m_X0_column fr)) * L3) * L4))) dX3_isStoppedAt_89 ?_
        refine W.ofeqi (y := iabs (2 * (((((m_X0_row th) - (m_X0_row fr)) * v2) * L5) - ((((m_X0_column th) - (m_X0_column fr)) * L3) * L4)))) rfl ?_
        refine lv_aload_n hx hb dX3_isStoppedAt_92 rfl (lv_at hl 3 rfl) ?_
        refine va_get (ci := 2) (v := .int L4) (C := RX3) (T := TX3) (N := 7) hx hb hts iX3 hown hK hP 0 rfl rfl 4 (by decide) f24 (fun _ h9 => h9) rfl dX3_isStoppedAt_93 ?_
        refine lv_aload_n hx hb dX3_isStoppedAt_96 rfl (lv_at hl 3 rfl) ?_
        refine va_get (ci := 2) (v := .int L5) (C := RX3) (T := TX3) (N := 7) hx hb hts iX3 hown hK hP 0 rfl rfl 5 (by decide) f27 (fun _ h9 => h9) rfl dX3_isStoppedAt_97 ?_
        refine lv_iadd hx hb dX3_isStoppedAt_100 ?_
        refine lv_icmp_eq (tgt := 127) hx hb dX3_isStoppedAt_101 (by decide) (fun c7 => ?_) (fun c7 => ?_)
        · refine lv_iload hx hb dX3_isStoppedAt_127 (lv_at hl 0 rfl) ?_
          refine cutW (X := Int32) 157 (fun x H locs ls => x = (if (2 * (((((m_X0_row th) - (m_X0_row fr)) * v2) * L5) - ((((m_X0_column th) - (m_X0_column fr)) * L3) * L4))) ≤ 0 then (th + L2) - L3 else (th - L2) + L3) ∧ va_P D vwCl [(aLi, .inr (2, [.int L0, .int L1, .int L2, .int L3, .int L4, .int L5, .int L6])), (aK, .inl (y4.1, 64, .inl K))] H ∧ va_D A [(aLi, .inr (2, [.int L0, .int L1, .int L2, .int L3, .int L4, .int L5, .int L6])), (aK, .inl (y4.1, 64, .inl K))] ∧ va_S A s.heap H locs ∧ lv_has ls 8 [(1, .ref aK)]) (fun x => [.int x]) ?_ (fun K157 => ?_)
          · rintro v9 H locs ls ⟨ev9, hP, hD, hS, hl⟩
            have ev9 : v9 = (if (2 * (((((m_X0_row th) - (m_X0_row fr)) * v2) * L5) - ((((m_X0_column th) - (m_X0_column fr)) * L3) * L4))) ≤ 0 then (th + L2) - L3 else (th - L2) + L3) := ev9
            have hP : va_P D vwCl [(aLi, .inr (2, [.int L0, .int L1, .int L2, .int L3, .int L4, .int L5, .int L6])), (aK, .inl (y4.1, 64, .inl K))] H := hP
            have hD : va_D A [(aLi, .inr (2, [.int L0, .int L1, .int L2, .int L3, .int L4, .int L5, .int L6])), (aK, .inl (y4.1, 64, .inl K))] := hD
            have hl : lv_has ls 8 [(1, .ref aK)] := hl
            refine lv_istore (lv' := [(7, .int v9), (1, .ref aK)]) hx hb dX3_isStoppedAt_157 hl (by decide) rfl (fun ls hl => ?_)
            refine lv_aload_n hx hb dX3_isStoppedAt_159 rfl (lv_at hl 1 rfl) ?_
            refine lv_iload hx hb dX3_isStoppedAt_160 (lv_at hl 0 rfl) ?_
            refine callW_i (wr := [(aLi, .inr (2, [.int L0, .int L1, .int L2, .int L3, .int L4, .int L5, .int L6]))]) (wn := fun u => [(aLi, .inr (2, [.int L0, .int L1, .int L2, .int L3, .int L4, .int L5, .int L6])), (aK, .inl (y4.1, 64, .inl K))]) (va_runS (As := [.ref aK, .int v9]) (rest := []) ⟨hx, hb, hml, hown, hts⟩ (met_X3_isStopped l D y4 aK H.size K v9) (va_cwS 2 hts gX3_isStoppedAt_X3_isStopped rfl rfl rfl (by decide +kernel) ⟨Nat.le_of_ble_eq_true rfl, Nat.le_of_ble_eq_true rfl⟩) ⟨preW_blind, preW_at (hP.sub (ws' := [(aK, .inl (y4.1, 64, .inl K))]) [1] rfl) hK (hD.sub (ws' := [(aK, .inl (y4.1, 64, .inl K))]) [1] (by decide) rfl) hNW⟩ rfl rfl hl.1 rfl (lv_room (Nat.le_of_ble_eq_true rfl)) dX3_isStoppedAt_162 ⟨Nat.zero_le _, Nat.zero_le _⟩) hP hD hS hA [1] [0] [0, 1] rfl rfl (by decide) (by decide) (fun _ => rfl) (by decide) (fun r u10 H locs hw hP hD hS => ?_)
            replace hw := Eq.symm hw
            subst hw
            have hP : va_P D vwCl [(aLi, .inr (2, [.int L0, .int L1, .int L2, .int L3, .int L4, .int L5, .int L6])), (aK, .inl (y4.1, 64, .inl K))] H := hP
            have hD : va_D A [(aLi, .inr (2, [.int L0, .int L1, .int L2, .int L3, .int L4, .int L5, .int L6])), (aK, .inl (y4.1, 64, .inl K))] := hD
            have em : m_X3_isStoppedAt L2 L3 L4 L5 K fr th = (m_X3_isStopped K v9) := (by replace ev9 := Eq.symm ev9; subst ev9; replace eq5 := Eq.symm eq5; subst eq5; replace eq3 := Eq.symm eq3; subst eq3; replace ev2 := Eq.symm ev2; subst ev2; first | (simp only [m_X3_isStoppedAt, if_neg c4, if_neg c6, if_pos c7]; done) | (simp only [m_X3_isStoppedAt, if_neg c4, if_neg c6, if_pos c7]; rfl))
            exact W.zret (v := bI (m_X3_isStopped K v9)) hx hb hr (bI_nar _) (fun t ht hW => ⟨⟨bI (m_X3_isStopped K v9), (), rfl, (by rw [em]), ⟨by rw [ht]; exact hP, by exact hD⟩⟩, hS.F ht⟩) hS.2.2 dX3_isStoppedAt_165
          · refine lv_if_le (tgt := 146) hx hb dX3_isStoppedAt_129 (by decide) (fun c8 => ?_) (fun c8 => ?_)
            · refine lv_iload_n hx hb dX3_isStoppedAt_146 rfl (lv_at hl 6 rfl) ?_
              refine lv_aload_n hx hb dX3_isStoppedAt_147 rfl (lv_at hl 3 rfl) ?_
              refine va_get (ci := 2) (v := .int L2) (C := RX3) (T := TX3) (N := 7) hx hb hts iX3 hown hK hP 0 rfl rfl 2 (by decide) f18 (fun _ h9 => h9) rfl dX3_isStoppedAt_148 ?_
              refine lv_iadd hx hb dX3_isStoppedAt_151 ?_
              refine lv_aload_n hx hb dX3_isStoppedAt_152 rfl (lv_at hl 3 rfl) ?_
              refine va_get (ci := 2) (v := .int L3) (C := RX3) (T := TX3) (N := 7) hx hb hts iX3 hown hK hP 0 rfl rfl 3 (by decide) f21 (fun _ h9 => h9) rfl dX3_isStoppedAt_153 ?_
              refine lv_isub hx hb dX3_isStoppedAt_156 ?_
              exact K157 ((th + L2) - L3) H locs ls ⟨(by replace eq5 := Eq.symm eq5; subst eq5; replace eq3 := Eq.symm eq3; subst eq3; replace ev2 := Eq.symm ev2; subst ev2; first | (simp only [if_neg c4, if_neg c6, if_pos c7, if_pos c8]; done) | (simp only [if_neg c4, if_neg c6, if_pos c7, if_pos c8]; rfl) | rfl), hP, hD, hS, lv_sub hl [4] rfl⟩
            · refine lv_iload_n hx hb dX3_isStoppedAt_132 rfl (lv_at hl 6 rfl) ?_
              refine lv_aload_n hx hb dX3_isStoppedAt_133 rfl (lv_at hl 3 rfl) ?_
              refine va_get (ci := 2) (v := .int L2) (C := RX3) (T := TX3) (N := 7) hx hb hts iX3 hown hK hP 0 rfl rfl 2 (by decide) f18 (fun _ h9 => h9) rfl dX3_isStoppedAt_134 ?_
              refine lv_isub hx hb dX3_isStoppedAt_137 ?_
              refine lv_aload_n hx hb dX3_isStoppedAt_138 rfl (lv_at hl 3 rfl) ?_
              refine va_get (ci := 2) (v := .int L3) (C := RX3) (T := TX3) (N := 7) hx hb hts iX3 hown hK hP 0 rfl rfl 3 (by decide) f21 (fun _ h9 => h9) rfl dX3_isStoppedAt_139 ?_
              refine lv_iadd hx hb dX3_isStoppedAt_142 ?_
              refine lv_goto (tgt := 157) hx hb dX3_isStoppedAt_143 (by decide) ?_
              exact K157 ((th - L2) + L3) H locs ls ⟨(by replace eq5 := Eq.symm eq5; subst eq5; replace eq3 := Eq.symm eq3; subst eq3; replace ev2 := Eq.symm ev2; subst ev2; first | (simp only [if_neg c4, if_neg c6, if_pos c7, if_neg c8]; done) | (simp only [if_neg c4, if_neg c6, if_pos c7, if_neg c8]; rfl) | rfl), hP, hD, hS, lv_sub hl [4] rfl⟩
        · refine lv_iload hx hb dX3_isStoppedAt_104 (lv_at hl 0 rfl) ?_
          refine va_mabs hx hb (hml.trans hl.1.symm) hown fabs61 fabsst fabsin fabsco (Nat.le_of_ble_eq_true rfl) (Nat.le_of_ble_eq_true rfl) (Nat.zero_le _) (Nat.zero_le _) (x := 2 * (((((m_X0_row th) - (m_X0_row fr)) * v2) * L5) - ((((m_X0_column th) - (m_X0_column fr)) * L3) * L4))) dX3_isStoppedAt_106 ?_
          refine W.ofeqi (y := iabs (2 * (((((m_X0_row th) - (m_X0_row fr)) * v2) * L5) - ((((m_X0_column th) - (m_X0_column fr)) * L3) * L4)))) rfl ?_
          refine lv_aload_n hx hb dX3_isStoppedAt_109 rfl (lv_at hl 3 rfl) ?_
          refine va_get (ci := 2) (v := .int L4) (C := RX3) (T := TX3) (N := 7) hx hb hts iX3 hown hK hP 0 rfl rfl 4 (by decide) f24 (fun _ h9 => h9) rfl dX3_isStoppedAt_110 ?_
          refine lv_aload_n hx hb dX3_isStoppedAt_113 rfl (lv_at hl 3 rfl) ?_
          refine va_get (ci := 2) (v := .int L5) (C := RX3) (T := TX3) (N := 7) hx hb hts iX3 hown hK hP 0 rfl rfl 5 (by decide) f27 (fun _ h9 => h9) rfl dX3_isStoppedAt_114 ?_
          refine lv_iadd hx hb dX3_isStoppedAt_117 ?_
          refine lv_icmp_ge (tgt := 125) hx hb dX3_isStoppedAt_118 (by decide) (fun c11 => ?_) (fun c11 => ?_)
          · refine lv_iconst (v := 0) hx hb dX3_isStoppedAt_125 (by decide) ?_
            have em : m_X3_isStoppedAt L2 L3 L4 L5 K fr th = false := (by replace eq5 := Eq.symm eq5; subst eq5; replace eq3 := Eq.symm eq3; subst eq3; replace ev2 := Eq.symm ev2; subst ev2; first | (simp only [m_X3_isStoppedAt, if_neg c4, if_neg c6, if_neg c7, if_pos c11]; done) | (simp only [m_X3_isStoppedAt, if_neg c4, if_neg c6, if_neg c7, if_pos c11]; rfl))
            exact W.zret (v := 0) hx hb hr rfl (fun t ht hW => ⟨⟨0, (), rfl, (by rw [em]; rfl), ⟨by rw [ht]; exact hP, by exact hD⟩⟩, hS.F ht⟩) hS.2.2 dX3_isStoppedAt_126
          · refine lv_iconst (v := 1) hx hb dX3_isStoppedAt_121 (by decide) ?_
            refine lv_goto (tgt := 126) hx hb dX3_isStoppedAt_122 (by decide) ?_
            have em : m_X3_isStoppedAt L2 L3 L4 L5 K fr th = true := (by replace eq5 := Eq.symm eq5; subst eq5; replace eq3 := Eq.symm eq3; subst eq3; replace ev2 := Eq.symm ev2; subst ev2; first | (simp only [m_X3_isStoppedAt, if_neg c4, if_neg c6, if_neg c7, if_neg c11]; done) | (simp only [m_X3_isStoppedAt, if_neg c4, if_neg c6, if_neg c7, if_neg c11]; rfl))
            exact W.zret (v := 1) hx hb hr rfl (fun t ht hW => ⟨⟨1, (), rfl, (by rw [em]; rfl), ⟨by rw [ht]; exact hP, by exact hD⟩⟩, hS.F ht⟩) hS.2.2 dX3_isStoppedAt_126
      · refine lv_iconst (v := 0) hx hb dX3_isStoppedAt_66 (by decide) ?_
        have em : m_X3_isStoppedAt L2 L3 L4 L5 K fr th = false := (by replace eq5 := Eq.symm eq5; subst eq5; replace eq3 := Eq.symm eq3; subst eq3; replace ev2 := Eq.symm ev2; subst ev2; first | (simp only [m_X3_isStoppedAt, if_neg c4, if_pos c6]; done) | (simp only [m_X3_isStoppedAt, if_neg c4, if_pos c6]; rfl))
        exact W.zret (v := 0) hx hb hr rfl (fun t ht hW => ⟨⟨0, (), rfl, (by rw [em]; rfl), ⟨by rw [ht]; exact hP, by exact hD⟩⟩, hS.F ht⟩) hS.2.2 dX3_isStoppedAt_67
  · refine lv_if_le (tgt := 20) hx hb dX3_isStoppedAt_13 (by decide) (fun c1 => ?_) (fun c1 => ?_)
    · refine lv_iconst (v := (-1)) hx hb dX3_isStoppedAt_20 (by decide) ?_
      exact K21 (-1 : Int32) H locs ls ⟨(by first | (simp only [if_pos c1]; done) | (simp only [if_pos c1]; rfl) | rfl), hP, hD, hS, lv_sub hl [0, 1, 2, 3] rfl⟩
    · refine lv_iconst (v := 1) hx hb dX3_isStoppedAt_16 (by decide) ?_
      refine lv_goto (tgt := 21) hx hb dX3_isStoppedAt_17 (by decide) ?_
      exact K21 (1 : Int32) H locs ls ⟨(by first | (simp only [if_neg c1]; done) | (simp only [if_neg c1]; rfl) | rfl), hP, hD, hS, lv_sub hl [0, 1, 2, 3] rfl⟩
def f_X3_isFreeOfEach_9 (K : Nat → Int32) (fr : Int32) (to : Int32) (q1 : Int32 × Int32 × Int32 × Int32 × Int32 × Int32 × Int32) (k3 : Nat) (t4 : Unit) : (Bool ⊕ Unit) ⊕ Unit := (if (nI k3) = fr then (.inr ()) else (if (nI k3) = to then (.inr ()) else (if (m_X3_isStopped K (nI k3)) = false then (.inr ()) else (let q10 : Bool := m_X3_isStoppedAt q1.2.2.1 q1.2.2.2.1 q1.2.2.2.2.1 q1.2.2.2.2.2.1 K fr (nI k3); (if q10 = false then (.inr ()) else (.inl (.inl false)))))))
def m_X3_isFreeOfEach (K : Nat → Int32) (fr : Int32) (to : Int32) : Bool := (let q1 : Int32 × Int32 × Int32 × Int32 × Int32 × Int32 × Int32 := m_X3_start fr to; (lpr (lpx (f_X3_isFreeOfEach_9 K fr to q1) 64 0 ()) id (fun t15 => true)))
set_option maxHeartbeats 4000000 in
set_option maxRecDepth 100000 in
theorem met_X3_isFreeOfEach (l : Launch) (D : va_G) (y4 : vT) (aLi aK : Nat) (sz : Nat) (L0 : Int32) (L1 : Int32) (L2 : Int32) (L3 : Int32) (L4 : Int32) (L5 : Int32) (L6 : Int32) (K : Nat → Int32) (fr : Int32) (to : Int32) : Met l yX3_isFreeOfEach wsX3_isFreeOfEach ({ frames := 2, cells := 0, slots := 0, locals := 60 }) (va_Pc [.ref aLi, .ref aK, .int fr, .int to] (PreW D y4 [(aLi, .inr (2, [.int L0, .int L1, .int L2, .int L3, .int L4, .int L5, .int L6])), (aK, .inl (y4.1, 64, .inl K))] sz)) (va_Qi (fun (r : Int32) (_ : Int32 × Int32 × Int32 × Int32 × Int32 × Int32 × Int32) => r = bI (m_X3_isFreeOfEach K fr to)) (fun u t => PostW D (va_A [(aLi, .inr (2, [.int L0, .int L1, .int L2, .int L3, .int L4, .int L5, .int L6])), (aK, .inl (y4.1, 64, .inl K))] sz) [(aLi, .inr (2, [.int u.1, .int u.2.1, .int u.2.2.1, .int u.2.2.2.1, .int u.2.2.2.2.1, .int u.2.2.2.2.2.1, .int u.2.2.2.2.2.2])), (aK, .inl (y4.1, 64, .inl K))] t) (va_A [(aLi, .inr (2, [.int L0, .int L1, .int L2, .int L3, .int L4, .int L5, .int L6])), (aK, .inl (y4.1, 64, .inl K))] sz)) 0 0 (va_A [(aLi, .inr (2, [.int L0, .int L1, .int L2, .int L3, .int L4, .int L5, .int L6])), (aK, .inl (y4.1, 64, .inl K))] sz) := by
  refine Met.ofW (cc := cX3_isFreeOfEach) (maxL := 5) (ret := (some .boolean)) (by decide) rfl ?_
  intro p e s m args below meth c s₁ B hml hv
  obtain ⟨rfl, hsz, hP, hK, hD0, hNW⟩ := hv
  have hx := B.exec
  have hb := B.bytes
  have hr := B.returns
  have hts := atoms_spec (ws := wsX3_isFreeOfEach) B.pre
  have hown : s.vm.findClass RX3 = some m.cls := findClass_of_methodNamed B.named
  have hlocks := B.notSynchronized
  subst hsz
  have hD := hD0.self (sz := s.heap.size)
  generalize hAe : va_A [(aLi, .inr (2, [.int L0, .int L1, .int L2, .int L3, .int L4, .int L5, .int L6])), (aK, .inl (y4.1, 64, .inl K))] s.heap.size = A at hD ⊢
  have hA : ∀ q : Nat, s.heap.size ≤ q → A q := fun q h => by rw [← hAe]; exact Or.inr h
  have hS : va_S A s.heap s.heap [] := va_S.rf
  have hl := lv_entry ([.ref aLi, .ref aK, .int fr, .int to]) (n := 5) (Nat.le_of_ble_eq_true rfl)
  rw [lg_entry_eq]
  generalize (lg_sl ([.ref aLi, .ref aK, .int fr, .int to]) ++ List.replicate (5 - (lg_sl ([.ref aLi, .ref aK, .int fr, .int to])).length) Slot.unset).toArray = ls at hl ⊢
  have hl : lv_has ls 5 [(0, .ref aLi), (1, .ref aK), (2, .int fr), (3, .int to)] := hl
  refine startW (fun H locs hP hS => ?_) hP hS
  refine lv_aload_n hx hb dX3_isFreeOfEach_0 rfl (lv_at hl 0 rfl) ?_
  refine lv_iload_n hx hb dX3_isFreeOfEach_1 rfl (lv_at hl 2 rfl) ?_
  refine lv_iload_n hx hb dX3_isFreeOfEach_2 rfl (lv_at hl 3 rfl) ?_
  refine callW_v (wr := [(aK, .inl (y4.1, 64, .inl K))]) (wn := fun u => [(aLi, .inr (2, [.int ((m_X3_start fr to).1), .int ((m_X3_start fr to).2.1), .int ((m_X3_start fr to).2.2.1), .int ((m_X3_start fr to).2.2.2.1), .int ((m_X3_start fr to).2.2.2.2.1), .int ((m_X3_start fr to).2.2.2.2.2.1), .int ((m_X3_start fr to).2.2.2.2.2.2)])), (aK, .inl (y4.1, 64, .inl K))]) (va_runV (As := [.int fr, .int to]) (rest := []) ⟨hx, hb, hml, hown, hts⟩ (met_X3_start l D y4 aLi H.size L0 L1 L2 L3 L4 L5 L6 fr to) (cwV 2 hts gX3_isFreeOfEach_X3_start rfl rfl rfl (by decide +kernel) ⟨Nat.le_of_ble_eq_true rfl, Nat.le_of_ble_eq_true rfl⟩) ⟨preW_blind, va_recv hK hP (ci := 2) (q0 := 0) rfl rfl, preW_at (hP.sub (ws' := [(aLi, .inr (2, [.int L0, .int L1, .int L2, .int L3, .int L4, .int L5, .int L6]))]) [0] rfl) hK (hD.sub (ws' := [(aLi, .inr (2, [.int L0, .int L1, .int L2, .int L3, .int L4, .int L5, .int L6]))]) [0] (by decide) rfl) hNW⟩ rfl rfl hl.1 rfl (lv_room (Nat.le_of_ble_eq_true rfl)) dX3_isFreeOfEach_3 ⟨Nat.zero_le _, Nat.zero_le _⟩) hP hD hS hA [0] [1] [1, 0] rfl rfl (by decide) (by decide) (fun _ => rfl) (by decide) (fun u2 H locs hw hP hD hS => ?_)
  obtain ⟨q1, eq1⟩ : ∃ z, z = m_X3_start fr to := ⟨_, rfl⟩
  rw [← eq1] at hP hD
  have hP : va_P D vwCl [(aLi, .inr (2, [.int q1.1, .int q1.2.1, .int q1.2.2.1, .int q1.2.2.2.1, .int q1.2.2.2.2.1, .int q1.2.2.2.2.2.1, .int q1.2.2.2.2.2.2])), (aK, .inl (y4.1, 64, .inl K))] H := hP
  have hD : va_D A [(aLi, .inr (2, [.int q1.1, .int q1.2.1, .int q1.2.2.1, .int q1.2.2.2.1, .int q1.2.2.2.2.1, .int q1.2.2.2.2.2.1, .int q1.2.2.2.2.2.2])), (aK, .inl (y4.1, 64, .inl K))] := hD
  refine lv_iconst (v := 0) hx hb dX3_isFreeOfEach_6 (by decide) ?_
  refine lv_istore (lv' := [(4, .int 0), (0, .ref aLi), (1, .ref aK), (2, .int fr), (3, .int to)]) hx hb dX3_isFreeOfEach_7 hl (by decide) rfl (fun ls hl => ?_)
  refine cutW (X := Unit) 56 (fun x H locs ls => ((lpx (f_X3_isFreeOfEach_9 K fr to q1) 64 0 ()) = .inl (.inr x) ∨ (lpx (f_X3_isFreeOfEach_9 K fr to q1) 64 0 ()) = .inr x) ∧ va_P D vwCl [(aLi, .inr (2, [.int q1.1, .int q1.2.1, .int q1.2.2.1, .int q1.2.2.2.1, .int q1.2.2.2.2.1, .int q1.2.2.2.2.2.1, .int q1.2.2.2.2.2.2])), (aK, .inl (y4.1, 64, .inl K))] H ∧ va_D A [(aLi, .inr (2, [.int q1.1, .int q1.2.1, .int q1.2.2.1, .int q1.2.2.2.1, .int q1.2.2.2.2.1, .int q1.2.2.2.2.2.1, .int q1.2.2.2.2.2.2])), (aK, .inl (y4.1, 64, .inl K))] ∧ va_S A s.heap H locs ∧ lv_has ls 5 []) (fun x => []) ?_ (fun K56 => ?_)
  · rintro t15 H locs ls ⟨et15, hP, hD, hS, hl⟩
    have hP : va_P D vwCl [(aLi, .inr (2, [.int q1.1, .int q1.2.1, .int q1.2.2.1, .int q1.2.2.2.1, .int q1.2.2.2.2.1, .int q1.2.2.2.2.2.1, .int q1.2.2.2.2.2.2])), (aK, .inl (y4.1, 64, .inl K))] H := hP
    have hD : va_D A [(aLi, .inr (2, [.int q1.1, .int q1.2.1, .int q1.2.2.1, .int q1.2.2.2.1, .int q1.2.2.2.2.1, .int q1.2.2.2.2.2.1, .int q1.2.2.2.2.2.2])), (aK, .inl (y4.1, 64, .inl K))] := hD
    have hl : lv_has ls 5 [] := hl
    refine lv_iconst (v := 1) hx hb dX3_isFreeOfEach_56 (by decide) ?_
    have em : m_X3_isFreeOfEach K fr to = true := (by replace eq1 := Eq.symm eq1; subst eq1; first | (simp only [m_X3_isFreeOfEach, lpr_k et15]; done) | (simp only [m_X3_isFreeOfEach, lpr_k et15]; rfl))
    exact W.zret (v := 1) hx hb hr rfl (fun t ht hW => ⟨⟨1, (q1.1, q1.2.1, q1.2.2.1, q1.2.2.2.1, q1.2.2.2.2.1, q1.2.2.2.2.2.1, q1.2.2.2.2.2.2), rfl, (by rw [em]; rfl), ⟨by rw [ht]; exact hP, by exact hD⟩⟩, hS.F ht⟩) hS.2.2 dX3_isFreeOfEach_57
  · refine loopX (σ := Unit) (ρ := Bool ⊕ Unit) 9 (f_X3_isFreeOfEach_9 K fr to q1) (fun _ _ => True) 64 0 () (fun k3 t4 H locs ls => va_P D vwCl [(aLi, .inr (2, [.int q1.1, .int q1.2.1, .int q1.2.2.1, .int q1.2.2.2.1, .int q1.2.2.2.2.1, .int q1.2.2.2.2.2.1, .int q1.2.2.2.2.2.2])), (aK, .inl (y4.1, 64, .inl K))] H ∧ va_D A [(aLi, .inr (2, [.int q1.1, .int q1.2.1, .int q1.2.2.1, .int q1.2.2.2.1, .int q1.2.2.2.2.1, .int q1.2.2.2.2.2.1, .int q1.2.2.2.2.2.2])), (aK, .inl (y4.1, 64, .inl K))] ∧ va_S A s.heap H locs ∧ lv_has ls 5 [(4, .int (nI k3)), (0, .ref aLi), (1, .ref aK), (2, .int fr), (3, .int to)]) trivial ⟨hP, hD, hS, lv_sub hl [0, 1, 2, 3, 4] rfl⟩ (fun t13 H locs ls et13 hit13 hh => ?_) (fun k3 t4 hkk3 hjk3 hik3 hretk3 ihk3 H locs ls hh => ?_)
    · obtain ⟨hP, hD, hS, hl⟩ := hh
      have hP : va_P D vwCl [(aLi, .inr (2, [.int q1.1, .int q1.2.1, .int q1.2.2.1, .int q1.2.2.2.1, .int q1.2.2.2.2.1, .int q1.2.2.2.2.2.1, .int q1.2.2.2.2.2.2])), (aK, .inl (y4.1, 64, .inl K))] H := hP
      have hD : va_D A [(aLi, .inr (2, [.int q1.1, .int q1.2.1, .int q1.2.2.1, .int q1.2.2.2.1, .int q1.2.2.2.2.1, .int q1.2.2.2.2.2.1, .int q1.2.2.2.2.2.2])), (aK, .inl (y4.1, 64, .inl K))] := hD
      have hl : lv_has ls 5 [(4, .int (nI 64)), (0, .ref aLi), (1, .ref aK), (2, .int fr), (3, .int to)] := hl
      refine lv_iload hx hb dX3_isFreeOfEach_9 (lv_at hl 0 rfl) ?_
      refine lv_bipush (v := 64) hx hb dX3_isFreeOfEach_11 (by decide) ?_
      refine lv_icmp_ge (tgt := 56) hx hb dX3_isFreeOfEach_13 (by decide) (fun c14 => ?_) (fun c14 => absurd (nI_le (a := 64) (by omega) (by omega)) c14)
      exact K56 t13 H locs ls ⟨Or.inr et13, hP, hD, hS, lv_sub hl [] rfl⟩
    · obtain ⟨hP, hD, hS, hl⟩ := hh
      have hP : va_P D vwCl [(aLi, .inr (2, [.int q1.1, .int q1.2.1, .int q1.2.2.1, .int q1.2.2.2.1, .int q1.2.2.2.2.1, .int q1.2.2.2.2.2.1, .int q1.2.2.2.2.2.2])), (aK, .inl (y4.1, 64, .inl K))] H := hP
      have hD : va_D A [(aLi, .inr (2, [.int q1.1, .int q1.2.1, .int q1.2.2.1, .int q1.2.2.2.1, .int q1.2.2.2.2.1, .int q1.2.2.2.2.2.1, .int q1.2.2.2.2.2.2])), (aK, .inl (y4.1, 64, .inl K))] := hD
      have hl : lv_has ls 5 [(4, .int (nI k3)), (0, .ref aLi), (1, .ref aK), (2, .int fr), (3, .int to)] := hl
      refine lv_iload hx hb dX3_isFreeOfEach_9 (lv_at hl 0 rfl) ?_
      refine lv_bipush (v := 64) hx hb dX3_isFreeOfEach_11 (by decide) ?_
      refine lv_icmp_ge (tgt := 56) hx hb dX3_isFreeOfEach_13 (by decide) (fun c5 => absurd c5 (nI_ge (b := 64) (by omega) (by omega))) (fun c5 => ?_)
      refine lv_iload hx hb dX3_isFreeOfEach_16 (lv_at hl 0 rfl) ?_
      refine lv_iload_n hx hb dX3_isFreeOfEach_18 rfl (lv_at hl 3 rfl) ?_
      refine lv_icmp_eq (tgt := 50) hx hb dX3_isFreeOfEach_19 (by decide) (fun c6 => ?_) (fun c6 => ?_)
      · refine lv_iinc (v := nI (k3 + 1)) (lv' := [(4, .int (nI (k3 + 1))), (0, .ref aLi), (1, .ref aK), (2, .int fr), (3, .int to)]) hx hb dX3_isFreeOfEach_50 hl (k := 0) rfl (nI_1 _) (by decide) rfl (fun ls hl => ?_)
        refine lv_goto (tgt := 9) hx hb dX3_isFreeOfEach_53 (by decide) ?_
        have ef : (f_X3_isFreeOfEach_9 K fr to q1) k3 t4 = .inr () := (by first | (simp only [f_X3_isFreeOfEach_9, if_pos c6]; done) | (simp only [f_X3_isFreeOfEach_9, if_pos c6]; rfl))
        exact ihk3 _ ef trivial H locs ls ⟨hP, hD, hS, lv_sub hl [0, 1, 2, 3, 4] rfl⟩
      · refine lv_iload hx hb dX3_isFreeOfEach_22 (lv_at hl 0 rfl) ?_
        refine lv_iload_n hx hb dX3_isFreeOfEach_24 rfl (lv_at hl 4 rfl) ?_
        refine lv_icmp_eq (tgt := 50) hx hb dX3_isFreeOfEach_25 (by decide) (fun c7 => ?_) (fun c7 => ?_)
        · refine lv_iinc (v := nI (k3 + 1)) (lv' := [(4, .int (nI (k3 + 1))), (0, .ref aLi), (1, .ref aK), (2, .int fr), (3, .int to)]) hx hb dX3_isFreeOfEach_50 hl (k := 0) rfl (nI_1 _) (by decide) rfl (fun ls hl => ?_)
          refine lv_goto (tgt := 9) hx hb dX3_isFreeOfEach_53 (by decide) ?_
          have ef : (f_X3_isFreeOfEach_9 K fr to q1) k3 t4 = .inr () := (by first | (simp only [f_X3_isFreeOfEach_9, if_neg c6, if_pos c7]; done) | (simp only [f_X3_isFreeOfEach_9, if_neg c6, if_pos c7]; rfl))
          exact ihk3 _ ef trivial H locs ls ⟨hP, hD, hS, lv_sub hl [0, 1, 2, 3, 4] rfl⟩
        · refine lv_aload_n hx hb dX3_isFreeOfEach_28 rfl (lv_at hl 2 rfl) ?_
          refine lv_iload hx hb dX3_isFreeOfEach_29 (lv_at hl 0 rfl) ?_
          refine callW_i (wr := [(aLi, .inr (2, [.int q1.1, .int q1.2.1, .int q1.2.2.1, .int q1.2.2.2.1, .int q1.2.2.2.2.1, .int q1.2.2.2.2.2.1, .int q1.2.2.2.2.2.2]))]) (wn := fun u => [(aLi, .inr (2, [.int q1.1, .int q1.2.1, .int q1.2.2.1, .int q1.2.2.2.1, .int q1.2.2.2.2.1, .int q1.2.2.2.2.2.1, .int q1.2.2.2.2.2.2])), (aK, .inl (y4.1, 64, .inl K))]) (va_runS (As := [.ref aK, .int (nI k3)]) (rest := []) ⟨hx, hb, hml, hown, hts⟩ (met_X3_isStopped l D y4 aK H.size K (nI k3)) (va_cwS 2 hts gX3_isFreeOfEach_X3_isStopped rfl rfl rfl (by decide +kernel) ⟨Nat.le_of_ble_eq_true rfl, Nat.le_of_ble_eq_true rfl⟩) ⟨preW_blind, preW_at (hP.sub (ws' := [(aK, .inl (y4.1, 64, .inl K))]) [1] rfl) hK (hD.sub (ws' := [(aK, .inl (y4.1, 64, .inl K))]) [1] (by decide) rfl) hNW⟩ rfl rfl hl.1 rfl (lv_room (Nat.le_of_ble_eq_true rfl)) dX3_isFreeOfEach_31 ⟨Nat.zero_le _, Nat.zero_le _⟩) hP hD hS hA [1] [0] [0, 1] rfl rfl (by decide) (by decide) (fun _ => rfl) (by decide) (fun r u8 H locs hw hP hD hS => ?_)
          replace hw := Eq.symm hw
          subst hw
          have hP : va_P D vwCl [(aLi, .inr (2, [.int q1.1, .int q1.2.1, .int q1.2.2.1, .int q1.2.2.2.1, .int q1.2.2.2.2.1, .int q1.2.2.2.2.2.1, .int q1.2.2.2.2.2.2])), (aK, .inl (y4.1, 64, .inl K))] H := hP
          have hD : va_D A [(aLi, .inr (2, [.int q1.1, .int q1.2.1, .int q1.2.2.1, .int q1.2.2.2.1, .int q1.2.2.2.2.1, .int q1.2.2.2.2.2.1, .int q1.2.2.2.2.2.2])), (aK, .inl (y4.1, 64, .inl K))] := hD
          refine lb_if_eq (tgt := 50) hx hb dX3_isFreeOfEach_34 (by decide) (fun c9 => ?_) (fun c9 => ?_)
          · refine lv_iinc (v := nI (k3 + 1)) (lv' := [(4, .int (nI (k3 + 1))), (0, .ref aLi), (1, .ref aK), (2, .int fr), (3, .int to)]) hx hb dX3_isFreeOfEach_50 hl (k := 0) rfl (nI_1 _) (by decide) rfl (fun ls hl => ?_)
            refine lv_goto (tgt := 9) hx hb dX3_isFreeOfEach_53 (by decide) ?_
            have ef : (f_X3_isFreeOfEach_9 K fr to q1) k3 t4 = .inr () := (by first | (simp only [f_X3_isFreeOfEach_9, if_neg c6, if_neg c7, if_pos c9]; done) | (simp only [f_X3_isFreeOfEach_9, if_neg c6, if_neg c7, if_pos c9]; rfl))
            exact ihk3 _ ef trivial H locs ls ⟨hP, hD, hS, lv_sub hl [0, 1, 2, 3, 4] rfl⟩
          · refine lv_aload_n hx hb dX3_isFreeOfEach_37 rfl (lv_at hl 1 rfl) ?_
            refine lv_aload_n hx hb dX3_isFreeOfEach_38 rfl (lv_at hl 2 rfl) ?_
            refine lv_iload_n hx hb dX3_isFreeOfEach_39 rfl (lv_at hl 3 rfl) ?_
            refine lv_iload hx hb dX3_isFreeOfEach_40 (lv_at hl 0 rfl) ?_
            refine callW_i (wr := []) (wn := fun u => [(aLi, .inr (2, [.int q1.1, .int q1.2.1, .int q1.2.2.1, .int q1.2.2.2.1, .int q1.2.2.2.2.1, .int q1.2.2.2.2.2.1, .int q1.2.2.2.2.2.2])), (aK, .inl (y4.1, 64, .inl K))]) (va_runV (As := [.ref aK, .int fr, .int (nI k3)]) (rest := []) ⟨hx, hb, hml, hown, hts⟩ (met_X3_isStoppedAt l D y4 aLi aK H.size q1.1 q1.2.1 q1.2.2.1 q1.2.2.2.1 q1.2.2.2.2.1 q1.2.2.2.2.2.1 q1.2.2.2.2.2.2 K fr (nI k3)) (cwV 3 hts gX3_isFreeOfEach_X3_isStoppedAt rfl rfl rfl (by decide +kernel) ⟨Nat.le_of_ble_eq_true rfl, Nat.le_of_ble_eq_true rfl⟩) ⟨preW_blind, va_recv hK hP (ci := 2) (q0 := 0) rfl rfl, preW_at (hP.sub (ws' := [(aLi, .inr (2, [.int q1.1, .int q1.2.1, .int q1.2.2.1, .int q1.2.2.2.1, .int q1.2.2.2.2.1, .int q1.2.2.2.2.2.1, .int q1.2.2.2.2.2.2])), (aK, .inl (y4.1, 64, .inl K))]) [0, 1] rfl) hK (hD.sub (ws' := [(aLi, .inr (2, [.int q1.1, .int q1.2.1, .int q1.2.2.1, .int q1.2.2.2.1, .int q1.2.2.2.2.1, .int q1.2.2.2.2.2.1, .int q1.2.2.2.2.2.2])), (aK, .inl (y4.1, 64, .inl K))]) [0, 1] (by decide) rfl) hNW⟩ rfl rfl hl.1 rfl (lv_room (Nat.le_of_ble_eq_true rfl)) dX3_isFreeOfEach_42 ⟨Nat.zero_le _, Nat.zero_le _⟩) hP hD hS hA [0, 1] [] [0, 1] rfl rfl (by decide) (by decide) (fun _ => rfl) (by decide) (fun r u11 H locs hw hP hD hS => ?_)
            obtain ⟨q10, eq10⟩ : ∃ z, z = m_X3_isStoppedAt q1.2.2.1 q1.2.2.2.1 q1.2.2.2.2.1 q1.2.2.2.2.2.1 K fr (nI k3) := ⟨_, rfl⟩
            rw [← eq10] at hw
            replace hw := Eq.symm hw
            subst hw
            have hP : va_P D vwCl [(aLi, .inr (2, [.int q1.1, .int q1.2.1, .int q1.2.2.1, .int q1.2.2.2.1, .int q1.2.2.2.2.1, .int q1.2.2.2.2.2.1, .int q1.2.2.2.2.2.2])), (aK, .inl (y4.1, 64, .inl K))] H := hP
            have hD : va_D A [(aLi, .inr (2, [.int q1.1, .int q1.2.1, .int q1.2.2.1, .int q1.2.2.2.1, .int q1.2.2.2.2.1, .int q1.2.2.2.2.2.1, .int q1.2.2.2.2.2.2])), (aK, .inl (y4.1, 64, .inl K))] := hD
            refine lb_if_eq (tgt := 50) hx hb dX3_isFreeOfEach_45 (by decide) (fun c12 => ?_) (fun c12 => ?_)
            · refine lv_iinc (v := nI (k3 + 1)) (lv' := [(4, .int (nI (k3 + 1))), (0, .ref aLi), (1, .ref aK), (2, .int fr), (3, .int to)]) hx hb dX3_isFreeOfEach_50 hl (k := 0) rfl (nI_1 _) (by decide) rfl (fun ls hl => ?_)
              refine lv_goto (tgt := 9) hx hb dX3_isFreeOfEach_53 (by decide) ?_
              have ef : (f_X3_isFreeOfEach_9 K fr to q1) k3 t4 = .inr () := (by replace eq10 := Eq.symm eq10; subst eq10; first | (simp only [f_X3_isFreeOfEach_9, if_neg c6, if_neg c7, if_neg c9, if_pos c12]; done) | (simp only [f_X3_isFreeOfEach_9, if_neg c6, if_neg c7, if_neg c9, if_pos c12]; rfl))
              exact ihk3 _ ef trivial H locs ls ⟨hP, hD, hS, lv_sub hl [0, 1, 2, 3, 4] rfl⟩
            · refine lv_iconst (v := 0) hx hb dX3_isFreeOfEach_48 (by decide) ?_
              have ef : (f_X3_isFreeOfEach_9 K fr to q1) k3 t4 = .inl (.inl false) := (by replace eq10 := Eq.symm eq10; subst eq10; first | (simp only [f_X3_isFreeOfEach_9, if_neg c6, if_neg c7, if_neg c9, if_neg c12]; done) | (simp only [f_X3_isFreeOfEach_9, if_neg c6, if_neg c7, if_neg c9, if_neg c12]; rfl))
              have erk3 := hretk3 _ ef
              have em : m_X3_isFreeOfEach K fr to = false := (by replace eq1 := Eq.symm eq1; subst eq1; first | (simp only [m_X3_isFreeOfEach, lpr_j erk3]; done) | (simp only [m_X3_isFreeOfEach, lpr_j erk3]; rfl))
              exact W.zret (v := 0) hx hb hr rfl (fun t ht hW => ⟨⟨0, (q1.1, q1.2.1, q1.2.2.1, q1.2.2.2.1, q1.2.2.2.2.1, q1.2.2.2.2.2.1, q1.2.2.2.2.2.2), rfl, (by rw [em]; rfl), ⟨by rw [ht]; exact hP, by exact hD⟩⟩, hS.F ht⟩) hS.2.2 dX3_isFreeOfEach_49
def f_X3_freeCells_5 (K : Nat → Int32) (fr : Int32) (k1 : Nat) (t2 : Int32) : Int32 := (let v17 : Int32 := (if (m_X3_isFreeAlong K fr (nI k1)) = false then t2 else t2 + 1); v17)
def m_X3_freeCells (K : Nat → Int32) (fr : Int32) : Int32 := (let t25 : Int32 := itr (f_X3_freeCells_5 K fr) 64 (0 : Int32); t25)
set_option maxHeartbeats 4000000 in
set_option maxRecDepth 100000 in
theorem met_X3_freeCells (l : Launch) (D : va_G) (y4 : vT) (aLi aK : Nat) (sz : Nat) (L0 : Int32) (L1 : Int32) (L2 : Int32) (L3 : Int32) (L4 : Int32) (L5 : Int32) (L6 : Int32) (K : Nat → Int32) (fr : Int32) : Met l yX3_freeCells wsX3_freeCells ({ frames := 2, cells := 0, slots := 0, locals := 48 }) (va_Pc [.ref aLi, .ref aK, .int fr] (PreW D y4 [(aLi, .inr (2, [.int L0, .int L1, .int L2, .int L3, .int L4, .int L5, .int L6])), (aK, .inl (y4.1, 64, .inl K))] sz)) (va_Qi (fun (r : Int32) (_ : Int32 × Int32 × Int32 × Int32 × Int32 × Int32 × Int32) => r = (m_X3_freeCells K fr)) (fun u t => PostW D (va_A [(aLi, .inr (2, [.int L0, .int L1, .int L2, .int L3, .int L4, .int L5, .int L6])), (aK, .inl (y4.1, 64, .inl K))] sz) [(aLi, .inr (2, [.int u.1, .int u.2.1, .int u.2.2.1, .int u.2.2.2.1, .int u.2.2.2.2.1, .int u.2.2.2.2.2.1, .int u.2.2.2.2.2.2])), (aK, .inl (y4.1, 64, .inl K))] t) (va_A [(aLi, .inr (2, [.int L0, .int L1, .int L2, .int L3, .int L4, .int L5, .int L6])), (aK, .inl (y4.1, 64, .inl K))] sz)) 0 0 (va_A [(aLi, .inr (2, [.int L0, .int L1, .int L2, .int L3, .int L4, .int L5, .int L6])), (aK, .inl (y4.1, 64, .inl K))] sz) := by
  refine Met.ofW (cc := cX3_freeCells) (maxL := 5) (ret := (some .int)) (by decide) rfl ?_
  intro p e s m args below meth c s₁ B hml hv
  obtain ⟨rfl, hsz, hP, hK, hD0, hNW⟩ := hv
  have hx := B.exec
  have hb := B.bytes
  have hr := B.returns
  have hts := atoms_spec (ws := wsX3_freeCells) B.pre
  have hown : s.vm.findClass RX3 = some m.cls := findClass_of_methodNamed B.named
  have hlocks := B.notSynchronized
  subst hsz
  have hD := hD0.self (sz := s.heap.size)
  generalize hAe : va_A [(aLi, .inr (2, [.int L0, .int L1, .int L2, .int L3, .int L4, .int L5, .int L6])), (aK, .inl (y4.1, 64, .inl K))] s.heap.size = A at hD ⊢
  have hA : ∀ q : Nat, s.heap.size ≤ q → A q := fun q h => by rw [← hAe]; exact Or.inr h
  have hS : va_S A s.heap s.heap [] := va_S.rf
  have hl := lv_entry ([.ref aLi, .ref aK, .int fr]) (n := 5) (Nat.le_of_ble_eq_true rfl)
  rw [lg_entry_eq]
  generalize (lg_sl ([.ref aLi, .ref aK, .int fr]) ++ List.replicate (5 - (lg_sl ([.ref aLi, .ref aK, .int fr])).length) Slot.unset).toArray = ls at hl ⊢
  have hl : lv_has ls 5 [(0, .ref aLi), (1, .ref aK), (2, .int fr)] := hl
  refine startW (fun H locs hP hS => ?_) hP hS
  refine lv_iconst (v := 0) hx hb dX3_freeCells_0 (by decide) ?_
  refine lv_istore_n (lv' := [(3, .int 0), (0, .ref aLi), (1, .ref aK), (2, .int fr)]) hx hb dX3_freeCells_1 rfl hl (by decide) rfl (fun ls hl => ?_)
  refine lv_iconst (v := 0) hx hb dX3_freeCells_2 (by decide) ?_
  refine lv_istore (lv' := [(4, .int 0), (3, .int 0), (0, .ref aLi), (1, .ref aK), (2, .int fr)]) hx hb dX3_freeCells_3 hl (by decide) rfl (fun ls hl => ?_)
  refine loopW (σ := Int32) 5 (f_X3_freeCells_5 K fr) 64 (0 : Int32) (fun k1 t2 H locs ls => ∃ h7 : Int32, ∃ h8 : Int32, ∃ h9 : Int32, ∃ h10 : Int32, ∃ h11 : Int32, ∃ h12 : Int32, ∃ h13 : Int32, va_P D vwCl [(aLi, .inr (2, [.int h7, .int h8, .int h9, .int h10, .int h11, .int h12, .int h13])), (aK, .inl (y4.1, 64, .inl K))] H ∧ va_D A [(aLi, .inr (2, [.int h7, .int h8, .int h9, .int h10, .int h11, .int h12, .int h13])), (aK, .inl (y4.1, 64, .inl K))] ∧ va_S A s.heap H locs ∧ lv_has ls 5 [(4, .int (nI k1)), (3, .int t2), (0, .ref aLi), (1, .ref aK), (2, .int fr)]) ⟨L0, L1, L2, L3, L4, L5, L6, hP, hD, hS, lv_sub hl [0, 1, 2, 3, 4] rfl⟩ (fun t25 H locs ls et25 hh => ?_) (fun k1 t2 hkk1 hek1 ihk1 H locs ls hh => ?_)
  · obtain ⟨h33, h34, h35, h36, h37, h38, h39, hP, hD, hS, hl⟩ := hh
    have hP : va_P D vwCl [(aLi, .inr (2, [.int h33, .int h34, .int h35, .int h36, .int h37, .int h38, .int h39])), (aK, .inl (y4.1, 64, .inl K))] H := hP
    have hD : va_D A [(aLi, .inr (2, [.int h33, .int h34, .int h35, .int h36, .int h37, .int h38, .int h39])), (aK, .inl (y4.1, 64, .inl K))] := hD
    have hl : lv_has ls 5 [(4, .int (nI 64)), (3, .int t25), (0, .ref aLi), (1, .ref aK), (2, .int fr)] := hl
    refine lv_iload hx hb dX3_freeCells_5 (lv_at hl 0 rfl) ?_
    refine lv_bipush (v := 64) hx hb dX3_freeCells_7 (by decide) ?_
    refine lv_icmp_ge (tgt := 32) hx hb dX3_freeCells_9 (by decide) (fun c40 => ?_) (fun c40 => absurd (nI_le (a := 64) (by omega) (by omega)) c40)
    refine lv_iload_n hx hb dX3_freeCells_32 rfl (lv_at hl 1 rfl) ?_
    have em : m_X3_freeCells K fr = t25 := (by replace et25 := Eq.symm et25; subst et25; first | (simp only [m_X3_freeCells]; done) | (unfold m_X3_freeCells; rfl) | rfl)
    exact W.iret (v := t25) hx hb hr (fun t ht hW => ⟨⟨t25, (h33, h34, h35, h36, h37, h38, h39), rfl, (by rw [em]), ⟨by rw [ht]; exact hP, by exact hD⟩⟩, hS.F ht⟩) hS.2.2 dX3_freeCells_33
  · obtain ⟨h7, h8, h9, h10, h11, h12, h13, hP, hD, hS, hl⟩ := hh
    have hP : va_P D vwCl [(aLi, .inr (2, [.int h7, .int h8, .int h9, .int h10, .int h11, .int h12, .int h13])), (aK, .inl (y4.1, 64, .inl K))] H := hP
    have hD : va_D A [(aLi, .inr (2, [.int h7, .int h8, .int h9, .int h10, .int h11, .int h12, .int h13])), (aK, .inl (y4.1, 64, .inl K))] := hD
    have hl : lv_has ls 5 [(4, .int (nI k1)), (3, .int t2), (0, .ref aLi), (1, .ref aK), (2, .int fr)] := hl
    refine lv_iload hx hb dX3_freeCells_5 (lv_at hl 0 rfl) ?_
    refine lv_bipush (v := 64) hx hb dX3_freeCells_7 (by decide) ?_
    refine lv_icmp_ge (tgt := 32) hx hb dX3_freeCells_9 (by decide) (fun c14 => absurd c14 (nI_ge (b := 64) (by omega) (by omega))) (fun c14 => ?_)
    refine lv_aload_n hx hb dX3_freeCells_12 rfl (lv_at hl 2 rfl) ?_
    refine lv_aload_n hx hb dX3_freeCells_13 rfl (lv_at hl 3 rfl) ?_
    refine lv_iload_n hx hb dX3_freeCells_14 rfl (lv_at hl 4 rfl) ?_
    refine lv_iload hx hb dX3_freeCells_15 (lv_at hl 0 rfl) ?_
    refine callW_i (wr := []) (wn := fun u => [(aLi, .inr (2, [.int u.1, .int u.2.1, .int u.2.2.1, .int u.2.2.2.1, .int u.2.2.2.2.1, .int u.2.2.2.2.2.1, .int u.2.2.2.2.2.2])), (aK, .inl (y4.1, 64, .inl K))]) (va_runV (As := [.ref aK, .int fr, .int (nI k1)]) (rest := []) ⟨hx, hb, hml, hown, hts⟩ (met_X3_isFreeAlong l D y4 aLi aK H.size h7 h8 h9 h10 h11 h12 h13 K fr (nI k1)) (cwV 3 hts gX3_freeCells_X3_isFreeAlong rfl rfl rfl (by decide +kernel) ⟨Nat.le_of_ble_eq_true rfl, Nat.le_of_ble_eq_true rfl⟩) ⟨preW_blind, va_recv hK hP (ci := 2) (q0 := 0) rfl rfl, preW_at (hP.sub (ws' := [(aLi, .inr (2, [.int h7, .int h8, .int h9, .int h10, .int h11, .int h12, .int h13])), (aK, .inl (y4.1, 64, .inl K))]) [0, 1] rfl) hK (hD.sub (ws' := [(aLi, .inr (2, [.int h7, .int h8, .int h9, .int h10, .int h11, .int h12, .int h13])), (aK, .inl (y4.1, 64, .inl K))]) [0, 1] (by decide) rfl) hNW⟩ rfl rfl hl.1 rfl (lv_room (Nat.le_of_ble_eq_true rfl)) dX3_freeCells_17 ⟨Nat.zero_le _, Nat.zero_le _⟩) hP hD hS hA [0, 1] [] [0, 1] rfl rfl (by decide) (by decide) (fun _ => rfl) (by decide) (fun r u15 H locs hw hP hD hS => ?_)
    replace hw := Eq.symm hw
    subst hw
    have hP : va_P D vwCl [(aLi, .inr (2, [.int u15.1, .int u15.2.1, .int u15.2.2.1, .int u15.2.2.2.1, .int u15.2.2.2.2.1, .int u15.2.2.2.2.2.1, .int u15.2.2.2.2.2.2])), (aK, .inl (y4.1, 64, .inl K))] H := hP
    have hD : va_D A [(aLi, .inr (2, [.int u15.1, .int u15.2.1, .int u15.2.2.1, .int u15.2.2.2.1, .int u15.2.2.2.2.1, .int u15.2.2.2.2.2.1, .int u15.2.2.2.2.2.2])), (aK, .inl (y4.1, 64, .inl K))] := hD
    refine cutW (X := Int32) 26 (fun x H locs ls => x = (if (m_X3_isFreeAlong K fr (nI k1)) = false then t2 else t2 + 1) ∧ va_P D vwCl [(aLi, .inr (2, [.int u15.1, .int u15.2.1, .int u15.2.2.1, .int u15.2.2.2.1, .int u15.2.2.2.2.1, .int u15.2.2.2.2.2.1, .int u15.2.2.2.2.2.2])), (aK, .inl (y4.1, 64, .inl K))] H ∧ va_D A [(aLi, .inr (2, [.int u15.1, .int u15.2.1, .int u15.2.2.1, .int u15.2.2.2.1, .int u15.2.2.2.2.1, .int u15.2.2.2.2.2.1, .int u15.2.2.2.2.2.2])), (aK, .inl (y4.1, 64, .inl K))] ∧ va_S A s.heap H locs ∧ lv_has ls 5 [(4, .int (nI k1)), (3, .int x), (0, .ref aLi), (1, .ref aK), (2, .int fr)]) (fun x => []) ?_ (fun K26 => ?_)
    · rintro v17 H locs ls ⟨ev17, hP, hD, hS, hl⟩
      have ev17 : v17 = (if (m_X3_isFreeAlong K fr (nI k1)) = false then t2 else t2 + 1) := ev17
      have hP : va_P D vwCl [(aLi, .inr (2, [.int u15.1, .int u15.2.1, .int u15.2.2.1, .int u15.2.2.2.1, .int u15.2.2.2.2.1, .int u15.2.2.2.2.2.1, .int u15.2.2.2.2.2.2])), (aK, .inl (y4.1, 64, .inl K))] H := hP
      have hD : va_D A [(aLi, .inr (2, [.int u15.1, .int u15.2.1, .int u15.2.2.1, .int u15.2.2.2.1, .int u15.2.2.2.2.1, .int u15.2.2.2.2.2.1, .int u15.2.2.2.2.2.2])), (aK, .inl (y4.1, 64, .inl K))] := hD
      have hl : lv_has ls 5 [(4, .int (nI k1)), (3, .int v17), (0, .ref aLi), (1, .ref aK), (2, .int fr)] := hl
      refine lv_iinc (v := nI (k1 + 1)) (lv' := [(4, .int (nI (k1 + 1))), (3, .int v17), (0, .ref aLi), (1, .ref aK), (2, .int fr)]) hx hb dX3_freeCells_26 hl (k := 0) rfl (nI_1 _) (by decide) rfl (fun ls hl => ?_)
      refine lv_goto (tgt := 5) hx hb dX3_freeCells_29 (by decide) ?_
      have ef : (f_X3_freeCells_5 K fr) k1 t2 = v17 := (by replace ev17 := Eq.symm ev17; subst ev17; first | (simp only [f_X3_freeCells_5]; done) | (unfold f_X3_freeCells_5; rfl) | rfl)
      rw [ef] at ihk1
      exact ihk1 H locs ls ⟨u15.1, u15.2.1, u15.2.2.1, u15.2.2.2.1, u15.2.2.2.2.1, u15.2.2.2.2.2.1, u15.2.2.2.2.2.2, hP, hD, hS, lv_sub hl [0, 1, 2, 3, 4] rfl⟩
    · refine lb_if_eq (tgt := 26) hx hb dX3_freeCells_20 (by decide) (fun c16 => ?_) (fun c16 => ?_)
      · exact K26 t2 H locs ls ⟨(by first | (simp only [if_pos c16]; done) | (simp only [if_pos c16]; rfl) | rfl), hP, hD, hS, lv_sub hl [0, 1, 2, 3, 4] rfl⟩
      · refine lv_iinc (v := t2 + 1) (lv' := [(3, .int (t2 + 1)), (4, .int (nI k1)), (0, .ref aLi), (1, .ref aK), (2, .int fr)]) hx hb dX3_freeCells_23 hl (k := 1) rfl rfl (by decide) rfl (fun ls hl => ?_)
        exact K26 (t2 + 1) H locs ls ⟨(by first | (simp only [if_neg c16]; done) | (simp only [if_neg c16]; rfl) | rfl), hP, hD, hS, lv_sub hl [1, 0, 2, 3, 4] rfl⟩
