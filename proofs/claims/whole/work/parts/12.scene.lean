theorem of_b {x : Bool} (h : ¬ x = false) : x = true := by cases x <;> simp_all
theorem nbI_1 {x : Bool} : bI x = 1 ↔ x = true := by cases x <;> decide
theorem nb_cells : ∀ c, c < 64 → ∀ d, d < 4 → m_X0_neighbour (nI c) (nI d) = -1 ∨ (0 ≤ (m_X0_neighbour (nI c) (nI d)).toInt ∧ (m_X0_neighbour (nI c) (nI d)).toInt < (64 : Nat)) := by decide +kernel
theorem nb_in {c d : Int32} (h : vp_in c 64) : m_X0_neighbour c d = -1 ∨ vp_in (m_X0_neighbour c d) 64 := by
  obtain ⟨j, hj, rfl⟩ := vp_in_of h (by decide)
  rw [vp_in_iff]
  by_cases h0 : d = 0
  · subst h0; exact nb_cells j hj 0 (by decide)
  by_cases h1 : d = 1
  · subst h1; exact nb_cells j hj 1 (by decide)
  by_cases h2 : d = 2
  · subst h2; exact nb_cells j hj 2 (by decide)
  by_cases h3 : d = 3
  · subst h3; exact nb_cells j hj 3 (by decide)
  · left; simp only [m_X0_neighbour, if_neg h0, if_neg h1, if_neg h2, if_neg h3]
theorem isCell_in {a : Int32} (h : ¬ m_X0_isCell a = false) : vp_in a 64 := by
  unfold m_X0_isCell at h
  by_cases h1 : a < 0
  · simp [h1] at h
  by_cases h2 : (64 : Int32) ≤ a
  · simp [h1, h2] at h
  · exact vp_in_cmp h1 h2 (by decide)

def m_X5_wouldTrapWalker (wk : Int32) (cl : Int32) (kd : Int32) : Bool := (if cl = wk then (if (m_X0_stopsFeet kd) = false then false else true) else false)
set_option maxHeartbeats 4000000 in
set_option maxRecDepth 100000 in
theorem met_X5_wouldTrapWalker (l : Launch) (D : va_G) (y4 : vT) (aSc aK aC aS aF : Nat) (sz : Nat) (lm : Int32) (wk : Int32) (stp : Int32) (dm : Int32) (tc : Int32) (rm : Int64) (cl : Int32) (kd : Int32) : Met l yX5_wouldTrapWalker wsX5_wouldTrapWalker ({ frames := 1, cells := 0, slots := 0, locals := 20 }) (va_Pc [.ref aSc, .int cl, .int kd] (PreW D y4 [(aSc, .inr (4, [.ref aK, .ref aC, .ref aS, .ref aF, .int lm, .int wk, .int stp, .int dm, .int tc, .long rm]))] sz)) (va_Qi (fun (r : Int32) (_ : Unit) => r = bI (m_X5_wouldTrapWalker wk cl kd)) (fun _ t => PostW D (va_A [(aSc, .inr (4, [.ref aK, .ref aC, .ref aS, .ref aF, .int lm, .int wk, .int stp, .int dm, .int tc, .long rm]))] sz) [(aSc, .inr (4, [.ref aK, .ref aC, .ref aS, .ref aF, .int lm, .int wk, .int stp, .int dm, .int tc, .long rm]))] t) (va_A [(aSc, .inr (4, [.ref aK, .ref aC, .ref aS, .ref aF, .int lm, .int wk, .int stp, .int dm, .int tc, .long rm]))] sz)) 0 0 (va_A [(aSc, .inr (4, [.ref aK, .ref aC, .ref aS, .ref aF, .int lm, .int wk, .int stp, .int dm, .int tc, .long rm]))] sz) := by
  refine Met.ofW (cc := cX5_wouldTrapWalker) (maxL := 3) (ret := (some .boolean)) (by decide) rfl ?_
  intro p e s m args below meth c s₁ B hml hv
  obtain ⟨rfl, hsz, hP, hK, hD0, hNW⟩ := hv
  have hx := B.exec
  have hb := B.bytes
  have hr := B.returns
  have hts := atoms_spec (ws := wsX5_wouldTrapWalker) B.pre
  have hown : s.vm.findClass RX5 = some m.cls := findClass_of_methodNamed B.named
  have hlocks := B.notSynchronized
  subst hsz
  have hD := hD0.self (sz := s.heap.size)
  generalize hAe : va_A [(aSc, .inr (4, [.ref aK, .ref aC, .ref aS, .ref aF, .int lm, .int wk, .int stp, .int dm, .int tc, .long rm]))] s.heap.size = A at hD ⊢
  have hA : ∀ q : Nat, s.heap.size ≤ q → A q := fun q h => by rw [← hAe]; exact Or.inr h
  have hS : va_S A s.heap s.heap [] := va_S.rf
  have hl := lv_entry ([.ref aSc, .int cl, .int kd]) (n := 3) (Nat.le_of_ble_eq_true rfl)
  rw [lg_entry_eq]
  generalize (lg_sl ([.ref aSc, .int cl, .int kd]) ++ List.replicate (3 - (lg_sl ([.ref aSc, .int cl, .int kd])).length) Slot.unset).toArray = ls at hl ⊢
  have hl : lv_has ls 3 [(0, .ref aSc), (1, .int cl), (2, .int kd)] := hl
  have f40 := hts (.fieldLink RX5 40 "PillarLight$Scene" "walker" "I") (List.mem_of_getElem? (i := 1) rfl)
  have iX5 : ∀ w ∈ wsX50, w ∈ wsX5_wouldTrapWalker := fun _ h => List.mem_cons_of_mem _ (List.mem_append_right _ h)
  refine startW (fun H locs hP hS => ?_) hP hS
  refine lv_iload_n hx hb dX5_wouldTrapWalker_0 rfl (lv_at hl 1 rfl) ?_
  refine lv_aload_n hx hb dX5_wouldTrapWalker_1 rfl (lv_at hl 0 rfl) ?_
  refine va_get (ci := 4) (v := .int wk) (C := RX5) (T := TX5) (N := 10) hx hb hts iX5 hown hK hP 0 rfl rfl 5 (by decide) f40 (fun _ h9 => h9) rfl dX5_wouldTrapWalker_2 ?_
  refine lv_icmp_ne (tgt := 19) hx hb dX5_wouldTrapWalker_5 (by decide) (fun c1 => ?_) (fun c1 => ?_)
  · refine lv_iconst (v := 0) hx hb dX5_wouldTrapWalker_19 (by decide) ?_
    have em : m_X5_wouldTrapWalker wk cl kd = false := (by first | (simp only [m_X5_wouldTrapWalker, if_neg c1]; done) | (simp only [m_X5_wouldTrapWalker, if_neg c1]; rfl))
    exact W.zret (v := 0) hx hb hr rfl (fun t ht hW => ⟨⟨0, (), rfl, (by rw [em]; rfl), ⟨by rw [ht]; exact hP, by exact hD⟩⟩, hS.F ht⟩) hS.2.2 dX5_wouldTrapWalker_20
  · refine lv_iload_n hx hb dX5_wouldTrapWalker_8 rfl (lv_at hl 2 rfl) ?_
    refine callK_i (va_runS (As := [.int kd]) (rest := []) ⟨hx, hb, hml, hown, hts⟩ (met_X0_stopsFeet l  kd) (va_cwS 1 hts gX5_wouldTrapWalker_X0_stopsFeet rfl rfl rfl (by decide +kernel) ⟨Nat.le_of_ble_eq_true rfl, Nat.le_of_ble_eq_true rfl⟩) ⟨preS_blind, fun U hU hW => ⟨rfl, trivial⟩⟩ rfl rfl hl.1 rfl (lv_room (Nat.le_of_ble_eq_true rfl)) dX5_wouldTrapWalker_9 ⟨Nat.zero_le _, Nat.zero_le _⟩) hP hS (fun r u H locs hw hP hS => ?_)
    subst hw
    refine lb_if_eq (tgt := 19) hx hb dX5_wouldTrapWalker_12 (by decide) (fun c2 => ?_) (fun c2 => ?_)
    · refine lv_iconst (v := 0) hx hb dX5_wouldTrapWalker_19 (by decide) ?_
      have em : m_X5_wouldTrapWalker wk cl kd = false := (by first | (simp only [m_X5_wouldTrapWalker, if_pos c1, if_pos c2]; done) | (simp only [m_X5_wouldTrapWalker, if_pos c1, if_pos c2]; rfl))
      exact W.zret (v := 0) hx hb hr rfl (fun t ht hW => ⟨⟨0, (), rfl, (by rw [em]; rfl), ⟨by rw [ht]; exact hP, by exact hD⟩⟩, hS.F ht⟩) hS.2.2 dX5_wouldTrapWalker_20
    · refine lv_iconst (v := 1) hx hb dX5_wouldTrapWalker_15 (by decide) ?_
      refine lv_goto (tgt := 20) hx hb dX5_wouldTrapWalker_16 (by decide) ?_
      have em : m_X5_wouldTrapWalker wk cl kd = true := (by first | (simp only [m_X5_wouldTrapWalker, if_pos c1, if_neg c2]; done) | (simp only [m_X5_wouldTrapWalker, if_pos c1, if_neg c2]; rfl))
      exact W.zret (v := 1) hx hb hr rfl (fun t ht hW => ⟨⟨1, (), rfl, (by rw [em]; rfl), ⟨by rw [ht]; exact hP, by exact hD⟩⟩, hS.F ht⟩) hS.2.2 dX5_wouldTrapWalker_20
def m_X5_isLamp (lm : Int32) (j : Int32) : Bool := (if j < 0 then false else (if lm ≤ j then false else true))
set_option maxHeartbeats 4000000 in
set_option maxRecDepth 100000 in
theorem met_X5_isLamp (l : Launch) (D : va_G) (y4 : vT) (aSc aK aC aS aF : Nat) (sz : Nat) (lm : Int32) (wk : Int32) (stp : Int32) (dm : Int32) (tc : Int32) (rm : Int64) (j : Int32) : Met l yX5_isLamp wsX5_isLamp ({ frames := 0, cells := 0, slots := 0, locals := 0 }) (va_Pc [.ref aSc, .int j] (PreW D y4 [(aSc, .inr (4, [.ref aK, .ref aC, .ref aS, .ref aF, .int lm, .int wk, .int stp, .int dm, .int tc, .long rm]))] sz)) (va_Qi (fun (r : Int32) (_ : Unit) => r = bI (m_X5_isLamp lm j)) (fun _ t => PostW D (va_A [(aSc, .inr (4, [.ref aK, .ref aC, .ref aS, .ref aF, .int lm, .int wk, .int stp, .int dm, .int tc, .long rm]))] sz) [(aSc, .inr (4, [.ref aK, .ref aC, .ref aS, .ref aF, .int lm, .int wk, .int stp, .int dm, .int tc, .long rm]))] t) (va_A [(aSc, .inr (4, [.ref aK, .ref aC, .ref aS, .ref aF, .int lm, .int wk, .int stp, .int dm, .int tc, .long rm]))] sz)) 0 0 (va_A [(aSc, .inr (4, [.ref aK, .ref aC, .ref aS, .ref aF, .int lm, .int wk, .int stp, .int dm, .int tc, .long rm]))] sz) := by
  refine Met.ofW (cc := cX5_isLamp) (maxL := 2) (ret := (some .boolean)) (by decide) rfl ?_
  intro p e s m args below meth c s₁ B hml hv
  obtain ⟨rfl, hsz, hP, hK, hD0, hNW⟩ := hv
  have hx := B.exec
  have hb := B.bytes
  have hr := B.returns
  have hts := atoms_spec (ws := wsX5_isLamp) B.pre
  have hown : s.vm.findClass RX5 = some m.cls := findClass_of_methodNamed B.named
  have hlocks := B.notSynchronized
  subst hsz
  have hD := hD0.self (sz := s.heap.size)
  generalize hAe : va_A [(aSc, .inr (4, [.ref aK, .ref aC, .ref aS, .ref aF, .int lm, .int wk, .int stp, .int dm, .int tc, .long rm]))] s.heap.size = A at hD ⊢
  have hA : ∀ q : Nat, s.heap.size ≤ q → A q := fun q h => by rw [← hAe]; exact Or.inr h
  have hS : va_S A s.heap s.heap [] := va_S.rf
  have hl := lv_entry ([.ref aSc, .int j]) (n := 2) (Nat.le_of_ble_eq_true rfl)
  rw [lg_entry_eq]
  generalize (lg_sl ([.ref aSc, .int j]) ++ List.replicate (2 - (lg_sl ([.ref aSc, .int j])).length) Slot.unset).toArray = ls at hl ⊢
  have hl : lv_has ls 2 [(0, .ref aSc), (1, .int j)] := hl
  have f37 := hts (.fieldLink RX5 37 "PillarLight$Scene" "lamps" "I") (List.mem_of_getElem? (i := 1) rfl)
  have iX5 : ∀ w ∈ wsX50, w ∈ wsX5_isLamp := fun _ h => List.mem_cons_of_mem _ (List.mem_append_right _ h)
  refine startW (fun H locs hP hS => ?_) hP hS
  refine lv_iload_n hx hb dX5_isLamp_0 rfl (lv_at hl 1 rfl) ?_
  refine lv_if_lt (tgt := 16) hx hb dX5_isLamp_1 (by decide) (fun c1 => ?_) (fun c1 => ?_)
  · refine lv_iconst (v := 0) hx hb dX5_isLamp_16 (by decide) ?_
    have em : m_X5_isLamp lm j = false := (by first | (simp only [m_X5_isLamp, if_pos c1]; done) | (simp only [m_X5_isLamp, if_pos c1]; rfl))
    exact W.zret (v := 0) hx hb hr rfl (fun t ht hW => ⟨⟨0, (), rfl, (by rw [em]; rfl), ⟨by rw [ht]; exact hP, by exact hD⟩⟩, hS.F ht⟩) hS.2.2 dX5_isLamp_17
  · refine lv_iload_n hx hb dX5_isLamp_4 rfl (lv_at hl 1 rfl) ?_
    refine lv_aload_n hx hb dX5_isLamp_5 rfl (lv_at hl 0 rfl) ?_
    refine va_get (ci := 4) (v := .int lm) (C := RX5) (T := TX5) (N := 10) hx hb hts iX5 hown hK hP 0 rfl rfl 4 (by decide) f37 (fun _ h9 => h9) rfl dX5_isLamp_6 ?_
    refine lv_icmp_ge (tgt := 16) hx hb dX5_isLamp_9 (by decide) (fun c2 => ?_) (fun c2 => ?_)
    · refine lv_iconst (v := 0) hx hb dX5_isLamp_16 (by decide) ?_
      have em : m_X5_isLamp lm j = false := (by first | (simp only [m_X5_isLamp, if_neg c1, if_pos c2]; done) | (simp only [m_X5_isLamp, if_neg c1, if_pos c2]; rfl))
      exact W.zret (v := 0) hx hb hr rfl (fun t ht hW => ⟨⟨0, (), rfl, (by rw [em]; rfl), ⟨by rw [ht]; exact hP, by exact hD⟩⟩, hS.F ht⟩) hS.2.2 dX5_isLamp_17
    · refine lv_iconst (v := 1) hx hb dX5_isLamp_12 (by decide) ?_
      refine lv_goto (tgt := 17) hx hb dX5_isLamp_13 (by decide) ?_
      have em : m_X5_isLamp lm j = true := (by first | (simp only [m_X5_isLamp, if_neg c1, if_neg c2]; done) | (simp only [m_X5_isLamp, if_neg c1, if_neg c2]; rfl))
      exact W.zret (v := 1) hx hb hr rfl (fun t ht hW => ⟨⟨1, (), rfl, (by rw [em]; rfl), ⟨by rw [ht]; exact hP, by exact hD⟩⟩, hS.F ht⟩) hS.2.2 dX5_isLamp_17
theorem isLamp_lt {lm j : Int32} (h : ¬ m_X5_isLamp lm j = false) : 0 ≤ j.toInt ∧ j.toInt < lm.toInt := by
  unfold m_X5_isLamp at h
  by_cases h1 : j < 0
  · simp [h1] at h
  by_cases h2 : lm ≤ j
  · simp [h1, h2] at h
  · rw [Int32.lt_iff_toInt_lt, Int32.toInt_zero] at h1
    rw [Int32.le_iff_toInt_le] at h2
    omega
theorem isLamp_in {lm j : Int32} (h : ¬ m_X5_isLamp lm j = false) (hlm : 0 ≤ lm.toInt ∧ lm.toInt ≤ (6 : Nat)) : vp_in j 6 := by
  have := isLamp_lt h
  rw [vp_in_iff]; omega
theorem isLamp_cl {lm j : Int32} (h : ¬ m_X5_isLamp lm j = false) : j.toNatClampNeg < lm.toNatClampNeg := by
  have := isLamp_lt h
  have h1 := cl_toInt this.1
  have h2 := cl_toInt (b := lm) (by omega)
  omega
theorem isLamp_nI {lm j : Int32} (h : ¬ m_X5_isLamp lm j = false) : j + 1 = nI (j.toNatClampNeg + 1) := by
  have := isLamp_lt h
  rw [← nI_1, ← cl_nI this.1]

def f_X5_lampIn_2 (LC : Nat → Int32) (cl : Int32) (k1 : Nat) (t2 : Unit) : (Int32 ⊕ Unit) ⊕ Unit := (if (LC (nI k1).toNatClampNeg) = cl then (.inl (.inl (nI k1))) else (.inr ()))
def m_X5_lampIn (lm : Int32) (LC : Nat → Int32) (cl : Int32) : Int32 := (lpr (lpx (f_X5_lampIn_2 LC cl) ((lm).toNatClampNeg) 0 ()) id (fun t7 => (-4 : Int32)))
set_option maxHeartbeats 4000000 in
set_option maxRecDepth 100000 in
theorem met_X5_lampIn (l : Launch) (D : va_G) (y4 : vT) (aSc aK aC aS aF : Nat) (sz : Nat) (lm : Int32) (wk : Int32) (stp : Int32) (dm : Int32) (tc : Int32) (rm : Int64) (LC : Nat → Int32) (cl : Int32) (hlm : 0 ≤ lm.toInt ∧ lm.toInt ≤ (6 : Nat)) : Met l yX5_lampIn wsX5_lampIn ({ frames := 0, cells := 0, slots := 0, locals := 0 }) (va_Pc [.ref aSc, .int cl] (PreW D y4 [(aSc, .inr (4, [.ref aK, .ref aC, .ref aS, .ref aF, .int lm, .int wk, .int stp, .int dm, .int tc, .long rm])), (aC, .inl (y4.1, 6, .inl LC))] sz)) (va_Qi (fun (r : Int32) (_ : Unit) => r = (m_X5_lampIn lm LC cl)) (fun _ t => PostW D (va_A [(aSc, .inr (4, [.ref aK, .ref aC, .ref aS, .ref aF, .int lm, .int wk, .int stp, .int dm, .int tc, .long rm])), (aC, .inl (y4.1, 6, .inl LC))] sz) [(aSc, .inr (4, [.ref aK, .ref aC, .ref aS, .ref aF, .int lm, .int wk, .int stp, .int dm, .int tc, .long rm])), (aC, .inl (y4.1, 6, .inl LC))] t) (va_A [(aSc, .inr (4, [.ref aK, .ref aC, .ref aS, .ref aF, .int lm, .int wk, .int stp, .int dm, .int tc, .long rm])), (aC, .inl (y4.1, 6, .inl LC))] sz)) 0 0 (va_A [(aSc, .inr (4, [.ref aK, .ref aC, .ref aS, .ref aF, .int lm, .int wk, .int stp, .int dm, .int tc, .long rm])), (aC, .inl (y4.1, 6, .inl LC))] sz) := by
  refine Met.ofW (cc := cX5_lampIn) (maxL := 3) (ret := (some .int)) (by decide) rfl ?_
  intro p e s m args below meth c s₁ B hml hv
  obtain ⟨rfl, hsz, hP, hK, hD0, hNW⟩ := hv
  have hx := B.exec
  have hb := B.bytes
  have hr := B.returns
  have hts := atoms_spec (ws := wsX5_lampIn) B.pre
  have hown : s.vm.findClass RX5 = some m.cls := findClass_of_methodNamed B.named
  have hlocks := B.notSynchronized
  subst hsz
  have hD := hD0.self (sz := s.heap.size)
  generalize hAe : va_A [(aSc, .inr (4, [.ref aK, .ref aC, .ref aS, .ref aF, .int lm, .int wk, .int stp, .int dm, .int tc, .long rm])), (aC, .inl (y4.1, 6, .inl LC))] s.heap.size = A at hD ⊢
  have hA : ∀ q : Nat, s.heap.size ≤ q → A q := fun q h => by rw [← hAe]; exact Or.inr h
  have hS : va_S A s.heap s.heap [] := va_S.rf
  have hl := lv_entry ([.ref aSc, .int cl]) (n := 3) (Nat.le_of_ble_eq_true rfl)
  rw [lg_entry_eq]
  generalize (lg_sl ([.ref aSc, .int cl]) ++ List.replicate (3 - (lg_sl ([.ref aSc, .int cl])).length) Slot.unset).toArray = ls at hl ⊢
  have hl : lv_has ls 3 [(0, .ref aSc), (1, .int cl)] := hl
  have f37 := hts (.fieldLink RX5 37 "PillarLight$Scene" "lamps" "I") (List.mem_of_getElem? (i := 1) rfl)
  have iX5 : ∀ w ∈ wsX50, w ∈ wsX5_lampIn := fun _ h => List.mem_cons_of_mem _ (List.mem_append_right _ h)
  have f15 := hts (.fieldLink RX5 15 "PillarLight$Scene" "lampCell" "[I") (List.mem_of_getElem? (i := 2) rfl)
  refine startW (fun H locs hP hS => ?_) hP hS
  refine lv_iconst (v := 0) hx hb dX5_lampIn_0 (by decide) ?_
  refine lv_istore_n (lv' := [(2, .int 0), (0, .ref aSc), (1, .int cl)]) hx hb dX5_lampIn_1 rfl hl (by decide) rfl (fun ls hl => ?_)
  refine cutW (X := Unit) 28 (fun x H locs ls => ((lpx (f_X5_lampIn_2 LC cl) ((lm).toNatClampNeg) 0 ()) = .inl (.inr x) ∨ (lpx (f_X5_lampIn_2 LC cl) ((lm).toNatClampNeg) 0 ()) = .inr x) ∧ va_P D vwCl [(aSc, .inr (4, [.ref aK, .ref aC, .ref aS, .ref aF, .int lm, .int wk, .int stp, .int dm, .int tc, .long rm])), (aC, .inl (y4.1, 6, .inl LC))] H ∧ va_D A [(aSc, .inr (4, [.ref aK, .ref aC, .ref aS, .ref aF, .int lm, .int wk, .int stp, .int dm, .int tc, .long rm])), (aC, .inl (y4.1, 6, .inl LC))] ∧ va_S A s.heap H locs ∧ lv_has ls 3 []) (fun x => []) ?_ (fun K28 => ?_)
  · rintro t7 H locs ls ⟨et7, hP, hD, hS, hl⟩
    have hP : va_P D vwCl [(aSc, .inr (4, [.ref aK, .ref aC, .ref aS, .ref aF, .int lm, .int wk, .int stp, .int dm, .int tc, .long rm])), (aC, .inl (y4.1, 6, .inl LC))] H := hP
    have hD : va_D A [(aSc, .inr (4, [.ref aK, .ref aC, .ref aS, .ref aF, .int lm, .int wk, .int stp, .int dm, .int tc, .long rm])), (aC, .inl (y4.1, 6, .inl LC))] := hD
    have hl : lv_has ls 3 [] := hl
    refine lv_bipush (v := (-4)) hx hb dX5_lampIn_28 (by decide) ?_
    have em : m_X5_lampIn lm LC cl = (-4 : Int32) := (by first | (simp only [m_X5_lampIn, lpr_k et7]; done) | (simp only [m_X5_lampIn, lpr_k et7]; rfl))
    exact W.iret (v := (-4)) hx hb hr (fun t ht hW => ⟨⟨(-4), (), rfl, (by rw [em]), ⟨by rw [ht]; exact hP, by exact hD⟩⟩, hS.F ht⟩) hS.2.2 dX5_lampIn_30
  · refine loopX (σ := Unit) (ρ := Int32 ⊕ Unit) 2 (f_X5_lampIn_2 LC cl) (fun _ _ => True) ((lm).toNatClampNeg) 0 () (fun k1 t2 H locs ls => va_P D vwCl [(aSc, .inr (4, [.ref aK, .ref aC, .ref aS, .ref aF, .int lm, .int wk, .int stp, .int dm, .int tc, .long rm])), (aC, .inl (y4.1, 6, .inl LC))] H ∧ va_D A [(aSc, .inr (4, [.ref aK, .ref aC, .ref aS, .ref aF, .int lm, .int wk, .int stp, .int dm, .int tc, .long rm])), (aC, .inl (y4.1, 6, .inl LC))] ∧ va_S A s.heap H locs ∧ lv_has ls 3 [(2, .int (nI k1)), (0, .ref aSc), (1, .int cl)]) trivial ⟨hP, hD, hS, lv_sub hl [0, 1, 2] rfl⟩ (fun t5 H locs ls et5 hit5 hh => ?_) (fun k1 t2 hkk1 hjk1 hik1 hretk1 ihk1 H locs ls hh => ?_)
    · obtain ⟨hP, hD, hS, hl⟩ := hh
      have hP : va_P D vwCl [(aSc, .inr (4, [.ref aK, .ref aC, .ref aS, .ref aF, .int lm, .int wk, .int stp, .int dm, .int tc, .long rm])), (aC, .inl (y4.1, 6, .inl LC))] H := hP
      have hD : va_D A [(aSc, .inr (4, [.ref aK, .ref aC, .ref aS, .ref aF, .int lm, .int wk, .int stp, .int dm, .int tc, .long rm])), (aC, .inl (y4.1, 6, .inl LC))] := hD
      have hl : lv_has ls 3 [(2, .int (nI (0 + (lm).toNatClampNeg))), (0, .ref aSc), (1, .int cl)] := hl
      refine lv_iload_n hx hb dX5_lampIn_2 rfl (lv_at hl 0 rfl) ?_
      refine lv_aload_n hx hb dX5_lampIn_3 rfl (lv_at hl 1 rfl) ?_
      refine va_get (ci := 4) (v := .int lm) (C := RX5) (T := TX5) (N := 10) hx hb hts iX5 hown hK hP 0 rfl rfl 4 (by decide) f37 (fun _ h9 => h9) rfl dX5_lampIn_4 ?_
      refine lv_icmp_ge (tgt := 28) hx hb dX5_lampIn_7 (by decide) (fun c6 => ?_) (fun c6 => absurd (cl_le hlm (by omega) (by have := cl_lt hlm; omega)) c6)
      exact K28 t5 H locs ls ⟨Or.inr et5, hP, hD, hS, lv_sub hl [] rfl⟩
    · obtain ⟨hP, hD, hS, hl⟩ := hh
      have hP : va_P D vwCl [(aSc, .inr (4, [.ref aK, .ref aC, .ref aS, .ref aF, .int lm, .int wk, .int stp, .int dm, .int tc, .long rm])), (aC, .inl (y4.1, 6, .inl LC))] H := hP
      have hD : va_D A [(aSc, .inr (4, [.ref aK, .ref aC, .ref aS, .ref aF, .int lm, .int wk, .int stp, .int dm, .int tc, .long rm])), (aC, .inl (y4.1, 6, .inl LC))] := hD
      have hl : lv_has ls 3 [(2, .int (nI k1)), (0, .ref aSc), (1, .int cl)] := hl
      refine lv_iload_n hx hb dX5_lampIn_2 rfl (lv_at hl 0 rfl) ?_
      refine lv_aload_n hx hb dX5_lampIn_3 rfl (lv_at hl 1 rfl) ?_
      refine va_get (ci := 4) (v := .int lm) (C := RX5) (T := TX5) (N := 10) hx hb hts iX5 hown hK hP 0 rfl rfl 4 (by decide) f37 (fun _ h9 => h9) rfl dX5_lampIn_4 ?_
      refine lv_icmp_ge (tgt := 28) hx hb dX5_lampIn_7 (by decide) (fun c3 => absurd c3 (cl_ge hlm (by omega))) (fun c3 => ?_)
      refine lv_aload_n hx hb dX5_lampIn_10 rfl (lv_at hl 1 rfl) ?_
      refine va_get (ci := 4) (v := .ref aC) (C := RX5) (T := TX5) (N := 10) hx hb hts iX5 hown hK hP 0 rfl rfl 1 (by decide) f15 (fun _ h9 => h9) rfl dX5_lampIn_11 ?_
      refine lv_iload_n hx hb dX5_lampIn_14 rfl (lv_at hl 0 rfl) ?_
      refine va_iald hx hb hK hP 1 0 rfl rfl (cl_in hlm (by omega)) dX5_lampIn_15 ?_
      refine lv_iload_n hx hb dX5_lampIn_16 rfl (lv_at hl 2 rfl) ?_
      refine lv_icmp_ne (tgt := 22) hx hb dX5_lampIn_17 (by decide) (fun c4 => ?_) (fun c4 => ?_)
      · refine lv_iinc (v := nI (k1 + 1)) (lv' := [(2, .int (nI (k1 + 1))), (0, .ref aSc), (1, .int cl)]) hx hb dX5_lampIn_22 hl (k := 0) rfl (nI_1 _) (by decide) rfl (fun ls hl => ?_)
        refine lv_goto (tgt := 2) hx hb dX5_lampIn_25 (by decide) ?_
        have ef : (f_X5_lampIn_2 LC cl) k1 t2 = .inr () := (by first | (simp only [f_X5_lampIn_2, if_neg c4]; done) | (simp only [f_X5_lampIn_2, if_neg c4]; rfl))
        exact ihk1 _ ef trivial H locs ls ⟨hP, hD, hS, lv_sub hl [0, 1, 2] rfl⟩
      · refine lv_iload_n hx hb dX5_lampIn_20 rfl (lv_at hl 0 rfl) ?_
        have ef : (f_X5_lampIn_2 LC cl) k1 t2 = .inl (.inl (nI k1)) := (by first | (simp only [f_X5_lampIn_2, if_pos c4]; done) | (simp only [f_X5_lampIn_2, if_pos c4]; rfl))
        have erk1 := hretk1 _ ef
        have em : m_X5_lampIn lm LC cl = nI k1 := (by first | (simp only [m_X5_lampIn, lpr_j erk1]; done) | (simp only [m_X5_lampIn, lpr_j erk1]; rfl))
        exact W.iret (v := nI k1) hx hb hr (fun t ht hW => ⟨⟨nI k1, (), rfl, (by rw [em]), ⟨by rw [ht]; exact hP, by exact hD⟩⟩, hS.F ht⟩) hS.2.2 dX5_lampIn_21
def f_X5_cellsOfKind_4 (K : Nat → Int32) (kd : Int32) (k1 : Nat) (t2 : Int32) : Int32 := (let v8 : Int32 := (if (K (nI k1).toNatClampNeg) = kd then t2 + 1 else t2); v8)
def m_X5_cellsOfKind (K : Nat → Int32) (kd : Int32) : Int32 := (let t9 : Int32 := itr (f_X5_cellsOfKind_4 K kd) 64 (0 : Int32); t9)
set_option maxHeartbeats 4000000 in
set_option maxRecDepth 100000 in
theorem met_X5_cellsOfKind (l : Launch) (D : va_G) (y4 : vT) (aSc aK aC aS aF : Nat) (sz : Nat) (lm : Int32) (wk : Int32) (stp : Int32) (dm : Int32) (tc : Int32) (rm : Int64) (K : Nat → Int32) (kd : Int32) : Met l yX5_cellsOfKind wsX5_cellsOfKind ({ frames := 0, cells := 0, slots := 0, locals := 0 }) (va_Pc [.ref aSc, .int kd] (PreW D y4 [(aSc, .inr (4, [.ref aK, .ref aC, .ref aS, .ref aF, .int lm, .int wk, .int stp, .int dm, .int tc, .long rm])), (aK, .inl (y4.1, 64, .inl K))] sz)) (va_Qi (fun (r : Int32) (_ : Unit) => r = (m_X5_cellsOfKind K kd)) (fun _ t => PostW D (va_A [(aSc, .inr (4, [.ref aK, .ref aC, .ref aS, .ref aF, .int lm, .int wk, .int stp, .int dm, .int tc, .long rm])), (aK, .inl (y4.1, 64, .inl K))] sz) [(aSc, .inr (4, [.ref aK, .ref aC, .ref aS, .ref aF, .int lm, .int wk, .int stp, .int dm, .int tc, .long rm])), (aK, .inl (y4.1, 64, .inl K))] t) (va_A [(aSc, .inr (4, [.ref aK, .ref aC, .ref aS, .ref aF, .int lm, .int wk, .int stp, .int dm, .int tc, .long rm])), (aK, .inl (y4.1, 64, .inl K))] sz)) 0 0 (va_A [(aSc, .inr (4, [.ref aK, .ref aC, .ref aS, .ref aF, .int lm, .int wk, .int stp, .int dm, .int tc, .long rm])), (aK, .inl (y4.1, 64, .inl K))] sz) := by
  refine Met.ofW (cc := cX5_cellsOfKind) (maxL := 4) (ret := (some .int)) (by decide) rfl ?_
  intro p e s m args below meth c s₁ B hml hv
  obtain ⟨rfl, hsz, hP, hK, hD0, hNW⟩ := hv
  have hx := B.exec
  have hb := B.bytes
  have hr := B.returns
  have hts := atoms_spec (ws := wsX5_cellsOfKind) B.pre
  have hown : s.vm.findClass RX5 = some m.cls := findClass_of_methodNamed B.named
  have hlocks := B.notSynchronized
  subst hsz
  have hD := hD0.self (sz := s.heap.size)
  generalize hAe : va_A [(aSc, .inr (4, [.ref aK, .ref aC, .ref aS, .ref aF, .int lm, .int wk, .int stp, .int dm, .int tc, .long rm])), (aK, .inl (y4.1, 64, .inl K))] s.heap.size = A at hD ⊢
  have hA : ∀ q : Nat, s.heap.size ≤ q → A q := fun q h => by rw [← hAe]; exact Or.inr h
  have hS : va_S A s.heap s.heap [] := va_S.rf
  have hl := lv_entry ([.ref aSc, .int kd]) (n := 4) (Nat.le_of_ble_eq_true rfl)
  rw [lg_entry_eq]
  generalize (lg_sl ([.ref aSc, .int kd]) ++ List.replicate (4 - (lg_sl ([.ref aSc, .int kd])).length) Slot.unset).toArray = ls at hl ⊢
  have hl : lv_has ls 4 [(0, .ref aSc), (1, .int kd)] := hl
  have f9 := hts (.fieldLink RX5 9 "PillarLight$Scene" "kinds" "[I") (List.mem_of_getElem? (i := 1) rfl)
  have iX5 : ∀ w ∈ wsX50, w ∈ wsX5_cellsOfKind := fun _ h => List.mem_cons_of_mem _ (List.mem_append_right _ h)
  refine startW (fun H locs hP hS => ?_) hP hS
  refine lv_iconst (v := 0) hx hb dX5_cellsOfKind_0 (by decide) ?_
  refine lv_istore_n (lv' := [(2, .int 0), (0, .ref aSc), (1, .int kd)]) hx hb dX5_cellsOfKind_1 rfl hl (by decide) rfl (fun ls hl => ?_)
  refine lv_iconst (v := 0) hx hb dX5_cellsOfKind_2 (by decide) ?_
  refine lv_istore_n (lv' := [(3, .int 0), (2, .int 0), (0, .ref aSc), (1, .int kd)]) hx hb dX5_cellsOfKind_3 rfl hl (by decide) rfl (fun ls hl => ?_)
  refine loopW (σ := Int32) 4 (f_X5_cellsOfKind_4 K kd) 64 (0 : Int32) (fun k1 t2 H locs ls => va_P D vwCl [(aSc, .inr (4, [.ref aK, .ref aC, .ref aS, .ref aF, .int lm, .int wk, .int stp, .int dm, .int tc, .long rm])), (aK, .inl (y4.1, 64, .inl K))] H ∧ va_D A [(aSc, .inr (4, [.ref aK, .ref aC, .ref aS, .ref aF, .int lm, .int wk, .int stp, .int dm, .int tc, .long rm])), (aK, .inl (y4.1, 64, .inl K))] ∧ va_S A s.heap H locs ∧ lv_has ls 4 [(3, .int (nI k1)), (2, .int t2), (0, .ref aSc), (1, .int kd)]) ⟨hP, hD, hS, lv_sub hl [0, 1, 2, 3] rfl⟩ (fun t9 H locs ls et9 hh => ?_) (fun k1 t2 hkk1 hek1 ihk1 H locs ls hh => ?_)
  · obtain ⟨hP, hD, hS, hl⟩ := hh
    have hP : va_P D vwCl [(aSc, .inr (4, [.ref aK, .ref aC, .ref aS, .ref aF, .int lm, .int wk, .int stp, .int dm, .int tc, .long rm])), (aK, .inl (y4.1, 64, .inl K))] H := hP
    have hD : va_D A [(aSc, .inr (4, [.ref aK, .ref aC, .ref aS, .ref aF, .int lm, .int wk, .int stp, .int dm, .int tc, .long rm])), (aK, .inl (y4.1, 64, .inl K))] := hD
    have hl : lv_has ls 4 [(3, .int (nI 64)), (2, .int t9), (0, .ref aSc), (1, .int kd)] := hl
    refine lv_iload_n hx hb dX5_cellsOfKind_4 rfl (lv_at hl 0 rfl) ?_
    refine lv_bipush (v := 64) hx hb dX5_cellsOfKind_5 (by decide) ?_
    refine lv_icmp_ge (tgt := 29) hx hb dX5_cellsOfKind_7 (by decide) (fun c10 => ?_) (fun c10 => absurd (nI_le (a := 64) (by omega) (by omega)) c10)
    refine lv_iload_n hx hb dX5_cellsOfKind_29 rfl (lv_at hl 1 rfl) ?_
    have em : m_X5_cellsOfKind K kd = t9 := (by subst et9; first | (simp only [m_X5_cellsOfKind]; done) | (unfold m_X5_cellsOfKind; rfl) | rfl)
    exact W.iret (v := t9) hx hb hr (fun t ht hW => ⟨⟨t9, (), rfl, (by rw [em]), ⟨by rw [ht]; exact hP, by exact hD⟩⟩, hS.F ht⟩) hS.2.2 dX5_cellsOfKind_30
  · obtain ⟨hP, hD, hS, hl⟩ := hh
    have hP : va_P D vwCl [(aSc, .inr (4, [.ref aK, .ref aC, .ref aS, .ref aF, .int lm, .int wk, .int stp, .int dm, .int tc, .long rm])), (aK, .inl (y4.1, 64, .inl K))] H := hP
    have hD : va_D A [(aSc, .inr (4, [.ref aK, .ref aC, .ref aS, .ref aF, .int lm, .int wk, .int stp, .int dm, .int tc, .long rm])), (aK, .inl (y4.1, 64, .inl K))] := hD
    have hl : lv_has ls 4 [(3, .int (nI k1)), (2, .int t2), (0, .ref aSc), (1, .int kd)] := hl
    refine lv_iload_n hx hb dX5_cellsOfKind_4 rfl (lv_at hl 0 rfl) ?_
    refine lv_bipush (v := 64) hx hb dX5_cellsOfKind_5 (by decide) ?_
    refine lv_icmp_ge (tgt := 29) hx hb dX5_cellsOfKind_7 (by decide) (fun c6 => absurd c6 (nI_ge (b := 64) (by omega) (by omega))) (fun c6 => ?_)
    refine lv_aload_n hx hb dX5_cellsOfKind_10 rfl (lv_at hl 2 rfl) ?_
    refine va_get (ci := 4) (v := .ref aK) (C := RX5) (T := TX5) (N := 10) hx hb hts iX5 hown hK hP 0 rfl rfl 0 (by decide) f9 (fun _ h9 => h9) rfl dX5_cellsOfKind_11 ?_
    refine lv_iload_n hx hb dX5_cellsOfKind_14 rfl (lv_at hl 0 rfl) ?_
    refine va_iald hx hb hK hP 1 0 rfl rfl (vp_in_nI (by omega) (by decide)) dX5_cellsOfKind_15 ?_
    refine lv_iload_n hx hb dX5_cellsOfKind_16 rfl (lv_at hl 3 rfl) ?_
    refine cutW (X := Int32) 23 (fun x H locs ls => x = (if (K (nI k1).toNatClampNeg) = kd then t2 + 1 else t2) ∧ va_P D vwCl [(aSc, .inr (4, [.ref aK, .ref aC, .ref aS, .ref aF, .int lm, .int wk, .int stp, .int dm, .int tc, .long rm])), (aK, .inl (y4.1, 64, .inl K))] H ∧ va_D A [(aSc, .inr (4, [.ref aK, .ref aC, .ref aS, .ref aF, .int lm, .int wk, .int stp, .int dm, .int tc, .long rm])), (aK, .inl (y4.1, 64, .inl K))] ∧ va_S A s.heap H locs ∧ lv_has ls 4 [(3, .int (nI k1)), (2, .int x), (0, .ref aSc), (1, .int kd)]) (fun x => []) ?_ (fun K23 => ?_)
    · rintro v8 H locs ls ⟨ev8, hP, hD, hS, hl⟩
      have ev8 : v8 = (if (K (nI k1).toNatClampNeg) = kd then t2 + 1 else t2) := ev8
      have hP : va_P D vwCl [(aSc, .inr (4, [.ref aK, .ref aC, .ref aS, .ref aF, .int lm, .int wk, .int stp, .int dm, .int tc, .long rm])), (aK, .inl (y4.1, 64, .inl K))] H := hP
      have hD : va_D A [(aSc, .inr (4, [.ref aK, .ref aC, .ref aS, .ref aF, .int lm, .int wk, .int stp, .int dm, .int tc, .long rm])), (aK, .inl (y4.1, 64, .inl K))] := hD
      have hl : lv_has ls 4 [(3, .int (nI k1)), (2, .int v8), (0, .ref aSc), (1, .int kd)] := hl
      refine lv_iinc (v := nI (k1 + 1)) (lv' := [(3, .int (nI (k1 + 1))), (2, .int v8), (0, .ref aSc), (1, .int kd)]) hx hb dX5_cellsOfKind_23 hl (k := 0) rfl (nI_1 _) (by decide) rfl (fun ls hl => ?_)
      refine lv_goto (tgt := 4) hx hb dX5_cellsOfKind_26 (by decide) ?_
      have ef : (f_X5_cellsOfKind_4 K kd) k1 t2 = v8 := (by subst ev8; first | (simp only [f_X5_cellsOfKind_4]; done) | (unfold f_X5_cellsOfKind_4; rfl) | rfl)
      rw [ef] at ihk1
      exact ihk1 H locs ls ⟨hP, hD, hS, lv_sub hl [0, 1, 2, 3] rfl⟩
    · refine lv_icmp_ne (tgt := 23) hx hb dX5_cellsOfKind_17 (by decide) (fun c7 => ?_) (fun c7 => ?_)
      · exact K23 t2 H locs ls ⟨(by first | (simp only [if_neg c7]; done) | (simp only [if_neg c7]; rfl) | rfl), hP, hD, hS, lv_sub hl [0, 1, 2, 3] rfl⟩
      · refine lv_iinc (v := t2 + 1) (lv' := [(2, .int (t2 + 1)), (3, .int (nI k1)), (0, .ref aSc), (1, .int kd)]) hx hb dX5_cellsOfKind_20 hl (k := 1) rfl rfl (by decide) rfl (fun ls hl => ?_)
        exact K23 (t2 + 1) H locs ls ⟨(by first | (simp only [if_pos c7]; done) | (simp only [if_pos c7]; rfl) | rfl), hP, hD, hS, lv_sub hl [1, 0, 2, 3] rfl⟩
def m_X5_hasRoomForLamp (lm : Int32) (K : Nat → Int32) (LC : Nat → Int32) (cl : Int32) : Bool := (if (m_X0_stopsLight (K (cl).toNatClampNeg)) = false then (if (m_X5_lampIn lm LC cl) = (-4) then true else false) else false)
set_option maxHeartbeats 4000000 in
set_option maxRecDepth 100000 in
theorem met_X5_hasRoomForLamp (l : Launch) (D : va_G) (y4 : vT) (aSc aK aC aS aF : Nat) (sz : Nat) (lm : Int32) (wk : Int32) (stp : Int32) (dm : Int32) (tc : Int32) (rm : Int64) (K : Nat → Int32) (LC : Nat → Int32) (cl : Int32) (hlm : 0 ≤ lm.toInt ∧ lm.toInt ≤ (6 : Nat)) (hcl : vp_in cl 64) : Met l yX5_hasRoomForLamp wsX5_hasRoomForLamp ({ frames := 1, cells := 0, slots := 0, locals := 22 }) (va_Pc [.ref aSc, .int cl] (PreW D y4 [(aSc, .inr (4, [.ref aK, .ref aC, .ref aS, .ref aF, .int lm, .int wk, .int stp, .int dm, .int tc, .long rm])), (aK, .inl (y4.1, 64, .inl K)), (aC, .inl (y4.1, 6, .inl LC))] sz)) (va_Qi (fun (r : Int32) (_ : Unit) => r = bI (m_X5_hasRoomForLamp lm K LC cl)) (fun _ t => PostW D (va_A [(aSc, .inr (4, [.ref aK, .ref aC, .ref aS, .ref aF, .int lm, .int wk, .int stp, .int dm, .int tc, .long rm])), (aK, .inl (y4.1, 64, .inl K)), (aC, .inl (y4.1, 6, .inl LC))] sz) [(aSc, .inr (4, [.ref aK, .ref aC, .ref aS, .ref aF, .int lm, .int wk, .int stp, .int dm, .int tc, .long rm])), (aK, .inl (y4.1, 64, .inl K)), (aC, .inl (y4.1, 6, .inl LC))] t) (va_A [(aSc, .inr (4, [.ref aK, .ref aC, .ref aS, .ref aF, .int lm, .int wk, .int stp, .int dm, .int tc, .long rm])), (aK, .inl (y4.1, 64, .inl K)), (aC, .inl (y4.1, 6, .inl LC))] sz)) 0 0 (va_A [(aSc, .inr (4, [.ref aK, .ref aC, .ref aS, .ref aF, .int lm, .int wk, .int stp, .int dm, .int tc, .long rm])), (aK, .inl (y4.1, 64, .inl K)), (aC, .inl (y4.1, 6, .inl LC))] sz) := by
  refine Met.ofW (cc := cX5_hasRoomForLamp) (maxL := 2) (ret := (some .boolean)) (by decide) rfl ?_
  intro p e s m args below meth c s₁ B hml hv
  obtain ⟨rfl, hsz, hP, hK, hD0, hNW⟩ := hv
  have hx := B.exec
  have hb := B.bytes
  have hr := B.returns
  have hts := atoms_spec (ws := wsX5_hasRoomForLamp) B.pre
  have hown : s.vm.findClass RX5 = some m.cls := findClass_of_methodNamed B.named
  have hlocks := B.notSynchronized
  subst hsz
  have hD := hD0.self (sz := s.heap.size)
  generalize hAe : va_A [(aSc, .inr (4, [.ref aK, .ref aC, .ref aS, .ref aF, .int lm, .int wk, .int stp, .int dm, .int tc, .long rm])), (aK, .inl (y4.1, 64, .inl K)), (aC, .inl (y4.1, 6, .inl LC))] s.heap.size = A at hD ⊢
  have hA : ∀ q : Nat, s.heap.size ≤ q → A q := fun q h => by rw [← hAe]; exact Or.inr h
  have hS : va_S A s.heap s.heap [] := va_S.rf
  have hl := lv_entry ([.ref aSc, .int cl]) (n := 2) (Nat.le_of_ble_eq_true rfl)
  rw [lg_entry_eq]
  generalize (lg_sl ([.ref aSc, .int cl]) ++ List.replicate (2 - (lg_sl ([.ref aSc, .int cl])).length) Slot.unset).toArray = ls at hl ⊢
  have hl : lv_has ls 2 [(0, .ref aSc), (1, .int cl)] := hl
  have f9 := hts (.fieldLink RX5 9 "PillarLight$Scene" "kinds" "[I") (List.mem_of_getElem? (i := 1) rfl)
  have iX5 : ∀ w ∈ wsX50, w ∈ wsX5_hasRoomForLamp := fun _ h => List.mem_cons_of_mem _ (List.mem_append_right _ h)
  refine startW (fun H locs hP hS => ?_) hP hS
  refine lv_aload_n hx hb dX5_hasRoomForLamp_0 rfl (lv_at hl 0 rfl) ?_
  refine va_get (ci := 4) (v := .ref aK) (C := RX5) (T := TX5) (N := 10) hx hb hts iX5 hown hK hP 0 rfl rfl 0 (by decide) f9 (fun _ h9 => h9) rfl dX5_hasRoomForLamp_1 ?_
  refine lv_iload_n hx hb dX5_hasRoomForLamp_4 rfl (lv_at hl 1 rfl) ?_
  refine va_iald hx hb hK hP 1 0 rfl rfl (by first | assumption | exact vp_in_cmp (by assumption) (by assumption) (by decide)) dX5_hasRoomForLamp_5 ?_
  refine callK_i (va_runS (As := [.int (K (cl).toNatClampNeg)]) (rest := []) ⟨hx, hb, hml, hown, hts⟩ (met_X0_stopsLight l  (K (cl).toNatClampNeg)) (va_cwS 1 hts gX5_hasRoomForLamp_X0_stopsLight rfl rfl rfl (by decide +kernel) ⟨Nat.le_of_ble_eq_true rfl, Nat.le_of_ble_eq_true rfl⟩) ⟨preS_blind, fun U hU hW => ⟨rfl, trivial⟩⟩ rfl rfl hl.1 rfl (lv_room (Nat.le_of_ble_eq_true rfl)) dX5_hasRoomForLamp_6 ⟨Nat.zero_le _, Nat.zero_le _⟩) hP hS (fun r u H locs hw hP hS => ?_)
  subst hw
  refine lb_if_ne (tgt := 26) hx hb dX5_hasRoomForLamp_9 (by decide) (fun c1 => ?_) (fun c1 => ?_)
  · refine lv_iconst (v := 0) hx hb dX5_hasRoomForLamp_26 (by decide) ?_
    have em : m_X5_hasRoomForLamp lm K LC cl = false := (by first | (simp only [m_X5_hasRoomForLamp, if_neg c1]; done) | (simp only [m_X5_hasRoomForLamp, if_neg c1]; rfl))
    exact W.zret (v := 0) hx hb hr rfl (fun t ht hW => ⟨⟨0, (), rfl, (by rw [em]; rfl), ⟨by rw [ht]; exact hP, by exact hD⟩⟩, hS.F ht⟩) hS.2.2 dX5_hasRoomForLamp_27
  · refine lv_aload_n hx hb dX5_hasRoomForLamp_12 rfl (lv_at hl 0 rfl) ?_
    refine lv_iload_n hx hb dX5_hasRoomForLamp_13 rfl (lv_at hl 1 rfl) ?_
    refine callW_i (wr := [(aK, .inl (y4.1, 64, .inl K))]) (wn := fun u => [(aSc, .inr (4, [.ref aK, .ref aC, .ref aS, .ref aF, .int lm, .int wk, .int stp, .int dm, .int tc, .long rm])), (aK, .inl (y4.1, 64, .inl K)), (aC, .inl (y4.1, 6, .inl LC))]) (va_runV (As := [.int cl]) (rest := []) ⟨hx, hb, hml, hown, hts⟩ (met_X5_lampIn l D y4 aSc aK aC aS aF H.size lm wk stp dm tc rm LC cl hlm) (cwV 1 hts gX5_hasRoomForLamp_X5_lampIn rfl rfl rfl (by decide +kernel) ⟨Nat.le_of_ble_eq_true rfl, Nat.le_of_ble_eq_true rfl⟩) ⟨preW_blind, va_recv hK hP (ci := 4) (q0 := 0) rfl rfl, preW_at (hP.sub (ws' := [(aSc, .inr (4, [.ref aK, .ref aC, .ref aS, .ref aF, .int lm, .int wk, .int stp, .int dm, .int tc, .long rm])), (aC, .inl (y4.1, 6, .inl LC))]) [0, 2] rfl) hK (hD.sub (ws' := [(aSc, .inr (4, [.ref aK, .ref aC, .ref aS, .ref aF, .int lm, .int wk, .int stp, .int dm, .int tc, .long rm])), (aC, .inl (y4.1, 6, .inl LC))]) [0, 2] (by decide) rfl) hNW⟩ rfl rfl hl.1 rfl (lv_room (Nat.le_of_ble_eq_true rfl)) dX5_hasRoomForLamp_14 ⟨Nat.zero_le _, Nat.zero_le _⟩) hP hD hS hA [0, 2] [1] [1, 0, 2] rfl rfl (by decide) (by decide) (fun _ => rfl) (by decide) (fun r u2 H locs hw hP hD hS => ?_)
    subst hw
    have hP : va_P D vwCl [(aSc, .inr (4, [.ref aK, .ref aC, .ref aS, .ref aF, .int lm, .int wk, .int stp, .int dm, .int tc, .long rm])), (aK, .inl (y4.1, 64, .inl K)), (aC, .inl (y4.1, 6, .inl LC))] H := hP
    have hD : va_D A [(aSc, .inr (4, [.ref aK, .ref aC, .ref aS, .ref aF, .int lm, .int wk, .int stp, .int dm, .int tc, .long rm])), (aK, .inl (y4.1, 64, .inl K)), (aC, .inl (y4.1, 6, .inl LC))] := hD
    refine lv_bipush (v := (-4)) hx hb dX5_hasRoomForLamp_17 (by decide) ?_
    refine lv_icmp_ne (tgt := 26) hx hb dX5_hasRoomForLamp_19 (by decide) (fun c3 => ?_) (fun c3 => ?_)
    · refine lv_iconst (v := 0) hx hb dX5_hasRoomForLamp_26 (by decide) ?_
      have em : m_X5_hasRoomForLamp lm K LC cl = false := (by first | (simp only [m_X5_hasRoomForLamp, if_pos c1, if_neg c3]; done) | (simp only [m_X5_hasRoomForLamp, if_pos c1, if_neg c3]; rfl))
      exact W.zret (v := 0) hx hb hr rfl (fun t ht hW => ⟨⟨0, (), rfl, (by rw [em]; rfl), ⟨by rw [ht]; exact hP, by exact hD⟩⟩, hS.F ht⟩) hS.2.2 dX5_hasRoomForLamp_27
    · refine lv_iconst (v := 1) hx hb dX5_hasRoomForLamp_22 (by decide) ?_
      refine lv_goto (tgt := 27) hx hb dX5_hasRoomForLamp_23 (by decide) ?_
      have em : m_X5_hasRoomForLamp lm K LC cl = true := (by first | (simp only [m_X5_hasRoomForLamp, if_pos c1, if_pos c3]; done) | (simp only [m_X5_hasRoomForLamp, if_pos c1, if_pos c3]; rfl))
      exact W.zret (v := 1) hx hb hr rfl (fun t ht hW => ⟨⟨1, (), rfl, (by rw [em]; rfl), ⟨by rw [ht]; exact hP, by exact hD⟩⟩, hS.F ht⟩) hS.2.2 dX5_hasRoomForLamp_27
def f_X5_leastFuelAbove_4 (LF : Nat → Int32) (nu : Int32) (k1 : Nat) (t2 : Int32) : Int32 := (let v12 : Int32 := (if (LF (nI k1).toNatClampNeg) ≤ nu then t2 else (if t2 = nu then LF (nI k1).toNatClampNeg else (if t2 ≤ (LF (nI k1).toNatClampNeg) then t2 else LF (nI k1).toNatClampNeg))); v12)
def m_X5_leastFuelAbove (lm : Int32) (LF : Nat → Int32) (nu : Int32) : Int32 := (let t13 : Int32 := itr (f_X5_leastFuelAbove_4 LF nu) ((lm).toNatClampNeg) nu; t13)
set_option maxHeartbeats 4000000 in
set_option maxRecDepth 100000 in
theorem met_X5_leastFuelAbove (l : Launch) (D : va_G) (y4 : vT) (aSc aK aC aS aF : Nat) (sz : Nat) (lm : Int32) (wk : Int32) (stp : Int32) (dm : Int32) (tc : Int32) (rm : Int64) (LF : Nat → Int32) (nu : Int32) (hlm : 0 ≤ lm.toInt ∧ lm.toInt ≤ (6 : Nat)) : Met l yX5_leastFuelAbove wsX5_leastFuelAbove ({ frames := 0, cells := 0, slots := 0, locals := 0 }) (va_Pc [.ref aSc, .int nu] (PreW D y4 [(aSc, .inr (4, [.ref aK, .ref aC, .ref aS, .ref aF, .int lm, .int wk, .int stp, .int dm, .int tc, .long rm])), (aF, .inl (y4.1, 6, .inl LF))] sz)) (va_Qi (fun (r : Int32) (_ : Unit) => r = (m_X5_leastFuelAbove lm LF nu)) (fun _ t => PostW D (va_A [(aSc, .inr (4, [.ref aK, .ref aC, .ref aS, .ref aF, .int lm, .int wk, .int stp, .int dm, .int tc, .long rm])), (aF, .inl (y4.1, 6, .inl LF))] sz) [(aSc, .inr (4, [.ref aK, .ref aC, .ref aS, .ref aF, .int lm, .int wk, .int stp, .int dm, .int tc, .long rm])), (aF, .inl (y4.1, 6, .inl LF))] t) (va_A [(aSc, .inr (4, [.ref aK, .ref aC, .ref aS, .ref aF, .int lm, .int wk, .int stp, .int dm, .int tc, .long rm])), (aF, .inl (y4.1, 6, .inl LF))] sz)) 0 0 (va_A [(aSc, .inr (4, [.ref aK, .ref aC, .ref aS, .ref aF, .int lm, .int wk, .int stp, .int dm, .int tc, .long rm])), (aF, .inl (y4.1, 6, .inl LF))] sz) := by
  refine Met.ofW (cc := cX5_leastFuelAbove) (maxL := 5) (ret := (some .int)) (by decide) rfl ?_
  intro p e s m args below meth c s₁ B hml hv
  obtain ⟨rfl, hsz, hP, hK, hD0, hNW⟩ := hv
  have hx := B.exec
  have hb := B.bytes
  have hr := B.returns
  have hts := atoms_spec (ws := wsX5_leastFuelAbove) B.pre
  have hown : s.vm.findClass RX5 = some m.cls := findClass_of_methodNamed B.named
  have hlocks := B.notSynchronized
  subst hsz
  have hD := hD0.self (sz := s.heap.size)
  generalize hAe : va_A [(aSc, .inr (4, [.ref aK, .ref aC, .ref aS, .ref aF, .int lm, .int wk, .int stp, .int dm, .int tc, .long rm])), (aF, .inl (y4.1, 6, .inl LF))] s.heap.size = A at hD ⊢
  have hA : ∀ q : Nat, s.heap.size ≤ q → A q := fun q h => by rw [← hAe]; exact Or.inr h
  have hS : va_S A s.heap s.heap [] := va_S.rf
  have hl := lv_entry ([.ref aSc, .int nu]) (n := 5) (Nat.le_of_ble_eq_true rfl)
  rw [lg_entry_eq]
  generalize (lg_sl ([.ref aSc, .int nu]) ++ List.replicate (5 - (lg_sl ([.ref aSc, .int nu])).length) Slot.unset).toArray = ls at hl ⊢
  have hl : lv_has ls 5 [(0, .ref aSc), (1, .int nu)] := hl
  have f37 := hts (.fieldLink RX5 37 "PillarLight$Scene" "lamps" "I") (List.mem_of_getElem? (i := 1) rfl)
  have iX5 : ∀ w ∈ wsX50, w ∈ wsX5_leastFuelAbove := fun _ h => List.mem_cons_of_mem _ (List.mem_append_right _ h)
  have f21 := hts (.fieldLink RX5 21 "PillarLight$Scene" "lampFuel" "[I") (List.mem_of_getElem? (i := 2) rfl)
  refine startW (fun H locs hP hS => ?_) hP hS
  refine lv_iload_n hx hb dX5_leastFuelAbove_0 rfl (lv_at hl 1 rfl) ?_
  refine lv_istore_n (lv' := [(2, .int nu), (0, .ref aSc), (1, .int nu)]) hx hb dX5_leastFuelAbove_1 rfl hl (by decide) rfl (fun ls hl => ?_)
  refine lv_iconst (v := 0) hx hb dX5_leastFuelAbove_2 (by decide) ?_
  refine lv_istore_n (lv' := [(3, .int 0), (2, .int nu), (0, .ref aSc), (1, .int nu)]) hx hb dX5_leastFuelAbove_3 rfl hl (by decide) rfl (fun ls hl => ?_)
  refine loopW (σ := Int32) 4 (f_X5_leastFuelAbove_4 LF nu) ((lm).toNatClampNeg) nu (fun k1 t2 H locs ls => va_P D vwCl [(aSc, .inr (4, [.ref aK, .ref aC, .ref aS, .ref aF, .int lm, .int wk, .int stp, .int dm, .int tc, .long rm])), (aF, .inl (y4.1, 6, .inl LF))] H ∧ va_D A [(aSc, .inr (4, [.ref aK, .ref aC, .ref aS, .ref aF, .int lm, .int wk, .int stp, .int dm, .int tc, .long rm])), (aF, .inl (y4.1, 6, .inl LF))] ∧ va_S A s.heap H locs ∧ lv_has ls 5 [(3, .int (nI k1)), (2, .int t2), (0, .ref aSc), (1, .int nu)]) ⟨hP, hD, hS, lv_sub hl [0, 1, 2, 3] rfl⟩ (fun t13 H locs ls et13 hh => ?_) (fun k1 t2 hkk1 hek1 ihk1 H locs ls hh => ?_)
  · obtain ⟨hP, hD, hS, hl⟩ := hh
    have hP : va_P D vwCl [(aSc, .inr (4, [.ref aK, .ref aC, .ref aS, .ref aF, .int lm, .int wk, .int stp, .int dm, .int tc, .long rm])), (aF, .inl (y4.1, 6, .inl LF))] H := hP
    have hD : va_D A [(aSc, .inr (4, [.ref aK, .ref aC, .ref aS, .ref aF, .int lm, .int wk, .int stp, .int dm, .int tc, .long rm])), (aF, .inl (y4.1, 6, .inl LF))] := hD
    have hl : lv_has ls 5 [(3, .int (nI ((lm).toNatClampNeg))), (2, .int t13), (0, .ref aSc), (1, .int nu)] := hl
    refine lv_iload_n hx hb dX5_leastFuelAbove_4 rfl (lv_at hl 0 rfl) ?_
    refine lv_aload_n hx hb dX5_leastFuelAbove_5 rfl (lv_at hl 2 rfl) ?_
    refine va_get (ci := 4) (v := .int lm) (C := RX5) (T := TX5) (N := 10) hx hb hts iX5 hown hK hP 0 rfl rfl 4 (by decide) f37 (fun _ h9 => h9) rfl dX5_leastFuelAbove_6 ?_
    refine lv_icmp_ge (tgt := 46) hx hb dX5_leastFuelAbove_9 (by decide) (fun c14 => ?_) (fun c14 => absurd (cl_le hlm (by omega) (by have := cl_lt hlm; omega)) c14)
    refine lv_iload_n hx hb dX5_leastFuelAbove_46 rfl (lv_at hl 1 rfl) ?_
    have em : m_X5_leastFuelAbove lm LF nu = t13 := (by subst et13; first | (simp only [m_X5_leastFuelAbove]; done) | (unfold m_X5_leastFuelAbove; rfl) | rfl)
    exact W.iret (v := t13) hx hb hr (fun t ht hW => ⟨⟨t13, (), rfl, (by rw [em]), ⟨by rw [ht]; exact hP, by exact hD⟩⟩, hS.F ht⟩) hS.2.2 dX5_leastFuelAbove_47
  · obtain ⟨hP, hD, hS, hl⟩ := hh
    have hP : va_P D vwCl [(aSc, .inr (4, [.ref aK, .ref aC, .ref aS, .ref aF, .int lm, .int wk, .int stp, .int dm, .int tc, .long rm])), (aF, .inl (y4.1, 6, .inl LF))] H := hP
    have hD : va_D A [(aSc, .inr (4, [.ref aK, .ref aC, .ref aS, .ref aF, .int lm, .int wk, .int stp, .int dm, .int tc, .long rm])), (aF, .inl (y4.1, 6, .inl LF))] := hD
    have hl : lv_has ls 5 [(3, .int (nI k1)), (2, .int t2), (0, .ref aSc), (1, .int nu)] := hl
    refine lv_iload_n hx hb dX5_leastFuelAbove_4 rfl (lv_at hl 0 rfl) ?_
    refine lv_aload_n hx hb dX5_leastFuelAbove_5 rfl (lv_at hl 2 rfl) ?_
    refine va_get (ci := 4) (v := .int lm) (C := RX5) (T := TX5) (N := 10) hx hb hts iX5 hown hK hP 0 rfl rfl 4 (by decide) f37 (fun _ h9 => h9) rfl dX5_leastFuelAbove_6 ?_
    refine lv_icmp_ge (tgt := 46) hx hb dX5_leastFuelAbove_9 (by decide) (fun c8 => absurd c8 (cl_ge hlm (by omega))) (fun c8 => ?_)
    refine lv_aload_n hx hb dX5_leastFuelAbove_12 rfl (lv_at hl 2 rfl) ?_
    refine va_get (ci := 4) (v := .ref aF) (C := RX5) (T := TX5) (N := 10) hx hb hts iX5 hown hK hP 0 rfl rfl 3 (by decide) f21 (fun _ h9 => h9) rfl dX5_leastFuelAbove_13 ?_
    refine lv_iload_n hx hb dX5_leastFuelAbove_16 rfl (lv_at hl 0 rfl) ?_
    refine va_iald hx hb hK hP 1 0 rfl rfl (cl_in hlm (by omega)) dX5_leastFuelAbove_17 ?_
    refine lv_istore (lv' := [(4, .int (LF (nI k1).toNatClampNeg)), (3, .int (nI k1)), (2, .int t2), (0, .ref aSc), (1, .int nu)]) hx hb dX5_leastFuelAbove_18 hl (by decide) rfl (fun ls hl => ?_)
    refine lv_iload hx hb dX5_leastFuelAbove_20 (lv_at hl 0 rfl) ?_
    refine lv_iload_n hx hb dX5_leastFuelAbove_22 rfl (lv_at hl 4 rfl) ?_
    refine cutW (X := Int32) 40 (fun x H locs ls => x = (if (LF (nI k1).toNatClampNeg) ≤ nu then t2 else (if t2 = nu then LF (nI k1).toNatClampNeg else (if t2 ≤ (LF (nI k1).toNatClampNeg) then t2 else LF (nI k1).toNatClampNeg))) ∧ va_P D vwCl [(aSc, .inr (4, [.ref aK, .ref aC, .ref aS, .ref aF, .int lm, .int wk, .int stp, .int dm, .int tc, .long rm])), (aF, .inl (y4.1, 6, .inl LF))] H ∧ va_D A [(aSc, .inr (4, [.ref aK, .ref aC, .ref aS, .ref aF, .int lm, .int wk, .int stp, .int dm, .int tc, .long rm])), (aF, .inl (y4.1, 6, .inl LF))] ∧ va_S A s.heap H locs ∧ lv_has ls 5 [(3, .int (nI k1)), (2, .int x), (0, .ref aSc), (1, .int nu)]) (fun x => []) ?_ (fun K40 => ?_)
    · rintro v12 H locs ls ⟨ev12, hP, hD, hS, hl⟩
      have ev12 : v12 = (if (LF (nI k1).toNatClampNeg) ≤ nu then t2 else (if t2 = nu then LF (nI k1).toNatClampNeg else (if t2 ≤ (LF (nI k1).toNatClampNeg) then t2 else LF (nI k1).toNatClampNeg))) := ev12
      have hP : va_P D vwCl [(aSc, .inr (4, [.ref aK, .ref aC, .ref aS, .ref aF, .int lm, .int wk, .int stp, .int dm, .int tc, .long rm])), (aF, .inl (y4.1, 6, .inl LF))] H := hP
      have hD : va_D A [(aSc, .inr (4, [.ref aK, .ref aC, .ref aS, .ref aF, .int lm, .int wk, .int stp, .int dm, .int tc, .long rm])), (aF, .inl (y4.1, 6, .inl LF))] := hD
      have hl : lv_has ls 5 [(3, .int (nI k1)), (2, .int v12), (0, .ref aSc), (1, .int nu)] := hl
      refine lv_iinc (v := nI (k1 + 1)) (lv' := [(3, .int (nI (k1 + 1))), (2, .int v12), (0, .ref aSc), (1, .int nu)]) hx hb dX5_leastFuelAbove_40 hl (k := 0) rfl (nI_1 _) (by decide) rfl (fun ls hl => ?_)
      refine lv_goto (tgt := 4) hx hb dX5_leastFuelAbove_43 (by decide) ?_
      have ef : (f_X5_leastFuelAbove_4 LF nu) k1 t2 = v12 := (by subst ev12; first | (simp only [f_X5_leastFuelAbove_4]; done) | (unfold f_X5_leastFuelAbove_4; rfl) | rfl)
      rw [ef] at ihk1
      exact ihk1 H locs ls ⟨hP, hD, hS, lv_sub hl [0, 1, 2, 3] rfl⟩
    · refine lv_icmp_le (tgt := 40) hx hb dX5_leastFuelAbove_23 (by decide) (fun c9 => ?_) (fun c9 => ?_)
      · exact K40 t2 H locs ls ⟨(by first | (simp only [if_pos c9]; done) | (simp only [if_pos c9]; rfl) | rfl), hP, hD, hS, lv_sub hl [1, 2, 3, 4] rfl⟩
      · refine lv_iload_n hx hb dX5_leastFuelAbove_26 rfl (lv_at hl 2 rfl) ?_
        refine lv_iload_n hx hb dX5_leastFuelAbove_27 rfl (lv_at hl 4 rfl) ?_
        refine lv_icmp_eq (tgt := 37) hx hb dX5_leastFuelAbove_28 (by decide) (fun c10 => ?_) (fun c10 => ?_)
        · refine lv_iload hx hb dX5_leastFuelAbove_37 (lv_at hl 0 rfl) ?_
          refine lv_istore_n (lv' := [(2, .int (LF (nI k1).toNatClampNeg)), (4, .int (LF (nI k1).toNatClampNeg)), (3, .int (nI k1)), (0, .ref aSc), (1, .int nu)]) hx hb dX5_leastFuelAbove_39 rfl hl (by decide) rfl (fun ls hl => ?_)
          exact K40 (LF (nI k1).toNatClampNeg) H locs ls ⟨(by first | (simp only [if_neg c9, if_pos c10]; done) | (simp only [if_neg c9, if_pos c10]; rfl) | rfl), hP, hD, hS, lv_sub hl [2, 0, 3, 4] rfl⟩
        · refine lv_iload hx hb dX5_leastFuelAbove_31 (lv_at hl 0 rfl) ?_
          refine lv_iload_n hx hb dX5_leastFuelAbove_33 rfl (lv_at hl 2 rfl) ?_
          refine lv_icmp_ge (tgt := 40) hx hb dX5_leastFuelAbove_34 (by decide) (fun c11 => ?_) (fun c11 => ?_)
          · exact K40 t2 H locs ls ⟨(by first | (simp only [if_neg c9, if_neg c10, if_pos c11]; done) | (simp only [if_neg c9, if_neg c10, if_pos c11]; rfl) | rfl), hP, hD, hS, lv_sub hl [1, 2, 3, 4] rfl⟩
          · refine lv_iload hx hb dX5_leastFuelAbove_37 (lv_at hl 0 rfl) ?_
            refine lv_istore_n (lv' := [(2, .int (LF (nI k1).toNatClampNeg)), (4, .int (LF (nI k1).toNatClampNeg)), (3, .int (nI k1)), (0, .ref aSc), (1, .int nu)]) hx hb dX5_leastFuelAbove_39 rfl hl (by decide) rfl (fun ls hl => ?_)
            exact K40 (LF (nI k1).toNatClampNeg) H locs ls ⟨(by first | (simp only [if_neg c9, if_neg c10, if_neg c11]; done) | (simp only [if_neg c9, if_neg c10, if_neg c11]; rfl) | rfl), hP, hD, hS, lv_sub hl [2, 0, 3, 4] rfl⟩
def m_X5_nextOnFoot (K : Nat → Int32) (cl : Int32) (di : Int32) : Int32 := (if (m_X0_neighbour cl di) = (-1) then (-1 : Int32) else (let q2 : Bool := m_X0_stopsFeet (K ((m_X0_neighbour cl di)).toNatClampNeg); (if q2 = false then (m_X0_neighbour cl di) else (-1 : Int32))))
set_option maxHeartbeats 4000000 in
set_option maxRecDepth 100000 in
theorem met_X5_nextOnFoot (l : Launch) (D : va_G) (y4 : vT) (aSc aK aC aS aF : Nat) (sz : Nat) (lm : Int32) (wk : Int32) (stp : Int32) (dm : Int32) (tc : Int32) (rm : Int64) (K : Nat → Int32) (cl : Int32) (di : Int32) (hcl : vp_in cl 64) : Met l yX5_nextOnFoot wsX5_nextOnFoot ({ frames := 2, cells := 0, slots := 0, locals := 41 }) (va_Pc [.ref aSc, .int cl, .int di] (PreW D y4 [(aSc, .inr (4, [.ref aK, .ref aC, .ref aS, .ref aF, .int lm, .int wk, .int stp, .int dm, .int tc, .long rm])), (aK, .inl (y4.1, 64, .inl K))] sz)) (va_Qi (fun (r : Int32) (_ : Unit) => r = (m_X5_nextOnFoot K cl di)) (fun _ t => PostW D (va_A [(aSc, .inr (4, [.ref aK, .ref aC, .ref aS, .ref aF, .int lm, .int wk, .int stp, .int dm, .int tc, .long rm])), (aK, .inl (y4.1, 64, .inl K))] sz) [(aSc, .inr (4, [.ref aK, .ref aC, .ref aS, .ref aF, .int lm, .int wk, .int stp, .int dm, .int tc, .long rm])), (aK, .inl (y4.1, 64, .inl K))] t) (va_A [(aSc, .inr (4, [.ref aK, .ref aC, .ref aS, .ref aF, .int lm, .int wk, .int stp, .int dm, .int tc, .long rm])), (aK, .inl (y4.1, 64, .inl K))] sz)) 0 0 (va_A [(aSc, .inr (4, [.ref aK, .ref aC, .ref aS, .ref aF, .int lm, .int wk, .int stp, .int dm, .int tc, .long rm])), (aK, .inl (y4.1, 64, .inl K))] sz) := by
  refine Met.ofW (cc := cX5_nextOnFoot) (maxL := 4) (ret := (some .int)) (by decide) rfl ?_
  intro p e s m args below meth c s₁ B hml hv
  obtain ⟨rfl, hsz, hP, hK, hD0, hNW⟩ := hv
  have hx := B.exec
  have hb := B.bytes
  have hr := B.returns
  have hts := atoms_spec (ws := wsX5_nextOnFoot) B.pre
  have hown : s.vm.findClass RX5 = some m.cls := findClass_of_methodNamed B.named
  have hlocks := B.notSynchronized
  subst hsz
  have hD := hD0.self (sz := s.heap.size)
  generalize hAe : va_A [(aSc, .inr (4, [.ref aK, .ref aC, .ref aS, .ref aF, .int lm, .int wk, .int stp, .int dm, .int tc, .long rm])), (aK, .inl (y4.1, 64, .inl K))] s.heap.size = A at hD ⊢
  have hA : ∀ q : Nat, s.heap.size ≤ q → A q := fun q h => by rw [← hAe]; exact Or.inr h
  have hS : va_S A s.heap s.heap [] := va_S.rf
  have hl := lv_entry ([.ref aSc, .int cl, .int di]) (n := 4) (Nat.le_of_ble_eq_true rfl)
  rw [lg_entry_eq]
  generalize (lg_sl ([.ref aSc, .int cl, .int di]) ++ List.replicate (4 - (lg_sl ([.ref aSc, .int cl, .int di])).length) Slot.unset).toArray = ls at hl ⊢
  have hl : lv_has ls 4 [(0, .ref aSc), (1, .int cl), (2, .int di)] := hl
  have f9 := hts (.fieldLink RX5 9 "PillarLight$Scene" "kinds" "[I") (List.mem_of_getElem? (i := 1) rfl)
  have iX5 : ∀ w ∈ wsX50, w ∈ wsX5_nextOnFoot := fun _ h => List.mem_cons_of_mem _ (List.mem_append_right _ h)
  refine startW (fun H locs hP hS => ?_) hP hS
  refine lv_iload_n hx hb dX5_nextOnFoot_0 rfl (lv_at hl 1 rfl) ?_
  refine lv_iload_n hx hb dX5_nextOnFoot_1 rfl (lv_at hl 2 rfl) ?_
  refine callK_i (va_runS (As := [.int cl, .int di]) (rest := []) ⟨hx, hb, hml, hown, hts⟩ (met_X0_neighbour l  cl di) (va_cwS 2 hts gX5_nextOnFoot_X0_neighbour rfl rfl rfl (by decide +kernel) ⟨Nat.le_of_ble_eq_true rfl, Nat.le_of_ble_eq_true rfl⟩) ⟨preS_blind, fun U hU hW => ⟨rfl, trivial⟩⟩ rfl rfl hl.1 rfl (lv_room (Nat.le_of_ble_eq_true rfl)) dX5_nextOnFoot_2 ⟨Nat.zero_le _, Nat.zero_le _⟩) hP hS (fun r u H locs hw hP hS => ?_)
  subst hw
  refine lv_istore_n (lv' := [(3, .int (m_X0_neighbour cl di)), (0, .ref aSc), (1, .int cl), (2, .int di)]) hx hb dX5_nextOnFoot_5 rfl hl (by decide) rfl (fun ls hl => ?_)
  refine lv_iload_n hx hb dX5_nextOnFoot_6 rfl (lv_at hl 0 rfl) ?_
  refine lv_iconst (v := (-1)) hx hb dX5_nextOnFoot_7 (by decide) ?_
  refine lv_icmp_eq (tgt := 23) hx hb dX5_nextOnFoot_8 (by decide) (fun c1 => ?_) (fun c1 => ?_)
  · refine lv_iconst (v := (-1)) hx hb dX5_nextOnFoot_23 (by decide) ?_
    refine lv_goto (tgt := 28) hx hb dX5_nextOnFoot_24 (by decide) ?_
    have em : m_X5_nextOnFoot K cl di = (-1 : Int32) := (by first | (simp only [m_X5_nextOnFoot, if_pos c1]; done) | (simp only [m_X5_nextOnFoot, if_pos c1]; rfl))
    exact W.iret (v := (-1)) hx hb hr (fun t ht hW => ⟨⟨(-1), (), rfl, (by rw [em]), ⟨by rw [ht]; exact hP, by exact hD⟩⟩, hS.F ht⟩) hS.2.2 dX5_nextOnFoot_28
  · refine lv_aload_n hx hb dX5_nextOnFoot_11 rfl (lv_at hl 1 rfl) ?_
    refine va_get (ci := 4) (v := .ref aK) (C := RX5) (T := TX5) (N := 10) hx hb hts iX5 hown hK hP 0 rfl rfl 0 (by decide) f9 (fun _ h9 => h9) rfl dX5_nextOnFoot_12 ?_
    refine lv_iload_n hx hb dX5_nextOnFoot_15 rfl (lv_at hl 0 rfl) ?_
    refine va_iald hx hb hK hP 1 0 rfl rfl ((nb_in hcl).resolve_left (by assumption)) dX5_nextOnFoot_16 ?_
    refine callK_i (va_runS (As := [.int (K ((m_X0_neighbour cl di)).toNatClampNeg)]) (rest := []) ⟨hx, hb, hml, hown, hts⟩ (met_X0_stopsFeet l  (K ((m_X0_neighbour cl di)).toNatClampNeg)) (va_cwS 1 hts gX5_nextOnFoot_X0_stopsFeet rfl rfl rfl (by decide +kernel) ⟨Nat.le_of_ble_eq_true rfl, Nat.le_of_ble_eq_true rfl⟩) ⟨preS_blind, fun U hU hW => ⟨rfl, trivial⟩⟩ rfl rfl hl.1 rfl (lv_room (Nat.le_of_ble_eq_true rfl)) dX5_nextOnFoot_17 ⟨Nat.zero_le _, Nat.zero_le _⟩) hP hS (fun r u H locs hw hP hS => ?_)
    obtain ⟨q2, eq2⟩ : ∃ z, z = m_X0_stopsFeet (K ((m_X0_neighbour cl di)).toNatClampNeg) := ⟨_, rfl⟩
    rw [← eq2] at hw
    subst hw
    refine lb_if_eq (tgt := 27) hx hb dX5_nextOnFoot_20 (by decide) (fun c3 => ?_) (fun c3 => ?_)
    · refine lv_iload_n hx hb dX5_nextOnFoot_27 rfl (lv_at hl 0 rfl) ?_
      have em : m_X5_nextOnFoot K cl di = (m_X0_neighbour cl di) := (by subst eq2; first | (simp only [m_X5_nextOnFoot, if_neg c1, if_pos c3]; done) | (simp only [m_X5_nextOnFoot, if_neg c1, if_pos c3]; rfl))
      exact W.iret (v := (m_X0_neighbour cl di)) hx hb hr (fun t ht hW => ⟨⟨(m_X0_neighbour cl di), (), rfl, (by rw [em]), ⟨by rw [ht]; exact hP, by exact hD⟩⟩, hS.F ht⟩) hS.2.2 dX5_nextOnFoot_28
    · refine lv_iconst (v := (-1)) hx hb dX5_nextOnFoot_23 (by decide) ?_
      refine lv_goto (tgt := 28) hx hb dX5_nextOnFoot_24 (by decide) ?_
      have em : m_X5_nextOnFoot K cl di = (-1 : Int32) := (by subst eq2; first | (simp only [m_X5_nextOnFoot, if_neg c1, if_neg c3]; done) | (simp only [m_X5_nextOnFoot, if_neg c1, if_neg c3]; rfl))
      exact W.iret (v := (-1)) hx hb hr (fun t ht hW => ⟨⟨(-1), (), rfl, (by rw [em]), ⟨by rw [ht]; exact hP, by exact hD⟩⟩, hS.F ht⟩) hS.2.2 dX5_nextOnFoot_28
def f_X5_moveWalker_17 (k1 : Nat) (t2 : (Nat → Int32)) : (Nat → Int32) := (let v8 : Nat → Int32 := (if (t2 (nI k1).toNatClampNeg) ≤ 0 then t2 else upd t2 (nI k1).toNatClampNeg ((t2 (nI k1).toNatClampNeg) - 1)); v8)
def m_X5_moveWalker (lm : Int32) (stp : Int32) (LF : Nat → Int32) (cl : Int32) : Int32 × Int32 × (Nat → Int32) := (let t9 : (Nat → Int32) := itr f_X5_moveWalker_17 ((lm).toNatClampNeg) LF; (cl, stp + 1, t9))
set_option maxHeartbeats 4000000 in
set_option maxRecDepth 100000 in
theorem met_X5_moveWalker (l : Launch) (D : va_G) (y4 : vT) (aSc aK aC aS aF : Nat) (sz : Nat) (lm : Int32) (wk : Int32) (stp : Int32) (dm : Int32) (tc : Int32) (rm : Int64) (LF : Nat → Int32) (cl : Int32) (hlm : 0 ≤ lm.toInt ∧ lm.toInt ≤ (6 : Nat)) : Met l yX5_moveWalker wsX5_moveWalker ({ frames := 0, cells := 0, slots := 0, locals := 0 }) (va_Pc [.ref aSc, .int cl] (PreW D y4 [(aSc, .inr (4, [.ref aK, .ref aC, .ref aS, .ref aF, .int lm, .int wk, .int stp, .int dm, .int tc, .long rm])), (aF, .inl (y4.1, 6, .inl LF))] sz)) (va_Qv (fun (_ : Unit) => True) (fun _ t => PostW D (va_A [(aSc, .inr (4, [.ref aK, .ref aC, .ref aS, .ref aF, .int lm, .int wk, .int stp, .int dm, .int tc, .long rm])), (aF, .inl (y4.1, 6, .inl LF))] sz) [(aSc, .inr (4, [.ref aK, .ref aC, .ref aS, .ref aF, .int lm, .int ((m_X5_moveWalker lm stp LF cl).1), .int ((m_X5_moveWalker lm stp LF cl).2.1), .int dm, .int tc, .long rm])), (aF, .inl (y4.1, 6, .inl ((m_X5_moveWalker lm stp LF cl).2.2)))] t) (va_A [(aSc, .inr (4, [.ref aK, .ref aC, .ref aS, .ref aF, .int lm, .int wk, .int stp, .int dm, .int tc, .long rm])), (aF, .inl (y4.1, 6, .inl LF))] sz)) 0 0 (va_A [(aSc, .inr (4, [.ref aK, .ref aC, .ref aS, .ref aF, .int lm, .int wk, .int stp, .int dm, .int tc, .long rm])), (aF, .inl (y4.1, 6, .inl LF))] sz) := by
  refine Met.ofW (cc := cX5_moveWalker) (maxL := 3) (ret := none) (by decide) rfl ?_
  intro p e s m args below meth c s₁ B hml hv
  obtain ⟨rfl, hsz, hP, hK, hD0, hNW⟩ := hv
  have hx := B.exec
  have hb := B.bytes
  have hr := B.returns
  have hts := atoms_spec (ws := wsX5_moveWalker) B.pre
  have hown : s.vm.findClass RX5 = some m.cls := findClass_of_methodNamed B.named
  have hlocks := B.notSynchronized
  subst hsz
  have hD := hD0.self (sz := s.heap.size)
  generalize hAe : va_A [(aSc, .inr (4, [.ref aK, .ref aC, .ref aS, .ref aF, .int lm, .int wk, .int stp, .int dm, .int tc, .long rm])), (aF, .inl (y4.1, 6, .inl LF))] s.heap.size = A at hD ⊢
  have hA : ∀ q : Nat, s.heap.size ≤ q → A q := fun q h => by rw [← hAe]; exact Or.inr h
  have hS : va_S A s.heap s.heap [] := va_S.rf
  have hl := lv_entry ([.ref aSc, .int cl]) (n := 3) (Nat.le_of_ble_eq_true rfl)
  rw [lg_entry_eq]
  generalize (lg_sl ([.ref aSc, .int cl]) ++ List.replicate (3 - (lg_sl ([.ref aSc, .int cl])).length) Slot.unset).toArray = ls at hl ⊢
  have hl : lv_has ls 3 [(0, .ref aSc), (1, .int cl)] := hl
  have f40 := hts (.fieldLink RX5 40 "PillarLight$Scene" "walker" "I") (List.mem_of_getElem? (i := 1) rfl)
  have iX5 : ∀ w ∈ wsX50, w ∈ wsX5_moveWalker := fun _ h => List.mem_cons_of_mem _ (List.mem_append_right _ h)
  have f43 := hts (.fieldLink RX5 43 "PillarLight$Scene" "steps" "I") (List.mem_of_getElem? (i := 2) rfl)
  have f37 := hts (.fieldLink RX5 37 "PillarLight$Scene" "lamps" "I") (List.mem_of_getElem? (i := 3) rfl)
  have f21 := hts (.fieldLink RX5 21 "PillarLight$Scene" "lampFuel" "[I") (List.mem_of_getElem? (i := 4) rfl)
  refine startW (fun H locs hP hS => ?_) hP hS
  refine lv_aload_n hx hb dX5_moveWalker_0 rfl (lv_at hl 0 rfl) ?_
  refine lv_iload_n hx hb dX5_moveWalker_1 rfl (lv_at hl 1 rfl) ?_
  refine va_put (ci := 4) (v := .int cl) (ty := .int) (C := RX5) (T := TX5) (N := 10) hx hb hts iX5 tyX5 tyX5_ok nmX5 hown hK hP hD hS 0 rfl rfl 5 (by decide) f40 (fun _ h9 => h9) rfl (by decide +kernel) rfl rfl (Nat.le_of_ble_eq_true rfl) dX5_moveWalker_2 (fun H locs hP hD hS => ?_)
  have hP : va_P D vwCl [(aSc, .inr (4, [.ref aK, .ref aC, .ref aS, .ref aF, .int lm, .int cl, .int stp, .int dm, .int tc, .long rm])), (aF, .inl (y4.1, 6, .inl LF))] H := hP
  have hD : va_D A [(aSc, .inr (4, [.ref aK, .ref aC, .ref aS, .ref aF, .int lm, .int cl, .int stp, .int dm, .int tc, .long rm])), (aF, .inl (y4.1, 6, .inl LF))] := hD
  refine lv_aload_n hx hb dX5_moveWalker_5 rfl (lv_at hl 0 rfl) ?_
  refine lv_dup hx hb dX5_moveWalker_6 rfl ?_
  refine va_get (ci := 4) (v := .int stp) (C := RX5) (T := TX5) (N := 10) hx hb hts iX5 hown hK hP 0 rfl rfl 6 (by decide) f43 (fun _ h9 => h9) rfl dX5_moveWalker_7 ?_
  refine lv_iconst (v := 1) hx hb dX5_moveWalker_10 (by decide) ?_
  refine lv_iadd hx hb dX5_moveWalker_11 ?_
  refine va_put (ci := 4) (v := .int (stp + 1)) (ty := .int) (C := RX5) (T := TX5) (N := 10) hx hb hts iX5 tyX5 tyX5_ok nmX5 hown hK hP hD hS 0 rfl rfl 6 (by decide) f43 (fun _ h9 => h9) rfl (by decide +kernel) rfl rfl (Nat.le_of_ble_eq_true rfl) dX5_moveWalker_12 (fun H locs hP hD hS => ?_)
  have hP : va_P D vwCl [(aSc, .inr (4, [.ref aK, .ref aC, .ref aS, .ref aF, .int lm, .int cl, .int (stp + 1), .int dm, .int tc, .long rm])), (aF, .inl (y4.1, 6, .inl LF))] H := hP
  have hD : va_D A [(aSc, .inr (4, [.ref aK, .ref aC, .ref aS, .ref aF, .int lm, .int cl, .int (stp + 1), .int dm, .int tc, .long rm])), (aF, .inl (y4.1, 6, .inl LF))] := hD
  refine lv_iconst (v := 0) hx hb dX5_moveWalker_15 (by decide) ?_
  refine lv_istore_n (lv' := [(2, .int 0), (0, .ref aSc), (1, .int cl)]) hx hb dX5_moveWalker_16 rfl hl (by decide) rfl (fun ls hl => ?_)
  refine loopW (σ := (Nat → Int32)) 17 f_X5_moveWalker_17 ((lm).toNatClampNeg) LF (fun k1 t2 H locs ls => va_P D vwCl [(aSc, .inr (4, [.ref aK, .ref aC, .ref aS, .ref aF, .int lm, .int cl, .int (stp + 1), .int dm, .int tc, .long rm])), (aF, .inl (y4.1, 6, .inl t2))] H ∧ va_D A [(aSc, .inr (4, [.ref aK, .ref aC, .ref aS, .ref aF, .int lm, .int cl, .int (stp + 1), .int dm, .int tc, .long rm])), (aF, .inl (y4.1, 6, .inl t2))] ∧ va_S A s.heap H locs ∧ lv_has ls 3 [(2, .int (nI k1)), (0, .ref aSc)]) ⟨hP, hD, hS, lv_sub hl [0, 1] rfl⟩ (fun t9 H locs ls et9 hh => ?_) (fun k1 t2 hkk1 hek1 ihk1 H locs ls hh => ?_)
  · obtain ⟨hP, hD, hS, hl⟩ := hh
    have hP : va_P D vwCl [(aSc, .inr (4, [.ref aK, .ref aC, .ref aS, .ref aF, .int lm, .int cl, .int (stp + 1), .int dm, .int tc, .long rm])), (aF, .inl (y4.1, 6, .inl t9))] H := hP
    have hD : va_D A [(aSc, .inr (4, [.ref aK, .ref aC, .ref aS, .ref aF, .int lm, .int cl, .int (stp + 1), .int dm, .int tc, .long rm])), (aF, .inl (y4.1, 6, .inl t9))] := hD
    have hl : lv_has ls 3 [(2, .int (nI ((lm).toNatClampNeg))), (0, .ref aSc)] := hl
    refine lv_iload_n hx hb dX5_moveWalker_17 rfl (lv_at hl 0 rfl) ?_
    refine lv_aload_n hx hb dX5_moveWalker_18 rfl (lv_at hl 1 rfl) ?_
    refine va_get (ci := 4) (v := .int lm) (C := RX5) (T := TX5) (N := 10) hx hb hts iX5 hown hK hP 0 rfl rfl 4 (by decide) f37 (fun _ h9 => h9) rfl dX5_moveWalker_19 ?_
    refine lv_icmp_ge (tgt := 50) hx hb dX5_moveWalker_22 (by decide) (fun c10 => ?_) (fun c10 => absurd (cl_le hlm (by omega) (by have := cl_lt hlm; omega)) c10)
    have em : m_X5_moveWalker lm stp LF cl = (cl, stp + 1, t9) := (by subst et9; first | (simp only [m_X5_moveWalker]; done) | (unfold m_X5_moveWalker; rfl) | rfl)
    exact W.vret hx hb hr (fun t ht hW => ⟨⟨(), rfl, trivial, ⟨by rw [ht, em]; exact hP, by rw [em]; exact hD⟩⟩, hS.F ht⟩) hS.2.2 dX5_moveWalker_50
  · obtain ⟨hP, hD, hS, hl⟩ := hh
    have hP : va_P D vwCl [(aSc, .inr (4, [.ref aK, .ref aC, .ref aS, .ref aF, .int lm, .int cl, .int (stp + 1), .int dm, .int tc, .long rm])), (aF, .inl (y4.1, 6, .inl t2))] H := hP
    have hD : va_D A [(aSc, .inr (4, [.ref aK, .ref aC, .ref aS, .ref aF, .int lm, .int cl, .int (stp + 1), .int dm, .int tc, .long rm])), (aF, .inl (y4.1, 6, .inl t2))] := hD
    have hl : lv_has ls 3 [(2, .int (nI k1)), (0, .ref aSc)] := hl
    refine lv_iload_n hx hb dX5_moveWalker_17 rfl (lv_at hl 0 rfl) ?_
    refine lv_aload_n hx hb dX5_moveWalker_18 rfl (lv_at hl 1 rfl) ?_
    refine va_get (ci := 4) (v := .int lm) (C := RX5) (T := TX5) (N := 10) hx hb hts iX5 hown hK hP 0 rfl rfl 4 (by decide) f37 (fun _ h9 => h9) rfl dX5_moveWalker_19 ?_
    refine lv_icmp_ge (tgt := 50) hx hb dX5_moveWalker_22 (by decide) (fun c6 => absurd c6 (cl_ge hlm (by omega))) (fun c6 => ?_)
    refine lv_aload_n hx hb dX5_moveWalker_25 rfl (lv_at hl 1 rfl) ?_
    refine va_get (ci := 4) (v := .ref aF) (C := RX5) (T := TX5) (N := 10) hx hb hts iX5 hown hK hP 0 rfl rfl 3 (by decide) f21 (fun _ h9 => h9) rfl dX5_moveWalker_26 ?_
    refine lv_iload_n hx hb dX5_moveWalker_29 rfl (lv_at hl 0 rfl) ?_
    refine va_iald hx hb hK hP 1 0 rfl rfl (cl_in hlm (by omega)) dX5_moveWalker_30 ?_
    refine cutW (X := (Nat → Int32)) 44 (fun x H locs ls => x = (if (t2 (nI k1).toNatClampNeg) ≤ 0 then t2 else upd t2 (nI k1).toNatClampNeg ((t2 (nI k1).toNatClampNeg) - 1)) ∧ va_P D vwCl [(aSc, .inr (4, [.ref aK, .ref aC, .ref aS, .ref aF, .int lm, .int cl, .int (stp + 1), .int dm, .int tc, .long rm])), (aF, .inl (y4.1, 6, .inl x))] H ∧ va_D A [(aSc, .inr (4, [.ref aK, .ref aC, .ref aS, .ref aF, .int lm, .int cl, .int (stp + 1), .int dm, .int tc, .long rm])), (aF, .inl (y4.1, 6, .inl x))] ∧ va_S A s.heap H locs ∧ lv_has ls 3 [(2, .int (nI k1)), (0, .ref aSc)]) (fun x => []) ?_ (fun K44 => ?_)
    · rintro v8 H locs ls ⟨ev8, hP, hD, hS, hl⟩
      have ev8 : v8 = (if (t2 (nI k1).toNatClampNeg) ≤ 0 then t2 else upd t2 (nI k1).toNatClampNeg ((t2 (nI k1).toNatClampNeg) - 1)) := ev8
      have hP : va_P D vwCl [(aSc, .inr (4, [.ref aK, .ref aC, .ref aS, .ref aF, .int lm, .int cl, .int (stp + 1), .int dm, .int tc, .long rm])), (aF, .inl (y4.1, 6, .inl v8))] H := hP
      have hD : va_D A [(aSc, .inr (4, [.ref aK, .ref aC, .ref aS, .ref aF, .int lm, .int cl, .int (stp + 1), .int dm, .int tc, .long rm])), (aF, .inl (y4.1, 6, .inl v8))] := hD
      have hl : lv_has ls 3 [(2, .int (nI k1)), (0, .ref aSc)] := hl
      refine lv_iinc (v := nI (k1 + 1)) (lv' := [(2, .int (nI (k1 + 1))), (0, .ref aSc)]) hx hb dX5_moveWalker_44 hl (k := 0) rfl (nI_1 _) (by decide) rfl (fun ls hl => ?_)
      refine lv_goto (tgt := 17) hx hb dX5_moveWalker_47 (by decide) ?_
      have ef : f_X5_moveWalker_17 k1 t2 = v8 := (by subst ev8; first | (simp only [f_X5_moveWalker_17]; done) | (unfold f_X5_moveWalker_17; rfl) | rfl)
      rw [ef] at ihk1
      exact ihk1 H locs ls ⟨hP, hD, hS, lv_sub hl [0, 1] rfl⟩
    · refine lv_if_le (tgt := 44) hx hb dX5_moveWalker_31 (by decide) (fun c7 => ?_) (fun c7 => ?_)
      · exact K44 t2 H locs ls ⟨(by first | (simp only [if_pos c7]; done) | (simp only [if_pos c7]; rfl) | rfl), hP, hD, hS, lv_sub hl [0, 1] rfl⟩
      · refine lv_aload_n hx hb dX5_moveWalker_34 rfl (lv_at hl 1 rfl) ?_
        refine va_get (ci := 4) (v := .ref aF) (C := RX5) (T := TX5) (N := 10) hx hb hts iX5 hown hK hP 0 rfl rfl 3 (by decide) f21 (fun _ h9 => h9) rfl dX5_moveWalker_35 ?_
        refine lv_iload_n hx hb dX5_moveWalker_38 rfl (lv_at hl 0 rfl) ?_
        refine lv_dup2_11 hx hb dX5_moveWalker_39 rfl rfl ?_
        refine va_iald hx hb hK hP 1 0 rfl rfl (cl_in hlm (by omega)) dX5_moveWalker_40 ?_
        refine lv_iconst (v := 1) hx hb dX5_moveWalker_41 (by decide) ?_
        refine lv_isub hx hb dX5_moveWalker_42 ?_
        refine va_iast hx hb hK hP hD hS 1 0 rfl rfl (cl_in hlm (by omega)) dX5_moveWalker_43 (fun H locs hP hD hS => ?_)
        have hP : va_P D vwCl [(aSc, .inr (4, [.ref aK, .ref aC, .ref aS, .ref aF, .int lm, .int cl, .int (stp + 1), .int dm, .int tc, .long rm])), (aF, .inl (y4.1, 6, .inl (upd t2 (nI k1).toNatClampNeg ((t2 (nI k1).toNatClampNeg) - 1))))] H := hP
        have hD : va_D A [(aSc, .inr (4, [.ref aK, .ref aC, .ref aS, .ref aF, .int lm, .int cl, .int (stp + 1), .int dm, .int tc, .long rm])), (aF, .inl (y4.1, 6, .inl (upd t2 (nI k1).toNatClampNeg ((t2 (nI k1).toNatClampNeg) - 1))))] := hD
        exact K44 (upd t2 (nI k1).toNatClampNeg ((t2 (nI k1).toNatClampNeg) - 1)) H locs ls ⟨(by first | (simp only [if_neg c7]; done) | (simp only [if_neg c7]; rfl) | rfl), hP, hD, hS, lv_sub hl [0, 1] rfl⟩
def f_X5_removeLamp_13 (k3 : Nat) (t4 : (Nat → Int32) × (Nat → Int32) × (Nat → Int32)) : ((Int32 × (Nat → Int32) × (Nat → Int32) × (Nat → Int32)) ⊕ ((Nat → Int32) × (Nat → Int32) × (Nat → Int32))) ⊕ ((Nat → Int32) × (Nat → Int32) × (Nat → Int32)) := (.inr (upd t4.1 ((nI k3) - 1).toNatClampNeg (t4.1 (nI k3).toNatClampNeg), upd t4.2.1 ((nI k3) - 1).toNatClampNeg (t4.2.1 (nI k3).toNatClampNeg), upd t4.2.2 ((nI k3) - 1).toNatClampNeg (t4.2.2 (nI k3).toNatClampNeg)))
def m_X5_removeLamp (lm : Int32) (LC : Nat → Int32) (LS : Nat → Int32) (LF : Nat → Int32) (j : Int32) : Int32 × (Nat → Int32) × (Nat → Int32) × (Nat → Int32) := (if (m_X5_isLamp lm j) = false then (lm, LC, LS, LF) else (lpr (lpx f_X5_removeLamp_13 ((lm).toNatClampNeg - ((j).toNatClampNeg + 1)) ((j).toNatClampNeg + 1) (LC, LS, LF)) id (fun t9 => (lm - 1, t9.1, t9.2.1, t9.2.2))))
set_option maxHeartbeats 4000000 in
set_option maxRecDepth 100000 in
theorem met_X5_removeLamp (l : Launch) (D : va_G) (y4 : vT) (aSc aK aC aS aF : Nat) (sz : Nat) (lm : Int32) (wk : Int32) (stp : Int32) (dm : Int32) (tc : Int32) (rm : Int64) (LC : Nat → Int32) (LS : Nat → Int32) (LF : Nat → Int32) (j : Int32) (hlm : 0 ≤ lm.toInt ∧ lm.toInt ≤ (6 : Nat)) : Met l yX5_removeLamp wsX5_removeLamp ({ frames := 1, cells := 0, slots := 0, locals := 21 }) (va_Pc [.ref aSc, .int j] (PreW D y4 [(aSc, .inr (4, [.ref aK, .ref aC, .ref aS, .ref aF, .int lm, .int wk, .int stp, .int dm, .int tc, .long rm])), (aC, .inl (y4.1, 6, .inl LC)), (aS, .inl (y4.1, 6, .inl LS)), (aF, .inl (y4.1, 6, .inl LF))] sz)) (va_Qv (fun (_ : Unit) => True) (fun _ t => PostW D (va_A [(aSc, .inr (4, [.ref aK, .ref aC, .ref aS, .ref aF, .int lm, .int wk, .int stp, .int dm, .int tc, .long rm])), (aC, .inl (y4.1, 6, .inl LC)), (aS, .inl (y4.1, 6, .inl LS)), (aF, .inl (y4.1, 6, .inl LF))] sz) [(aSc, .inr (4, [.ref aK, .ref aC, .ref aS, .ref aF, .int ((m_X5_removeLamp lm LC LS LF j).1), .int wk, .int stp, .int dm, .int tc, .long rm])), (aC, .inl (y4.1, 6, .inl ((m_X5_removeLamp lm LC LS LF j).2.1))), (aS, .inl (y4.1, 6, .inl ((m_X5_removeLamp lm LC LS LF j).2.2.1))), (aF, .inl (y4.1, 6, .inl ((m_X5_removeLamp lm LC LS LF j).2.2.2)))] t) (va_A [(aSc, .inr (4, [.ref aK, .ref aC, .ref aS, .ref aF, .int lm, .int wk, .int stp, .int dm, .int tc, .long rm])), (aC, .inl (y4.1, 6, .inl LC)), (aS, .inl (y4.1, 6, .inl LS)), (aF, .inl (y4.1, 6, .inl LF))] sz)) 0 0 (va_A [(aSc, .inr (4, [.ref aK, .ref aC, .ref aS, .ref aF, .int lm, .int wk, .int stp, .int dm, .int tc, .long rm])), (aC, .inl (y4.1, 6, .inl LC)), (aS, .inl (y4.1, 6, .inl LS)), (aF, .inl (y4.1, 6, .inl LF))] sz) := by
  refine Met.ofW (cc := cX5_removeLamp) (maxL := 3) (ret := none) (by decide) rfl ?_
  intro p e s m args below meth c s₁ B hml hv
  obtain ⟨rfl, hsz, hP, hK, hD0, hNW⟩ := hv
  have hx := B.exec
  have hb := B.bytes
  have hr := B.returns
  have hts := atoms_spec (ws := wsX5_removeLamp) B.pre
  have hown : s.vm.findClass RX5 = some m.cls := findClass_of_methodNamed B.named
  have hlocks := B.notSynchronized
  subst hsz
  have hD := hD0.self (sz := s.heap.size)
  generalize hAe : va_A [(aSc, .inr (4, [.ref aK, .ref aC, .ref aS, .ref aF, .int lm, .int wk, .int stp, .int dm, .int tc, .long rm])), (aC, .inl (y4.1, 6, .inl LC)), (aS, .inl (y4.1, 6, .inl LS)), (aF, .inl (y4.1, 6, .inl LF))] s.heap.size = A at hD ⊢
  have hA : ∀ q : Nat, s.heap.size ≤ q → A q := fun q h => by rw [← hAe]; exact Or.inr h
  have hS : va_S A s.heap s.heap [] := va_S.rf
  have hl := lv_entry ([.ref aSc, .int j]) (n := 3) (Nat.le_of_ble_eq_true rfl)
  rw [lg_entry_eq]
  generalize (lg_sl ([.ref aSc, .int j]) ++ List.replicate (3 - (lg_sl ([.ref aSc, .int j])).length) Slot.unset).toArray = ls at hl ⊢
  have hl : lv_has ls 3 [(0, .ref aSc), (1, .int j)] := hl
  have f37 := hts (.fieldLink RX5 37 "PillarLight$Scene" "lamps" "I") (List.mem_of_getElem? (i := 1) rfl)
  have iX5 : ∀ w ∈ wsX50, w ∈ wsX5_removeLamp := fun _ h => List.mem_cons_of_mem _ (List.mem_append_right _ h)
  have f15 := hts (.fieldLink RX5 15 "PillarLight$Scene" "lampCell" "[I") (List.mem_of_getElem? (i := 2) rfl)
  have f18 := hts (.fieldLink RX5 18 "PillarLight$Scene" "lampStrength" "[I") (List.mem_of_getElem? (i := 3) rfl)
  have f21 := hts (.fieldLink RX5 21 "PillarLight$Scene" "lampFuel" "[I") (List.mem_of_getElem? (i := 4) rfl)
  refine startW (fun H locs hP hS => ?_) hP hS
  refine lv_aload_n hx hb dX5_removeLamp_0 rfl (lv_at hl 0 rfl) ?_
  refine lv_iload_n hx hb dX5_removeLamp_1 rfl (lv_at hl 1 rfl) ?_
  refine callW_i (wr := [(aC, .inl (y4.1, 6, .inl LC)), (aS, .inl (y4.1, 6, .inl LS)), (aF, .inl (y4.1, 6, .inl LF))]) (wn := fun u => [(aSc, .inr (4, [.ref aK, .ref aC, .ref aS, .ref aF, .int lm, .int wk, .int stp, .int dm, .int tc, .long rm])), (aC, .inl (y4.1, 6, .inl LC)), (aS, .inl (y4.1, 6, .inl LS)), (aF, .inl (y4.1, 6, .inl LF))]) (va_runV (As := [.int j]) (rest := []) ⟨hx, hb, hml, hown, hts⟩ (met_X5_isLamp l D y4 aSc aK aC aS aF H.size lm wk stp dm tc rm j) (cwV 1 hts gX5_removeLamp_X5_isLamp rfl rfl rfl (by decide +kernel) ⟨Nat.le_of_ble_eq_true rfl, Nat.le_of_ble_eq_true rfl⟩) ⟨preW_blind, va_recv hK hP (ci := 4) (q0 := 0) rfl rfl, preW_at (hP.sub (ws' := [(aSc, .inr (4, [.ref aK, .ref aC, .ref aS, .ref aF, .int lm, .int wk, .int stp, .int dm, .int tc, .long rm]))]) [0] rfl) hK (hD.sub (ws' := [(aSc, .inr (4, [.ref aK, .ref aC, .ref aS, .ref aF, .int lm, .int wk, .int stp, .int dm, .int tc, .long rm]))]) [0] (by decide) rfl) hNW⟩ rfl rfl hl.1 rfl (lv_room (Nat.le_of_ble_eq_true rfl)) dX5_removeLamp_2 ⟨Nat.zero_le _, Nat.zero_le _⟩) hP hD hS hA [0] [1, 2, 3] [3, 0, 1, 2] rfl rfl (by decide) (by decide) (fun _ => rfl) (by decide) (fun r u1 H locs hw hP hD hS => ?_)
  subst hw
  have hP : va_P D vwCl [(aSc, .inr (4, [.ref aK, .ref aC, .ref aS, .ref aF, .int lm, .int wk, .int stp, .int dm, .int tc, .long rm])), (aC, .inl (y4.1, 6, .inl LC)), (aS, .inl (y4.1, 6, .inl LS)), (aF, .inl (y4.1, 6, .inl LF))] H := hP
  have hD : va_D A [(aSc, .inr (4, [.ref aK, .ref aC, .ref aS, .ref aF, .int lm, .int wk, .int stp, .int dm, .int tc, .long rm])), (aC, .inl (y4.1, 6, .inl LC)), (aS, .inl (y4.1, 6, .inl LS)), (aF, .inl (y4.1, 6, .inl LF))] := hD
  refine lb_if_ne (tgt := 9) hx hb dX5_removeLamp_5 (by decide) (fun c2 => ?_) (fun c2 => ?_)
  · refine lv_iload_n hx hb dX5_removeLamp_9 rfl (lv_at hl 1 rfl) ?_
    refine lv_iconst (v := 1) hx hb dX5_removeLamp_10 (by decide) ?_
    refine lv_iadd hx hb dX5_removeLamp_11 ?_
    refine lv_istore_n (lv' := [(2, .int (j + 1)), (0, .ref aSc), (1, .int j)]) hx hb dX5_removeLamp_12 rfl hl (by decide) rfl (fun ls hl => ?_)
    have hl : lv_has ls 3 [(2, .int (nI ((j).toNatClampNeg + 1))), (0, .ref aSc), (1, .int j)] := by rw [← isLamp_nI (by assumption)]; exact hl
    refine cutW (X := (Nat → Int32) × (Nat → Int32) × (Nat → Int32)) 69 (fun x H locs ls => ((lpx f_X5_removeLamp_13 ((lm).toNatClampNeg - ((j).toNatClampNeg + 1)) ((j).toNatClampNeg + 1) (LC, LS, LF)) = .inl (.inr x) ∨ (lpx f_X5_removeLamp_13 ((lm).toNatClampNeg - ((j).toNatClampNeg + 1)) ((j).toNatClampNeg + 1) (LC, LS, LF)) = .inr x) ∧ va_P D vwCl [(aSc, .inr (4, [.ref aK, .ref aC, .ref aS, .ref aF, .int lm, .int wk, .int stp, .int dm, .int tc, .long rm])), (aC, .inl (y4.1, 6, .inl x.1)), (aS, .inl (y4.1, 6, .inl x.2.1)), (aF, .inl (y4.1, 6, .inl x.2.2))] H ∧ va_D A [(aSc, .inr (4, [.ref aK, .ref aC, .ref aS, .ref aF, .int lm, .int wk, .int stp, .int dm, .int tc, .long rm])), (aC, .inl (y4.1, 6, .inl x.1)), (aS, .inl (y4.1, 6, .inl x.2.1)), (aF, .inl (y4.1, 6, .inl x.2.2))] ∧ va_S A s.heap H locs ∧ lv_has ls 3 [(0, .ref aSc)]) (fun x => []) ?_ (fun K69 => ?_)
    · rintro t9 H locs ls ⟨et9, hP, hD, hS, hl⟩
      have hP : va_P D vwCl [(aSc, .inr (4, [.ref aK, .ref aC, .ref aS, .ref aF, .int lm, .int wk, .int stp, .int dm, .int tc, .long rm])), (aC, .inl (y4.1, 6, .inl t9.1)), (aS, .inl (y4.1, 6, .inl t9.2.1)), (aF, .inl (y4.1, 6, .inl t9.2.2))] H := hP
      have hD : va_D A [(aSc, .inr (4, [.ref aK, .ref aC, .ref aS, .ref aF, .int lm, .int wk, .int stp, .int dm, .int tc, .long rm])), (aC, .inl (y4.1, 6, .inl t9.1)), (aS, .inl (y4.1, 6, .inl t9.2.1)), (aF, .inl (y4.1, 6, .inl t9.2.2))] := hD
      have hl : lv_has ls 3 [(0, .ref aSc)] := hl
      refine lv_aload_n hx hb dX5_removeLamp_69 rfl (lv_at hl 0 rfl) ?_
      refine lv_dup hx hb dX5_removeLamp_70 rfl ?_
      refine va_get (ci := 4) (v := .int lm) (C := RX5) (T := TX5) (N := 10) hx hb hts iX5 hown hK hP 0 rfl rfl 4 (by decide) f37 (fun _ h9 => h9) rfl dX5_removeLamp_71 ?_
      refine lv_iconst (v := 1) hx hb dX5_removeLamp_74 (by decide) ?_
      refine lv_isub hx hb dX5_removeLamp_75 ?_
      refine va_put (ci := 4) (v := .int (lm - 1)) (ty := .int) (C := RX5) (T := TX5) (N := 10) hx hb hts iX5 tyX5 tyX5_ok nmX5 hown hK hP hD hS 0 rfl rfl 4 (by decide) f37 (fun _ h9 => h9) rfl (by decide +kernel) rfl rfl (Nat.le_of_ble_eq_true rfl) dX5_removeLamp_76 (fun H locs hP hD hS => ?_)
      have hP : va_P D vwCl [(aSc, .inr (4, [.ref aK, .ref aC, .ref aS, .ref aF, .int (lm - 1), .int wk, .int stp, .int dm, .int tc, .long rm])), (aC, .inl (y4.1, 6, .inl t9.1)), (aS, .inl (y4.1, 6, .inl t9.2.1)), (aF, .inl (y4.1, 6, .inl t9.2.2))] H := hP
      have hD : va_D A [(aSc, .inr (4, [.ref aK, .ref aC, .ref aS, .ref aF, .int (lm - 1), .int wk, .int stp, .int dm, .int tc, .long rm])), (aC, .inl (y4.1, 6, .inl t9.1)), (aS, .inl (y4.1, 6, .inl t9.2.1)), (aF, .inl (y4.1, 6, .inl t9.2.2))] := hD
      have em : m_X5_removeLamp lm LC LS LF j = (lm - 1, t9.1, t9.2.1, t9.2.2) := (by first | (simp only [m_X5_removeLamp, if_neg c2, lpr_k et9]; done) | (simp only [m_X5_removeLamp, if_neg c2, lpr_k et9]; rfl))
      exact W.vret hx hb hr (fun t ht hW => ⟨⟨(), rfl, trivial, ⟨by rw [ht, em]; exact hP, by rw [em]; exact hD⟩⟩, hS.F ht⟩) hS.2.2 dX5_removeLamp_79
    · refine loopX (σ := (Nat → Int32) × (Nat → Int32) × (Nat → Int32)) (ρ := (Int32 × (Nat → Int32) × (Nat → Int32) × (Nat → Int32)) ⊕ ((Nat → Int32) × (Nat → Int32) × (Nat → Int32))) 13 f_X5_removeLamp_13 (fun _ _ => True) ((lm).toNatClampNeg - ((j).toNatClampNeg + 1)) ((j).toNatClampNeg + 1) (LC, LS, LF) (fun k3 t4 H locs ls => va_P D vwCl [(aSc, .inr (4, [.ref aK, .ref aC, .ref aS, .ref aF, .int lm, .int wk, .int stp, .int dm, .int tc, .long rm])), (aC, .inl (y4.1, 6, .inl t4.1)), (aS, .inl (y4.1, 6, .inl t4.2.1)), (aF, .inl (y4.1, 6, .inl t4.2.2))] H ∧ va_D A [(aSc, .inr (4, [.ref aK, .ref aC, .ref aS, .ref aF, .int lm, .int wk, .int stp, .int dm, .int tc, .long rm])), (aC, .inl (y4.1, 6, .inl t4.1)), (aS, .inl (y4.1, 6, .inl t4.2.1)), (aF, .inl (y4.1, 6, .inl t4.2.2))] ∧ va_S A s.heap H locs ∧ lv_has ls 3 [(2, .int (nI k3)), (0, .ref aSc)]) trivial ⟨hP, hD, hS, lv_sub hl [0, 1] rfl⟩ (fun t7 H locs ls et7 hit7 hh => ?_) (fun k3 t4 hkk3 hjk3 hik3 hretk3 ihk3 H locs ls hh => ?_)
      · obtain ⟨hP, hD, hS, hl⟩ := hh
        have hP : va_P D vwCl [(aSc, .inr (4, [.ref aK, .ref aC, .ref aS, .ref aF, .int lm, .int wk, .int stp, .int dm, .int tc, .long rm])), (aC, .inl (y4.1, 6, .inl t7.1)), (aS, .inl (y4.1, 6, .inl t7.2.1)), (aF, .inl (y4.1, 6, .inl t7.2.2))] H := hP
        have hD : va_D A [(aSc, .inr (4, [.ref aK, .ref aC, .ref aS, .ref aF, .int lm, .int wk, .int stp, .int dm, .int tc, .long rm])), (aC, .inl (y4.1, 6, .inl t7.1)), (aS, .inl (y4.1, 6, .inl t7.2.1)), (aF, .inl (y4.1, 6, .inl t7.2.2))] := hD
        have hl : lv_has ls 3 [(2, .int (nI (((j).toNatClampNeg + 1) + ((lm).toNatClampNeg - ((j).toNatClampNeg + 1))))), (0, .ref aSc)] := hl
        refine lv_iload_n hx hb dX5_removeLamp_13 rfl (lv_at hl 0 rfl) ?_
        refine lv_aload_n hx hb dX5_removeLamp_14 rfl (lv_at hl 1 rfl) ?_
        refine va_get (ci := 4) (v := .int lm) (C := RX5) (T := TX5) (N := 10) hx hb hts iX5 hown hK hP 0 rfl rfl 4 (by decide) f37 (fun _ h9 => h9) rfl dX5_removeLamp_15 ?_
        refine lv_icmp_ge (tgt := 69) hx hb dX5_removeLamp_18 (by decide) (fun c8 => ?_) (fun c8 => absurd (cl_le hlm (by omega) (by have := cl_lt hlm; have := isLamp_cl (by assumption); omega)) c8)
        exact K69 t7 H locs ls ⟨Or.inr et7, hP, hD, hS, lv_sub hl [1] rfl⟩
      · obtain ⟨hP, hD, hS, hl⟩ := hh
        have hP : va_P D vwCl [(aSc, .inr (4, [.ref aK, .ref aC, .ref aS, .ref aF, .int lm, .int wk, .int stp, .int dm, .int tc, .long rm])), (aC, .inl (y4.1, 6, .inl t4.1)), (aS, .inl (y4.1, 6, .inl t4.2.1)), (aF, .inl (y4.1, 6, .inl t4.2.2))] H := hP
        have hD : va_D A [(aSc, .inr (4, [.ref aK, .ref aC, .ref aS, .ref aF, .int lm, .int wk, .int stp, .int dm, .int tc, .long rm])), (aC, .inl (y4.1, 6, .inl t4.1)), (aS, .inl (y4.1, 6, .inl t4.2.1)), (aF, .inl (y4.1, 6, .inl t4.2.2))] := hD
        have hl : lv_has ls 3 [(2, .int (nI k3)), (0, .ref aSc)] := hl
        refine lv_iload_n hx hb dX5_removeLamp_13 rfl (lv_at hl 0 rfl) ?_
        refine lv_aload_n hx hb dX5_removeLamp_14 rfl (lv_at hl 1 rfl) ?_
        refine va_get (ci := 4) (v := .int lm) (C := RX5) (T := TX5) (N := 10) hx hb hts iX5 hown hK hP 0 rfl rfl 4 (by decide) f37 (fun _ h9 => h9) rfl dX5_removeLamp_15 ?_
        refine lv_icmp_ge (tgt := 69) hx hb dX5_removeLamp_18 (by decide) (fun c6 => absurd c6 (cl_ge hlm (by omega))) (fun c6 => ?_)
        refine lv_aload_n hx hb dX5_removeLamp_21 rfl (lv_at hl 1 rfl) ?_
        refine va_get (ci := 4) (v := .ref aC) (C := RX5) (T := TX5) (N := 10) hx hb hts iX5 hown hK hP 0 rfl rfl 1 (by decide) f15 (fun _ h9 => h9) rfl dX5_removeLamp_22 ?_
        refine lv_iload_n hx hb dX5_removeLamp_25 rfl (lv_at hl 0 rfl) ?_
        refine lv_iconst (v := 1) hx hb dX5_removeLamp_26 (by decide) ?_
        refine lv_isub hx hb dX5_removeLamp_27 ?_
        refine lv_aload_n hx hb dX5_removeLamp_28 rfl (lv_at hl 1 rfl) ?_
        refine va_get (ci := 4) (v := .ref aC) (C := RX5) (T := TX5) (N := 10) hx hb hts iX5 hown hK hP 0 rfl rfl 1 (by decide) f15 (fun _ h9 => h9) rfl dX5_removeLamp_29 ?_
        refine lv_iload_n hx hb dX5_removeLamp_32 rfl (lv_at hl 0 rfl) ?_
        refine va_iald hx hb hK hP 1 0 rfl rfl (cl_in hlm (by omega)) dX5_removeLamp_33 ?_
        refine va_iast hx hb hK hP hD hS 1 0 rfl rfl (vp_in_pred (by omega) (by have := cl_lt hlm; omega) (by decide)) dX5_removeLamp_34 (fun H locs hP hD hS => ?_)
        have hP : va_P D vwCl [(aSc, .inr (4, [.ref aK, .ref aC, .ref aS, .ref aF, .int lm, .int wk, .int stp, .int dm, .int tc, .long rm])), (aC, .inl (y4.1, 6, .inl (upd t4.1 ((nI k3) - 1).toNatClampNeg (t4.1 (nI k3).toNatClampNeg)))), (aS, .inl (y4.1, 6, .inl t4.2.1)), (aF, .inl (y4.1, 6, .inl t4.2.2))] H := hP
        have hD : va_D A [(aSc, .inr (4, [.ref aK, .ref aC, .ref aS, .ref aF, .int lm, .int wk, .int stp, .int dm, .int tc, .long rm])), (aC, .inl (y4.1, 6, .inl (upd t4.1 ((nI k3) - 1).toNatClampNeg (t4.1 (nI k3).toNatClampNeg)))), (aS, .inl (y4.1, 6, .inl t4.2.1)), (aF, .inl (y4.1, 6, .inl t4.2.2))] := hD
        refine lv_aload_n hx hb dX5_removeLamp_35 rfl (lv_at hl 1 rfl) ?_
        refine va_get (ci := 4) (v := .ref aS) (C := RX5) (T := TX5) (N := 10) hx hb hts iX5 hown hK hP 0 rfl rfl 2 (by decide) f18 (fun _ h9 => h9) rfl dX5_removeLamp_36 ?_
        refine lv_iload_n hx hb dX5_removeLamp_39 rfl (lv_at hl 0 rfl) ?_
        refine lv_iconst (v := 1) hx hb dX5_removeLamp_40 (by decide) ?_
        refine lv_isub hx hb dX5_removeLamp_41 ?_
        refine lv_aload_n hx hb dX5_removeLamp_42 rfl (lv_at hl 1 rfl) ?_
        refine va_get (ci := 4) (v := .ref aS) (C := RX5) (T := TX5) (N := 10) hx hb hts iX5 hown hK hP 0 rfl rfl 2 (by decide) f18 (fun _ h9 => h9) rfl dX5_removeLamp_43 ?_
        refine lv_iload_n hx hb dX5_removeLamp_46 rfl (lv_at hl 0 rfl) ?_
        refine va_iald hx hb hK hP 2 0 rfl rfl (cl_in hlm (by omega)) dX5_removeLamp_47 ?_
        refine va_iast hx hb hK hP hD hS 2 0 rfl rfl (vp_in_pred (by omega) (by have := cl_lt hlm; omega) (by decide)) dX5_removeLamp_48 (fun H locs hP hD hS => ?_)
        have hP : va_P D vwCl [(aSc, .inr (4, [.ref aK, .ref aC, .ref aS, .ref aF, .int lm, .int wk, .int stp, .int dm, .int tc, .long rm])), (aC, .inl (y4.1, 6, .inl (upd t4.1 ((nI k3) - 1).toNatClampNeg (t4.1 (nI k3).toNatClampNeg)))), (aS, .inl (y4.1, 6, .inl (upd t4.2.1 ((nI k3) - 1).toNatClampNeg (t4.2.1 (nI k3).toNatClampNeg)))), (aF, .inl (y4.1, 6, .inl t4.2.2))] H := hP
        have hD : va_D A [(aSc, .inr (4, [.ref aK, .ref aC, .ref aS, .ref aF, .int lm, .int wk, .int stp, .int dm, .int tc, .long rm])), (aC, .inl (y4.1, 6, .inl (upd t4.1 ((nI k3) - 1).toNatClampNeg (t4.1 (nI k3).toNatClampNeg)))), (aS, .inl (y4.1, 6, .inl (upd t4.2.1 ((nI k3) - 1).toNatClampNeg (t4.2.1 (nI k3).toNatClampNeg)))), (aF, .inl (y4.1, 6, .inl t4.2.2))] := hD
        refine lv_aload_n hx hb dX5_removeLamp_49 rfl (lv_at hl 1 rfl) ?_
        refine va_get (ci := 4) (v := .ref aF) (C := RX5) (T := TX5) (N := 10) hx hb hts iX5 hown hK hP 0 rfl rfl 3 (by decide) f21 (fun _ h9 => h9) rfl dX5_removeLamp_50 ?_
        refine lv_iload_n hx hb dX5_removeLamp_53 rfl (lv_at hl 0 rfl) ?_
        refine lv_iconst (v := 1) hx hb dX5_removeLamp_54 (by decide) ?_
        refine lv_isub hx hb dX5_removeLamp_55 ?_
        refine lv_aload_n hx hb dX5_removeLamp_56 rfl (lv_at hl 1 rfl) ?_
        refine va_get (ci := 4) (v := .ref aF) (C := RX5) (T := TX5) (N := 10) hx hb hts iX5 hown hK hP 0 rfl rfl 3 (by decide) f21 (fun _ h9 => h9) rfl dX5_removeLamp_57 ?_
        refine lv_iload_n hx hb dX5_removeLamp_60 rfl (lv_at hl 0 rfl) ?_
        refine va_iald hx hb hK hP 3 0 rfl rfl (cl_in hlm (by omega)) dX5_removeLamp_61 ?_
        refine va_iast hx hb hK hP hD hS 3 0 rfl rfl (vp_in_pred (by omega) (by have := cl_lt hlm; omega) (by decide)) dX5_removeLamp_62 (fun H locs hP hD hS => ?_)
        have hP : va_P D vwCl [(aSc, .inr (4, [.ref aK, .ref aC, .ref aS, .ref aF, .int lm, .int wk, .int stp, .int dm, .int tc, .long rm])), (aC, .inl (y4.1, 6, .inl (upd t4.1 ((nI k3) - 1).toNatClampNeg (t4.1 (nI k3).toNatClampNeg)))), (aS, .inl (y4.1, 6, .inl (upd t4.2.1 ((nI k3) - 1).toNatClampNeg (t4.2.1 (nI k3).toNatClampNeg)))), (aF, .inl (y4.1, 6, .inl (upd t4.2.2 ((nI k3) - 1).toNatClampNeg (t4.2.2 (nI k3).toNatClampNeg))))] H := hP
        have hD : va_D A [(aSc, .inr (4, [.ref aK, .ref aC, .ref aS, .ref aF, .int lm, .int wk, .int stp, .int dm, .int tc, .long rm])), (aC, .inl (y4.1, 6, .inl (upd t4.1 ((nI k3) - 1).toNatClampNeg (t4.1 (nI k3).toNatClampNeg)))), (aS, .inl (y4.1, 6, .inl (upd t4.2.1 ((nI k3) - 1).toNatClampNeg (t4.2.1 (nI k3).toNatClampNeg)))), (aF, .inl (y4.1, 6, .inl (upd t4.2.2 ((nI k3) - 1).toNatClampNeg (t4.2.2 (nI k3).toNatClampNeg))))] := hD
        refine lv_iinc (v := nI (k3 + 1)) (lv' := [(2, .int (nI (k3 + 1))), (0, .ref aSc)]) hx hb dX5_removeLamp_63 hl (k := 0) rfl (nI_1 _) (by decide) rfl (fun ls hl => ?_)
        refine lv_goto (tgt := 13) hx hb dX5_removeLamp_66 (by decide) ?_
        have ef : f_X5_removeLamp_13 k3 t4 = .inr (upd t4.1 ((nI k3) - 1).toNatClampNeg (t4.1 (nI k3).toNatClampNeg), upd t4.2.1 ((nI k3) - 1).toNatClampNeg (t4.2.1 (nI k3).toNatClampNeg), upd t4.2.2 ((nI k3) - 1).toNatClampNeg (t4.2.2 (nI k3).toNatClampNeg)) := (by first | (simp only [f_X5_removeLamp_13]; done) | (unfold f_X5_removeLamp_13; rfl) | rfl)
        exact ihk3 _ ef trivial H locs ls ⟨hP, hD, hS, lv_sub hl [0, 1] rfl⟩
  · have em : m_X5_removeLamp lm LC LS LF j = (lm, LC, LS, LF) := (by first | (simp only [m_X5_removeLamp, if_pos c2]; done) | (simp only [m_X5_removeLamp, if_pos c2]; rfl))
    exact W.vret hx hb hr (fun t ht hW => ⟨⟨(), rfl, trivial, ⟨by rw [ht, em]; exact hP, by rw [em]; exact hD⟩⟩, hS.F ht⟩) hS.2.2 dX5_removeLamp_8
def m_X5_addLamp (lm : Int32) (LC : Nat → Int32) (LS : Nat → Int32) (LF : Nat → Int32) (cl : Int32) (sr : Int32) (fu : Int32) : Int32 × (Nat → Int32) × (Nat → Int32) × (Nat → Int32) := (if lm < 6 then (lm + 1, upd LC (lm).toNatClampNeg cl, upd LS (lm).toNatClampNeg sr, upd LF (lm).toNatClampNeg fu) else (lm, LC, LS, LF))
set_option maxHeartbeats 4000000 in
set_option maxRecDepth 100000 in
theorem met_X5_addLamp (l : Launch) (D : va_G) (y4 : vT) (aSc aK aC aS aF : Nat) (sz : Nat) (lm : Int32) (wk : Int32) (stp : Int32) (dm : Int32) (tc : Int32) (rm : Int64) (LC : Nat → Int32) (LS : Nat → Int32) (LF : Nat → Int32) (cl : Int32) (sr : Int32) (fu : Int32) (hlm : 0 ≤ lm.toInt ∧ lm.toInt ≤ (6 : Nat)) : Met l yX5_addLamp wsX5_addLamp ({ frames := 0, cells := 0, slots := 0, locals := 0 }) (va_Pc [.ref aSc, .int cl, .int sr, .int fu] (PreW D y4 [(aSc, .inr (4, [.ref aK, .ref aC, .ref aS, .ref aF, .int lm, .int wk, .int stp, .int dm, .int tc, .long rm])), (aC, .inl (y4.1, 6, .inl LC)), (aS, .inl (y4.1, 6, .inl LS)), (aF, .inl (y4.1, 6, .inl LF))] sz)) (va_Qv (fun (_ : Unit) => True) (fun _ t => PostW D (va_A [(aSc, .inr (4, [.ref aK, .ref aC, .ref aS, .ref aF, .int lm, .int wk, .int stp, .int dm, .int tc, .long rm])), (aC, .inl (y4.1, 6, .inl LC)), (aS, .inl (y4.1, 6, .inl LS)), (aF, .inl (y4.1, 6, .inl LF))] sz) [(aSc, .inr (4, [.ref aK, .ref aC, .ref aS, .ref aF, .int ((m_X5_addLamp lm LC LS LF cl sr fu).1), .int wk, .int stp, .int dm, .int tc, .long rm])), (aC, .inl (y4.1, 6, .inl ((m_X5_addLamp lm LC LS LF cl sr fu).2.1))), (aS, .inl (y4.1, 6, .inl ((m_X5_addLamp lm LC LS LF cl sr fu).2.2.1))), (aF, .inl (y4.1, 6, .inl ((m_X5_addLamp lm LC LS LF cl sr fu).2.2.2)))] t) (va_A [(aSc, .inr (4, [.ref aK, .ref aC, .ref aS, .ref aF, .int lm, .int wk, .int stp, .int dm, .int tc, .long rm])), (aC, .inl (y4.1, 6, .inl LC)), (aS, .inl (y4.1, 6, .inl LS)), (aF, .inl (y4.1, 6, .inl LF))] sz)) 0 0 (va_A [(aSc, .inr (4, [.ref aK, .ref aC, .ref aS, .ref aF, .int lm, .int wk, .int stp, .int dm, .int tc, .long rm])), (aC, .inl (y4.1, 6, .inl LC)), (aS, .inl (y4.1, 6, .inl LS)), (aF, .inl (y4.1, 6, .inl LF))] sz) := by
  refine Met.ofW (cc := cX5_addLamp) (maxL := 4) (ret := none) (by decide) rfl ?_
  intro p e s m args below meth c s₁ B hml hv
  obtain ⟨rfl, hsz, hP, hK, hD0, hNW⟩ := hv
  have hx := B.exec
  have hb := B.bytes
  have hr := B.returns
  have hts := atoms_spec (ws := wsX5_addLamp) B.pre
  have hown : s.vm.findClass RX5 = some m.cls := findClass_of_methodNamed B.named
  have hlocks := B.notSynchronized
  subst hsz
  have hD := hD0.self (sz := s.heap.size)
  generalize hAe : va_A [(aSc, .inr (4, [.ref aK, .ref aC, .ref aS, .ref aF, .int lm, .int wk, .int stp, .int dm, .int tc, .long rm])), (aC, .inl (y4.1, 6, .inl LC)), (aS, .inl (y4.1, 6, .inl LS)), (aF, .inl (y4.1, 6, .inl LF))] s.heap.size = A at hD ⊢
  have hA : ∀ q : Nat, s.heap.size ≤ q → A q := fun q h => by rw [← hAe]; exact Or.inr h
  have hS : va_S A s.heap s.heap [] := va_S.rf
  have hl := lv_entry ([.ref aSc, .int cl, .int sr, .int fu]) (n := 4) (Nat.le_of_ble_eq_true rfl)
  rw [lg_entry_eq]
  generalize (lg_sl ([.ref aSc, .int cl, .int sr, .int fu]) ++ List.replicate (4 - (lg_sl ([.ref aSc, .int cl, .int sr, .int fu])).length) Slot.unset).toArray = ls at hl ⊢
  have hl : lv_has ls 4 [(0, .ref aSc), (1, .int cl), (2, .int sr), (3, .int fu)] := hl
  have f37 := hts (.fieldLink RX5 37 "PillarLight$Scene" "lamps" "I") (List.mem_of_getElem? (i := 1) rfl)
  have iX5 : ∀ w ∈ wsX50, w ∈ wsX5_addLamp := fun _ h => List.mem_cons_of_mem _ (List.mem_append_right _ h)
  have f15 := hts (.fieldLink RX5 15 "PillarLight$Scene" "lampCell" "[I") (List.mem_of_getElem? (i := 2) rfl)
  have f18 := hts (.fieldLink RX5 18 "PillarLight$Scene" "lampStrength" "[I") (List.mem_of_getElem? (i := 3) rfl)
  have f21 := hts (.fieldLink RX5 21 "PillarLight$Scene" "lampFuel" "[I") (List.mem_of_getElem? (i := 4) rfl)
  refine startW (fun H locs hP hS => ?_) hP hS
  refine lv_aload_n hx hb dX5_addLamp_0 rfl (lv_at hl 0 rfl) ?_
  refine va_get (ci := 4) (v := .int lm) (C := RX5) (T := TX5) (N := 10) hx hb hts iX5 hown hK hP 0 rfl rfl 4 (by decide) f37 (fun _ h9 => h9) rfl dX5_addLamp_1 ?_
  refine lv_bipush (v := 6) hx hb dX5_addLamp_4 (by decide) ?_
  refine lv_icmp_lt (tgt := 10) hx hb dX5_addLamp_6 (by decide) (fun c1 => ?_) (fun c1 => ?_)
  · refine lv_aload_n hx hb dX5_addLamp_10 rfl (lv_at hl 0 rfl) ?_
    refine va_get (ci := 4) (v := .ref aC) (C := RX5) (T := TX5) (N := 10) hx hb hts iX5 hown hK hP 0 rfl rfl 1 (by decide) f15 (fun _ h9 => h9) rfl dX5_addLamp_11 ?_
    refine lv_aload_n hx hb dX5_addLamp_14 rfl (lv_at hl 0 rfl) ?_
    refine va_get (ci := 4) (v := .int lm) (C := RX5) (T := TX5) (N := 10) hx hb hts iX5 hown hK hP 0 rfl rfl 4 (by decide) f37 (fun _ h9 => h9) rfl dX5_addLamp_15 ?_
    refine lv_iload_n hx hb dX5_addLamp_18 rfl (lv_at hl 1 rfl) ?_
    refine va_iast hx hb hK hP hD hS 1 0 rfl rfl (lt6_in hlm (by assumption)) dX5_addLamp_19 (fun H locs hP hD hS => ?_)
    have hP : va_P D vwCl [(aSc, .inr (4, [.ref aK, .ref aC, .ref aS, .ref aF, .int lm, .int wk, .int stp, .int dm, .int tc, .long rm])), (aC, .inl (y4.1, 6, .inl (upd LC (lm).toNatClampNeg cl))), (aS, .inl (y4.1, 6, .inl LS)), (aF, .inl (y4.1, 6, .inl LF))] H := hP
    have hD : va_D A [(aSc, .inr (4, [.ref aK, .ref aC, .ref aS, .ref aF, .int lm, .int wk, .int stp, .int dm, .int tc, .long rm])), (aC, .inl (y4.1, 6, .inl (upd LC (lm).toNatClampNeg cl))), (aS, .inl (y4.1, 6, .inl LS)), (aF, .inl (y4.1, 6, .inl LF))] := hD
    refine lv_aload_n hx hb dX5_addLamp_20 rfl (lv_at hl 0 rfl) ?_
    refine va_get (ci := 4) (v := .ref aS) (C := RX5) (T := TX5) (N := 10) hx hb hts iX5 hown hK hP 0 rfl rfl 2 (by decide) f18 (fun _ h9 => h9) rfl dX5_addLamp_21 ?_
    refine lv_aload_n hx hb dX5_addLamp_24 rfl (lv_at hl 0 rfl) ?_
    refine va_get (ci := 4) (v := .int lm) (C := RX5) (T := TX5) (N := 10) hx hb hts iX5 hown hK hP 0 rfl rfl 4 (by decide) f37 (fun _ h9 => h9) rfl dX5_addLamp_25 ?_
    refine lv_iload_n hx hb dX5_addLamp_28 rfl (lv_at hl 2 rfl) ?_
    refine va_iast hx hb hK hP hD hS 2 0 rfl rfl (lt6_in hlm (by assumption)) dX5_addLamp_29 (fun H locs hP hD hS => ?_)
    have hP : va_P D vwCl [(aSc, .inr (4, [.ref aK, .ref aC, .ref aS, .ref aF, .int lm, .int wk, .int stp, .int dm, .int tc, .long rm])), (aC, .inl (y4.1, 6, .inl (upd LC (lm).toNatClampNeg cl))), (aS, .inl (y4.1, 6, .inl (upd LS (lm).toNatClampNeg sr))), (aF, .inl (y4.1, 6, .inl LF))] H := hP
    have hD : va_D A [(aSc, .inr (4, [.ref aK, .ref aC, .ref aS, .ref aF, .int lm, .int wk, .int stp, .int dm, .int tc, .long rm])), (aC, .inl (y4.1, 6, .inl (upd LC (lm).toNatClampNeg cl))), (aS, .inl (y4.1, 6, .inl (upd LS (lm).toNatClampNeg sr))), (aF, .inl (y4.1, 6, .inl LF))] := hD
    refine lv_aload_n hx hb dX5_addLamp_30 rfl (lv_at hl 0 rfl) ?_
    refine va_get (ci := 4) (v := .ref aF) (C := RX5) (T := TX5) (N := 10) hx hb hts iX5 hown hK hP 0 rfl rfl 3 (by decide) f21 (fun _ h9 => h9) rfl dX5_addLamp_31 ?_
    refine lv_aload_n hx hb dX5_addLamp_34 rfl (lv_at hl 0 rfl) ?_
    refine va_get (ci := 4) (v := .int lm) (C := RX5) (T := TX5) (N := 10) hx hb hts iX5 hown hK hP 0 rfl rfl 4 (by decide) f37 (fun _ h9 => h9) rfl dX5_addLamp_35 ?_
    refine lv_iload_n hx hb dX5_addLamp_38 rfl (lv_at hl 3 rfl) ?_
    refine va_iast hx hb hK hP hD hS 3 0 rfl rfl (lt6_in hlm (by assumption)) dX5_addLamp_39 (fun H locs hP hD hS => ?_)
    have hP : va_P D vwCl [(aSc, .inr (4, [.ref aK, .ref aC, .ref aS, .ref aF, .int lm, .int wk, .int stp, .int dm, .int tc, .long rm])), (aC, .inl (y4.1, 6, .inl (upd LC (lm).toNatClampNeg cl))), (aS, .inl (y4.1, 6, .inl (upd LS (lm).toNatClampNeg sr))), (aF, .inl (y4.1, 6, .inl (upd LF (lm).toNatClampNeg fu)))] H := hP
    have hD : va_D A [(aSc, .inr (4, [.ref aK, .ref aC, .ref aS, .ref aF, .int lm, .int wk, .int stp, .int dm, .int tc, .long rm])), (aC, .inl (y4.1, 6, .inl (upd LC (lm).toNatClampNeg cl))), (aS, .inl (y4.1, 6, .inl (upd LS (lm).toNatClampNeg sr))), (aF, .inl (y4.1, 6, .inl (upd LF (lm).toNatClampNeg fu)))] := hD
    refine lv_aload_n hx hb dX5_addLamp_40 rfl (lv_at hl 0 rfl) ?_
    refine lv_dup hx hb dX5_addLamp_41 rfl ?_
    refine va_get (ci := 4) (v := .int lm) (C := RX5) (T := TX5) (N := 10) hx hb hts iX5 hown hK hP 0 rfl rfl 4 (by decide) f37 (fun _ h9 => h9) rfl dX5_addLamp_42 ?_
    refine lv_iconst (v := 1) hx hb dX5_addLamp_45 (by decide) ?_
    refine lv_iadd hx hb dX5_addLamp_46 ?_
    refine va_put (ci := 4) (v := .int (lm + 1)) (ty := .int) (C := RX5) (T := TX5) (N := 10) hx hb hts iX5 tyX5 tyX5_ok nmX5 hown hK hP hD hS 0 rfl rfl 4 (by decide) f37 (fun _ h9 => h9) rfl (by decide +kernel) rfl rfl (Nat.le_of_ble_eq_true rfl) dX5_addLamp_47 (fun H locs hP hD hS => ?_)
    have hP : va_P D vwCl [(aSc, .inr (4, [.ref aK, .ref aC, .ref aS, .ref aF, .int (lm + 1), .int wk, .int stp, .int dm, .int tc, .long rm])), (aC, .inl (y4.1, 6, .inl (upd LC (lm).toNatClampNeg cl))), (aS, .inl (y4.1, 6, .inl (upd LS (lm).toNatClampNeg sr))), (aF, .inl (y4.1, 6, .inl (upd LF (lm).toNatClampNeg fu)))] H := hP
    have hD : va_D A [(aSc, .inr (4, [.ref aK, .ref aC, .ref aS, .ref aF, .int (lm + 1), .int wk, .int stp, .int dm, .int tc, .long rm])), (aC, .inl (y4.1, 6, .inl (upd LC (lm).toNatClampNeg cl))), (aS, .inl (y4.1, 6, .inl (upd LS (lm).toNatClampNeg sr))), (aF, .inl (y4.1, 6, .inl (upd LF (lm).toNatClampNeg fu)))] := hD
    have em : m_X5_addLamp lm LC LS LF cl sr fu = (lm + 1, upd LC (lm).toNatClampNeg cl, upd LS (lm).toNatClampNeg sr, upd LF (lm).toNatClampNeg fu) := (by first | (simp only [m_X5_addLamp, if_pos c1]; done) | (simp only [m_X5_addLamp, if_pos c1]; rfl))
    exact W.vret hx hb hr (fun t ht hW => ⟨⟨(), rfl, trivial, ⟨by rw [ht, em]; exact hP, by rw [em]; exact hD⟩⟩, hS.F ht⟩) hS.2.2 dX5_addLamp_50
  · have em : m_X5_addLamp lm LC LS LF cl sr fu = (lm, LC, LS, LF) := (by first | (simp only [m_X5_addLamp, if_neg c1]; done) | (simp only [m_X5_addLamp, if_neg c1]; rfl))
    exact W.vret hx hb hr (fun t ht hW => ⟨⟨(), rfl, trivial, ⟨by rw [ht, em]; exact hP, by rw [em]; exact hD⟩⟩, hS.F ht⟩) hS.2.2 dX5_addLamp_9
def m_X5_changeKind (lm : Int32) (K : Nat → Int32) (LC : Nat → Int32) (LS : Nat → Int32) (LF : Nat → Int32) (cl : Int32) (kd : Int32) : Int32 × (Nat → Int32) × (Nat → Int32) × (Nat → Int32) × (Nat → Int32) := (if (m_X0_stopsLight kd) = false then (lm, upd K (cl).toNatClampNeg kd, LC, LS, LF) else (let q3 : Int32 × (Nat → Int32) × (Nat → Int32) × (Nat → Int32) := m_X5_removeLamp lm LC LS LF (m_X5_lampIn lm LC cl); (q3.1, upd K (cl).toNatClampNeg kd, q3.2.1, q3.2.2.1, q3.2.2.2)))
set_option maxHeartbeats 4000000 in
set_option maxRecDepth 100000 in
theorem met_X5_changeKind (l : Launch) (D : va_G) (y4 : vT) (aSc aK aC aS aF : Nat) (sz : Nat) (lm : Int32) (wk : Int32) (stp : Int32) (dm : Int32) (tc : Int32) (rm : Int64) (K : Nat → Int32) (LC : Nat → Int32) (LS : Nat → Int32) (LF : Nat → Int32) (cl : Int32) (kd : Int32) (hlm : 0 ≤ lm.toInt ∧ lm.toInt ≤ (6 : Nat)) (hcl : vp_in cl 64) : Met l yX5_changeKind wsX5_changeKind ({ frames := 2, cells := 0, slots := 0, locals := 43 }) (va_Pc [.ref aSc, .int cl, .int kd] (PreW D y4 [(aSc, .inr (4, [.ref aK, .ref aC, .ref aS, .ref aF, .int lm, .int wk, .int stp, .int dm, .int tc, .long rm])), (aK, .inl (y4.1, 64, .inl K)), (aC, .inl (y4.1, 6, .inl LC)), (aS, .inl (y4.1, 6, .inl LS)), (aF, .inl (y4.1, 6, .inl LF))] sz)) (va_Qv (fun (_ : Unit) => True) (fun _ t => PostW D (va_A [(aSc, .inr (4, [.ref aK, .ref aC, .ref aS, .ref aF, .int lm, .int wk, .int stp, .int dm, .int tc, .long rm])), (aK, .inl (y4.1, 64, .inl K)), (aC, .inl (y4.1, 6, .inl LC)), (aS, .inl (y4.1, 6, .inl LS)), (aF, .inl (y4.1, 6, .inl LF))] sz) [(aSc, .inr (4, [.ref aK, .ref aC, .ref aS, .ref aF, .int ((m_X5_changeKind lm K LC LS LF cl kd).1), .int wk, .int stp, .int dm, .int tc, .long rm])), (aK, .inl (y4.1, 64, .inl ((m_X5_changeKind lm K LC LS LF cl kd).2.1))), (aC, .inl (y4.1, 6, .inl ((m_X5_changeKind lm K LC LS LF cl kd).2.2.1))), (aS, .inl (y4.1, 6, .inl ((m_X5_changeKind lm K LC LS LF cl kd).2.2.2.1))), (aF, .inl (y4.1, 6, .inl ((m_X5_changeKind lm K LC LS LF cl kd).2.2.2.2)))] t) (va_A [(aSc, .inr (4, [.ref aK, .ref aC, .ref aS, .ref aF, .int lm, .int wk, .int stp, .int dm, .int tc, .long rm])), (aK, .inl (y4.1, 64, .inl K)), (aC, .inl (y4.1, 6, .inl LC)), (aS, .inl (y4.1, 6, .inl LS)), (aF, .inl (y4.1, 6, .inl LF))] sz)) 0 0 (va_A [(aSc, .inr (4, [.ref aK, .ref aC, .ref aS, .ref aF, .int lm, .int wk, .int stp, .int dm, .int tc, .long rm])), (aK, .inl (y4.1, 64, .inl K)), (aC, .inl (y4.1, 6, .inl LC)), (aS, .inl (y4.1, 6, .inl LS)), (aF, .inl (y4.1, 6, .inl LF))] sz) := by
  refine Met.ofW (cc := cX5_changeKind) (maxL := 3) (ret := none) (by decide) rfl ?_
  intro p e s m args below meth c s₁ B hml hv
  obtain ⟨rfl, hsz, hP, hK, hD0, hNW⟩ := hv
  have hx := B.exec
  have hb := B.bytes
  have hr := B.returns
  have hts := atoms_spec (ws := wsX5_changeKind) B.pre
  have hown : s.vm.findClass RX5 = some m.cls := findClass_of_methodNamed B.named
  have hlocks := B.notSynchronized
  subst hsz
  have hD := hD0.self (sz := s.heap.size)
  generalize hAe : va_A [(aSc, .inr (4, [.ref aK, .ref aC, .ref aS, .ref aF, .int lm, .int wk, .int stp, .int dm, .int tc, .long rm])), (aK, .inl (y4.1, 64, .inl K)), (aC, .inl (y4.1, 6, .inl LC)), (aS, .inl (y4.1, 6, .inl LS)), (aF, .inl (y4.1, 6, .inl LF))] s.heap.size = A at hD ⊢
  have hA : ∀ q : Nat, s.heap.size ≤ q → A q := fun q h => by rw [← hAe]; exact Or.inr h
  have hS : va_S A s.heap s.heap [] := va_S.rf
  have hl := lv_entry ([.ref aSc, .int cl, .int kd]) (n := 3) (Nat.le_of_ble_eq_true rfl)
  rw [lg_entry_eq]
  generalize (lg_sl ([.ref aSc, .int cl, .int kd]) ++ List.replicate (3 - (lg_sl ([.ref aSc, .int cl, .int kd])).length) Slot.unset).toArray = ls at hl ⊢
  have hl : lv_has ls 3 [(0, .ref aSc), (1, .int cl), (2, .int kd)] := hl
  have f9 := hts (.fieldLink RX5 9 "PillarLight$Scene" "kinds" "[I") (List.mem_of_getElem? (i := 1) rfl)
  have iX5 : ∀ w ∈ wsX50, w ∈ wsX5_changeKind := fun _ h => List.mem_cons_of_mem _ (List.mem_append_right _ h)
  refine startW (fun H locs hP hS => ?_) hP hS
  refine lv_aload_n hx hb dX5_changeKind_0 rfl (lv_at hl 0 rfl) ?_
  refine va_get (ci := 4) (v := .ref aK) (C := RX5) (T := TX5) (N := 10) hx hb hts iX5 hown hK hP 0 rfl rfl 0 (by decide) f9 (fun _ h9 => h9) rfl dX5_changeKind_1 ?_
  refine lv_iload_n hx hb dX5_changeKind_4 rfl (lv_at hl 1 rfl) ?_
  refine lv_iload_n hx hb dX5_changeKind_5 rfl (lv_at hl 2 rfl) ?_
  refine va_iast hx hb hK hP hD hS 1 0 rfl rfl (by first | assumption | exact vp_in_cmp (by assumption) (by assumption) (by decide)) dX5_changeKind_6 (fun H locs hP hD hS => ?_)
  have hP : va_P D vwCl [(aSc, .inr (4, [.ref aK, .ref aC, .ref aS, .ref aF, .int lm, .int wk, .int stp, .int dm, .int tc, .long rm])), (aK, .inl (y4.1, 64, .inl (upd K (cl).toNatClampNeg kd))), (aC, .inl (y4.1, 6, .inl LC)), (aS, .inl (y4.1, 6, .inl LS)), (aF, .inl (y4.1, 6, .inl LF))] H := hP
  have hD : va_D A [(aSc, .inr (4, [.ref aK, .ref aC, .ref aS, .ref aF, .int lm, .int wk, .int stp, .int dm, .int tc, .long rm])), (aK, .inl (y4.1, 64, .inl (upd K (cl).toNatClampNeg kd))), (aC, .inl (y4.1, 6, .inl LC)), (aS, .inl (y4.1, 6, .inl LS)), (aF, .inl (y4.1, 6, .inl LF))] := hD
  refine lv_iload_n hx hb dX5_changeKind_7 rfl (lv_at hl 2 rfl) ?_
  refine callK_i (va_runS (As := [.int kd]) (rest := []) ⟨hx, hb, hml, hown, hts⟩ (met_X0_stopsLight l  kd) (va_cwS 1 hts gX5_changeKind_X0_stopsLight rfl rfl rfl (by decide +kernel) ⟨Nat.le_of_ble_eq_true rfl, Nat.le_of_ble_eq_true rfl⟩) ⟨preS_blind, fun U hU hW => ⟨rfl, trivial⟩⟩ rfl rfl hl.1 rfl (lv_room (Nat.le_of_ble_eq_true rfl)) dX5_changeKind_8 ⟨Nat.zero_le _, Nat.zero_le _⟩) hP hS (fun r u H locs hw hP hS => ?_)
  subst hw
  refine lb_if_eq (tgt := 23) hx hb dX5_changeKind_11 (by decide) (fun c1 => ?_) (fun c1 => ?_)
  · have em : m_X5_changeKind lm K LC LS LF cl kd = (lm, upd K (cl).toNatClampNeg kd, LC, LS, LF) := (by first | (simp only [m_X5_changeKind, if_pos c1]; done) | (simp only [m_X5_changeKind, if_pos c1]; rfl))
    exact W.vret hx hb hr (fun t ht hW => ⟨⟨(), rfl, trivial, ⟨by rw [ht, em]; exact hP, by rw [em]; exact hD⟩⟩, hS.F ht⟩) hS.2.2 dX5_changeKind_23
  · refine lv_aload_n hx hb dX5_changeKind_14 rfl (lv_at hl 0 rfl) ?_
    refine lv_aload_n hx hb dX5_changeKind_15 rfl (lv_at hl 0 rfl) ?_
    refine lv_iload_n hx hb dX5_changeKind_16 rfl (lv_at hl 1 rfl) ?_
    refine callW_i (wr := [(aK, .inl (y4.1, 64, .inl (upd K (cl).toNatClampNeg kd))), (aS, .inl (y4.1, 6, .inl LS)), (aF, .inl (y4.1, 6, .inl LF))]) (wn := fun u => [(aSc, .inr (4, [.ref aK, .ref aC, .ref aS, .ref aF, .int lm, .int wk, .int stp, .int dm, .int tc, .long rm])), (aK, .inl (y4.1, 64, .inl (upd K (cl).toNatClampNeg kd))), (aC, .inl (y4.1, 6, .inl LC)), (aS, .inl (y4.1, 6, .inl LS)), (aF, .inl (y4.1, 6, .inl LF))]) (va_runV (As := [.int cl]) (rest := [.ref aSc]) ⟨hx, hb, hml, hown, hts⟩ (met_X5_lampIn l D y4 aSc aK aC aS aF H.size lm wk stp dm tc rm LC cl hlm) (cwV 1 hts gX5_changeKind_X5_lampIn rfl rfl rfl (by decide +kernel) ⟨Nat.le_of_ble_eq_true rfl, Nat.le_of_ble_eq_true rfl⟩) ⟨preW_blind, va_recv hK hP (ci := 4) (q0 := 0) rfl rfl, preW_at (hP.sub (ws' := [(aSc, .inr (4, [.ref aK, .ref aC, .ref aS, .ref aF, .int lm, .int wk, .int stp, .int dm, .int tc, .long rm])), (aC, .inl (y4.1, 6, .inl LC))]) [0, 2] rfl) hK (hD.sub (ws' := [(aSc, .inr (4, [.ref aK, .ref aC, .ref aS, .ref aF, .int lm, .int wk, .int stp, .int dm, .int tc, .long rm])), (aC, .inl (y4.1, 6, .inl LC))]) [0, 2] (by decide) rfl) hNW⟩ rfl rfl hl.1 rfl (lv_room (Nat.le_of_ble_eq_true rfl)) dX5_changeKind_17 ⟨Nat.zero_le _, Nat.zero_le _⟩) hP hD hS hA [0, 2] [1, 3, 4] [3, 0, 4, 1, 2] rfl rfl (by decide) (by decide) (fun _ => rfl) (by decide) (fun r u2 H locs hw hP hD hS => ?_)
    subst hw
    have hP : va_P D vwCl [(aSc, .inr (4, [.ref aK, .ref aC, .ref aS, .ref aF, .int lm, .int wk, .int stp, .int dm, .int tc, .long rm])), (aK, .inl (y4.1, 64, .inl (upd K (cl).toNatClampNeg kd))), (aC, .inl (y4.1, 6, .inl LC)), (aS, .inl (y4.1, 6, .inl LS)), (aF, .inl (y4.1, 6, .inl LF))] H := hP
    have hD : va_D A [(aSc, .inr (4, [.ref aK, .ref aC, .ref aS, .ref aF, .int lm, .int wk, .int stp, .int dm, .int tc, .long rm])), (aK, .inl (y4.1, 64, .inl (upd K (cl).toNatClampNeg kd))), (aC, .inl (y4.1, 6, .inl LC)), (aS, .inl (y4.1, 6, .inl LS)), (aF, .inl (y4.1, 6, .inl LF))] := hD
    refine callW_v (wr := [(aK, .inl (y4.1, 64, .inl (upd K (cl).toNatClampNeg kd)))]) (wn := fun u => [(aSc, .inr (4, [.ref aK, .ref aC, .ref aS, .ref aF, .int ((m_X5_removeLamp lm LC LS LF (m_X5_lampIn lm LC cl)).1), .int wk, .int stp, .int dm, .int tc, .long rm])), (aK, .inl (y4.1, 64, .inl (upd K (cl).toNatClampNeg kd))), (aC, .inl (y4.1, 6, .inl ((m_X5_removeLamp lm LC LS LF (m_X5_lampIn lm LC cl)).2.1))), (aS, .inl (y4.1, 6, .inl ((m_X5_removeLamp lm LC LS LF (m_X5_lampIn lm LC cl)).2.2.1))), (aF, .inl (y4.1, 6, .inl ((m_X5_removeLamp lm LC LS LF (m_X5_lampIn lm LC cl)).2.2.2)))]) (va_runV (As := [.int (m_X5_lampIn lm LC cl)]) (rest := []) ⟨hx, hb, hml, hown, hts⟩ (met_X5_removeLamp l D y4 aSc aK aC aS aF H.size lm wk stp dm tc rm LC LS LF (m_X5_lampIn lm LC cl) hlm) (cwV 1 hts gX5_changeKind_X5_removeLamp rfl rfl rfl (by decide +kernel) ⟨Nat.le_of_ble_eq_true rfl, Nat.le_of_ble_eq_true rfl⟩) ⟨preW_blind, va_recv hK hP (ci := 4) (q0 := 0) rfl rfl, preW_at (hP.sub (ws' := [(aSc, .inr (4, [.ref aK, .ref aC, .ref aS, .ref aF, .int lm, .int wk, .int stp, .int dm, .int tc, .long rm])), (aC, .inl (y4.1, 6, .inl LC)), (aS, .inl (y4.1, 6, .inl LS)), (aF, .inl (y4.1, 6, .inl LF))]) [0, 2, 3, 4] rfl) hK (hD.sub (ws' := [(aSc, .inr (4, [.ref aK, .ref aC, .ref aS, .ref aF, .int lm, .int wk, .int stp, .int dm, .int tc, .long rm])), (aC, .inl (y4.1, 6, .inl LC)), (aS, .inl (y4.1, 6, .inl LS)), (aF, .inl (y4.1, 6, .inl LF))]) [0, 2, 3, 4] (by decide) rfl) hNW⟩ rfl rfl hl.1 rfl (lv_room (Nat.le_of_ble_eq_true rfl)) dX5_changeKind_20 ⟨Nat.zero_le _, Nat.zero_le _⟩) hP hD hS hA [0, 2, 3, 4] [1] [1, 0, 2, 3, 4] rfl rfl (by decide) (by decide) (fun _ => rfl) (by decide) (fun u4 H locs hw hP hD hS => ?_)
    obtain ⟨q3, eq3⟩ : ∃ z, z = m_X5_removeLamp lm LC LS LF (m_X5_lampIn lm LC cl) := ⟨_, rfl⟩
    rw [← eq3] at hP hD
    have hP : va_P D vwCl [(aSc, .inr (4, [.ref aK, .ref aC, .ref aS, .ref aF, .int q3.1, .int wk, .int stp, .int dm, .int tc, .long rm])), (aK, .inl (y4.1, 64, .inl (upd K (cl).toNatClampNeg kd))), (aC, .inl (y4.1, 6, .inl q3.2.1)), (aS, .inl (y4.1, 6, .inl q3.2.2.1)), (aF, .inl (y4.1, 6, .inl q3.2.2.2))] H := hP
    have hD : va_D A [(aSc, .inr (4, [.ref aK, .ref aC, .ref aS, .ref aF, .int q3.1, .int wk, .int stp, .int dm, .int tc, .long rm])), (aK, .inl (y4.1, 64, .inl (upd K (cl).toNatClampNeg kd))), (aC, .inl (y4.1, 6, .inl q3.2.1)), (aS, .inl (y4.1, 6, .inl q3.2.2.1)), (aF, .inl (y4.1, 6, .inl q3.2.2.2))] := hD
    have em : m_X5_changeKind lm K LC LS LF cl kd = (q3.1, upd K (cl).toNatClampNeg kd, q3.2.1, q3.2.2.1, q3.2.2.2) := (by subst eq3; first | (simp only [m_X5_changeKind, if_neg c1]; done) | (simp only [m_X5_changeKind, if_neg c1]; rfl))
    exact W.vret hx hb hr (fun t ht hW => ⟨⟨(), rfl, trivial, ⟨by rw [ht, em]; exact hP, by rw [em]; exact hD⟩⟩, hS.F ht⟩) hS.2.2 dX5_changeKind_23
def m_X5_copyFrom (dKv : Nat → Int32) (dCv : Nat → Int32) (dSv : Nat → Int32) (dFv : Nat → Int32) (olm : Int32) (owk : Int32) (ost : Int32) (odm : Int32) (otc : Int32) (orm : Int64) (oKv : Nat → Int32) (oCv : Nat → Int32) (oSv : Nat → Int32) (oFv : Nat → Int32) : Int32 × Int32 × Int32 × Int32 × Int32 × Int64 × (Nat → Int32) × (Nat → Int32) × (Nat → Int32) × (Nat → Int32) := (olm, owk, ost, odm, otc, orm, va_cpy oKv dKv (0 : Int32).toNatClampNeg (0 : Int32).toNatClampNeg (64 : Int32).toNatClampNeg, va_cpy oCv dCv (0 : Int32).toNatClampNeg (0 : Int32).toNatClampNeg (6 : Int32).toNatClampNeg, va_cpy oSv dSv (0 : Int32).toNatClampNeg (0 : Int32).toNatClampNeg (6 : Int32).toNatClampNeg, va_cpy oFv dFv (0 : Int32).toNatClampNeg (0 : Int32).toNatClampNeg (6 : Int32).toNatClampNeg)
set_option maxHeartbeats 4000000 in
set_option maxRecDepth 100000 in
theorem met_X5_copyFrom (l : Launch) (D : va_G) (y4 : vT) (dSc dK dC dS dF oSc oK oC oS oF : Nat) (sz : Nat) (dlm : Int32) (dwk : Int32) (dst : Int32) (ddm : Int32) (dtc : Int32) (drm : Int64) (dKv : Nat → Int32) (dCv : Nat → Int32) (dSv : Nat → Int32) (dFv : Nat → Int32) (olm : Int32) (owk : Int32) (ost : Int32) (odm : Int32) (otc : Int32) (orm : Int64) (oKv : Nat → Int32) (oCv : Nat → Int32) (oSv : Nat → Int32) (oFv : Nat → Int32) : Met l yX5_copyFrom wsX5_copyFrom ({ frames := 1, cells := 0, slots := 0, locals := 90 }) (va_Pc [.ref dSc, .ref oSc] (PreW D y4 [(dSc, .inr (4, [.ref dK, .ref dC, .ref dS, .ref dF, .int dlm, .int dwk, .int dst, .int ddm, .int dtc, .long drm])), (dK, .inl (y4.1, 64, .inl dKv)), (dC, .inl (y4.1, 6, .inl dCv)), (dS, .inl (y4.1, 6, .inl dSv)), (dF, .inl (y4.1, 6, .inl dFv)), (oSc, .inr (4, [.ref oK, .ref oC, .ref oS, .ref oF, .int olm, .int owk, .int ost, .int odm, .int otc, .long orm])), (oK, .inl (y4.1, 64, .inl oKv)), (oC, .inl (y4.1, 6, .inl oCv)), (oS, .inl (y4.1, 6, .inl oSv)), (oF, .inl (y4.1, 6, .inl oFv))] sz)) (va_Qv (fun (_ : Unit) => True) (fun _ t => PostW D (va_A [(dSc, .inr (4, [.ref dK, .ref dC, .ref dS, .ref dF, .int dlm, .int dwk, .int dst, .int ddm, .int dtc, .long drm])), (dK, .inl (y4.1, 64, .inl dKv)), (dC, .inl (y4.1, 6, .inl dCv)), (dS, .inl (y4.1, 6, .inl dSv)), (dF, .inl (y4.1, 6, .inl dFv)), (oSc, .inr (4, [.ref oK, .ref oC, .ref oS, .ref oF, .int olm, .int owk, .int ost, .int odm, .int otc, .long orm])), (oK, .inl (y4.1, 64, .inl oKv)), (oC, .inl (y4.1, 6, .inl oCv)), (oS, .inl (y4.1, 6, .inl oSv)), (oF, .inl (y4.1, 6, .inl oFv))] sz) [(dSc, .inr (4, [.ref dK, .ref dC, .ref dS, .ref dF, .int ((m_X5_copyFrom dKv dCv dSv dFv olm owk ost odm otc orm oKv oCv oSv oFv).1), .int ((m_X5_copyFrom dKv dCv dSv dFv olm owk ost odm otc orm oKv oCv oSv oFv).2.1), .int ((m_X5_copyFrom dKv dCv dSv dFv olm owk ost odm otc orm oKv oCv oSv oFv).2.2.1), .int ((m_X5_copyFrom dKv dCv dSv dFv olm owk ost odm otc orm oKv oCv oSv oFv).2.2.2.1), .int ((m_X5_copyFrom dKv dCv dSv dFv olm owk ost odm otc orm oKv oCv oSv oFv).2.2.2.2.1), .long ((m_X5_copyFrom dKv dCv dSv dFv olm owk ost odm otc orm oKv oCv oSv oFv).2.2.2.2.2.1)])), (dK, .inl (y4.1, 64, .inl ((m_X5_copyFrom dKv dCv dSv dFv olm owk ost odm otc orm oKv oCv oSv oFv).2.2.2.2.2.2.1))), (dC, .inl (y4.1, 6, .inl ((m_X5_copyFrom dKv dCv dSv dFv olm owk ost odm otc orm oKv oCv oSv oFv).2.2.2.2.2.2.2.1))), (dS, .inl (y4.1, 6, .inl ((m_X5_copyFrom dKv dCv dSv dFv olm owk ost odm otc orm oKv oCv oSv oFv).2.2.2.2.2.2.2.2.1))), (dF, .inl (y4.1, 6, .inl ((m_X5_copyFrom dKv dCv dSv dFv olm owk ost odm otc orm oKv oCv oSv oFv).2.2.2.2.2.2.2.2.2))), (oSc, .inr (4, [.ref oK, .ref oC, .ref oS, .ref oF, .int olm, .int owk, .int ost, .int odm, .int otc, .long orm])), (oK, .inl (y4.1, 64, .inl oKv)), (oC, .inl (y4.1, 6, .inl oCv)), (oS, .inl (y4.1, 6, .inl oSv)), (oF, .inl (y4.1, 6, .inl oFv))] t) (va_A [(dSc, .inr (4, [.ref dK, .ref dC, .ref dS, .ref dF, .int dlm, .int dwk, .int dst, .int ddm, .int dtc, .long drm])), (dK, .inl (y4.1, 64, .inl dKv)), (dC, .inl (y4.1, 6, .inl dCv)), (dS, .inl (y4.1, 6, .inl dSv)), (dF, .inl (y4.1, 6, .inl dFv)), (oSc, .inr (4, [.ref oK, .ref oC, .ref oS, .ref oF, .int olm, .int owk, .int ost, .int odm, .int otc, .long orm])), (oK, .inl (y4.1, 64, .inl oKv)), (oC, .inl (y4.1, 6, .inl oCv)), (oS, .inl (y4.1, 6, .inl oSv)), (oF, .inl (y4.1, 6, .inl oFv))] sz)) 0 0 (va_A [(dSc, .inr (4, [.ref dK, .ref dC, .ref dS, .ref dF, .int dlm, .int dwk, .int dst, .int ddm, .int dtc, .long drm])), (dK, .inl (y4.1, 64, .inl dKv)), (dC, .inl (y4.1, 6, .inl dCv)), (dS, .inl (y4.1, 6, .inl dSv)), (dF, .inl (y4.1, 6, .inl dFv)), (oSc, .inr (4, [.ref oK, .ref oC, .ref oS, .ref oF, .int olm, .int owk, .int ost, .int odm, .int otc, .long orm])), (oK, .inl (y4.1, 64, .inl oKv)), (oC, .inl (y4.1, 6, .inl oCv)), (oS, .inl (y4.1, 6, .inl oSv)), (oF, .inl (y4.1, 6, .inl oFv))] sz) := by
  refine Met.ofW (cc := cX5_copyFrom) (maxL := 2) (ret := none) (by decide) rfl ?_
  intro p e s m args below meth c s₁ B hml hv
  obtain ⟨rfl, hsz, hP, hK, hD0, hNW⟩ := hv
  have hx := B.exec
  have hb := B.bytes
  have hr := B.returns
  have hts := atoms_spec (ws := wsX5_copyFrom) B.pre
  have hown : s.vm.findClass RX5 = some m.cls := findClass_of_methodNamed B.named
  have hlocks := B.notSynchronized
  subst hsz
  have hD := hD0.self (sz := s.heap.size)
  generalize hAe : va_A [(dSc, .inr (4, [.ref dK, .ref dC, .ref dS, .ref dF, .int dlm, .int dwk, .int dst, .int ddm, .int dtc, .long drm])), (dK, .inl (y4.1, 64, .inl dKv)), (dC, .inl (y4.1, 6, .inl dCv)), (dS, .inl (y4.1, 6, .inl dSv)), (dF, .inl (y4.1, 6, .inl dFv)), (oSc, .inr (4, [.ref oK, .ref oC, .ref oS, .ref oF, .int olm, .int owk, .int ost, .int odm, .int otc, .long orm])), (oK, .inl (y4.1, 64, .inl oKv)), (oC, .inl (y4.1, 6, .inl oCv)), (oS, .inl (y4.1, 6, .inl oSv)), (oF, .inl (y4.1, 6, .inl oFv))] s.heap.size = A at hD ⊢
  have hA : ∀ q : Nat, s.heap.size ≤ q → A q := fun q h => by rw [← hAe]; exact Or.inr h
  have hS : va_S A s.heap s.heap [] := va_S.rf
  have hl := lv_entry ([.ref dSc, .ref oSc]) (n := 2) (Nat.le_of_ble_eq_true rfl)
  rw [lg_entry_eq]
  generalize (lg_sl ([.ref dSc, .ref oSc]) ++ List.replicate (2 - (lg_sl ([.ref dSc, .ref oSc])).length) Slot.unset).toArray = ls at hl ⊢
  have hl : lv_has ls 2 [(0, .ref dSc), (1, .ref oSc)] := hl
  have f9 := hts (.fieldLink RX5 9 "PillarLight$Scene" "kinds" "[I") (List.mem_of_getElem? (i := 1) rfl)
  have iX5 : ∀ w ∈ wsX50, w ∈ wsX5_copyFrom := fun _ h => List.mem_cons_of_mem _ (List.mem_append_right _ h)
  have fac31 := hts (.methodLink RX5 31 arraycopyName) (List.mem_of_getElem? (i := 2) rfl)
  have facst := hts (.static arraycopyName) (List.mem_of_getElem? (i := 4) rfl)
  have facna := hts (.native arraycopyName) (List.mem_of_getElem? (i := 3) rfl)
  have facin := hts (.initialized "java/lang/System") (List.mem_of_getElem? (i := 5) rfl)
  have f15 := hts (.fieldLink RX5 15 "PillarLight$Scene" "lampCell" "[I") (List.mem_of_getElem? (i := 6) rfl)
  have f18 := hts (.fieldLink RX5 18 "PillarLight$Scene" "lampStrength" "[I") (List.mem_of_getElem? (i := 7) rfl)
  have f21 := hts (.fieldLink RX5 21 "PillarLight$Scene" "lampFuel" "[I") (List.mem_of_getElem? (i := 8) rfl)
  have f37 := hts (.fieldLink RX5 37 "PillarLight$Scene" "lamps" "I") (List.mem_of_getElem? (i := 9) rfl)
  have f40 := hts (.fieldLink RX5 40 "PillarLight$Scene" "walker" "I") (List.mem_of_getElem? (i := 10) rfl)
  have f43 := hts (.fieldLink RX5 43 "PillarLight$Scene" "steps" "I") (List.mem_of_getElem? (i := 11) rfl)
  have f24 := hts (.fieldLink RX5 24 "PillarLight$Scene" "dim" "I") (List.mem_of_getElem? (i := 12) rfl)
  have f28 := hts (.fieldLink RX5 28 "PillarLight$Scene" "torch" "I") (List.mem_of_getElem? (i := 13) rfl)
  have f46 := hts (.fieldLink RX5 46 "PillarLight$Scene" "remembered" "J") (List.mem_of_getElem? (i := 14) rfl)
  refine startW (fun H locs hP hS => ?_) hP hS
  refine lv_aload_n hx hb dX5_copyFrom_0 rfl (lv_at hl 1 rfl) ?_
  refine va_get (ci := 4) (v := .ref oK) (C := RX5) (T := TX5) (N := 10) hx hb hts iX5 hown hK hP 5 rfl rfl 0 (by decide) f9 (fun _ h9 => h9) rfl dX5_copyFrom_1 ?_
  refine lv_iconst (v := 0) hx hb dX5_copyFrom_4 (by decide) ?_
  refine lv_aload_n hx hb dX5_copyFrom_5 rfl (lv_at hl 0 rfl) ?_
  refine va_get (ci := 4) (v := .ref dK) (C := RX5) (T := TX5) (N := 10) hx hb hts iX5 hown hK hP 0 rfl rfl 0 (by decide) f9 (fun _ h9 => h9) rfl dX5_copyFrom_6 ?_
  refine lv_iconst (v := 0) hx hb dX5_copyFrom_9 (by decide) ?_
  refine lv_bipush (v := 64) hx hb dX5_copyFrom_10 (by decide) ?_
  refine va_copyi hx hb (hml.trans hl.1.symm) hown fac31 facna facst facin hK hP hD hS 6 1 0 0 rfl rfl rfl rfl rfl (by decide) (by decide) (by decide) (by decide) (by decide) (fun _ _ => rfl) (Nat.le_of_ble_eq_true rfl) (by decide +kernel) dX5_copyFrom_12 (fun H locs hP hD hS => ?_)
  have hP : va_P D vwCl [(dSc, .inr (4, [.ref dK, .ref dC, .ref dS, .ref dF, .int dlm, .int dwk, .int dst, .int ddm, .int dtc, .long drm])), (dK, .inl (y4.1, 64, .inl (va_cpy oKv dKv (0 : Int32).toNatClampNeg (0 : Int32).toNatClampNeg (64 : Int32).toNatClampNeg))), (dC, .inl (y4.1, 6, .inl dCv)), (dS, .inl (y4.1, 6, .inl dSv)), (dF, .inl (y4.1, 6, .inl dFv)), (oSc, .inr (4, [.ref oK, .ref oC, .ref oS, .ref oF, .int olm, .int owk, .int ost, .int odm, .int otc, .long orm])), (oK, .inl (y4.1, 64, .inl oKv)), (oC, .inl (y4.1, 6, .inl oCv)), (oS, .inl (y4.1, 6, .inl oSv)), (oF, .inl (y4.1, 6, .inl oFv))] H := hP
  have hD : va_D A [(dSc, .inr (4, [.ref dK, .ref dC, .ref dS, .ref dF, .int dlm, .int dwk, .int dst, .int ddm, .int dtc, .long drm])), (dK, .inl (y4.1, 64, .inl (va_cpy oKv dKv (0 : Int32).toNatClampNeg (0 : Int32).toNatClampNeg (64 : Int32).toNatClampNeg))), (dC, .inl (y4.1, 6, .inl dCv)), (dS, .inl (y4.1, 6, .inl dSv)), (dF, .inl (y4.1, 6, .inl dFv)), (oSc, .inr (4, [.ref oK, .ref oC, .ref oS, .ref oF, .int olm, .int owk, .int ost, .int odm, .int otc, .long orm])), (oK, .inl (y4.1, 64, .inl oKv)), (oC, .inl (y4.1, 6, .inl oCv)), (oS, .inl (y4.1, 6, .inl oSv)), (oF, .inl (y4.1, 6, .inl oFv))] := hD
  refine lv_aload_n hx hb dX5_copyFrom_15 rfl (lv_at hl 1 rfl) ?_
  refine va_get (ci := 4) (v := .ref oC) (C := RX5) (T := TX5) (N := 10) hx hb hts iX5 hown hK hP 5 rfl rfl 1 (by decide) f15 (fun _ h9 => h9) rfl dX5_copyFrom_16 ?_
  refine lv_iconst (v := 0) hx hb dX5_copyFrom_19 (by decide) ?_
  refine lv_aload_n hx hb dX5_copyFrom_20 rfl (lv_at hl 0 rfl) ?_
  refine va_get (ci := 4) (v := .ref dC) (C := RX5) (T := TX5) (N := 10) hx hb hts iX5 hown hK hP 0 rfl rfl 1 (by decide) f15 (fun _ h9 => h9) rfl dX5_copyFrom_21 ?_
  refine lv_iconst (v := 0) hx hb dX5_copyFrom_24 (by decide) ?_
  refine lv_bipush (v := 6) hx hb dX5_copyFrom_25 (by decide) ?_
  refine va_copyi hx hb (hml.trans hl.1.symm) hown fac31 facna facst facin hK hP hD hS 7 2 0 0 rfl rfl rfl rfl rfl (by decide) (by decide) (by decide) (by decide) (by decide) (fun _ _ => rfl) (Nat.le_of_ble_eq_true rfl) (by decide +kernel) dX5_copyFrom_27 (fun H locs hP hD hS => ?_)
  have hP : va_P D vwCl [(dSc, .inr (4, [.ref dK, .ref dC, .ref dS, .ref dF, .int dlm, .int dwk, .int dst, .int ddm, .int dtc, .long drm])), (dK, .inl (y4.1, 64, .inl (va_cpy oKv dKv (0 : Int32).toNatClampNeg (0 : Int32).toNatClampNeg (64 : Int32).toNatClampNeg))), (dC, .inl (y4.1, 6, .inl (va_cpy oCv dCv (0 : Int32).toNatClampNeg (0 : Int32).toNatClampNeg (6 : Int32).toNatClampNeg))), (dS, .inl (y4.1, 6, .inl dSv)), (dF, .inl (y4.1, 6, .inl dFv)), (oSc, .inr (4, [.ref oK, .ref oC, .ref oS, .ref oF, .int olm, .int owk, .int ost, .int odm, .int otc, .long orm])), (oK, .inl (y4.1, 64, .inl oKv)), (oC, .inl (y4.1, 6, .inl oCv)), (oS, .inl (y4.1, 6, .inl oSv)), (oF, .inl (y4.1, 6, .inl oFv))] H := hP
  have hD : va_D A [(dSc, .inr (4, [.ref dK, .ref dC, .ref dS, .ref dF, .int dlm, .int dwk, .int dst, .int ddm, .int dtc, .long drm])), (dK, .inl (y4.1, 64, .inl (va_cpy oKv dKv (0 : Int32).toNatClampNeg (0 : Int32).toNatClampNeg (64 : Int32).toNatClampNeg))), (dC, .inl (y4.1, 6, .inl (va_cpy oCv dCv (0 : Int32).toNatClampNeg (0 : Int32).toNatClampNeg (6 : Int32).toNatClampNeg))), (dS, .inl (y4.1, 6, .inl dSv)), (dF, .inl (y4.1, 6, .inl dFv)), (oSc, .inr (4, [.ref oK, .ref oC, .ref oS, .ref oF, .int olm, .int owk, .int ost, .int odm, .int otc, .long orm])), (oK, .inl (y4.1, 64, .inl oKv)), (oC, .inl (y4.1, 6, .inl oCv)), (oS, .inl (y4.1, 6, .inl oSv)), (oF, .inl (y4.1, 6, .inl oFv))] := hD
  refine lv_aload_n hx hb dX5_copyFrom_30 rfl (lv_at hl 1 rfl) ?_
  refine va_get (ci := 4) (v := .ref oS) (C := RX5) (T := TX5) (N := 10) hx hb hts iX5 hown hK hP 5 rfl rfl 2 (by decide) f18 (fun _ h9 => h9) rfl dX5_copyFrom_31 ?_
  refine lv_iconst (v := 0) hx hb dX5_copyFrom_34 (by decide) ?_
  refine lv_aload_n hx hb dX5_copyFrom_35 rfl (lv_at hl 0 rfl) ?_
  refine va_get (ci := 4) (v := .ref dS) (C := RX5) (T := TX5) (N := 10) hx hb hts iX5 hown hK hP 0 rfl rfl 2 (by decide) f18 (fun _ h9 => h9) rfl dX5_copyFrom_36 ?_
  refine lv_iconst (v := 0) hx hb dX5_copyFrom_39 (by decide) ?_
  refine lv_bipush (v := 6) hx hb dX5_copyFrom_40 (by decide) ?_
  refine va_copyi hx hb (hml.trans hl.1.symm) hown fac31 facna facst facin hK hP hD hS 8 3 0 0 rfl rfl rfl rfl rfl (by decide) (by decide) (by decide) (by decide) (by decide) (fun _ _ => rfl) (Nat.le_of_ble_eq_true rfl) (by decide +kernel) dX5_copyFrom_42 (fun H locs hP hD hS => ?_)
  have hP : va_P D vwCl [(dSc, .inr (4, [.ref dK, .ref dC, .ref dS, .ref dF, .int dlm, .int dwk, .int dst, .int ddm, .int dtc, .long drm])), (dK, .inl (y4.1, 64, .inl (va_cpy oKv dKv (0 : Int32).toNatClampNeg (0 : Int32).toNatClampNeg (64 : Int32).toNatClampNeg))), (dC, .inl (y4.1, 6, .inl (va_cpy oCv dCv (0 : Int32).toNatClampNeg (0 : Int32).toNatClampNeg (6 : Int32).toNatClampNeg))), (dS, .inl (y4.1, 6, .inl (va_cpy oSv dSv (0 : Int32).toNatClampNeg (0 : Int32).toNatClampNeg (6 : Int32).toNatClampNeg))), (dF, .inl (y4.1, 6, .inl dFv)), (oSc, .inr (4, [.ref oK, .ref oC, .ref oS, .ref oF, .int olm, .int owk, .int ost, .int odm, .int otc, .long orm])), (oK, .inl (y4.1, 64, .inl oKv)), (oC, .inl (y4.1, 6, .inl oCv)), (oS, .inl (y4.1, 6, .inl oSv)), (oF, .inl (y4.1, 6, .inl oFv))] H := hP
  have hD : va_D A [(dSc, .inr (4, [.ref dK, .ref dC, .ref dS, .ref dF, .int dlm, .int dwk, .int dst, .int ddm, .int dtc, .long drm])), (dK, .inl (y4.1, 64, .inl (va_cpy oKv dKv (0 : Int32).toNatClampNeg (0 : Int32).toNatClampNeg (64 : Int32).toNatClampNeg))), (dC, .inl (y4.1, 6, .inl (va_cpy oCv dCv (0 : Int32).toNatClampNeg (0 : Int32).toNatClampNeg (6 : Int32).toNatClampNeg))), (dS, .inl (y4.1, 6, .inl (va_cpy oSv dSv (0 : Int32).toNatClampNeg (0 : Int32).toNatClampNeg (6 : Int32).toNatClampNeg))), (dF, .inl (y4.1, 6, .inl dFv)), (oSc, .inr (4, [.ref oK, .ref oC, .ref oS, .ref oF, .int olm, .int owk, .int ost, .int odm, .int otc, .long orm])), (oK, .inl (y4.1, 64, .inl oKv)), (oC, .inl (y4.1, 6, .inl oCv)), (oS, .inl (y4.1, 6, .inl oSv)), (oF, .inl (y4.1, 6, .inl oFv))] := hD
  refine lv_aload_n hx hb dX5_copyFrom_45 rfl (lv_at hl 1 rfl) ?_
  refine va_get (ci := 4) (v := .ref oF) (C := RX5) (T := TX5) (N := 10) hx hb hts iX5 hown hK hP 5 rfl rfl 3 (by decide) f21 (fun _ h9 => h9) rfl dX5_copyFrom_46 ?_
  refine lv_iconst (v := 0) hx hb dX5_copyFrom_49 (by decide) ?_
  refine lv_aload_n hx hb dX5_copyFrom_50 rfl (lv_at hl 0 rfl) ?_
  refine va_get (ci := 4) (v := .ref dF) (C := RX5) (T := TX5) (N := 10) hx hb hts iX5 hown hK hP 0 rfl rfl 3 (by decide) f21 (fun _ h9 => h9) rfl dX5_copyFrom_51 ?_
  refine lv_iconst (v := 0) hx hb dX5_copyFrom_54 (by decide) ?_
  refine lv_bipush (v := 6) hx hb dX5_copyFrom_55 (by decide) ?_
  refine va_copyi hx hb (hml.trans hl.1.symm) hown fac31 facna facst facin hK hP hD hS 9 4 0 0 rfl rfl rfl rfl rfl (by decide) (by decide) (by decide) (by decide) (by decide) (fun _ _ => rfl) (Nat.le_of_ble_eq_true rfl) (by decide +kernel) dX5_copyFrom_57 (fun H locs hP hD hS => ?_)
  have hP : va_P D vwCl [(dSc, .inr (4, [.ref dK, .ref dC, .ref dS, .ref dF, .int dlm, .int dwk, .int dst, .int ddm, .int dtc, .long drm])), (dK, .inl (y4.1, 64, .inl (va_cpy oKv dKv (0 : Int32).toNatClampNeg (0 : Int32).toNatClampNeg (64 : Int32).toNatClampNeg))), (dC, .inl (y4.1, 6, .inl (va_cpy oCv dCv (0 : Int32).toNatClampNeg (0 : Int32).toNatClampNeg (6 : Int32).toNatClampNeg))), (dS, .inl (y4.1, 6, .inl (va_cpy oSv dSv (0 : Int32).toNatClampNeg (0 : Int32).toNatClampNeg (6 : Int32).toNatClampNeg))), (dF, .inl (y4.1, 6, .inl (va_cpy oFv dFv (0 : Int32).toNatClampNeg (0 : Int32).toNatClampNeg (6 : Int32).toNatClampNeg))), (oSc, .inr (4, [.ref oK, .ref oC, .ref oS, .ref oF, .int olm, .int owk, .int ost, .int odm, .int otc, .long orm])), (oK, .inl (y4.1, 64, .inl oKv)), (oC, .inl (y4.1, 6, .inl oCv)), (oS, .inl (y4.1, 6, .inl oSv)), (oF, .inl (y4.1, 6, .inl oFv))] H := hP
  have hD : va_D A [(dSc, .inr (4, [.ref dK, .ref dC, .ref dS, .ref dF, .int dlm, .int dwk, .int dst, .int ddm, .int dtc, .long drm])), (dK, .inl (y4.1, 64, .inl (va_cpy oKv dKv (0 : Int32).toNatClampNeg (0 : Int32).toNatClampNeg (64 : Int32).toNatClampNeg))), (dC, .inl (y4.1, 6, .inl (va_cpy oCv dCv (0 : Int32).toNatClampNeg (0 : Int32).toNatClampNeg (6 : Int32).toNatClampNeg))), (dS, .inl (y4.1, 6, .inl (va_cpy oSv dSv (0 : Int32).toNatClampNeg (0 : Int32).toNatClampNeg (6 : Int32).toNatClampNeg))), (dF, .inl (y4.1, 6, .inl (va_cpy oFv dFv (0 : Int32).toNatClampNeg (0 : Int32).toNatClampNeg (6 : Int32).toNatClampNeg))), (oSc, .inr (4, [.ref oK, .ref oC, .ref oS, .ref oF, .int olm, .int owk, .int ost, .int odm, .int otc, .long orm])), (oK, .inl (y4.1, 64, .inl oKv)), (oC, .inl (y4.1, 6, .inl oCv)), (oS, .inl (y4.1, 6, .inl oSv)), (oF, .inl (y4.1, 6, .inl oFv))] := hD
  refine lv_aload_n hx hb dX5_copyFrom_60 rfl (lv_at hl 0 rfl) ?_
  refine lv_aload_n hx hb dX5_copyFrom_61 rfl (lv_at hl 1 rfl) ?_
  refine va_get (ci := 4) (v := .int olm) (C := RX5) (T := TX5) (N := 10) hx hb hts iX5 hown hK hP 5 rfl rfl 4 (by decide) f37 (fun _ h9 => h9) rfl dX5_copyFrom_62 ?_
  refine va_put (ci := 4) (v := .int olm) (ty := .int) (C := RX5) (T := TX5) (N := 10) hx hb hts iX5 tyX5 tyX5_ok nmX5 hown hK hP hD hS 0 rfl rfl 4 (by decide) f37 (fun _ h9 => h9) rfl (by decide +kernel) rfl rfl (Nat.le_of_ble_eq_true rfl) dX5_copyFrom_65 (fun H locs hP hD hS => ?_)
  have hP : va_P D vwCl [(dSc, .inr (4, [.ref dK, .ref dC, .ref dS, .ref dF, .int olm, .int dwk, .int dst, .int ddm, .int dtc, .long drm])), (dK, .inl (y4.1, 64, .inl (va_cpy oKv dKv (0 : Int32).toNatClampNeg (0 : Int32).toNatClampNeg (64 : Int32).toNatClampNeg))), (dC, .inl (y4.1, 6, .inl (va_cpy oCv dCv (0 : Int32).toNatClampNeg (0 : Int32).toNatClampNeg (6 : Int32).toNatClampNeg))), (dS, .inl (y4.1, 6, .inl (va_cpy oSv dSv (0 : Int32).toNatClampNeg (0 : Int32).toNatClampNeg (6 : Int32).toNatClampNeg))), (dF, .inl (y4.1, 6, .inl (va_cpy oFv dFv (0 : Int32).toNatClampNeg (0 : Int32).toNatClampNeg (6 : Int32).toNatClampNeg))), (oSc, .inr (4, [.ref oK, .ref oC, .ref oS, .ref oF, .int olm, .int owk, .int ost, .int odm, .int otc, .long orm])), (oK, .inl (y4.1, 64, .inl oKv)), (oC, .inl (y4.1, 6, .inl oCv)), (oS, .inl (y4.1, 6, .inl oSv)), (oF, .inl (y4.1, 6, .inl oFv))] H := hP
  have hD : va_D A [(dSc, .inr (4, [.ref dK, .ref dC, .ref dS, .ref dF, .int olm, .int dwk, .int dst, .int ddm, .int dtc, .long drm])), (dK, .inl (y4.1, 64, .inl (va_cpy oKv dKv (0 : Int32).toNatClampNeg (0 : Int32).toNatClampNeg (64 : Int32).toNatClampNeg))), (dC, .inl (y4.1, 6, .inl (va_cpy oCv dCv (0 : Int32).toNatClampNeg (0 : Int32).toNatClampNeg (6 : Int32).toNatClampNeg))), (dS, .inl (y4.1, 6, .inl (va_cpy oSv dSv (0 : Int32).toNatClampNeg (0 : Int32).toNatClampNeg (6 : Int32).toNatClampNeg))), (dF, .inl (y4.1, 6, .inl (va_cpy oFv dFv (0 : Int32).toNatClampNeg (0 : Int32).toNatClampNeg (6 : Int32).toNatClampNeg))), (oSc, .inr (4, [.ref oK, .ref oC, .ref oS, .ref oF, .int olm, .int owk, .int ost, .int odm, .int otc, .long orm])), (oK, .inl (y4.1, 64, .inl oKv)), (oC, .inl (y4.1, 6, .inl oCv)), (oS, .inl (y4.1, 6, .inl oSv)), (oF, .inl (y4.1, 6, .inl oFv))] := hD
  refine lv_aload_n hx hb dX5_copyFrom_68 rfl (lv_at hl 0 rfl) ?_
  refine lv_aload_n hx hb dX5_copyFrom_69 rfl (lv_at hl 1 rfl) ?_
  refine va_get (ci := 4) (v := .int owk) (C := RX5) (T := TX5) (N := 10) hx hb hts iX5 hown hK hP 5 rfl rfl 5 (by decide) f40 (fun _ h9 => h9) rfl dX5_copyFrom_70 ?_
  refine va_put (ci := 4) (v := .int owk) (ty := .int) (C := RX5) (T := TX5) (N := 10) hx hb hts iX5 tyX5 tyX5_ok nmX5 hown hK hP hD hS 0 rfl rfl 5 (by decide) f40 (fun _ h9 => h9) rfl (by decide +kernel) rfl rfl (Nat.le_of_ble_eq_true rfl) dX5_copyFrom_73 (fun H locs hP hD hS => ?_)
  have hP : va_P D vwCl [(dSc, .inr (4, [.ref dK, .ref dC, .ref dS, .ref dF, .int olm, .int owk, .int dst, .int ddm, .int dtc, .long drm])), (dK, .inl (y4.1, 64, .inl (va_cpy oKv dKv (0 : Int32).toNatClampNeg (0 : Int32).toNatClampNeg (64 : Int32).toNatClampNeg))), (dC, .inl (y4.1, 6, .inl (va_cpy oCv dCv (0 : Int32).toNatClampNeg (0 : Int32).toNatClampNeg (6 : Int32).toNatClampNeg))), (dS, .inl (y4.1, 6, .inl (va_cpy oSv dSv (0 : Int32).toNatClampNeg (0 : Int32).toNatClampNeg (6 : Int32).toNatClampNeg))), (dF, .inl (y4.1, 6, .inl (va_cpy oFv dFv (0 : Int32).toNatClampNeg (0 : Int32).toNatClampNeg (6 : Int32).toNatClampNeg))), (oSc, .inr (4, [.ref oK, .ref oC, .ref oS, .ref oF, .int olm, .int owk, .int ost, .int odm, .int otc, .long orm])), (oK, .inl (y4.1, 64, .inl oKv)), (oC, .inl (y4.1, 6, .inl oCv)), (oS, .inl (y4.1, 6, .inl oSv)), (oF, .inl (y4.1, 6, .inl oFv))] H := hP
  have hD : va_D A [(dSc, .inr (4, [.ref dK, .ref dC, .ref dS, .ref dF, .int olm, .int owk, .int dst, .int ddm, .int dtc, .long drm])), (dK, .inl (y4.1, 64, .inl (va_cpy oKv dKv (0 : Int32).toNatClampNeg (0 : Int32).toNatClampNeg (64 : Int32).toNatClampNeg))), (dC, .inl (y4.1, 6, .inl (va_cpy oCv dCv (0 : Int32).toNatClampNeg (0 : Int32).toNatClampNeg (6 : Int32).toNatClampNeg))), (dS, .inl (y4.1, 6, .inl (va_cpy oSv dSv (0 : Int32).toNatClampNeg (0 : Int32).toNatClampNeg (6 : Int32).toNatClampNeg))), (dF, .inl (y4.1, 6, .inl (va_cpy oFv dFv (0 : Int32).toNatClampNeg (0 : Int32).toNatClampNeg (6 : Int32).toNatClampNeg))), (oSc, .inr (4, [.ref oK, .ref oC, .ref oS, .ref oF, .int olm, .int owk, .int ost, .int odm, .int otc, .long orm])), (oK, .inl (y4.1, 64, .inl oKv)), (oC, .inl (y4.1, 6, .inl oCv)), (oS, .inl (y4.1, 6, .inl oSv)), (oF, .inl (y4.1, 6, .inl oFv))] := hD
  refine lv_aload_n hx hb dX5_copyFrom_76 rfl (lv_at hl 0 rfl) ?_
  refine lv_aload_n hx hb dX5_copyFrom_77 rfl (lv_at hl 1 rfl) ?_
  refine va_get (ci := 4) (v := .int ost) (C := RX5) (T := TX5) (N := 10) hx hb hts iX5 hown hK hP 5 rfl rfl 6 (by decide) f43 (fun _ h9 => h9) rfl dX5_copyFrom_78 ?_
  refine va_put (ci := 4) (v := .int ost) (ty := .int) (C := RX5) (T := TX5) (N := 10) hx hb hts iX5 tyX5 tyX5_ok nmX5 hown hK hP hD hS 0 rfl rfl 6 (by decide) f43 (fun _ h9 => h9) rfl (by decide +kernel) rfl rfl (Nat.le_of_ble_eq_true rfl) dX5_copyFrom_81 (fun H locs hP hD hS => ?_)
  have hP : va_P D vwCl [(dSc, .inr (4, [.ref dK, .ref dC, .ref dS, .ref dF, .int olm, .int owk, .int ost, .int ddm, .int dtc, .long drm])), (dK, .inl (y4.1, 64, .inl (va_cpy oKv dKv (0 : Int32).toNatClampNeg (0 : Int32).toNatClampNeg (64 : Int32).toNatClampNeg))), (dC, .inl (y4.1, 6, .inl (va_cpy oCv dCv (0 : Int32).toNatClampNeg (0 : Int32).toNatClampNeg (6 : Int32).toNatClampNeg))), (dS, .inl (y4.1, 6, .inl (va_cpy oSv dSv (0 : Int32).toNatClampNeg (0 : Int32).toNatClampNeg (6 : Int32).toNatClampNeg))), (dF, .inl (y4.1, 6, .inl (va_cpy oFv dFv (0 : Int32).toNatClampNeg (0 : Int32).toNatClampNeg (6 : Int32).toNatClampNeg))), (oSc, .inr (4, [.ref oK, .ref oC, .ref oS, .ref oF, .int olm, .int owk, .int ost, .int odm, .int otc, .long orm])), (oK, .inl (y4.1, 64, .inl oKv)), (oC, .inl (y4.1, 6, .inl oCv)), (oS, .inl (y4.1, 6, .inl oSv)), (oF, .inl (y4.1, 6, .inl oFv))] H := hP
  have hD : va_D A [(dSc, .inr (4, [.ref dK, .ref dC, .ref dS, .ref dF, .int olm, .int owk, .int ost, .int ddm, .int dtc, .long drm])), (dK, .inl (y4.1, 64, .inl (va_cpy oKv dKv (0 : Int32).toNatClampNeg (0 : Int32).toNatClampNeg (64 : Int32).toNatClampNeg))), (dC, .inl (y4.1, 6, .inl (va_cpy oCv dCv (0 : Int32).toNatClampNeg (0 : Int32).toNatClampNeg (6 : Int32).toNatClampNeg))), (dS, .inl (y4.1, 6, .inl (va_cpy oSv dSv (0 : Int32).toNatClampNeg (0 : Int32).toNatClampNeg (6 : Int32).toNatClampNeg))), (dF, .inl (y4.1, 6, .inl (va_cpy oFv dFv (0 : Int32).toNatClampNeg (0 : Int32).toNatClampNeg (6 : Int32).toNatClampNeg))), (oSc, .inr (4, [.ref oK, .ref oC, .ref oS, .ref oF, .int olm, .int owk, .int ost, .int odm, .int otc, .long orm])), (oK, .inl (y4.1, 64, .inl oKv)), (oC, .inl (y4.1, 6, .inl oCv)), (oS, .inl (y4.1, 6, .inl oSv)), (oF, .inl (y4.1, 6, .inl oFv))] := hD
  refine lv_aload_n hx hb dX5_copyFrom_84 rfl (lv_at hl 0 rfl) ?_
  refine lv_aload_n hx hb dX5_copyFrom_85 rfl (lv_at hl 1 rfl) ?_
  refine va_get (ci := 4) (v := .int odm) (C := RX5) (T := TX5) (N := 10) hx hb hts iX5 hown hK hP 5 rfl rfl 7 (by decide) f24 (fun _ h9 => h9) rfl dX5_copyFrom_86 ?_
  refine va_put (ci := 4) (v := .int odm) (ty := .int) (C := RX5) (T := TX5) (N := 10) hx hb hts iX5 tyX5 tyX5_ok nmX5 hown hK hP hD hS 0 rfl rfl 7 (by decide) f24 (fun _ h9 => h9) rfl (by decide +kernel) rfl rfl (Nat.le_of_ble_eq_true rfl) dX5_copyFrom_89 (fun H locs hP hD hS => ?_)
  have hP : va_P D vwCl [(dSc, .inr (4, [.ref dK, .ref dC, .ref dS, .ref dF, .int olm, .int owk, .int ost, .int odm, .int dtc, .long drm])), (dK, .inl (y4.1, 64, .inl (va_cpy oKv dKv (0 : Int32).toNatClampNeg (0 : Int32).toNatClampNeg (64 : Int32).toNatClampNeg))), (dC, .inl (y4.1, 6, .inl (va_cpy oCv dCv (0 : Int32).toNatClampNeg (0 : Int32).toNatClampNeg (6 : Int32).toNatClampNeg))), (dS, .inl (y4.1, 6, .inl (va_cpy oSv dSv (0 : Int32).toNatClampNeg (0 : Int32).toNatClampNeg (6 : Int32).toNatClampNeg))), (dF, .inl (y4.1, 6, .inl (va_cpy oFv dFv (0 : Int32).toNatClampNeg (0 : Int32).toNatClampNeg (6 : Int32).toNatClampNeg))), (oSc, .inr (4, [.ref oK, .ref oC, .ref oS, .ref oF, .int olm, .int owk, .int ost, .int odm, .int otc, .long orm])), (oK, .inl (y4.1, 64, .inl oKv)), (oC, .inl (y4.1, 6, .inl oCv)), (oS, .inl (y4.1, 6, .inl oSv)), (oF, .inl (y4.1, 6, .inl oFv))] H := hP
  have hD : va_D A [(dSc, .inr (4, [.ref dK, .ref dC, .ref dS, .ref dF, .int olm, .int owk, .int ost, .int odm, .int dtc, .long drm])), (dK, .inl (y4.1, 64, .inl (va_cpy oKv dKv (0 : Int32).toNatClampNeg (0 : Int32).toNatClampNeg (64 : Int32).toNatClampNeg))), (dC, .inl (y4.1, 6, .inl (va_cpy oCv dCv (0 : Int32).toNatClampNeg (0 : Int32).toNatClampNeg (6 : Int32).toNatClampNeg))), (dS, .inl (y4.1, 6, .inl (va_cpy oSv dSv (0 : Int32).toNatClampNeg (0 : Int32).toNatClampNeg (6 : Int32).toNatClampNeg))), (dF, .inl (y4.1, 6, .inl (va_cpy oFv dFv (0 : Int32).toNatClampNeg (0 : Int32).toNatClampNeg (6 : Int32).toNatClampNeg))), (oSc, .inr (4, [.ref oK, .ref oC, .ref oS, .ref oF, .int olm, .int owk, .int ost, .int odm, .int otc, .long orm])), (oK, .inl (y4.1, 64, .inl oKv)), (oC, .inl (y4.1, 6, .inl oCv)), (oS, .inl (y4.1, 6, .inl oSv)), (oF, .inl (y4.1, 6, .inl oFv))] := hD
  refine lv_aload_n hx hb dX5_copyFrom_92 rfl (lv_at hl 0 rfl) ?_
  refine lv_aload_n hx hb dX5_copyFrom_93 rfl (lv_at hl 1 rfl) ?_
  refine va_get (ci := 4) (v := .int otc) (C := RX5) (T := TX5) (N := 10) hx hb hts iX5 hown hK hP 5 rfl rfl 8 (by decide) f28 (fun _ h9 => h9) rfl dX5_copyFrom_94 ?_
  refine va_put (ci := 4) (v := .int otc) (ty := .int) (C := RX5) (T := TX5) (N := 10) hx hb hts iX5 tyX5 tyX5_ok nmX5 hown hK hP hD hS 0 rfl rfl 8 (by decide) f28 (fun _ h9 => h9) rfl (by decide +kernel) rfl rfl (Nat.le_of_ble_eq_true rfl) dX5_copyFrom_97 (fun H locs hP hD hS => ?_)
  have hP : va_P D vwCl [(dSc, .inr (4, [.ref dK, .ref dC, .ref dS, .ref dF, .int olm, .int owk, .int ost, .int odm, .int otc, .long drm])), (dK, .inl (y4.1, 64, .inl (va_cpy oKv dKv (0 : Int32).toNatClampNeg (0 : Int32).toNatClampNeg (64 : Int32).toNatClampNeg))), (dC, .inl (y4.1, 6, .inl (va_cpy oCv dCv (0 : Int32).toNatClampNeg (0 : Int32).toNatClampNeg (6 : Int32).toNatClampNeg))), (dS, .inl (y4.1, 6, .inl (va_cpy oSv dSv (0 : Int32).toNatClampNeg (0 : Int32).toNatClampNeg (6 : Int32).toNatClampNeg))), (dF, .inl (y4.1, 6, .inl (va_cpy oFv dFv (0 : Int32).toNatClampNeg (0 : Int32).toNatClampNeg (6 : Int32).toNatClampNeg))), (oSc, .inr (4, [.ref oK, .ref oC, .ref oS, .ref oF, .int olm, .int owk, .int ost, .int odm, .int otc, .long orm])), (oK, .inl (y4.1, 64, .inl oKv)), (oC, .inl (y4.1, 6, .inl oCv)), (oS, .inl (y4.1, 6, .inl oSv)), (oF, .inl (y4.1, 6, .inl oFv))] H := hP
  have hD : va_D A [(dSc, .inr (4, [.ref dK, .ref dC, .ref dS, .ref dF, .int olm, .int owk, .int ost, .int odm, .int otc, .long drm])), (dK, .inl (y4.1, 64, .inl (va_cpy oKv dKv (0 : Int32).toNatClampNeg (0 : Int32).toNatClampNeg (64 : Int32).toNatClampNeg))), (dC, .inl (y4.1, 6, .inl (va_cpy oCv dCv (0 : Int32).toNatClampNeg (0 : Int32).toNatClampNeg (6 : Int32).toNatClampNeg))), (dS, .inl (y4.1, 6, .inl (va_cpy oSv dSv (0 : Int32).toNatClampNeg (0 : Int32).toNatClampNeg (6 : Int32).toNatClampNeg))), (dF, .inl (y4.1, 6, .inl (va_cpy oFv dFv (0 : Int32).toNatClampNeg (0 : Int32).toNatClampNeg (6 : Int32).toNatClampNeg))), (oSc, .inr (4, [.ref oK, .ref oC, .ref oS, .ref oF, .int olm, .int owk, .int ost, .int odm, .int otc, .long orm])), (oK, .inl (y4.1, 64, .inl oKv)), (oC, .inl (y4.1, 6, .inl oCv)), (oS, .inl (y4.1, 6, .inl oSv)), (oF, .inl (y4.1, 6, .inl oFv))] := hD
  refine lv_aload_n hx hb dX5_copyFrom_100 rfl (lv_at hl 0 rfl) ?_
  refine lv_aload_n hx hb dX5_copyFrom_101 rfl (lv_at hl 1 rfl) ?_
  refine va_get (ci := 4) (v := .long orm) (C := RX5) (T := TX5) (N := 10) hx hb hts iX5 hown hK hP 5 rfl rfl 9 (by decide) f46 (fun _ h9 => h9) rfl dX5_copyFrom_102 ?_
  refine va_put (ci := 4) (v := .long orm) (ty := .long) (C := RX5) (T := TX5) (N := 10) hx hb hts iX5 tyX5 tyX5_ok nmX5 hown hK hP hD hS 0 rfl rfl 9 (by decide) f46 (fun _ h9 => h9) rfl (by decide +kernel) rfl rfl (Nat.le_of_ble_eq_true rfl) dX5_copyFrom_105 (fun H locs hP hD hS => ?_)
  have hP : va_P D vwCl [(dSc, .inr (4, [.ref dK, .ref dC, .ref dS, .ref dF, .int olm, .int owk, .int ost, .int odm, .int otc, .long orm])), (dK, .inl (y4.1, 64, .inl (va_cpy oKv dKv (0 : Int32).toNatClampNeg (0 : Int32).toNatClampNeg (64 : Int32).toNatClampNeg))), (dC, .inl (y4.1, 6, .inl (va_cpy oCv dCv (0 : Int32).toNatClampNeg (0 : Int32).toNatClampNeg (6 : Int32).toNatClampNeg))), (dS, .inl (y4.1, 6, .inl (va_cpy oSv dSv (0 : Int32).toNatClampNeg (0 : Int32).toNatClampNeg (6 : Int32).toNatClampNeg))), (dF, .inl (y4.1, 6, .inl (va_cpy oFv dFv (0 : Int32).toNatClampNeg (0 : Int32).toNatClampNeg (6 : Int32).toNatClampNeg))), (oSc, .inr (4, [.ref oK, .ref oC, .ref oS, .ref oF, .int olm, .int owk, .int ost, .int odm, .int otc, .long orm])), (oK, .inl (y4.1, 64, .inl oKv)), (oC, .inl (y4.1, 6, .inl oCv)), (oS, .inl (y4.1, 6, .inl oSv)), (oF, .inl (y4.1, 6, .inl oFv))] H := hP
  have hD : va_D A [(dSc, .inr (4, [.ref dK, .ref dC, .ref dS, .ref dF, .int olm, .int owk, .int ost, .int odm, .int otc, .long orm])), (dK, .inl (y4.1, 64, .inl (va_cpy oKv dKv (0 : Int32).toNatClampNeg (0 : Int32).toNatClampNeg (64 : Int32).toNatClampNeg))), (dC, .inl (y4.1, 6, .inl (va_cpy oCv dCv (0 : Int32).toNatClampNeg (0 : Int32).toNatClampNeg (6 : Int32).toNatClampNeg))), (dS, .inl (y4.1, 6, .inl (va_cpy oSv dSv (0 : Int32).toNatClampNeg (0 : Int32).toNatClampNeg (6 : Int32).toNatClampNeg))), (dF, .inl (y4.1, 6, .inl (va_cpy oFv dFv (0 : Int32).toNatClampNeg (0 : Int32).toNatClampNeg (6 : Int32).toNatClampNeg))), (oSc, .inr (4, [.ref oK, .ref oC, .ref oS, .ref oF, .int olm, .int owk, .int ost, .int odm, .int otc, .long orm])), (oK, .inl (y4.1, 64, .inl oKv)), (oC, .inl (y4.1, 6, .inl oCv)), (oS, .inl (y4.1, 6, .inl oSv)), (oF, .inl (y4.1, 6, .inl oFv))] := hD
  have em : m_X5_copyFrom dKv dCv dSv dFv olm owk ost odm otc orm oKv oCv oSv oFv = (olm, owk, ost, odm, otc, orm, va_cpy oKv dKv (0 : Int32).toNatClampNeg (0 : Int32).toNatClampNeg (64 : Int32).toNatClampNeg, va_cpy oCv dCv (0 : Int32).toNatClampNeg (0 : Int32).toNatClampNeg (6 : Int32).toNatClampNeg, va_cpy oSv dSv (0 : Int32).toNatClampNeg (0 : Int32).toNatClampNeg (6 : Int32).toNatClampNeg, va_cpy oFv dFv (0 : Int32).toNatClampNeg (0 : Int32).toNatClampNeg (6 : Int32).toNatClampNeg) := (by first | (simp only [m_X5_copyFrom]; done) | (unfold m_X5_copyFrom; rfl) | rfl)
  exact W.vret hx hb hr (fun t ht hW => ⟨⟨(), rfl, trivial, ⟨by rw [ht, em]; exact hP, by rw [em]; exact hD⟩⟩, hS.F ht⟩) hS.2.2 dX5_copyFrom_108
