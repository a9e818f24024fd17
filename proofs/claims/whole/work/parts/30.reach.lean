def m_J13_bitCount_95d88 (bs : Int64) : Int32 := (let q1 : Int64 := bs - ((lushr64 bs 1) &&& 6148914691236517205); (let q2 : Int64 := (q1 &&& 3689348814741910323) + ((lushr64 q1 2) &&& 3689348814741910323); (let q3 : Int64 := (q2 + (lushr64 q2 4)) &&& 1085102592571150095; (let q4 : Int64 := q3 + (lushr64 q3 8); (let q5 : Int64 := q4 + (lushr64 q4 16); (let q6 : Int64 := q5 + (lushr64 q5 32); (Int64.toInt32 q6) &&& 127))))))
set_option maxHeartbeats 4000000 in
set_option maxRecDepth 100000 in
theorem met_J13_bitCount_95d88 (l : Launch) (bs : Int64) : Met l yJ13_bitCount_95d88 wsJ13_bitCount_95d88 ({ frames := 0, cells := 0, slots := 0, locals := 0 }) (va_Pc [.long bs] (fun _ => True)) (va_Qi (fun (r : Int32) (_ : Unit) => r = (m_J13_bitCount_95d88 bs)) (fun _ _ => True) (fun _ => False)) 0 0 (fun _ => False) := by
  refine Met.ofW (cc := cJ13_bitCount_95d88) (maxL := 2) (ret := (some .int)) (by decide) rfl ?_
  intro p e s m args below meth c s₁ B hml hv
  obtain ⟨rfl, -⟩ := hv
  have hx := B.exec
  have hb := B.bytes
  have hr := B.returns
  have hts := atoms_spec (ws := wsJ13_bitCount_95d88) B.pre
  have hown : s.vm.findClass RJ13 = some m.cls := findClass_of_methodNamed B.named
  have hlocks := B.notSynchronized
  have hS : va_S (fun _ => False) s.heap s.heap [] := va_S.rf
  have hl := lv_entry ([.long bs]) (n := 2) (Nat.le_of_ble_eq_true rfl)
  rw [lg_entry_eq]
  generalize (lg_sl ([.long bs]) ++ List.replicate (2 - (lg_sl ([.long bs])).length) Slot.unset).toArray = ls at hl ⊢
  have hl : lv_has ls 2 [(0, .long bs)] := hl
  have f314 := hts (.constantLong RJ13 314 (6148914691236517205)) (List.mem_of_getElem? (i := 1) rfl)
  have f316 := hts (.constantLong RJ13 316 (3689348814741910323)) (List.mem_of_getElem? (i := 2) rfl)
  have f318 := hts (.constantLong RJ13 318 (1085102592571150095)) (List.mem_of_getElem? (i := 3) rfl)
  refine startS (fun H locs hS => ?_) hS
  refine lv_lload_n hx hb dJ13_bitCount_95d88_0 rfl (lv_at hl 0 rfl) ?_
  refine lv_lload_n hx hb dJ13_bitCount_95d88_1 rfl (lv_at hl 0 rfl) ?_
  refine lv_iconst (v := 1) hx hb dJ13_bitCount_95d88_2 (by decide) ?_
  refine lv_lushr (v := lushr64 bs 1) hx hb dJ13_bitCount_95d88_3 rfl ?_
  refine lv_ldc2 (v := 6148914691236517205) hx hb hown f314 dJ13_bitCount_95d88_4 ?_
  refine lv_land hx hb dJ13_bitCount_95d88_7 ?_
  refine lv_lsub hx hb dJ13_bitCount_95d88_8 ?_
  refine lv_lstore_n (lv' := [(0, .long (bs - ((lushr64 bs 1) &&& 6148914691236517205)))]) hx hb dJ13_bitCount_95d88_9 rfl hl (by decide) rfl (fun ls hl => ?_)
  obtain ⟨q1, eq1⟩ : ∃ z, z = bs - ((lushr64 bs 1) &&& 6148914691236517205) := ⟨_, rfl⟩
  have hl : lv_has ls 2 [(0, .long q1)] := by rw [eq1]; exact hl
  refine lv_lload_n hx hb dJ13_bitCount_95d88_10 rfl (lv_at hl 0 rfl) ?_
  refine lv_ldc2 (v := 3689348814741910323) hx hb hown f316 dJ13_bitCount_95d88_11 ?_
  refine lv_land hx hb dJ13_bitCount_95d88_14 ?_
  refine lv_lload_n hx hb dJ13_bitCount_95d88_15 rfl (lv_at hl 0 rfl) ?_
  refine lv_iconst (v := 2) hx hb dJ13_bitCount_95d88_16 (by decide) ?_
  refine lv_lushr (v := lushr64 q1 2) hx hb dJ13_bitCount_95d88_17 rfl ?_
  refine lv_ldc2 (v := 3689348814741910323) hx hb hown f316 dJ13_bitCount_95d88_18 ?_
  refine lv_land hx hb dJ13_bitCount_95d88_21 ?_
  refine lv_ladd hx hb dJ13_bitCount_95d88_22 ?_
  refine lv_lstore_n (lv' := [(0, .long ((q1 &&& 3689348814741910323) + ((lushr64 q1 2) &&& 3689348814741910323)))]) hx hb dJ13_bitCount_95d88_23 rfl hl (by decide) rfl (fun ls hl => ?_)
  obtain ⟨q2, eq2⟩ : ∃ z, z = (q1 &&& 3689348814741910323) + ((lushr64 q1 2) &&& 3689348814741910323) := ⟨_, rfl⟩
  have hl : lv_has ls 2 [(0, .long q2)] := by rw [eq2]; exact hl
  refine lv_lload_n hx hb dJ13_bitCount_95d88_24 rfl (lv_at hl 0 rfl) ?_
  refine lv_lload_n hx hb dJ13_bitCount_95d88_25 rfl (lv_at hl 0 rfl) ?_
  refine lv_iconst (v := 4) hx hb dJ13_bitCount_95d88_26 (by decide) ?_
  refine lv_lushr (v := lushr64 q2 4) hx hb dJ13_bitCount_95d88_27 rfl ?_
  refine lv_ladd hx hb dJ13_bitCount_95d88_28 ?_
  refine lv_ldc2 (v := 1085102592571150095) hx hb hown f318 dJ13_bitCount_95d88_29 ?_
  refine lv_land hx hb dJ13_bitCount_95d88_32 ?_
  refine lv_lstore_n (lv' := [(0, .long ((q2 + (lushr64 q2 4)) &&& 1085102592571150095))]) hx hb dJ13_bitCount_95d88_33 rfl hl (by decide) rfl (fun ls hl => ?_)
  obtain ⟨q3, eq3⟩ : ∃ z, z = (q2 + (lushr64 q2 4)) &&& 1085102592571150095 := ⟨_, rfl⟩
  have hl : lv_has ls 2 [(0, .long q3)] := by rw [eq3]; exact hl
  refine lv_lload_n hx hb dJ13_bitCount_95d88_34 rfl (lv_at hl 0 rfl) ?_
  refine lv_lload_n hx hb dJ13_bitCount_95d88_35 rfl (lv_at hl 0 rfl) ?_
  refine lv_bipush (v := 8) hx hb dJ13_bitCount_95d88_36 (by decide) ?_
  refine lv_lushr (v := lushr64 q3 8) hx hb dJ13_bitCount_95d88_38 rfl ?_
  refine lv_ladd hx hb dJ13_bitCount_95d88_39 ?_
  refine lv_lstore_n (lv' := [(0, .long (q3 + (lushr64 q3 8)))]) hx hb dJ13_bitCount_95d88_40 rfl hl (by decide) rfl (fun ls hl => ?_)
  obtain ⟨q4, eq4⟩ : ∃ z, z = q3 + (lushr64 q3 8) := ⟨_, rfl⟩
  have hl : lv_has ls 2 [(0, .long q4)] := by rw [eq4]; exact hl
  refine lv_lload_n hx hb dJ13_bitCount_95d88_41 rfl (lv_at hl 0 rfl) ?_
  refine lv_lload_n hx hb dJ13_bitCount_95d88_42 rfl (lv_at hl 0 rfl) ?_
  refine lv_bipush (v := 16) hx hb dJ13_bitCount_95d88_43 (by decide) ?_
  refine lv_lushr (v := lushr64 q4 16) hx hb dJ13_bitCount_95d88_45 rfl ?_
  refine lv_ladd hx hb dJ13_bitCount_95d88_46 ?_
  refine lv_lstore_n (lv' := [(0, .long (q4 + (lushr64 q4 16)))]) hx hb dJ13_bitCount_95d88_47 rfl hl (by decide) rfl (fun ls hl => ?_)
  obtain ⟨q5, eq5⟩ : ∃ z, z = q4 + (lushr64 q4 16) := ⟨_, rfl⟩
  have hl : lv_has ls 2 [(0, .long q5)] := by rw [eq5]; exact hl
  refine lv_lload_n hx hb dJ13_bitCount_95d88_48 rfl (lv_at hl 0 rfl) ?_
  refine lv_lload_n hx hb dJ13_bitCount_95d88_49 rfl (lv_at hl 0 rfl) ?_
  refine lv_bipush (v := 32) hx hb dJ13_bitCount_95d88_50 (by decide) ?_
  refine lv_lushr (v := lushr64 q5 32) hx hb dJ13_bitCount_95d88_52 rfl ?_
  refine lv_ladd hx hb dJ13_bitCount_95d88_53 ?_
  refine lv_lstore_n (lv' := [(0, .long (q5 + (lushr64 q5 32)))]) hx hb dJ13_bitCount_95d88_54 rfl hl (by decide) rfl (fun ls hl => ?_)
  obtain ⟨q6, eq6⟩ : ∃ z, z = q5 + (lushr64 q5 32) := ⟨_, rfl⟩
  have hl : lv_has ls 2 [(0, .long q6)] := by rw [eq6]; exact hl
  refine lv_lload_n hx hb dJ13_bitCount_95d88_55 rfl (lv_at hl 0 rfl) ?_
  refine lv_l2i (v := Int64.toInt32 q6) hx hb dJ13_bitCount_95d88_56 rfl ?_
  refine lv_bipush (v := 127) hx hb dJ13_bitCount_95d88_57 (by decide) ?_
  refine lv_iand hx hb dJ13_bitCount_95d88_59 ?_
  have em : m_J13_bitCount_95d88 bs = (Int64.toInt32 q6) &&& 127 := (by replace eq6 := Eq.symm eq6; subst eq6; replace eq5 := Eq.symm eq5; subst eq5; replace eq4 := Eq.symm eq4; subst eq4; replace eq3 := Eq.symm eq3; subst eq3; replace eq2 := Eq.symm eq2; subst eq2; replace eq1 := Eq.symm eq1; subst eq1; first | (simp only [m_J13_bitCount_95d88]; done) | (unfold m_J13_bitCount_95d88; rfl) | rfl)
  exact W.iret (v := (Int64.toInt32 q6) &&& 127) hx hb hr (fun t ht hW => ⟨⟨(Int64.toInt32 q6) &&& 127, (), rfl, (by rw [em]), trivial⟩, hS.F ht⟩) hS.2.2 dJ13_bitCount_95d88_60
theorem nf_in {K : Nat → Int32} {c d : Int32} (h : vp_in c 64) : m_X5_nextOnFoot K c d = -1 ∨ vp_in (m_X5_nextOnFoot K c d) 64 := by
  unfold m_X5_nextOnFoot
  by_cases h1 : m_X0_neighbour c d = -1
  · rw [if_pos h1]; exact Or.inl rfl
  · rw [if_neg h1]
    dsimp only
    split
    · exact Or.inr ((nb_in h).resolve_left h1)
    · exact Or.inl rfl
def riv (f : Int32) (g : Nat → Int32) : Prop := (1 ≤ f.toInt ∧ f.toInt ≤ 64) ∧ ∀ x : Nat, (x : Int) < f.toInt → vp_in (g x) 64
theorem ri_at {f : Int32} {g : Nat → Int32} (h : riv f g) {k : Nat} (hk : (k : Int) < f.toInt) : vp_in (g (nI k).toNatClampNeg) 64 := by
  have := h.1
  rw [nI_clamp (by omega)]; exact h.2 k hk
theorem ri_lt {f : Int32} {g : Nat → Int32} (h : riv f g) {k : Nat} (hk : k < 64) (hc : ¬ f ≤ nI k) : (k : Int) < f.toInt := by
  rw [Int32.le_iff_toInt_le, nI_toInt (by omega)] at hc
  omega
theorem ri_f {f : Int32} {g : Nat → Int32} (h : riv f g) (hc : ¬ (64 : Int32) ≤ f) : vp_in f 64 := by
  have := h.1
  have e : (64 : Int32).toInt = 64 := by decide
  rw [Int32.le_iff_toInt_le] at hc
  rw [vp_in_iff]; omega
theorem ri_put {f : Int32} {g : Nat → Int32} (h : riv f g) (hc : ¬ (64 : Int32) ≤ f) {v : Int32} (hv : vp_in v 64) : riv (f + 1) (upd g f.toNatClampNeg v) ∧ (f + 1).toInt = f.toInt + 1 := by
  have h1 := h.1
  have e : (64 : Int32).toInt = 64 := by decide
  have e1 : (1 : Int32).toInt = 1 := by decide
  rw [Int32.le_iff_toInt_le] at hc
  have e2 : (f + 1).toInt = f.toInt + 1 := by
    rw [Int32.toInt_add, e1]; apply Int.bmod_eq_of_le <;> omega
  have e3 := cl_toInt (b := f) (by omega)
  refine ⟨⟨by omega, fun x hx => ?_⟩, e2⟩
  by_cases q : x = f.toNatClampNeg
  · subst q; rw [pk_us]; exact hv
  · rw [pk_un q]; exact h.2 x (by omega)
theorem ri_0 {g : Nat → Int32} {w : Int32} (hw : vp_in w 64) : riv 1 (upd g 0 w) := by
  have e1 : (1 : Int32).toInt = 1 := by decide
  refine ⟨by omega, fun x hx => ?_⟩
  have : x = 0 := by omega
  subst this; rw [pk_us]; exact hw

def f_X6_reachedCells_40 (K : Nat → Int32) (k1 : Nat) (k22 : Nat) (t23 : Int32 × Int64 × (Nat → Int32)) : (Int32 × Int64 × (Nat → Int32)) ⊕ (Int32 × Int64 × (Nat → Int32)) := (if (m_X5_nextOnFoot K (t23.2.2 (nI k1).toNatClampNeg) (nI k22)) = (-1) then (.inr (t23.1, t23.2.1, t23.2.2)) else (if (m_X7_bitOf t23.2.1 (m_X5_nextOnFoot K (t23.2.2 (nI k1).toNatClampNeg) (nI k22))) = 0 then (if 64 ≤ t23.1 then (.inr (t23.1, t23.2.1, t23.2.2)) else (.inr (t23.1 + 1, t23.2.1 ||| (1 <<< (Int32.toInt64 (m_X5_nextOnFoot K (t23.2.2 (nI k1).toNatClampNeg) (nI k22)) &&& 63)), upd t23.2.2 (t23.1).toNatClampNeg (m_X5_nextOnFoot K (t23.2.2 (nI k1).toNatClampNeg) (nI k22))))) else (.inr (t23.1, t23.2.1, t23.2.2))))
def f_X6_reachedCells_23 (K : Nat → Int32) (k1 : Nat) (t2 : Int32 × Int64 × (Nat → Int32)) : (Int32 ⊕ (Int32 × Int64 × (Nat → Int32))) ⊕ (Int32 × Int64 × (Nat → Int32)) := (if t2.1 ≤ (nI k1) then (.inl (.inr (t2.1, t2.2.1, t2.2.2))) else (let t36 : Int32 × Int64 × (Nat → Int32) := lpe (lpx (f_X6_reachedCells_40 K k1) 4 0 (t2.1, t2.2.1, t2.2.2)); (.inr (t36.1, t36.2.1, t36.2.2))))
def m_X6_reachedCells (RE : Nat → Int32) (wk : Int32) (K : Nat → Int32) : Int32 := (lpr (lpx (f_X6_reachedCells_23 K) 64 0 ((1 : Int32), 1 <<< (Int32.toInt64 wk &&& 63), upd RE 0 wk)) id (fun t40 => t40.1))
set_option maxHeartbeats 4000000 in
set_option maxRecDepth 100000 in
theorem met_X6_reachedCells (l : Launch) (D : va_G) (y4 : vT) (aW aPr aLe aSe aRe aSc aK aC aS aF : Nat) (sz : Nat) (RE : Nat → Int32) (lm : Int32) (wk : Int32) (stp : Int32) (dm : Int32) (tc : Int32) (rm : Int64) (K : Nat → Int32) (hwk : vp_in wk 64) : Met l yX6_reachedCells wsX6_reachedCells ({ frames := 3, cells := 0, slots := 0, locals := 64 }) (va_Pc [.ref aW, .ref aSc] (PreW D y4 [(aW, .inr (5, [.ref aPr, .ref aLe, .ref aSe, .ref aRe])), (aRe, .inl (y4.1, 64, .inl RE)), (aSc, .inr (4, [.ref aK, .ref aC, .ref aS, .ref aF, .int lm, .int wk, .int stp, .int dm, .int tc, .long rm])), (aK, .inl (y4.1, 64, .inl K))] sz)) (va_Qi (fun (r : Int32) (_ : (Nat → Int32)) => r = (m_X6_reachedCells RE wk K)) (fun u t => PostW D (va_A [(aW, .inr (5, [.ref aPr, .ref aLe, .ref aSe, .ref aRe])), (aRe, .inl (y4.1, 64, .inl RE)), (aSc, .inr (4, [.ref aK, .ref aC, .ref aS, .ref aF, .int lm, .int wk, .int stp, .int dm, .int tc, .long rm])), (aK, .inl (y4.1, 64, .inl K))] sz) [(aW, .inr (5, [.ref aPr, .ref aLe, .ref aSe, .ref aRe])), (aRe, .inl (y4.1, 64, .inl u)), (aSc, .inr (4, [.ref aK, .ref aC, .ref aS, .ref aF, .int lm, .int wk, .int stp, .int dm, .int tc, .long rm])), (aK, .inl (y4.1, 64, .inl K))] t) (va_A [(aW, .inr (5, [.ref aPr, .ref aLe, .ref aSe, .ref aRe])), (aRe, .inl (y4.1, 64, .inl RE)), (aSc, .inr (4, [.ref aK, .ref aC, .ref aS, .ref aF, .int lm, .int wk, .int stp, .int dm, .int tc, .long rm])), (aK, .inl (y4.1, 64, .inl K))] sz)) 0 0 (va_A [(aW, .inr (5, [.ref aPr, .ref aLe, .ref aSe, .ref aRe])), (aRe, .inl (y4.1, 64, .inl RE)), (aSc, .inr (4, [.ref aK, .ref aC, .ref aS, .ref aF, .int lm, .int wk, .int stp, .int dm, .int tc, .long rm])), (aK, .inl (y4.1, 64, .inl K))] sz) := by
  refine Met.ofW (cc := cX6_reachedCells) (maxL := 8) (ret := (some .int)) (by decide) rfl ?_
  intro p e s m args below meth c s₁ B hml hv
  obtain ⟨rfl, hsz, hP, hK, hD0, hNW⟩ := hv
  have hx := B.exec
  have hb := B.bytes
  have hr := B.returns
  have hts := atoms_spec (ws := wsX6_reachedCells) B.pre
  have hown : s.vm.findClass RX6 = some m.cls := findClass_of_methodNamed B.named
  have hlocks := B.notSynchronized
  subst hsz
  have hD := hD0.self (sz := s.heap.size)
  generalize hAe : va_A [(aW, .inr (5, [.ref aPr, .ref aLe, .ref aSe, .ref aRe])), (aRe, .inl (y4.1, 64, .inl RE)), (aSc, .inr (4, [.ref aK, .ref aC, .ref aS, .ref aF, .int lm, .int wk, .int stp, .int dm, .int tc, .long rm])), (aK, .inl (y4.1, 64, .inl K))] s.heap.size = A at hD ⊢
  have hA : ∀ q : Nat, s.heap.size ≤ q → A q := fun q h => by rw [← hAe]; exact Or.inr h
  have hS : va_S A s.heap s.heap [] := va_S.rf
  have hl := lv_entry ([.ref aW, .ref aSc]) (n := 8) (Nat.le_of_ble_eq_true rfl)
  rw [lg_entry_eq]
  generalize (lg_sl ([.ref aW, .ref aSc]) ++ List.replicate (8 - (lg_sl ([.ref aW, .ref aSc])).length) Slot.unset).toArray = ls at hl ⊢
  have hl : lv_has ls 8 [(0, .ref aW), (1, .ref aSc)] := hl
  have f62 := hts (.fieldLink RX6 62 "PillarLight$Scene" "walker" "I") (List.mem_of_getElem? (i := 1) rfl)
  have iX5 : ∀ w ∈ wsX50, w ∈ wsX6_reachedCells := fun _ h => List.mem_cons_of_mem _ (List.mem_append_left _ (List.mem_append_right _ h))
  have f22 := hts (.fieldLink RX6 22 "PillarLight$Ways" "reached" "[I") (List.mem_of_getElem? (i := 2) rfl)
  have iX6 : ∀ w ∈ wsX60, w ∈ wsX6_reachedCells := fun _ h => List.mem_cons_of_mem _ (List.mem_append_right _ h)
  refine startW (fun H locs hP hS => ?_) hP hS
  refine lv_lconst (v := 1) hx hb dX6_reachedCells_0 (by decide) ?_
  refine lv_aload_n hx hb dX6_reachedCells_1 rfl (lv_at hl 1 rfl) ?_
  refine va_get (ci := 4) (v := .int wk) (C := RX5) (T := TX5) (N := 10) hx hb hts iX5 hown hK hP 2 rfl rfl 5 (by decide) f62 (fun _ h9 => h9) rfl dX6_reachedCells_2 ?_
  refine lv_lshl (v := 1 <<< (Int32.toInt64 wk &&& 63)) hx hb dX6_reachedCells_5 rfl ?_
  refine lv_lstore_n (lv' := [(2, .long (1 <<< (Int32.toInt64 wk &&& 63))), (0, .ref aW), (1, .ref aSc)]) hx hb dX6_reachedCells_6 rfl hl (by decide) rfl (fun ls hl => ?_)
  refine lv_iconst (v := 1) hx hb dX6_reachedCells_7 (by decide) ?_
  refine lv_istore (lv' := [(4, .int 1), (2, .long (1 <<< (Int32.toInt64 wk &&& 63))), (0, .ref aW), (1, .ref aSc)]) hx hb dX6_reachedCells_8 hl (by decide) rfl (fun ls hl => ?_)
  refine lv_aload_n hx hb dX6_reachedCells_10 rfl (lv_at hl 2 rfl) ?_
  refine va_get (ci := 5) (v := .ref aRe) (C := RX6) (T := TX6) (N := 4) hx hb hts iX6 hown hK hP 0 rfl rfl 3 (by decide) f22 (fun _ h9 => h9) rfl dX6_reachedCells_11 ?_
  refine lv_iconst (v := 0) hx hb dX6_reachedCells_14 (by decide) ?_
  refine lv_aload_n hx hb dX6_reachedCells_15 rfl (lv_at hl 3 rfl) ?_
  refine va_get (ci := 4) (v := .int wk) (C := RX5) (T := TX5) (N := 10) hx hb hts iX5 hown hK hP 2 rfl rfl 5 (by decide) f62 (fun _ h9 => h9) rfl dX6_reachedCells_16 ?_
  refine va_iast hx hb hK hP hD hS 1 0 rfl rfl (vp_in_nI (n := 0) (by decide) (by decide)) dX6_reachedCells_19 (fun H locs hP hD hS => ?_)
  have hP : va_P D vwCl [(aW, .inr (5, [.ref aPr, .ref aLe, .ref aSe, .ref aRe])), (aRe, .inl (y4.1, 64, .inl (upd RE (0 : Int32).toNatClampNeg wk))), (aSc, .inr (4, [.ref aK, .ref aC, .ref aS, .ref aF, .int lm, .int wk, .int stp, .int dm, .int tc, .long rm])), (aK, .inl (y4.1, 64, .inl K))] H := hP
  have hD : va_D A [(aW, .inr (5, [.ref aPr, .ref aLe, .ref aSe, .ref aRe])), (aRe, .inl (y4.1, 64, .inl (upd RE (0 : Int32).toNatClampNeg wk))), (aSc, .inr (4, [.ref aK, .ref aC, .ref aS, .ref aF, .int lm, .int wk, .int stp, .int dm, .int tc, .long rm])), (aK, .inl (y4.1, 64, .inl K))] := hD
  rw [(by decide : (0 : Int32).toNatClampNeg = 0)] at hP hD
  refine lv_iconst (v := 0) hx hb dX6_reachedCells_20 (by decide) ?_
  refine lv_istore (lv' := [(5, .int 0), (4, .int 1), (2, .long (1 <<< (Int32.toInt64 wk &&& 63))), (0, .ref aW), (1, .ref aSc)]) hx hb dX6_reachedCells_21 hl (by decide) rfl (fun ls hl => ?_)
  refine cutW (X := Int32 × Int64 × (Nat → Int32)) 114 (fun x H locs ls => ((lpx (f_X6_reachedCells_23 K) 64 0 ((1 : Int32), 1 <<< (Int32.toInt64 wk &&& 63), upd RE 0 wk)) = .inl (.inr x) ∨ (lpx (f_X6_reachedCells_23 K) 64 0 ((1 : Int32), 1 <<< (Int32.toInt64 wk &&& 63), upd RE 0 wk)) = .inr x) ∧ va_P D vwCl [(aW, .inr (5, [.ref aPr, .ref aLe, .ref aSe, .ref aRe])), (aRe, .inl (y4.1, 64, .inl x.2.2)), (aSc, .inr (4, [.ref aK, .ref aC, .ref aS, .ref aF, .int lm, .int wk, .int stp, .int dm, .int tc, .long rm])), (aK, .inl (y4.1, 64, .inl K))] H ∧ va_D A [(aW, .inr (5, [.ref aPr, .ref aLe, .ref aSe, .ref aRe])), (aRe, .inl (y4.1, 64, .inl x.2.2)), (aSc, .inr (4, [.ref aK, .ref aC, .ref aS, .ref aF, .int lm, .int wk, .int stp, .int dm, .int tc, .long rm])), (aK, .inl (y4.1, 64, .inl K))] ∧ va_S A s.heap H locs ∧ lv_has ls 8 [(4, .int x.1)]) (fun x => []) ?_ (fun K114 => ?_)
  · rintro t40 H locs ls ⟨et40, hP, hD, hS, hl⟩
    have hP : va_P D vwCl [(aW, .inr (5, [.ref aPr, .ref aLe, .ref aSe, .ref aRe])), (aRe, .inl (y4.1, 64, .inl t40.2.2)), (aSc, .inr (4, [.ref aK, .ref aC, .ref aS, .ref aF, .int lm, .int wk, .int stp, .int dm, .int tc, .long rm])), (aK, .inl (y4.1, 64, .inl K))] H := hP
    have hD : va_D A [(aW, .inr (5, [.ref aPr, .ref aLe, .ref aSe, .ref aRe])), (aRe, .inl (y4.1, 64, .inl t40.2.2)), (aSc, .inr (4, [.ref aK, .ref aC, .ref aS, .ref aF, .int lm, .int wk, .int stp, .int dm, .int tc, .long rm])), (aK, .inl (y4.1, 64, .inl K))] := hD
    have hl : lv_has ls 8 [(4, .int t40.1)] := hl
    refine lv_iload hx hb dX6_reachedCells_114 (lv_at hl 0 rfl) ?_
    have em : m_X6_reachedCells RE wk K = t40.1 := (by first | (simp only [m_X6_reachedCells, lpr_k et40]; done) | (simp only [m_X6_reachedCells, lpr_k et40]; rfl))
    exact W.iret (v := t40.1) hx hb hr (fun t ht hW => ⟨⟨t40.1, t40.2.2, rfl, (by rw [em]), ⟨by rw [ht]; exact hP, by exact hD⟩⟩, hS.F ht⟩) hS.2.2 dX6_reachedCells_116
  · refine loopX (σ := Int32 × Int64 × (Nat → Int32)) (ρ := Int32 ⊕ (Int32 × Int64 × (Nat → Int32))) 23 (f_X6_reachedCells_23 K) (fun _ t => riv t.1 t.2.2) 64 0 ((1 : Int32), 1 <<< (Int32.toInt64 wk &&& 63), upd RE 0 wk) (fun k1 t2 H locs ls => va_P D vwCl [(aW, .inr (5, [.ref aPr, .ref aLe, .ref aSe, .ref aRe])), (aRe, .inl (y4.1, 64, .inl t2.2.2)), (aSc, .inr (4, [.ref aK, .ref aC, .ref aS, .ref aF, .int lm, .int wk, .int stp, .int dm, .int tc, .long rm])), (aK, .inl (y4.1, 64, .inl K))] H ∧ va_D A [(aW, .inr (5, [.ref aPr, .ref aLe, .ref aSe, .ref aRe])), (aRe, .inl (y4.1, 64, .inl t2.2.2)), (aSc, .inr (4, [.ref aK, .ref aC, .ref aS, .ref aF, .int lm, .int wk, .int stp, .int dm, .int tc, .long rm])), (aK, .inl (y4.1, 64, .inl K))] ∧ va_S A s.heap H locs ∧ lv_has ls 8 [(5, .int (nI k1)), (4, .int t2.1), (2, .long t2.2.1), (0, .ref aW), (1, .ref aSc)]) (ri_0 hwk) ⟨hP, hD, hS, lv_sub hl [0, 1, 2, 3, 4] rfl⟩ (fun t37 H locs ls et37 hit37 hh => ?_) (fun k1 t2 hkk1 hjk1 hik1 hretk1 ihk1 H locs ls hh => ?_)
    · obtain ⟨hP, hD, hS, hl⟩ := hh
      have hP : va_P D vwCl [(aW, .inr (5, [.ref aPr, .ref aLe, .ref aSe, .ref aRe])), (aRe, .inl (y4.1, 64, .inl t37.2.2)), (aSc, .inr (4, [.ref aK, .ref aC, .ref aS, .ref aF, .int lm, .int wk, .int stp, .int dm, .int tc, .long rm])), (aK, .inl (y4.1, 64, .inl K))] H := hP
      have hD : va_D A [(aW, .inr (5, [.ref aPr, .ref aLe, .ref aSe, .ref aRe])), (aRe, .inl (y4.1, 64, .inl t37.2.2)), (aSc, .inr (4, [.ref aK, .ref aC, .ref aS, .ref aF, .int lm, .int wk, .int stp, .int dm, .int tc, .long rm])), (aK, .inl (y4.1, 64, .inl K))] := hD
      have hl : lv_has ls 8 [(5, .int (nI 64)), (4, .int t37.1), (2, .long t37.2.1), (0, .ref aW), (1, .ref aSc)] := hl
      refine lv_iload hx hb dX6_reachedCells_23 (lv_at hl 0 rfl) ?_
      refine lv_iload hx hb dX6_reachedCells_25 (lv_at hl 1 rfl) ?_
      refine lv_icmp_ge (tgt := 114) hx hb dX6_reachedCells_27 (by decide) (fun c38 => ?_) (fun c38 => ?_)
      · exact K114 t37 H locs ls ⟨Or.inr et37, hP, hD, hS, lv_sub hl [1] rfl⟩
      · refine lv_iload hx hb dX6_reachedCells_30 (lv_at hl 0 rfl) ?_
        refine lv_bipush (v := 64) hx hb dX6_reachedCells_32 (by decide) ?_
        refine lv_icmp_ge (tgt := 114) hx hb dX6_reachedCells_34 (by decide) (fun c39 => ?_) (fun c39 => absurd (nI_le (a := 64) (by omega) (by omega)) c39)
        exact K114 t37 H locs ls ⟨Or.inr et37, hP, hD, hS, lv_sub hl [1] rfl⟩
    · obtain ⟨hP, hD, hS, hl⟩ := hh
      have hP : va_P D vwCl [(aW, .inr (5, [.ref aPr, .ref aLe, .ref aSe, .ref aRe])), (aRe, .inl (y4.1, 64, .inl t2.2.2)), (aSc, .inr (4, [.ref aK, .ref aC, .ref aS, .ref aF, .int lm, .int wk, .int stp, .int dm, .int tc, .long rm])), (aK, .inl (y4.1, 64, .inl K))] H := hP
      have hD : va_D A [(aW, .inr (5, [.ref aPr, .ref aLe, .ref aSe, .ref aRe])), (aRe, .inl (y4.1, 64, .inl t2.2.2)), (aSc, .inr (4, [.ref aK, .ref aC, .ref aS, .ref aF, .int lm, .int wk, .int stp, .int dm, .int tc, .long rm])), (aK, .inl (y4.1, 64, .inl K))] := hD
      have hl : lv_has ls 8 [(5, .int (nI k1)), (4, .int t2.1), (2, .long t2.2.1), (0, .ref aW), (1, .ref aSc)] := hl
      have hout : riv t2.1 t2.2.2 := hik1
      refine lv_iload hx hb dX6_reachedCells_23 (lv_at hl 0 rfl) ?_
      refine lv_iload hx hb dX6_reachedCells_25 (lv_at hl 1 rfl) ?_
      refine lv_icmp_ge (tgt := 114) hx hb dX6_reachedCells_27 (by decide) (fun c20 => ?_) (fun c20 => ?_)
      · have ef : (f_X6_reachedCells_23 K) k1 t2 = .inl (.inr (t2.1, t2.2.1, t2.2.2)) := (by first | (simp only [f_X6_reachedCells_23, if_pos c20]; done) | (simp only [f_X6_reachedCells_23, if_pos c20]; rfl))
        exact K114 (t2.1, t2.2.1, t2.2.2) H locs ls ⟨Or.inl (hretk1 _ ef), hP, hD, hS, lv_sub hl [1] rfl⟩
      · refine lv_iload hx hb dX6_reachedCells_30 (lv_at hl 0 rfl) ?_
        refine lv_bipush (v := 64) hx hb dX6_reachedCells_32 (by decide) ?_
        refine lv_icmp_ge (tgt := 114) hx hb dX6_reachedCells_34 (by decide) (fun c21 => absurd c21 (nI_ge (b := 64) (by omega) (by omega))) (fun c21 => ?_)
        refine lv_iconst (v := 0) hx hb dX6_reachedCells_37 (by decide) ?_
        refine lv_istore (lv' := [(6, .int 0), (5, .int (nI k1)), (4, .int t2.1), (2, .long t2.2.1), (0, .ref aW), (1, .ref aSc)]) hx hb dX6_reachedCells_38 hl (by decide) rfl (fun ls hl => ?_)
        refine cutW (X := Int32 × Int64 × (Nat → Int32)) 108 (fun x H locs ls => ((lpx (f_X6_reachedCells_40 K k1) 4 0 (t2.1, t2.2.1, t2.2.2)) = .inl x ∨ (lpx (f_X6_reachedCells_40 K k1) 4 0 (t2.1, t2.2.1, t2.2.2)) = .inr x) ∧ (∃ kk : Nat, (fun _ t => riv t.1 t.2.2 ∧ ((k1 : Nat) : Int) < t.1.toInt) kk x) ∧ va_P D vwCl [(aW, .inr (5, [.ref aPr, .ref aLe, .ref aSe, .ref aRe])), (aRe, .inl (y4.1, 64, .inl x.2.2)), (aSc, .inr (4, [.ref aK, .ref aC, .ref aS, .ref aF, .int lm, .int wk, .int stp, .int dm, .int tc, .long rm])), (aK, .inl (y4.1, 64, .inl K))] H ∧ va_D A [(aW, .inr (5, [.ref aPr, .ref aLe, .ref aSe, .ref aRe])), (aRe, .inl (y4.1, 64, .inl x.2.2)), (aSc, .inr (4, [.ref aK, .ref aC, .ref aS, .ref aF, .int lm, .int wk, .int stp, .int dm, .int tc, .long rm])), (aK, .inl (y4.1, 64, .inl K))] ∧ va_S A s.heap H locs ∧ lv_has ls 8 [(5, .int (nI k1)), (4, .int x.1), (2, .long x.2.1), (0, .ref aW), (1, .ref aSc)]) (fun x => []) ?_ (fun K108 => ?_)
        · rintro t36 H locs ls ⟨et36, ⟨_, hIt36⟩, hP, hD, hS, hl⟩
          have hP : va_P D vwCl [(aW, .inr (5, [.ref aPr, .ref aLe, .ref aSe, .ref aRe])), (aRe, .inl (y4.1, 64, .inl t36.2.2)), (aSc, .inr (4, [.ref aK, .ref aC, .ref aS, .ref aF, .int lm, .int wk, .int stp, .int dm, .int tc, .long rm])), (aK, .inl (y4.1, 64, .inl K))] H := hP
          have hD : va_D A [(aW, .inr (5, [.ref aPr, .ref aLe, .ref aSe, .ref aRe])), (aRe, .inl (y4.1, 64, .inl t36.2.2)), (aSc, .inr (4, [.ref aK, .ref aC, .ref aS, .ref aF, .int lm, .int wk, .int stp, .int dm, .int tc, .long rm])), (aK, .inl (y4.1, 64, .inl K))] := hD
          have hl : lv_has ls 8 [(5, .int (nI k1)), (4, .int t36.1), (2, .long t36.2.1), (0, .ref aW), (1, .ref aSc)] := hl
          replace et36 : t36 = lpe (lpx (f_X6_reachedCells_40 K k1) 4 0 (t2.1, t2.2.1, t2.2.2)) := lpe_eq et36
          obtain ⟨kk2, hin2⟩ : ∃ kk2 : Nat, riv t36.1 t36.2.2 ∧ ((k1 : Nat) : Int) < t36.1.toInt := ⟨0, hIt36⟩
          refine lv_iinc (v := nI (k1 + 1)) (lv' := [(5, .int (nI (k1 + 1))), (4, .int t36.1), (2, .long t36.2.1), (0, .ref aW), (1, .ref aSc)]) hx hb dX6_reachedCells_108 hl (k := 0) rfl (nI_1 _) (by decide) rfl (fun ls hl => ?_)
          refine lv_goto (tgt := 23) hx hb dX6_reachedCells_111 (by decide) ?_
          have ef : (f_X6_reachedCells_23 K) k1 t2 = .inr (t36.1, t36.2.1, t36.2.2) := (by replace et36 := Eq.symm et36; subst et36; first | (simp only [f_X6_reachedCells_23, if_neg c20]; done) | (simp only [f_X6_reachedCells_23, if_neg c20]; rfl))
          exact ihk1 _ ef hin2.1 H locs ls ⟨hP, hD, hS, lv_sub hl [0, 1, 2, 3, 4] rfl⟩
        · refine loopX (σ := Int32 × Int64 × (Nat → Int32)) (ρ := Int32 × Int64 × (Nat → Int32)) 40 (f_X6_reachedCells_40 K k1) (fun _ t => riv t.1 t.2.2 ∧ ((k1 : Nat) : Int) < t.1.toInt) 4 0 (t2.1, t2.2.1, t2.2.2) (fun k22 t23 H locs ls => va_P D vwCl [(aW, .inr (5, [.ref aPr, .ref aLe, .ref aSe, .ref aRe])), (aRe, .inl (y4.1, 64, .inl t23.2.2)), (aSc, .inr (4, [.ref aK, .ref aC, .ref aS, .ref aF, .int lm, .int wk, .int stp, .int dm, .int tc, .long rm])), (aK, .inl (y4.1, 64, .inl K))] H ∧ va_D A [(aW, .inr (5, [.ref aPr, .ref aLe, .ref aSe, .ref aRe])), (aRe, .inl (y4.1, 64, .inl t23.2.2)), (aSc, .inr (4, [.ref aK, .ref aC, .ref aS, .ref aF, .int lm, .int wk, .int stp, .int dm, .int tc, .long rm])), (aK, .inl (y4.1, 64, .inl K))] ∧ va_S A s.heap H locs ∧ lv_has ls 8 [(6, .int (nI k22)), (5, .int (nI k1)), (4, .int t23.1), (2, .long t23.2.1), (0, .ref aW), (1, .ref aSc)]) ⟨hout, ri_lt hout (by omega) (by assumption)⟩ ⟨hP, hD, hS, lv_sub hl [0, 1, 2, 3, 4, 5] rfl⟩ (fun t34 H locs ls et34 hit34 hh => ?_) (fun k22 t23 hkk22 hjk22 hik22 hretk22 ihk22 H locs ls hh => ?_)
          · obtain ⟨hP, hD, hS, hl⟩ := hh
            have hP : va_P D vwCl [(aW, .inr (5, [.ref aPr, .ref aLe, .ref aSe, .ref aRe])), (aRe, .inl (y4.1, 64, .inl t34.2.2)), (aSc, .inr (4, [.ref aK, .ref aC, .ref aS, .ref aF, .int lm, .int wk, .int stp, .int dm, .int tc, .long rm])), (aK, .inl (y4.1, 64, .inl K))] H := hP
            have hD : va_D A [(aW, .inr (5, [.ref aPr, .ref aLe, .ref aSe, .ref aRe])), (aRe, .inl (y4.1, 64, .inl t34.2.2)), (aSc, .inr (4, [.ref aK, .ref aC, .ref aS, .ref aF, .int lm, .int wk, .int stp, .int dm, .int tc, .long rm])), (aK, .inl (y4.1, 64, .inl K))] := hD
            have hl : lv_has ls 8 [(6, .int (nI 4)), (5, .int (nI k1)), (4, .int t34.1), (2, .long t34.2.1), (0, .ref aW), (1, .ref aSc)] := hl
            refine lv_iload hx hb dX6_reachedCells_40 (lv_at hl 0 rfl) ?_
            refine lv_iconst (v := 4) hx hb dX6_reachedCells_42 (by decide) ?_
            refine lv_icmp_ge (tgt := 108) hx hb dX6_reachedCells_43 (by decide) (fun c35 => ?_) (fun c35 => absurd (nI_le (a := 4) (by omega) (by omega)) c35)
            exact K108 t34 H locs ls ⟨Or.inr et34, ⟨4, hit34⟩, hP, hD, hS, lv_sub hl [1, 2, 3, 4, 5] rfl⟩
          · obtain ⟨hP, hD, hS, hl⟩ := hh
            have hP : va_P D vwCl [(aW, .inr (5, [.ref aPr, .ref aLe, .ref aSe, .ref aRe])), (aRe, .inl (y4.1, 64, .inl t23.2.2)), (aSc, .inr (4, [.ref aK, .ref aC, .ref aS, .ref aF, .int lm, .int wk, .int stp, .int dm, .int tc, .long rm])), (aK, .inl (y4.1, 64, .inl K))] H := hP
            have hD : va_D A [(aW, .inr (5, [.ref aPr, .ref aLe, .ref aSe, .ref aRe])), (aRe, .inl (y4.1, 64, .inl t23.2.2)), (aSc, .inr (4, [.ref aK, .ref aC, .ref aS, .ref aF, .int lm, .int wk, .int stp, .int dm, .int tc, .long rm])), (aK, .inl (y4.1, 64, .inl K))] := hD
            have hl : lv_has ls 8 [(6, .int (nI k22)), (5, .int (nI k1)), (4, .int t23.1), (2, .long t23.2.1), (0, .ref aW), (1, .ref aSc)] := hl
            have hin : riv t23.1 t23.2.2 ∧ ((k1 : Nat) : Int) < t23.1.toInt := hik22
            refine lv_iload hx hb dX6_reachedCells_40 (lv_at hl 0 rfl) ?_
            refine lv_iconst (v := 4) hx hb dX6_reachedCells_42 (by decide) ?_
            refine lv_icmp_ge (tgt := 108) hx hb dX6_reachedCells_43 (by decide) (fun c29 => absurd c29 (nI_ge (b := 4) (by omega) (by omega))) (fun c29 => ?_)
            refine lv_aload_n hx hb dX6_reachedCells_46 rfl (lv_at hl 5 rfl) ?_
            refine lv_aload_n hx hb dX6_reachedCells_47 rfl (lv_at hl 4 rfl) ?_
            refine va_get (ci := 5) (v := .ref aRe) (C := RX6) (T := TX6) (N := 4) hx hb hts iX6 hown hK hP 0 rfl rfl 3 (by decide) f22 (fun _ h9 => h9) rfl dX6_reachedCells_48 ?_
            refine lv_iload hx hb dX6_reachedCells_51 (lv_at hl 1 rfl) ?_
            refine va_iald hx hb hK hP 1 0 rfl rfl (vp_in_nI (by omega) (by decide)) dX6_reachedCells_53 ?_
            refine lv_iload hx hb dX6_reachedCells_54 (lv_at hl 0 rfl) ?_
            refine callW_i (wr := [(aW, .inr (5, [.ref aPr, .ref aLe, .ref aSe, .ref aRe])), (aRe, .inl (y4.1, 64, .inl t23.2.2))]) (wn := fun u => [(aW, .inr (5, [.ref aPr, .ref aLe, .ref aSe, .ref aRe])), (aRe, .inl (y4.1, 64, .inl t23.2.2)), (aSc, .inr (4, [.ref aK, .ref aC, .ref aS, .ref aF, .int lm, .int wk, .int stp, .int dm, .int tc, .long rm])), (aK, .inl (y4.1, 64, .inl K))]) (va_runV (As := [.int (t23.2.2 (nI k1).toNatClampNeg), .int (nI k22)]) (rest := []) ⟨hx, hb, hml, hown, hts⟩ (met_X5_nextOnFoot l D y4 aSc aK aC aS aF H.size lm wk stp dm tc rm K (t23.2.2 (nI k1).toNatClampNeg) (nI k22) (ri_at hin.1 hin.2)) (cwV 2 hts gX6_reachedCells_X5_nextOnFoot rfl rfl rfl (by decide +kernel) ⟨Nat.le_of_ble_eq_true rfl, Nat.le_of_ble_eq_true rfl⟩) ⟨preW_blind, va_recv hK hP (ci := 4) (q0 := 2) rfl rfl, preW_at (hP.sub (ws' := [(aSc, .inr (4, [.ref aK, .ref aC, .ref aS, .ref aF, .int lm, .int wk, .int stp, .int dm, .int tc, .long rm])), (aK, .inl (y4.1, 64, .inl K))]) [2, 3] rfl) hK (hD.sub (ws' := [(aSc, .inr (4, [.ref aK, .ref aC, .ref aS, .ref aF, .int lm, .int wk, .int stp, .int dm, .int tc, .long rm])), (aK, .inl (y4.1, 64, .inl K))]) [2, 3] (by decide) rfl) hNW⟩ rfl rfl hl.1 rfl (lv_room (Nat.le_of_ble_eq_true rfl)) dX6_reachedCells_56 ⟨Nat.zero_le _, Nat.zero_le _⟩) hP hD hS hA [2, 3] [0, 1] [0, 1, 2, 3] rfl rfl (by decide) (by decide) (fun _ => rfl) (by decide) (fun r u30 H locs hw hP hD hS => ?_)
            replace hw := Eq.symm hw
            subst hw
            have hP : va_P D vwCl [(aW, .inr (5, [.ref aPr, .ref aLe, .ref aSe, .ref aRe])), (aRe, .inl (y4.1, 64, .inl t23.2.2)), (aSc, .inr (4, [.ref aK, .ref aC, .ref aS, .ref aF, .int lm, .int wk, .int stp, .int dm, .int tc, .long rm])), (aK, .inl (y4.1, 64, .inl K))] H := hP
            have hD : va_D A [(aW, .inr (5, [.ref aPr, .ref aLe, .ref aSe, .ref aRe])), (aRe, .inl (y4.1, 64, .inl t23.2.2)), (aSc, .inr (4, [.ref aK, .ref aC, .ref aS, .ref aF, .int lm, .int wk, .int stp, .int dm, .int tc, .long rm])), (aK, .inl (y4.1, 64, .inl K))] := hD
            refine lv_istore (lv' := [(7, .int (m_X5_nextOnFoot K (t23.2.2 (nI k1).toNatClampNeg) (nI k22))), (6, .int (nI k22)), (5, .int (nI k1)), (4, .int t23.1), (2, .long t23.2.1), (0, .ref aW), (1, .ref aSc)]) hx hb dX6_reachedCells_59 hl (by decide) rfl (fun ls hl => ?_)
            refine lv_iload hx hb dX6_reachedCells_61 (lv_at hl 0 rfl) ?_
            refine lv_iconst (v := (-1)) hx hb dX6_reachedCells_63 (by decide) ?_
            refine lv_icmp_eq (tgt := 102) hx hb dX6_reachedCells_64 (by decide) (fun c31 => ?_) (fun c31 => ?_)
            · refine lv_iinc (v := nI (k22 + 1)) (lv' := [(6, .int (nI (k22 + 1))), (7, .int (m_X5_nextOnFoot K (t23.2.2 (nI k1).toNatClampNeg) (nI k22))), (5, .int (nI k1)), (4, .int t23.1), (2, .long t23.2.1), (0, .ref aW), (1, .ref aSc)]) hx hb dX6_reachedCells_102 hl (k := 1) rfl (nI_1 _) (by decide) rfl (fun ls hl => ?_)
              refine lv_goto (tgt := 40) hx hb dX6_reachedCells_105 (by decide) ?_
              have ef : (f_X6_reachedCells_40 K k1) k22 t23 = .inr (t23.1, t23.2.1, t23.2.2) := (by first | (simp only [f_X6_reachedCells_40, if_pos c31]; done) | (simp only [f_X6_reachedCells_40, if_pos c31]; rfl))
              exact ihk22 _ ef (by first | exact hin | exact ⟨(ri_put hin.1 (by assumption) ((nf_in (ri_at hin.1 hin.2)).resolve_left (by assumption))).1, by show ((k1 : Nat) : Int) < (t23.1 + 1).toInt; have := (ri_put hin.1 (by assumption) ((nf_in (K := K) (d := nI k22) (ri_at hin.1 hin.2)).resolve_left (by assumption))).2; have := hin.2; omega⟩) H locs ls ⟨hP, hD, hS, lv_sub hl [0, 2, 3, 4, 5, 6] rfl⟩
            · refine lv_lload_n hx hb dX6_reachedCells_67 rfl (lv_at hl 4 rfl) ?_
              refine lv_iload hx hb dX6_reachedCells_68 (lv_at hl 0 rfl) ?_
              refine callK_i (va_runSN (As := [.long t23.2.1, .int (m_X5_nextOnFoot K (t23.2.2 (nI k1).toNatClampNeg) (nI k22))]) (rest := []) ⟨hx, hb, hml, hown, hts⟩ (met_X7_bitOf l  t23.2.1 (m_X5_nextOnFoot K (t23.2.2 (nI k1).toNatClampNeg) (nI k22))) ⟨va_cnB 2 hts gX6_reachedCells_X7_bitOf_n69 rfl rfl rfl hNW.2 (hts _ (List.mem_of_getElem? (i := 23) rfl)) (by decide +kernel) ⟨Nat.le_of_ble_eq_true rfl, Nat.le_of_ble_eq_true rfl⟩, hts _ (List.mem_of_getElem? (i := 22) rfl), trivial⟩ ⟨preS_blind, fun U hU hW => ⟨rfl, trivial⟩⟩ rfl rfl hl.1 rfl (lv_room (Nat.le_of_ble_eq_true rfl)) dX6_reachedCells_70 ⟨Nat.zero_le _, Nat.zero_le _⟩) hP hS (fun r u H locs hw hP hS => ?_)
              replace hw := Eq.symm hw
              subst hw
              refine lv_if_ne (tgt := 102) hx hb dX6_reachedCells_73 (by decide) (fun c32 => ?_) (fun c32 => ?_)
              · refine lv_iinc (v := nI (k22 + 1)) (lv' := [(6, .int (nI (k22 + 1))), (7, .int (m_X5_nextOnFoot K (t23.2.2 (nI k1).toNatClampNeg) (nI k22))), (5, .int (nI k1)), (4, .int t23.1), (2, .long t23.2.1), (0, .ref aW), (1, .ref aSc)]) hx hb dX6_reachedCells_102 hl (k := 1) rfl (nI_1 _) (by decide) rfl (fun ls hl => ?_)
                refine lv_goto (tgt := 40) hx hb dX6_reachedCells_105 (by decide) ?_
                have ef : (f_X6_reachedCells_40 K k1) k22 t23 = .inr (t23.1, t23.2.1, t23.2.2) := (by first | (simp only [f_X6_reachedCells_40, if_neg c31, if_neg c32]; done) | (simp only [f_X6_reachedCells_40, if_neg c31, if_neg c32]; rfl))
                exact ihk22 _ ef (by first | exact hin | exact ⟨(ri_put hin.1 (by assumption) ((nf_in (ri_at hin.1 hin.2)).resolve_left (by assumption))).1, by show ((k1 : Nat) : Int) < (t23.1 + 1).toInt; have := (ri_put hin.1 (by assumption) ((nf_in (K := K) (d := nI k22) (ri_at hin.1 hin.2)).resolve_left (by assumption))).2; have := hin.2; omega⟩) H locs ls ⟨hP, hD, hS, lv_sub hl [0, 2, 3, 4, 5, 6] rfl⟩
              · refine lv_iload hx hb dX6_reachedCells_76 (lv_at hl 3 rfl) ?_
                refine lv_bipush (v := 64) hx hb dX6_reachedCells_78 (by decide) ?_
                refine lv_icmp_ge (tgt := 102) hx hb dX6_reachedCells_80 (by decide) (fun c33 => ?_) (fun c33 => ?_)
                · refine lv_iinc (v := nI (k22 + 1)) (lv' := [(6, .int (nI (k22 + 1))), (7, .int (m_X5_nextOnFoot K (t23.2.2 (nI k1).toNatClampNeg) (nI k22))), (5, .int (nI k1)), (4, .int t23.1), (2, .long t23.2.1), (0, .ref aW), (1, .ref aSc)]) hx hb dX6_reachedCells_102 hl (k := 1) rfl (nI_1 _) (by decide) rfl (fun ls hl => ?_)
                  refine lv_goto (tgt := 40) hx hb dX6_reachedCells_105 (by decide) ?_
                  have ef : (f_X6_reachedCells_40 K k1) k22 t23 = .inr (t23.1, t23.2.1, t23.2.2) := (by first | (simp only [f_X6_reachedCells_40, if_neg c31, if_pos c32, if_pos c33]; done) | (simp only [f_X6_reachedCells_40, if_neg c31, if_pos c32, if_pos c33]; rfl))
                  exact ihk22 _ ef (by first | exact hin | exact ⟨(ri_put hin.1 (by assumption) ((nf_in (ri_at hin.1 hin.2)).resolve_left (by assumption))).1, by show ((k1 : Nat) : Int) < (t23.1 + 1).toInt; have := (ri_put hin.1 (by assumption) ((nf_in (K := K) (d := nI k22) (ri_at hin.1 hin.2)).resolve_left (by assumption))).2; have := hin.2; omega⟩) H locs ls ⟨hP, hD, hS, lv_sub hl [0, 2, 3, 4, 5, 6] rfl⟩
                · refine lv_lload_n hx hb dX6_reachedCells_83 rfl (lv_at hl 4 rfl) ?_
                  refine lv_lconst (v := 1) hx hb dX6_reachedCells_84 (by decide) ?_
                  refine lv_iload hx hb dX6_reachedCells_85 (lv_at hl 0 rfl) ?_
                  refine lv_lshl (v := 1 <<< (Int32.toInt64 (m_X5_nextOnFoot K (t23.2.2 (nI k1).toNatClampNeg) (nI k22)) &&& 63)) hx hb dX6_reachedCells_87 rfl ?_
                  refine lv_lor hx hb dX6_reachedCells_88 ?_
                  refine lv_lstore_n (lv' := [(2, .long (t23.2.1 ||| (1 <<< (Int32.toInt64 (m_X5_nextOnFoot K (t23.2.2 (nI k1).toNatClampNeg) (nI k22)) &&& 63)))), (7, .int (m_X5_nextOnFoot K (t23.2.2 (nI k1).toNatClampNeg) (nI k22))), (6, .int (nI k22)), (5, .int (nI k1)), (4, .int t23.1), (0, .ref aW), (1, .ref aSc)]) hx hb dX6_reachedCells_89 rfl hl (by decide) rfl (fun ls hl => ?_)
                  refine lv_aload_n hx hb dX6_reachedCells_90 rfl (lv_at hl 5 rfl) ?_
                  refine va_get (ci := 5) (v := .ref aRe) (C := RX6) (T := TX6) (N := 4) hx hb hts iX6 hown hK hP 0 rfl rfl 3 (by decide) f22 (fun _ h9 => h9) rfl dX6_reachedCells_91 ?_
                  refine lv_iload hx hb dX6_reachedCells_94 (lv_at hl 4 rfl) ?_
                  refine lv_iload hx hb dX6_reachedCells_96 (lv_at hl 1 rfl) ?_
                  refine va_iast hx hb hK hP hD hS 1 0 rfl rfl (ri_f hin.1 (by assumption)) dX6_reachedCells_98 (fun H locs hP hD hS => ?_)
                  have hP : va_P D vwCl [(aW, .inr (5, [.ref aPr, .ref aLe, .ref aSe, .ref aRe])), (aRe, .inl (y4.1, 64, .inl (upd t23.2.2 (t23.1).toNatClampNeg (m_X5_nextOnFoot K (t23.2.2 (nI k1).toNatClampNeg) (nI k22))))), (aSc, .inr (4, [.ref aK, .ref aC, .ref aS, .ref aF, .int lm, .int wk, .int stp, .int dm, .int tc, .long rm])), (aK, .inl (y4.1, 64, .inl K))] H := hP
                  have hD : va_D A [(aW, .inr (5, [.ref aPr, .ref aLe, .ref aSe, .ref aRe])), (aRe, .inl (y4.1, 64, .inl (upd t23.2.2 (t23.1).toNatClampNeg (m_X5_nextOnFoot K (t23.2.2 (nI k1).toNatClampNeg) (nI k22))))), (aSc, .inr (4, [.ref aK, .ref aC, .ref aS, .ref aF, .int lm, .int wk, .int stp, .int dm, .int tc, .long rm])), (aK, .inl (y4.1, 64, .inl K))] := hD
                  refine lv_iinc (v := t23.1 + 1) (lv' := [(4, .int (t23.1 + 1)), (2, .long (t23.2.1 ||| (1 <<< (Int32.toInt64 (m_X5_nextOnFoot K (t23.2.2 (nI k1).toNatClampNeg) (nI k22)) &&& 63)))), (7, .int (m_X5_nextOnFoot K (t23.2.2 (nI k1).toNatClampNeg) (nI k22))), (6, .int (nI k22)), (5, .int (nI k1)), (0, .ref aW), (1, .ref aSc)]) hx hb dX6_reachedCells_99 hl (k := 4) rfl rfl (by decide) rfl (fun ls hl => ?_)
                  refine lv_iinc (v := nI (k22 + 1)) (lv' := [(6, .int (nI (k22 + 1))), (4, .int (t23.1 + 1)), (2, .long (t23.2.1 ||| (1 <<< (Int32.toInt64 (m_X5_nextOnFoot K (t23.2.2 (nI k1).toNatClampNeg) (nI k22)) &&& 63)))), (7, .int (m_X5_nextOnFoot K (t23.2.2 (nI k1).toNatClampNeg) (nI k22))), (5, .int (nI k1)), (0, .ref aW), (1, .ref aSc)]) hx hb dX6_reachedCells_102 hl (k := 3) rfl (nI_1 _) (by decide) rfl (fun ls hl => ?_)
                  refine lv_goto (tgt := 40) hx hb dX6_reachedCells_105 (by decide) ?_
                  have ef : (f_X6_reachedCells_40 K k1) k22 t23 = .inr (t23.1 + 1, t23.2.1 ||| (1 <<< (Int32.toInt64 (m_X5_nextOnFoot K (t23.2.2 (nI k1).toNatClampNeg) (nI k22)) &&& 63)), upd t23.2.2 (t23.1).toNatClampNeg (m_X5_nextOnFoot K (t23.2.2 (nI k1).toNatClampNeg) (nI k22))) := (by first | (simp only [f_X6_reachedCells_40, if_neg c31, if_pos c32, if_neg c33]; done) | (simp only [f_X6_reachedCells_40, if_neg c31, if_pos c32, if_neg c33]; rfl))
                  exact ihk22 _ ef (by first | exact hin | exact ⟨(ri_put hin.1 (by assumption) ((nf_in (ri_at hin.1 hin.2)).resolve_left (by assumption))).1, by show ((k1 : Nat) : Int) < (t23.1 + 1).toInt; have := (ri_put hin.1 (by assumption) ((nf_in (K := K) (d := nI k22) (ri_at hin.1 hin.2)).resolve_left (by assumption))).2; have := hin.2; omega⟩) H locs ls ⟨hP, hD, hS, lv_sub hl [0, 4, 1, 2, 5, 6] rfl⟩
