theorem MI_kind {RO : Nat → Int32} (h : MI RO) {x : Nat} (hx : x < 128) (v : Int32) : MI (upd RO x v) := by
  obtain ⟨h1, h2, h3⟩ := h
  have e1 : upd RO x v 128 = RO 128 := pk_un (by omega)
  have e2 : upd RO x v 147 = RO 147 := pk_un (by omega)
  refine ⟨by rw [e1]; exact h1, fun i hi => ?_, by rw [e2]; exact h3⟩
  rw [e1] at hi
  have h6 := cl_lt h1
  have := h2 i hi
  rw [o129 i (by omega)] at this ⊢
  rw [pk_un (by omega)]
  exact this
theorem o0 : ∀ k : Nat, k < 64 → ((0 : Int32) + nI k).toNatClampNeg = k := by decide +kernel
theorem o0_lt {c : Int32} (h : vp_in c 64) : ((0 : Int32) + c).toNatClampNeg < 128 := by
  obtain ⟨j, hj, rfl⟩ := vp_in_of h (by decide)
  rw [o0 j hj]; omega
/-- lampIn: no lamp, or a number below their count -/
theorem li_fold (RO : Nat → Int32) (ce : Int32) : ∀ n : Nat, n ≤ 6 → itr (f_X8_lampIn_5 RO ce) n (-4) = -4 ∨ ∃ j : Nat, j < n ∧ itr (f_X8_lampIn_5 RO ce) n (-4) = nI j := by
  intro n
  induction n with
  | zero => intro _; exact Or.inl rfl
  | succ n ih =>
    intro hn
    have e : itr (f_X8_lampIn_5 RO ce) (n + 1) (-4) = f_X8_lampIn_5 RO ce n (itr (f_X8_lampIn_5 RO ce) n (-4)) := rfl
    rw [e]
    unfold f_X8_lampIn_5
    dsimp only
    split
    · exact Or.inr ⟨n, by omega, rfl⟩
    · rcases ih (by omega) with h | ⟨j, hj, h⟩
      · exact Or.inl h
      · exact Or.inr ⟨j, by omega, h⟩
theorem li_in {RO : Nat → Int32} (h : MI RO) (ce : Int32) : m_X8_lampIn RO ce = -4 ∨ (0 ≤ (m_X8_lampIn RO ce).toInt ∧ (m_X8_lampIn RO ce).toInt < (RO 128).toInt) := by
  have h6 := cl_lt h.1
  have ht := cl_toInt h.1.1
  rcases li_fold RO ce (RO 128).toNatClampNeg h6 with q | ⟨j, hj, q⟩
  · exact Or.inl q
  · right
    have e : m_X8_lampIn RO ce = nI j := q
    rw [e, nI_toInt (by omega)]
    omega

def rlI (RO : Nat → Int32) (t : Nat → Int32) : Prop := ∀ x : Nat, x < 129 ∨ 147 ≤ x → t x = upd RO 128 (RO 128 - 1) x
theorem rl_128 {RO t : Nat → Int32} (h : rlI RO t) : t 128 = RO 128 - 1 := (h 128 (by omega)).trans pk_us
theorem rl_sub {b j : Int32} (hb : 0 ≤ b.toInt ∧ b.toInt ≤ (6 : Nat)) (hj : 0 ≤ j.toInt ∧ j.toInt < b.toInt) : 0 ≤ (b - 1).toInt ∧ (b - 1).toInt ≤ (5 : Nat) ∧ (b - 1).toInt = b.toInt - 1 := by
  have h1 : (1 : Int32).toInt = 1 := by decide
  have h2 := Int32.toInt_sub b 1
  have h3 : (b.toInt - (1 : Int32).toInt).bmod (2 ^ 32) = b.toInt - 1 := by
    rw [h1]; apply Int.bmod_eq_of_le <;> omega
  rw [h2, h3]
  omega
theorem rl_step {RO t : Nat → Int32} (h : rlI RO t) {k : Nat} (hk : k < 6) (v1 v2 v3 : Int32) : rlI RO (upd (upd (upd t ((129 : Int32) + nI k).toNatClampNeg v1) ((135 : Int32) + nI k).toNatClampNeg v2) ((141 : Int32) + nI k).toNatClampNeg v3) := by
  intro x hx
  rw [o129 k hk, o135 k hk, o141 k hk, pk_un (by omega), pk_un (by omega), pk_un (by omega)]
  exact h x hx
theorem o130 : ∀ k : Nat, k < 6 → (0 ≤ (((129 : Int32) + nI k) + 1).toInt ∧ (((129 : Int32) + nI k) + 1).toInt < (151 : Nat)) ∧ (0 ≤ (((135 : Int32) + nI k) + 1).toInt ∧ (((135 : Int32) + nI k) + 1).toInt < (151 : Nat)) ∧ (0 ≤ (((141 : Int32) + nI k) + 1).toInt ∧ (((141 : Int32) + nI k) + 1).toInt < (151 : Nat)) := by decide +kernel
theorem rl_sub6 {b j : Int32} (hb : 0 ≤ b.toInt ∧ b.toInt ≤ (6 : Nat)) (hj : 0 ≤ j.toInt ∧ j.toInt < b.toInt) : 0 ≤ (b - 1).toInt ∧ (b - 1).toInt ≤ (6 : Nat) := by
  have := rl_sub hb hj
  omega
theorem rl_m {RO t : Nat → Int32} {j : Int32} (hb : 0 ≤ (RO 128).toInt ∧ (RO 128).toInt ≤ (6 : Nat)) (hj : 0 ≤ j.toInt ∧ j.toInt < (RO 128).toInt) (h : rlI RO t) : ∃ m : Nat, m < 6 ∧ t 128 = nI m := by
  have h1 := rl_sub hb hj
  refine ⟨(RO 128 - 1).toNatClampNeg, ?_, by rw [rl_128 h]; exact cl_nI h1.1⟩
  have := cl_toInt h1.1
  omega
theorem b129 {m : Nat} (h : m < 6) : vp_in ((129 : Int32) + nI m) 151 := off_in (vp_in_nI h (by decide)) (by decide) (by decide) (by decide)
theorem b135 {m : Nat} (h : m < 6) : vp_in ((135 : Int32) + nI m) 151 := off_in (vp_in_nI h (by decide)) (by decide) (by decide) (by decide)
theorem b141 {m : Nat} (h : m < 6) : vp_in ((141 : Int32) + nI m) 151 := off_in (vp_in_nI h (by decide)) (by decide) (by decide) (by decide)
theorem rl_e1 {RO t : Nat → Int32} {j : Int32} (hb : 0 ≤ (RO 128).toInt ∧ (RO 128).toInt ≤ (6 : Nat)) (hj : 0 ≤ j.toInt ∧ j.toInt < (RO 128).toInt) (h : rlI RO t) : vp_in (129 + t 128) 151 := by
  obtain ⟨m, hm, e⟩ := rl_m hb hj h
  rw [e]; exact b129 hm
theorem rl_u1 {RO t : Nat → Int32} {j : Int32} (hb : 0 ≤ (RO 128).toInt ∧ (RO 128).toInt ≤ (6 : Nat)) (hj : 0 ≤ j.toInt ∧ j.toInt < (RO 128).toInt) (h : rlI RO t) : (upd t (129 + t 128).toNatClampNeg 0) 128 = t 128 := by
  obtain ⟨m, hm, e⟩ := rl_m hb hj h
  rw [e, o129 m hm, pk_un (by omega), e]
theorem rl_e2 {RO t : Nat → Int32} {j : Int32} (hb : 0 ≤ (RO 128).toInt ∧ (RO 128).toInt ≤ (6 : Nat)) (hj : 0 ≤ j.toInt ∧ j.toInt < (RO 128).toInt) (h : rlI RO t) : vp_in (135 + (upd t (129 + t 128).toNatClampNeg 0) 128) 151 := by
  rw [rl_u1 hb hj h]
  obtain ⟨m, hm, e⟩ := rl_m hb hj h
  rw [e]; exact b135 hm
theorem rl_e3 {RO t : Nat → Int32} {j : Int32} (hb : 0 ≤ (RO 128).toInt ∧ (RO 128).toInt ≤ (6 : Nat)) (hj : 0 ≤ j.toInt ∧ j.toInt < (RO 128).toInt) (h : rlI RO t) : vp_in (141 + (upd (upd t (129 + t 128).toNatClampNeg 0) (135 + (upd t (129 + t 128).toNatClampNeg 0) 128).toNatClampNeg 0) 128) 151 := by
  rw [rl_u1 hb hj h]
  obtain ⟨m, hm, e⟩ := rl_m hb hj h
  rw [e, o135 m hm, pk_un (by omega), ← e, rl_u1 hb hj h, e]; exact b141 hm

def f_X8_removeLamp_14 (k1 : Nat) (t2 : (Nat → Int32)) : (((Nat → Int32)) ⊕ ((Nat → Int32))) ⊕ ((Nat → Int32)) := (.inr (upd (upd (upd t2 (129 + (nI k1)).toNatClampNeg (t2 ((129 + (nI k1)) + 1).toNatClampNeg)) (135 + (nI k1)).toNatClampNeg ((upd t2 (129 + (nI k1)).toNatClampNeg (t2 ((129 + (nI k1)) + 1).toNatClampNeg)) ((135 + (nI k1)) + 1).toNatClampNeg)) (141 + (nI k1)).toNatClampNeg ((upd (upd t2 (129 + (nI k1)).toNatClampNeg (t2 ((129 + (nI k1)) + 1).toNatClampNeg)) (135 + (nI k1)).toNatClampNeg ((upd t2 (129 + (nI k1)).toNatClampNeg (t2 ((129 + (nI k1)) + 1).toNatClampNeg)) ((135 + (nI k1)) + 1).toNatClampNeg)) ((141 + (nI k1)) + 1).toNatClampNeg)))
def m_X8_removeLamp (RO : Nat → Int32) (j : Int32) : (Nat → Int32) := (lpr (lpx f_X8_removeLamp_14 ((RO 128 - 1).toNatClampNeg - (j).toNatClampNeg) ((j).toNatClampNeg) (upd RO 128 ((RO 128) - 1))) id (fun t7 => upd (upd (upd t7 (129 + (t7 128)).toNatClampNeg 0) (135 + ((upd t7 (129 + (t7 128)).toNatClampNeg 0) 128)).toNatClampNeg 0) (141 + ((upd (upd t7 (129 + (t7 128)).toNatClampNeg 0) (135 + ((upd t7 (129 + (t7 128)).toNatClampNeg 0) 128)).toNatClampNeg 0) 128)).toNatClampNeg 0))
set_option maxHeartbeats 4000000 in
set_option maxRecDepth 100000 in
theorem met_X8_removeLamp (l : Launch) (D : va_G) (y4 : vT) (aM aRo aHi aSn aAs aLg aPd aCo aEa : Nat) (sz : Nat) (ms : Int32) (sv : Bool) (ml : Int32) (RO : Nat → Int32) (j : Int32) (hMb : 0 ≤ (RO 128).toInt ∧ (RO 128).toInt ≤ (6 : Nat)) (hj : 0 ≤ j.toInt ∧ j.toInt < (RO 128).toInt) : Met l yX8_removeLamp wsX8_removeLamp ({ frames := 0, cells := 0, slots := 0, locals := 0 }) (va_Pc [.ref aM, .int j] (PreW D y4 [(aM, .inr (7, [.ref aRo, .ref aHi, .int ms, .ref aSn, .int (bI sv), .ref aAs, .ref aLg, .ref aPd, .int ml, .ref aCo, .ref aEa])), (aRo, .inl (y4.1, 151, .inl RO))] sz)) (va_Qv (fun (_ : Unit) => True) (fun _ t => PostW D (va_A [(aM, .inr (7, [.ref aRo, .ref aHi, .int ms, .ref aSn, .int (bI sv), .ref aAs, .ref aLg, .ref aPd, .int ml, .ref aCo, .ref aEa])), (aRo, .inl (y4.1, 151, .inl RO))] sz) [(aM, .inr (7, [.ref aRo, .ref aHi, .int ms, .ref aSn, .int (bI sv), .ref aAs, .ref aLg, .ref aPd, .int ml, .ref aCo, .ref aEa])), (aRo, .inl (y4.1, 151, .inl (m_X8_removeLamp RO j)))] t) (va_A [(aM, .inr (7, [.ref aRo, .ref aHi, .int ms, .ref aSn, .int (bI sv), .ref aAs, .ref aLg, .ref aPd, .int ml, .ref aCo, .ref aEa])), (aRo, .inl (y4.1, 151, .inl RO))] sz)) 0 0 (va_A [(aM, .inr (7, [.ref aRo, .ref aHi, .int ms, .ref aSn, .int (bI sv), .ref aAs, .ref aLg, .ref aPd, .int ml, .ref aCo, .ref aEa])), (aRo, .inl (y4.1, 151, .inl RO))] sz) := by
  refine Met.ofW (cc := cX8_removeLamp) (maxL := 3) (ret := none) (by decide) rfl ?_
  intro p e s m args below meth c s₁ B hml hv
  obtain ⟨rfl, hsz, hP, hK, hD0, hNW⟩ := hv
  have hx := B.exec
  have hb := B.bytes
  have hr := B.returns
  have hts := atoms_spec (ws := wsX8_removeLamp) B.pre
  have hown : s.vm.findClass RX8 = some m.cls := findClass_of_methodNamed B.named
  have hlocks := B.notSynchronized
  subst hsz
  have hD := hD0.self (sz := s.heap.size)
  generalize hAe : va_A [(aM, .inr (7, [.ref aRo, .ref aHi, .int ms, .ref aSn, .int (bI sv), .ref aAs, .ref aLg, .ref aPd, .int ml, .ref aCo, .ref aEa])), (aRo, .inl (y4.1, 151, .inl RO))] s.heap.size = A at hD ⊢
  have hA : ∀ q : Nat, s.heap.size ≤ q → A q := fun q h => by rw [← hAe]; exact Or.inr h
  have hS : va_S A s.heap s.heap [] := va_S.rf
  have hl := lv_entry ([.ref aM, .int j]) (n := 3) (Nat.le_of_ble_eq_true rfl)
  rw [lg_entry_eq]
  generalize (lg_sl ([.ref aM, .int j]) ++ List.replicate (3 - (lg_sl ([.ref aM, .int j])).length) Slot.unset).toArray = ls at hl ⊢
  have hl : lv_has ls 3 [(0, .ref aM), (1, .int j)] := hl
  have f7 := hts (.fieldLink RX8 7 "PillarLightModel" "row" "[I") (List.mem_of_getElem? (i := 1) rfl)
  have iX8 : ∀ w ∈ wsX80, w ∈ wsX8_removeLamp := fun _ h => List.mem_cons_of_mem _ (List.mem_append_right _ h)
  refine startW (fun H locs hP hS => ?_) hP hS
  refine lv_aload_n hx hb dX8_removeLamp_0 rfl (lv_at hl 0 rfl) ?_
  refine va_get (ci := 7) (v := .ref aRo) (C := RX8) (T := TX8) (N := 11) hx hb hts iX8 hown hK hP 0 rfl rfl 0 (by decide) f7 (fun _ h9 => h9) rfl dX8_removeLamp_1 ?_
  refine lv_sipush (v := 128) hx hb dX8_removeLamp_4 (by decide) ?_
  refine lv_dup2_11 hx hb dX8_removeLamp_7 rfl rfl ?_
  refine va_iald hx hb hK hP 1 0 rfl rfl (vp_in_nI (n := 128) (by decide) (by decide)) dX8_removeLamp_8 ?_
  refine W.ofeqi (y := RO 128) (congrArg RO (by decide : (128 : Int32).toNatClampNeg = 128)) ?_
  refine lv_iconst (v := 1) hx hb dX8_removeLamp_9 (by decide) ?_
  refine lv_isub hx hb dX8_removeLamp_10 ?_
  refine va_iast hx hb hK hP hD hS 1 0 rfl rfl (vp_in_nI (n := 128) (by decide) (by decide)) dX8_removeLamp_11 (fun H locs hP hD hS => ?_)
  have hP : va_P D vwCl [(aM, .inr (7, [.ref aRo, .ref aHi, .int ms, .ref aSn, .int (bI sv), .ref aAs, .ref aLg, .ref aPd, .int ml, .ref aCo, .ref aEa])), (aRo, .inl (y4.1, 151, .inl (upd RO (128 : Int32).toNatClampNeg ((RO 128) - 1))))] H := hP
  have hD : va_D A [(aM, .inr (7, [.ref aRo, .ref aHi, .int ms, .ref aSn, .int (bI sv), .ref aAs, .ref aLg, .ref aPd, .int ml, .ref aCo, .ref aEa])), (aRo, .inl (y4.1, 151, .inl (upd RO (128 : Int32).toNatClampNeg ((RO 128) - 1))))] := hD
  rw [(by decide : (128 : Int32).toNatClampNeg = 128)] at hP hD
  refine lv_iload_n hx hb dX8_removeLamp_12 rfl (lv_at hl 1 rfl) ?_
  refine lv_istore_n (lv' := [(2, .int j), (0, .ref aM), (1, .int j)]) hx hb dX8_removeLamp_13 rfl hl (by decide) rfl (fun ls hl => ?_)
  have hl : lv_has ls 3 [(2, .int (nI ((j).toNatClampNeg))), (0, .ref aM), (1, .int j)] := by rw [← cl_nI hj.1]; exact hl
  refine cutW (X := (Nat → Int32)) 98 (fun x H locs ls => ((lpx f_X8_removeLamp_14 ((RO 128 - 1).toNatClampNeg - (j).toNatClampNeg) ((j).toNatClampNeg) (upd RO 128 ((RO 128) - 1))) = .inl (.inr x) ∨ (lpx f_X8_removeLamp_14 ((RO 128 - 1).toNatClampNeg - (j).toNatClampNeg) ((j).toNatClampNeg) (upd RO 128 ((RO 128) - 1))) = .inr x) ∧ (∃ kk : Nat, (fun _ t => rlI RO t) kk x) ∧ va_P D vwCl [(aM, .inr (7, [.ref aRo, .ref aHi, .int ms, .ref aSn, .int (bI sv), .ref aAs, .ref aLg, .ref aPd, .int ml, .ref aCo, .ref aEa])), (aRo, .inl (y4.1, 151, .inl x))] H ∧ va_D A [(aM, .inr (7, [.ref aRo, .ref aHi, .int ms, .ref aSn, .int (bI sv), .ref aAs, .ref aLg, .ref aPd, .int ml, .ref aCo, .ref aEa])), (aRo, .inl (y4.1, 151, .inl x))] ∧ va_S A s.heap H locs ∧ lv_has ls 3 [(0, .ref aM)]) (fun x => []) ?_ (fun K98 => ?_)
  · rintro t7 H locs ls ⟨et7, ⟨_, hIt7⟩, hP, hD, hS, hl⟩
    have hP : va_P D vwCl [(aM, .inr (7, [.ref aRo, .ref aHi, .int ms, .ref aSn, .int (bI sv), .ref aAs, .ref aLg, .ref aPd, .int ml, .ref aCo, .ref aEa])), (aRo, .inl (y4.1, 151, .inl t7))] H := hP
    have hD : va_D A [(aM, .inr (7, [.ref aRo, .ref aHi, .int ms, .ref aSn, .int (bI sv), .ref aAs, .ref aLg, .ref aPd, .int ml, .ref aCo, .ref aEa])), (aRo, .inl (y4.1, 151, .inl t7))] := hD
    have hl : lv_has ls 3 [(0, .ref aM)] := hl
    have hin : rlI RO t7 := hIt7
    refine lv_aload_n hx hb dX8_removeLamp_98 rfl (lv_at hl 0 rfl) ?_
    refine va_get (ci := 7) (v := .ref aRo) (C := RX8) (T := TX8) (N := 11) hx hb hts iX8 hown hK hP 0 rfl rfl 0 (by decide) f7 (fun _ h9 => h9) rfl dX8_removeLamp_99 ?_
    refine lv_sipush (v := 129) hx hb dX8_removeLamp_102 (by decide) ?_
    refine lv_aload_n hx hb dX8_removeLamp_105 rfl (lv_at hl 0 rfl) ?_
    refine va_get (ci := 7) (v := .ref aRo) (C := RX8) (T := TX8) (N := 11) hx hb hts iX8 hown hK hP 0 rfl rfl 0 (by decide) f7 (fun _ h9 => h9) rfl dX8_removeLamp_106 ?_
    refine lv_sipush (v := 128) hx hb dX8_removeLamp_109 (by decide) ?_
    refine va_iald hx hb hK hP 1 0 rfl rfl (vp_in_nI (n := 128) (by decide) (by decide)) dX8_removeLamp_112 ?_
    refine W.ofeqi (y := t7 128) (congrArg t7 (by decide : (128 : Int32).toNatClampNeg = 128)) ?_
    refine lv_iadd hx hb dX8_removeLamp_113 ?_
    refine lv_iconst (v := 0) hx hb dX8_removeLamp_114 (by decide) ?_
    refine va_iast hx hb hK hP hD hS 1 0 rfl rfl (rl_e1 hMb hj hin) dX8_removeLamp_115 (fun H locs hP hD hS => ?_)
    have hP : va_P D vwCl [(aM, .inr (7, [.ref aRo, .ref aHi, .int ms, .ref aSn, .int (bI sv), .ref aAs, .ref aLg, .ref aPd, .int ml, .ref aCo, .ref aEa])), (aRo, .inl (y4.1, 151, .inl (upd t7 (129 + (t7 128)).toNatClampNeg 0)))] H := hP
    have hD : va_D A [(aM, .inr (7, [.ref aRo, .ref aHi, .int ms, .ref aSn, .int (bI sv), .ref aAs, .ref aLg, .ref aPd, .int ml, .ref aCo, .ref aEa])), (aRo, .inl (y4.1, 151, .inl (upd t7 (129 + (t7 128)).toNatClampNeg 0)))] := hD
    refine lv_aload_n hx hb dX8_removeLamp_116 rfl (lv_at hl 0 rfl) ?_
    refine va_get (ci := 7) (v := .ref aRo) (C := RX8) (T := TX8) (N := 11) hx hb hts iX8 hown hK hP 0 rfl rfl 0 (by decide) f7 (fun _ h9 => h9) rfl dX8_removeLamp_117 ?_
    refine lv_sipush (v := 135) hx hb dX8_removeLamp_120 (by decide) ?_
    refine lv_aload_n hx hb dX8_removeLamp_123 rfl (lv_at hl 0 rfl) ?_
    refine va_get (ci := 7) (v := .ref aRo) (C := RX8) (T := TX8) (N := 11) hx hb hts iX8 hown hK hP 0 rfl rfl 0 (by decide) f7 (fun _ h9 => h9) rfl dX8_removeLamp_124 ?_
    refine lv_sipush (v := 128) hx hb dX8_removeLamp_127 (by decide) ?_
    refine va_iald hx hb hK hP 1 0 rfl rfl (vp_in_nI (n := 128) (by decide) (by decide)) dX8_removeLamp_130 ?_
    refine W.ofeqi (y := (upd t7 (129 + (t7 128)).toNatClampNeg 0) 128) (congrArg (upd t7 (129 + (t7 128)).toNatClampNeg 0) (by decide : (128 : Int32).toNatClampNeg = 128)) ?_
    refine lv_iadd hx hb dX8_removeLamp_131 ?_
    refine lv_iconst (v := 0) hx hb dX8_removeLamp_132 (by decide) ?_
    refine va_iast hx hb hK hP hD hS 1 0 rfl rfl (rl_e2 hMb hj hin) dX8_removeLamp_133 (fun H locs hP hD hS => ?_)
    have hP : va_P D vwCl [(aM, .inr (7, [.ref aRo, .ref aHi, .int ms, .ref aSn, .int (bI sv), .ref aAs, .ref aLg, .ref aPd, .int ml, .ref aCo, .ref aEa])), (aRo, .inl (y4.1, 151, .inl (upd (upd t7 (129 + (t7 128)).toNatClampNeg 0) (135 + ((upd t7 (129 + (t7 128)).toNatClampNeg 0) 128)).toNatClampNeg 0)))] H := hP
    have hD : va_D A [(aM, .inr (7, [.ref aRo, .ref aHi, .int ms, .ref aSn, .int (bI sv), .ref aAs, .ref aLg, .ref aPd, .int ml, .ref aCo, .ref aEa])), (aRo, .inl (y4.1, 151, .inl (upd (upd t7 (129 + (t7 128)).toNatClampNeg 0) (135 + ((upd t7 (129 + (t7 128)).toNatClampNeg 0) 128)).toNatClampNeg 0)))] := hD
    refine lv_aload_n hx hb dX8_removeLamp_134 rfl (lv_at hl 0 rfl) ?_
    refine va_get (ci := 7) (v := .ref aRo) (C := RX8) (T := TX8) (N := 11) hx hb hts iX8 hown hK hP 0 rfl rfl 0 (by decide) f7 (fun _ h9 => h9) rfl dX8_removeLamp_135 ?_
    refine lv_sipush (v := 141) hx hb dX8_removeLamp_138 (by decide) ?_
    refine lv_aload_n hx hb dX8_removeLamp_141 rfl (lv_at hl 0 rfl) ?_
    refine va_get (ci := 7) (v := .ref aRo) (C := RX8) (T := TX8) (N := 11) hx hb hts iX8 hown hK hP 0 rfl rfl 0 (by decide) f7 (fun _ h9 => h9) rfl dX8_removeLamp_142 ?_
    refine lv_sipush (v := 128) hx hb dX8_removeLamp_145 (by decide) ?_
    refine va_iald hx hb hK hP 1 0 rfl rfl (vp_in_nI (n := 128) (by decide) (by decide)) dX8_removeLamp_148 ?_
    refine W.ofeqi (y := (upd (upd t7 (129 + (t7 128)).toNatClampNeg 0) (135 + ((upd t7 (129 + (t7 128)).toNatClampNeg 0) 128)).toNatClampNeg 0) 128) (congrArg (upd (upd t7 (129 + (t7 128)).toNatClampNeg 0) (135 + ((upd t7 (129 + (t7 128)).toNatClampNeg 0) 128)).toNatClampNeg 0) (by decide : (128 : Int32).toNatClampNeg = 128)) ?_
    refine lv_iadd hx hb dX8_removeLamp_149 ?_
    refine lv_iconst (v := 0) hx hb dX8_removeLamp_150 (by decide) ?_
    refine va_iast hx hb hK hP hD hS 1 0 rfl rfl (rl_e3 hMb hj hin) dX8_removeLamp_151 (fun H locs hP hD hS => ?_)
    have hP : va_P D vwCl [(aM, .inr (7, [.ref aRo, .ref aHi, .int ms, .ref aSn, .int (bI sv), .ref aAs, .ref aLg, .ref aPd, .int ml, .ref aCo, .ref aEa])), (aRo, .inl (y4.1, 151, .inl (upd (upd (upd t7 (129 + (t7 128)).toNatClampNeg 0) (135 + ((upd t7 (129 + (t7 128)).toNatClampNeg 0) 128)).toNatClampNeg 0) (141 + ((upd (upd t7 (129 + (t7 128)).toNatClampNeg 0) (135 + ((upd t7 (129 + (t7 128)).toNatClampNeg 0) 128)).toNatClampNeg 0) 128)).toNatClampNeg 0)))] H := hP
    have hD : va_D A [(aM, .inr (7, [.ref aRo, .ref aHi, .int ms, .ref aSn, .int (bI sv), .ref aAs, .ref aLg, .ref aPd, .int ml, .ref aCo, .ref aEa])), (aRo, .inl (y4.1, 151, .inl (upd (upd (upd t7 (129 + (t7 128)).toNatClampNeg 0) (135 + ((upd t7 (129 + (t7 128)).toNatClampNeg 0) 128)).toNatClampNeg 0) (141 + ((upd (upd t7 (129 + (t7 128)).toNatClampNeg 0) (135 + ((upd t7 (129 + (t7 128)).toNatClampNeg 0) 128)).toNatClampNeg 0) 128)).toNatClampNeg 0)))] := hD
    have em : m_X8_removeLamp RO j = upd (upd (upd t7 (129 + (t7 128)).toNatClampNeg 0) (135 + ((upd t7 (129 + (t7 128)).toNatClampNeg 0) 128)).toNatClampNeg 0) (141 + ((upd (upd t7 (129 + (t7 128)).toNatClampNeg 0) (135 + ((upd t7 (129 + (t7 128)).toNatClampNeg 0) 128)).toNatClampNeg 0) 128)).toNatClampNeg 0 := (by first | (simp only [m_X8_removeLamp, lpr_k et7]; done) | (simp only [m_X8_removeLamp, lpr_k et7]; rfl))
    exact W.vret hx hb hr (fun t ht hW => ⟨⟨(), rfl, trivial, ⟨by rw [ht, em]; exact hP, by rw [em]; exact hD⟩⟩, hS.F ht⟩) hS.2.2 dX8_removeLamp_152
  · refine loopX (σ := (Nat → Int32)) (ρ := ((Nat → Int32)) ⊕ ((Nat → Int32))) 14 f_X8_removeLamp_14 (fun _ t => rlI RO t) ((RO 128 - 1).toNatClampNeg - (j).toNatClampNeg) ((j).toNatClampNeg) (upd RO 128 ((RO 128) - 1)) (fun k1 t2 H locs ls => va_P D vwCl [(aM, .inr (7, [.ref aRo, .ref aHi, .int ms, .ref aSn, .int (bI sv), .ref aAs, .ref aLg, .ref aPd, .int ml, .ref aCo, .ref aEa])), (aRo, .inl (y4.1, 151, .inl t2))] H ∧ va_D A [(aM, .inr (7, [.ref aRo, .ref aHi, .int ms, .ref aSn, .int (bI sv), .ref aAs, .ref aLg, .ref aPd, .int ml, .ref aCo, .ref aEa])), (aRo, .inl (y4.1, 151, .inl t2))] ∧ va_S A s.heap H locs ∧ lv_has ls 3 [(2, .int (nI k1)), (0, .ref aM)]) (fun _ _ => rfl) ⟨hP, hD, hS, lv_sub hl [0, 1] rfl⟩ (fun t5 H locs ls et5 hit5 hh => ?_) (fun k1 t2 hkk1 hjk1 hik1 hretk1 ihk1 H locs ls hh => ?_)
    · obtain ⟨hP, hD, hS, hl⟩ := hh
      have hP : va_P D vwCl [(aM, .inr (7, [.ref aRo, .ref aHi, .int ms, .ref aSn, .int (bI sv), .ref aAs, .ref aLg, .ref aPd, .int ml, .ref aCo, .ref aEa])), (aRo, .inl (y4.1, 151, .inl t5))] H := hP
      have hD : va_D A [(aM, .inr (7, [.ref aRo, .ref aHi, .int ms, .ref aSn, .int (bI sv), .ref aAs, .ref aLg, .ref aPd, .int ml, .ref aCo, .ref aEa])), (aRo, .inl (y4.1, 151, .inl t5))] := hD
      have hl : lv_has ls 3 [(2, .int (nI (((j).toNatClampNeg) + ((RO 128 - 1).toNatClampNeg - (j).toNatClampNeg)))), (0, .ref aM)] := hl
      have hin : rlI RO t5 := hit5
      refine lv_iload_n hx hb dX8_removeLamp_14 rfl (lv_at hl 0 rfl) ?_
      refine lv_aload_n hx hb dX8_removeLamp_15 rfl (lv_at hl 1 rfl) ?_
      refine va_get (ci := 7) (v := .ref aRo) (C := RX8) (T := TX8) (N := 11) hx hb hts iX8 hown hK hP 0 rfl rfl 0 (by decide) f7 (fun _ h9 => h9) rfl dX8_removeLamp_16 ?_
      refine lv_sipush (v := 128) hx hb dX8_removeLamp_19 (by decide) ?_
      refine va_iald hx hb hK hP 1 0 rfl rfl (vp_in_nI (n := 128) (by decide) (by decide)) dX8_removeLamp_22 ?_
      refine W.ofeqi (y := t5 128) (congrArg t5 (by decide : (128 : Int32).toNatClampNeg = 128)) ?_
      refine lv_icmp_ge (tgt := 98) hx hb dX8_removeLamp_23 (by decide) (fun c6 => ?_) (fun c6 => absurd (by rw [rl_128 hin]; exact cl_le (rl_sub6 hMb hj) (by omega) (by have := cl_lt (rl_sub6 hMb hj); have := cl_toInt hj.1; omega)) c6)
      exact K98 t5 H locs ls ⟨Or.inr et5, ⟨((j).toNatClampNeg) + ((RO 128 - 1).toNatClampNeg - (j).toNatClampNeg), hit5⟩, hP, hD, hS, lv_sub hl [1] rfl⟩
    · obtain ⟨hP, hD, hS, hl⟩ := hh
      have hP : va_P D vwCl [(aM, .inr (7, [.ref aRo, .ref aHi, .int ms, .ref aSn, .int (bI sv), .ref aAs, .ref aLg, .ref aPd, .int ml, .ref aCo, .ref aEa])), (aRo, .inl (y4.1, 151, .inl t2))] H := hP
      have hD : va_D A [(aM, .inr (7, [.ref aRo, .ref aHi, .int ms, .ref aSn, .int (bI sv), .ref aAs, .ref aLg, .ref aPd, .int ml, .ref aCo, .ref aEa])), (aRo, .inl (y4.1, 151, .inl t2))] := hD
      have hl : lv_has ls 3 [(2, .int (nI k1)), (0, .ref aM)] := hl
      have hin : rlI RO t2 := hik1
      refine lv_iload_n hx hb dX8_removeLamp_14 rfl (lv_at hl 0 rfl) ?_
      refine lv_aload_n hx hb dX8_removeLamp_15 rfl (lv_at hl 1 rfl) ?_
      refine va_get (ci := 7) (v := .ref aRo) (C := RX8) (T := TX8) (N := 11) hx hb hts iX8 hown hK hP 0 rfl rfl 0 (by decide) f7 (fun _ h9 => h9) rfl dX8_removeLamp_16 ?_
      refine lv_sipush (v := 128) hx hb dX8_removeLamp_19 (by decide) ?_
      refine va_iald hx hb hK hP 1 0 rfl rfl (vp_in_nI (n := 128) (by decide) (by decide)) dX8_removeLamp_22 ?_
      refine W.ofeqi (y := t2 128) (congrArg t2 (by decide : (128 : Int32).toNatClampNeg = 128)) ?_
      refine lv_icmp_ge (tgt := 98) hx hb dX8_removeLamp_23 (by decide) (fun c4 => absurd c4 (by rw [rl_128 hin]; exact cl_ge (rl_sub6 hMb hj) (by omega))) (fun c4 => ?_)
      refine lv_aload_n hx hb dX8_removeLamp_26 rfl (lv_at hl 1 rfl) ?_
      refine va_get (ci := 7) (v := .ref aRo) (C := RX8) (T := TX8) (N := 11) hx hb hts iX8 hown hK hP 0 rfl rfl 0 (by decide) f7 (fun _ h9 => h9) rfl dX8_removeLamp_27 ?_
      refine lv_sipush (v := 129) hx hb dX8_removeLamp_30 (by decide) ?_
      refine lv_iload_n hx hb dX8_removeLamp_33 rfl (lv_at hl 0 rfl) ?_
      refine lv_iadd hx hb dX8_removeLamp_34 ?_
      refine lv_aload_n hx hb dX8_removeLamp_35 rfl (lv_at hl 1 rfl) ?_
      refine va_get (ci := 7) (v := .ref aRo) (C := RX8) (T := TX8) (N := 11) hx hb hts iX8 hown hK hP 0 rfl rfl 0 (by decide) f7 (fun _ h9 => h9) rfl dX8_removeLamp_36 ?_
      refine lv_sipush (v := 129) hx hb dX8_removeLamp_39 (by decide) ?_
      refine lv_iload_n hx hb dX8_removeLamp_42 rfl (lv_at hl 0 rfl) ?_
      refine lv_iadd hx hb dX8_removeLamp_43 ?_
      refine lv_iconst (v := 1) hx hb dX8_removeLamp_44 (by decide) ?_
      refine lv_iadd hx hb dX8_removeLamp_45 ?_
      refine va_iald hx hb hK hP 1 0 rfl rfl (vp_in_iff.mpr (o130 _ (by have := cl_lt (rl_sub6 hMb hj); omega)).1) dX8_removeLamp_46 ?_
      refine va_iast hx hb hK hP hD hS 1 0 rfl rfl (off_in (cl_in (rl_sub6 hMb hj) (by omega)) (by decide) (by decide) (by decide)) dX8_removeLamp_47 (fun H locs hP hD hS => ?_)
      have hP : va_P D vwCl [(aM, .inr (7, [.ref aRo, .ref aHi, .int ms, .ref aSn, .int (bI sv), .ref aAs, .ref aLg, .ref aPd, .int ml, .ref aCo, .ref aEa])), (aRo, .inl (y4.1, 151, .inl (upd t2 (129 + (nI k1)).toNatClampNeg (t2 ((129 + (nI k1)) + 1).toNatClampNeg))))] H := hP
      have hD : va_D A [(aM, .inr (7, [.ref aRo, .ref aHi, .int ms, .ref aSn, .int (bI sv), .ref aAs, .ref aLg, .ref aPd, .int ml, .ref aCo, .ref aEa])), (aRo, .inl (y4.1, 151, .inl (upd t2 (129 + (nI k1)).toNatClampNeg (t2 ((129 + (nI k1)) + 1).toNatClampNeg))))] := hD
      refine lv_aload_n hx hb dX8_removeLamp_48 rfl (lv_at hl 1 rfl) ?_
      refine va_get (ci := 7) (v := .ref aRo) (C := RX8) (T := TX8) (N := 11) hx hb hts iX8 hown hK hP 0 rfl rfl 0 (by decide) f7 (fun _ h9 => h9) rfl dX8_removeLamp_49 ?_
      refine lv_sipush (v := 135) hx hb dX8_removeLamp_52 (by decide) ?_
      refine lv_iload_n hx hb dX8_removeLamp_55 rfl (lv_at hl 0 rfl) ?_
      refine lv_iadd hx hb dX8_removeLamp_56 ?_
      refine lv_aload_n hx hb dX8_removeLamp_57 rfl (lv_at hl 1 rfl) ?_
      refine va_get (ci := 7) (v := .ref aRo) (C := RX8) (T := TX8) (N := 11) hx hb hts iX8 hown hK hP 0 rfl rfl 0 (by decide) f7 (fun _ h9 => h9) rfl dX8_removeLamp_58 ?_
      refine lv_sipush (v := 135) hx hb dX8_removeLamp_61 (by decide) ?_
      refine lv_iload_n hx hb dX8_removeLamp_64 rfl (lv_at hl 0 rfl) ?_
      refine lv_iadd hx hb dX8_removeLamp_65 ?_
      refine lv_iconst (v := 1) hx hb dX8_removeLamp_66 (by decide) ?_
      refine lv_iadd hx hb dX8_removeLamp_67 ?_
      refine va_iald hx hb hK hP 1 0 rfl rfl (vp_in_iff.mpr (o130 _ (by have := cl_lt (rl_sub6 hMb hj); omega)).2.1) dX8_removeLamp_68 ?_
      refine va_iast hx hb hK hP hD hS 1 0 rfl rfl (off_in (cl_in (rl_sub6 hMb hj) (by omega)) (by decide) (by decide) (by decide)) dX8_removeLamp_69 (fun H locs hP hD hS => ?_)
      have hP : va_P D vwCl [(aM, .inr (7, [.ref aRo, .ref aHi, .int ms, .ref aSn, .int (bI sv), .ref aAs, .ref aLg, .ref aPd, .int ml, .ref aCo, .ref aEa])), (aRo, .inl (y4.1, 151, .inl (upd (upd t2 (129 + (nI k1)).toNatClampNeg (t2 ((129 + (nI k1)) + 1).toNatClampNeg)) (135 + (nI k1)).toNatClampNeg ((upd t2 (129 + (nI k1)).toNatClampNeg (t2 ((129 + (nI k1)) + 1).toNatClampNeg)) ((135 + (nI k1)) + 1).toNatClampNeg))))] H := hP
      have hD : va_D A [(aM, .inr (7, [.ref aRo, .ref aHi, .int ms, .ref aSn, .int (bI sv), .ref aAs, .ref aLg, .ref aPd, .int ml, .ref aCo, .ref aEa])), (aRo, .inl (y4.1, 151, .inl (upd (upd t2 (129 + (nI k1)).toNatClampNeg (t2 ((129 + (nI k1)) + 1).toNatClampNeg)) (135 + (nI k1)).toNatClampNeg ((upd t2 (129 + (nI k1)).toNatClampNeg (t2 ((129 + (nI k1)) + 1).toNatClampNeg)) ((135 + (nI k1)) + 1).toNatClampNeg))))] := hD
      refine lv_aload_n hx hb dX8_removeLamp_70 rfl (lv_at hl 1 rfl) ?_
      refine va_get (ci := 7) (v := .ref aRo) (C := RX8) (T := TX8) (N := 11) hx hb hts iX8 hown hK hP 0 rfl rfl 0 (by decide) f7 (fun _ h9 => h9) rfl dX8_removeLamp_71 ?_
      refine lv_sipush (v := 141) hx hb dX8_removeLamp_74 (by decide) ?_
      refine lv_iload_n hx hb dX8_removeLamp_77 rfl (lv_at hl 0 rfl) ?_
      refine lv_iadd hx hb dX8_removeLamp_78 ?_
      refine lv_aload_n hx hb dX8_removeLamp_79 rfl (lv_at hl 1 rfl) ?_
      refine va_get (ci := 7) (v := .ref aRo) (C := RX8) (T := TX8) (N := 11) hx hb hts iX8 hown hK hP 0 rfl rfl 0 (by decide) f7 (fun _ h9 => h9) rfl dX8_removeLamp_80 ?_
      refine lv_sipush (v := 141) hx hb dX8_removeLamp_83 (by decide) ?_
      refine lv_iload_n hx hb dX8_removeLamp_86 rfl (lv_at hl 0 rfl) ?_
      refine lv_iadd hx hb dX8_removeLamp_87 ?_
      refine lv_iconst (v := 1) hx hb dX8_removeLamp_88 (by decide) ?_
      refine lv_iadd hx hb dX8_removeLamp_89 ?_
      refine va_iald hx hb hK hP 1 0 rfl rfl (vp_in_iff.mpr (o130 _ (by have := cl_lt (rl_sub6 hMb hj); omega)).2.2) dX8_removeLamp_90 ?_
      refine va_iast hx hb hK hP hD hS 1 0 rfl rfl (off_in (cl_in (rl_sub6 hMb hj) (by omega)) (by decide) (by decide) (by decide)) dX8_removeLamp_91 (fun H locs hP hD hS => ?_)
      have hP : va_P D vwCl [(aM, .inr (7, [.ref aRo, .ref aHi, .int ms, .ref aSn, .int (bI sv), .ref aAs, .ref aLg, .ref aPd, .int ml, .ref aCo, .ref aEa])), (aRo, .inl (y4.1, 151, .inl (upd (upd (upd t2 (129 + (nI k1)).toNatClampNeg (t2 ((129 + (nI k1)) + 1).toNatClampNeg)) (135 + (nI k1)).toNatClampNeg ((upd t2 (129 + (nI k1)).toNatClampNeg (t2 ((129 + (nI k1)) + 1).toNatClampNeg)) ((135 + (nI k1)) + 1).toNatClampNeg)) (141 + (nI k1)).toNatClampNeg ((upd (upd t2 (129 + (nI k1)).toNatClampNeg (t2 ((129 + (nI k1)) + 1).toNatClampNeg)) (135 + (nI k1)).toNatClampNeg ((upd t2 (129 + (nI k1)).toNatClampNeg (t2 ((129 + (nI k1)) + 1).toNatClampNeg)) ((135 + (nI k1)) + 1).toNatClampNeg)) ((141 + (nI k1)) + 1).toNatClampNeg))))] H := hP
      have hD : va_D A [(aM, .inr (7, [.ref aRo, .ref aHi, .int ms, .ref aSn, .int (bI sv), .ref aAs, .ref aLg, .ref aPd, .int ml, .ref aCo, .ref aEa])), (aRo, .inl (y4.1, 151, .inl (upd (upd (upd t2 (129 + (nI k1)).toNatClampNeg (t2 ((129 + (nI k1)) + 1).toNatClampNeg)) (135 + (nI k1)).toNatClampNeg ((upd t2 (129 + (nI k1)).toNatClampNeg (t2 ((129 + (nI k1)) + 1).toNatClampNeg)) ((135 + (nI k1)) + 1).toNatClampNeg)) (141 + (nI k1)).toNatClampNeg ((upd (upd t2 (129 + (nI k1)).toNatClampNeg (t2 ((129 + (nI k1)) + 1).toNatClampNeg)) (135 + (nI k1)).toNatClampNeg ((upd t2 (129 + (nI k1)).toNatClampNeg (t2 ((129 + (nI k1)) + 1).toNatClampNeg)) ((135 + (nI k1)) + 1).toNatClampNeg)) ((141 + (nI k1)) + 1).toNatClampNeg))))] := hD
      refine lv_iinc (v := nI (k1 + 1)) (lv' := [(2, .int (nI (k1 + 1))), (0, .ref aM)]) hx hb dX8_removeLamp_92 hl (k := 0) rfl (nI_1 _) (by decide) rfl (fun ls hl => ?_)
      refine lv_goto (tgt := 14) hx hb dX8_removeLamp_95 (by decide) ?_
      have ef : f_X8_removeLamp_14 k1 t2 = .inr (upd (upd (upd t2 (129 + (nI k1)).toNatClampNeg (t2 ((129 + (nI k1)) + 1).toNatClampNeg)) (135 + (nI k1)).toNatClampNeg ((upd t2 (129 + (nI k1)).toNatClampNeg (t2 ((129 + (nI k1)) + 1).toNatClampNeg)) ((135 + (nI k1)) + 1).toNatClampNeg)) (141 + (nI k1)).toNatClampNeg ((upd (upd t2 (129 + (nI k1)).toNatClampNeg (t2 ((129 + (nI k1)) + 1).toNatClampNeg)) (135 + (nI k1)).toNatClampNeg ((upd t2 (129 + (nI k1)).toNatClampNeg (t2 ((129 + (nI k1)) + 1).toNatClampNeg)) ((135 + (nI k1)) + 1).toNatClampNeg)) ((141 + (nI k1)) + 1).toNatClampNeg)) := (by first | (simp only [f_X8_removeLamp_14]; done) | (unfold f_X8_removeLamp_14; rfl) | rfl)
      exact ihk1 _ ef (rl_step hik1 (by have := cl_lt (rl_sub6 hMb hj); omega) _ _ _) H locs ls ⟨hP, hD, hS, lv_sub hl [0, 1] rfl⟩
def m_X8_lay (RO : Nat → Int32) (ce : Int32) (kd : Int32) : (Nat → Int32) := (if (m_X8_isDark kd) = false then upd RO (0 + ce).toNatClampNeg kd else (if (m_X8_lampIn (upd RO (0 + ce).toNatClampNeg kd) ce) = (-4) then upd RO (0 + ce).toNatClampNeg kd else (m_X8_removeLamp (upd RO (0 + ce).toNatClampNeg kd) (m_X8_lampIn (upd RO (0 + ce).toNatClampNeg kd) ce))))
set_option maxHeartbeats 4000000 in
set_option maxRecDepth 100000 in
theorem met_X8_lay (l : Launch) (D : va_G) (y4 : vT) (aM aRo aHi aSn aAs aLg aPd aCo aEa : Nat) (sz : Nat) (ms : Int32) (sv : Bool) (ml : Int32) (RO : Nat → Int32) (ce : Int32) (kd : Int32) (hM : MI RO) (hce : vp_in ce 64) : Met l yX8_lay wsX8_lay ({ frames := 1, cells := 0, slots := 0, locals := 23 }) (va_Pc [.ref aM, .int ce, .int kd] (PreW D y4 [(aM, .inr (7, [.ref aRo, .ref aHi, .int ms, .ref aSn, .int (bI sv), .ref aAs, .ref aLg, .ref aPd, .int ml, .ref aCo, .ref aEa])), (aRo, .inl (y4.1, 151, .inl RO))] sz)) (va_Qv (fun (_ : Unit) => True) (fun _ t => PostW D (va_A [(aM, .inr (7, [.ref aRo, .ref aHi, .int ms, .ref aSn, .int (bI sv), .ref aAs, .ref aLg, .ref aPd, .int ml, .ref aCo, .ref aEa])), (aRo, .inl (y4.1, 151, .inl RO))] sz) [(aM, .inr (7, [.ref aRo, .ref aHi, .int ms, .ref aSn, .int (bI sv), .ref aAs, .ref aLg, .ref aPd, .int ml, .ref aCo, .ref aEa])), (aRo, .inl (y4.1, 151, .inl (m_X8_lay RO ce kd)))] t) (va_A [(aM, .inr (7, [.ref aRo, .ref aHi, .int ms, .ref aSn, .int (bI sv), .ref aAs, .ref aLg, .ref aPd, .int ml, .ref aCo, .ref aEa])), (aRo, .inl (y4.1, 151, .inl RO))] sz)) 0 0 (va_A [(aM, .inr (7, [.ref aRo, .ref aHi, .int ms, .ref aSn, .int (bI sv), .ref aAs, .ref aLg, .ref aPd, .int ml, .ref aCo, .ref aEa])), (aRo, .inl (y4.1, 151, .inl RO))] sz) := by
  refine Met.ofW (cc := cX8_lay) (maxL := 3) (ret := none) (by decide) rfl ?_
  intro p e s m args below meth c s₁ B hml hv
  obtain ⟨rfl, hsz, hP, hK, hD0, hNW⟩ := hv
  have hx := B.exec
  have hb := B.bytes
  have hr := B.returns
  have hts := atoms_spec (ws := wsX8_lay) B.pre
  have hown : s.vm.findClass RX8 = some m.cls := findClass_of_methodNamed B.named
  have hlocks := B.notSynchronized
  subst hsz
  have hD := hD0.self (sz := s.heap.size)
  generalize hAe : va_A [(aM, .inr (7, [.ref aRo, .ref aHi, .int ms, .ref aSn, .int (bI sv), .ref aAs, .ref aLg, .ref aPd, .int ml, .ref aCo, .ref aEa])), (aRo, .inl (y4.1, 151, .inl RO))] s.heap.size = A at hD ⊢
  have hA : ∀ q : Nat, s.heap.size ≤ q → A q := fun q h => by rw [← hAe]; exact Or.inr h
  have hS : va_S A s.heap s.heap [] := va_S.rf
  have hl := lv_entry ([.ref aM, .int ce, .int kd]) (n := 3) (Nat.le_of_ble_eq_true rfl)
  rw [lg_entry_eq]
  generalize (lg_sl ([.ref aM, .int ce, .int kd]) ++ List.replicate (3 - (lg_sl ([.ref aM, .int ce, .int kd])).length) Slot.unset).toArray = ls at hl ⊢
  have hl : lv_has ls 3 [(0, .ref aM), (1, .int ce), (2, .int kd)] := hl
  have f7 := hts (.fieldLink RX8 7 "PillarLightModel" "row" "[I") (List.mem_of_getElem? (i := 1) rfl)
  have iX8 : ∀ w ∈ wsX80, w ∈ wsX8_lay := fun _ h => List.mem_cons_of_mem _ (List.mem_append_right _ h)
  refine startW (fun H locs hP hS => ?_) hP hS
  refine lv_aload_n hx hb dX8_lay_0 rfl (lv_at hl 0 rfl) ?_
  refine va_get (ci := 7) (v := .ref aRo) (C := RX8) (T := TX8) (N := 11) hx hb hts iX8 hown hK hP 0 rfl rfl 0 (by decide) f7 (fun _ h9 => h9) rfl dX8_lay_1 ?_
  refine lv_iconst (v := 0) hx hb dX8_lay_4 (by decide) ?_
  refine lv_iload_n hx hb dX8_lay_5 rfl (lv_at hl 1 rfl) ?_
  refine lv_iadd hx hb dX8_lay_6 ?_
  refine lv_iload_n hx hb dX8_lay_7 rfl (lv_at hl 2 rfl) ?_
  refine va_iast hx hb hK hP hD hS 1 0 rfl rfl (off_in hce (by decide) (by decide) (by decide)) dX8_lay_8 (fun H locs hP hD hS => ?_)
  have hP : va_P D vwCl [(aM, .inr (7, [.ref aRo, .ref aHi, .int ms, .ref aSn, .int (bI sv), .ref aAs, .ref aLg, .ref aPd, .int ml, .ref aCo, .ref aEa])), (aRo, .inl (y4.1, 151, .inl (upd RO (0 + ce).toNatClampNeg kd)))] H := hP
  have hD : va_D A [(aM, .inr (7, [.ref aRo, .ref aHi, .int ms, .ref aSn, .int (bI sv), .ref aAs, .ref aLg, .ref aPd, .int ml, .ref aCo, .ref aEa])), (aRo, .inl (y4.1, 151, .inl (upd RO (0 + ce).toNatClampNeg kd)))] := hD
  refine lv_iload_n hx hb dX8_lay_9 rfl (lv_at hl 2 rfl) ?_
  refine callK_i (va_runS (As := [.int kd]) (rest := []) ⟨hx, hb, hml, hown, hts⟩ (met_X8_isDark l  kd) (va_cwS 1 hts gX8_lay_X8_isDark rfl rfl rfl (by decide +kernel) ⟨Nat.le_of_ble_eq_true rfl, Nat.le_of_ble_eq_true rfl⟩) ⟨preS_blind, fun U hU hW => ⟨rfl, trivial⟩⟩ rfl rfl hl.1 rfl (lv_room (Nat.le_of_ble_eq_true rfl)) dX8_lay_10 ⟨Nat.zero_le _, Nat.zero_le _⟩) hP hS (fun r u H locs hw hP hS => ?_)
  subst hw
  refine lb_if_eq (tgt := 35) hx hb dX8_lay_13 (by decide) (fun c1 => ?_) (fun c1 => ?_)
  · have em : m_X8_lay RO ce kd = upd RO (0 + ce).toNatClampNeg kd := (by first | (simp only [m_X8_lay, if_pos c1]; done) | (simp only [m_X8_lay, if_pos c1]; rfl))
    exact W.vret hx hb hr (fun t ht hW => ⟨⟨(), rfl, trivial, ⟨by rw [ht, em]; exact hP, by rw [em]; exact hD⟩⟩, hS.F ht⟩) hS.2.2 dX8_lay_35
  · refine lv_aload_n hx hb dX8_lay_16 rfl (lv_at hl 0 rfl) ?_
    refine lv_iload_n hx hb dX8_lay_17 rfl (lv_at hl 1 rfl) ?_
    refine callW_i (wr := []) (wn := fun u => [(aM, .inr (7, [.ref aRo, .ref aHi, .int ms, .ref aSn, .int (bI sv), .ref aAs, .ref aLg, .ref aPd, .int ml, .ref aCo, .ref aEa])), (aRo, .inl (y4.1, 151, .inl (upd RO (0 + ce).toNatClampNeg kd)))]) (va_runV (As := [.int ce]) (rest := []) ⟨hx, hb, hml, hown, hts⟩ (met_X8_lampIn l D y4 aM aRo aHi aSn aAs aLg aPd aCo aEa H.size ms sv ml (upd RO (0 + ce).toNatClampNeg kd) ce (MI_kind hM (o0_lt hce) kd)) (cwV 1 hts gX8_lay_X8_lampIn rfl rfl rfl (by decide +kernel) ⟨Nat.le_of_ble_eq_true rfl, Nat.le_of_ble_eq_true rfl⟩) ⟨preW_blind, va_recv hK hP (ci := 7) (q0 := 0) rfl rfl, preW_at (hP.sub (ws' := [(aM, .inr (7, [.ref aRo, .ref aHi, .int ms, .ref aSn, .int (bI sv), .ref aAs, .ref aLg, .ref aPd, .int ml, .ref aCo, .ref aEa])), (aRo, .inl (y4.1, 151, .inl (upd RO (0 + ce).toNatClampNeg kd)))]) [0, 1] rfl) hK (hD.sub (ws' := [(aM, .inr (7, [.ref aRo, .ref aHi, .int ms, .ref aSn, .int (bI sv), .ref aAs, .ref aLg, .ref aPd, .int ml, .ref aCo, .ref aEa])), (aRo, .inl (y4.1, 151, .inl (upd RO (0 + ce).toNatClampNeg kd)))]) [0, 1] (by decide) rfl) hNW⟩ rfl rfl hl.1 rfl (lv_room (Nat.le_of_ble_eq_true rfl)) dX8_lay_18 ⟨Nat.zero_le _, Nat.zero_le _⟩) hP hD hS hA [0, 1] [] [0, 1] rfl rfl (by decide) (by decide) (fun _ => rfl) (by decide) (fun r u2 H locs hw hP hD hS => ?_)
    subst hw
    have hP : va_P D vwCl [(aM, .inr (7, [.ref aRo, .ref aHi, .int ms, .ref aSn, .int (bI sv), .ref aAs, .ref aLg, .ref aPd, .int ml, .ref aCo, .ref aEa])), (aRo, .inl (y4.1, 151, .inl (upd RO (0 + ce).toNatClampNeg kd)))] H := hP
    have hD : va_D A [(aM, .inr (7, [.ref aRo, .ref aHi, .int ms, .ref aSn, .int (bI sv), .ref aAs, .ref aLg, .ref aPd, .int ml, .ref aCo, .ref aEa])), (aRo, .inl (y4.1, 151, .inl (upd RO (0 + ce).toNatClampNeg kd)))] := hD
    refine lv_bipush (v := (-4)) hx hb dX8_lay_21 (by decide) ?_
    refine lv_icmp_eq (tgt := 35) hx hb dX8_lay_23 (by decide) (fun c3 => ?_) (fun c3 => ?_)
    · have em : m_X8_lay RO ce kd = upd RO (0 + ce).toNatClampNeg kd := (by first | (simp only [m_X8_lay, if_neg c1, if_pos c3]; done) | (simp only [m_X8_lay, if_neg c1, if_pos c3]; rfl))
      exact W.vret hx hb hr (fun t ht hW => ⟨⟨(), rfl, trivial, ⟨by rw [ht, em]; exact hP, by rw [em]; exact hD⟩⟩, hS.F ht⟩) hS.2.2 dX8_lay_35
    · refine lv_aload_n hx hb dX8_lay_26 rfl (lv_at hl 0 rfl) ?_
      refine lv_aload_n hx hb dX8_lay_27 rfl (lv_at hl 0 rfl) ?_
      refine lv_iload_n hx hb dX8_lay_28 rfl (lv_at hl 1 rfl) ?_
      refine callW_i (wr := []) (wn := fun u => [(aM, .inr (7, [.ref aRo, .ref aHi, .int ms, .ref aSn, .int (bI sv), .ref aAs, .ref aLg, .ref aPd, .int ml, .ref aCo, .ref aEa])), (aRo, .inl (y4.1, 151, .inl (upd RO (0 + ce).toNatClampNeg kd)))]) (va_runV (As := [.int ce]) (rest := [.ref aM]) ⟨hx, hb, hml, hown, hts⟩ (met_X8_lampIn l D y4 aM aRo aHi aSn aAs aLg aPd aCo aEa H.size ms sv ml (upd RO (0 + ce).toNatClampNeg kd) ce (MI_kind hM (o0_lt hce) kd)) (cwV 1 hts gX8_lay_X8_lampIn rfl rfl rfl (by decide +kernel) ⟨Nat.le_of_ble_eq_true rfl, Nat.le_of_ble_eq_true rfl⟩) ⟨preW_blind, va_recv hK hP (ci := 7) (q0 := 0) rfl rfl, preW_at (hP.sub (ws' := [(aM, .inr (7, [.ref aRo, .ref aHi, .int ms, .ref aSn, .int (bI sv), .ref aAs, .ref aLg, .ref aPd, .int ml, .ref aCo, .ref aEa])), (aRo, .inl (y4.1, 151, .inl (upd RO (0 + ce).toNatClampNeg kd)))]) [0, 1] rfl) hK (hD.sub (ws' := [(aM, .inr (7, [.ref aRo, .ref aHi, .int ms, .ref aSn, .int (bI sv), .ref aAs, .ref aLg, .ref aPd, .int ml, .ref aCo, .ref aEa])), (aRo, .inl (y4.1, 151, .inl (upd RO (0 + ce).toNatClampNeg kd)))]) [0, 1] (by decide) rfl) hNW⟩ rfl rfl hl.1 rfl (lv_room (Nat.le_of_ble_eq_true rfl)) dX8_lay_29 ⟨Nat.zero_le _, Nat.zero_le _⟩) hP hD hS hA [0, 1] [] [0, 1] rfl rfl (by decide) (by decide) (fun _ => rfl) (by decide) (fun r u4 H locs hw hP hD hS => ?_)
      subst hw
      have hP : va_P D vwCl [(aM, .inr (7, [.ref aRo, .ref aHi, .int ms, .ref aSn, .int (bI sv), .ref aAs, .ref aLg, .ref aPd, .int ml, .ref aCo, .ref aEa])), (aRo, .inl (y4.1, 151, .inl (upd RO (0 + ce).toNatClampNeg kd)))] H := hP
      have hD : va_D A [(aM, .inr (7, [.ref aRo, .ref aHi, .int ms, .ref aSn, .int (bI sv), .ref aAs, .ref aLg, .ref aPd, .int ml, .ref aCo, .ref aEa])), (aRo, .inl (y4.1, 151, .inl (upd RO (0 + ce).toNatClampNeg kd)))] := hD
      refine callW_v (wr := []) (wn := fun u => [(aM, .inr (7, [.ref aRo, .ref aHi, .int ms, .ref aSn, .int (bI sv), .ref aAs, .ref aLg, .ref aPd, .int ml, .ref aCo, .ref aEa])), (aRo, .inl (y4.1, 151, .inl (m_X8_removeLamp (upd RO (0 + ce).toNatClampNeg kd) (m_X8_lampIn (upd RO (0 + ce).toNatClampNeg kd) ce))))]) (va_runV (As := [.int (m_X8_lampIn (upd RO (0 + ce).toNatClampNeg kd) ce)]) (rest := []) ⟨hx, hb, hml, hown, hts⟩ (met_X8_removeLamp l D y4 aM aRo aHi aSn aAs aLg aPd aCo aEa H.size ms sv ml (upd RO (0 + ce).toNatClampNeg kd) (m_X8_lampIn (upd RO (0 + ce).toNatClampNeg kd) ce) (MI_kind hM (o0_lt hce) kd).1 ((li_in (MI_kind hM (o0_lt hce) kd) ce).resolve_left (by assumption))) (cwV 1 hts gX8_lay_X8_removeLamp rfl rfl rfl (by decide +kernel) ⟨Nat.le_of_ble_eq_true rfl, Nat.le_of_ble_eq_true rfl⟩) ⟨preW_blind, va_recv hK hP (ci := 7) (q0 := 0) rfl rfl, preW_at (hP.sub (ws' := [(aM, .inr (7, [.ref aRo, .ref aHi, .int ms, .ref aSn, .int (bI sv), .ref aAs, .ref aLg, .ref aPd, .int ml, .ref aCo, .ref aEa])), (aRo, .inl (y4.1, 151, .inl (upd RO (0 + ce).toNatClampNeg kd)))]) [0, 1] rfl) hK (hD.sub (ws' := [(aM, .inr (7, [.ref aRo, .ref aHi, .int ms, .ref aSn, .int (bI sv), .ref aAs, .ref aLg, .ref aPd, .int ml, .ref aCo, .ref aEa])), (aRo, .inl (y4.1, 151, .inl (upd RO (0 + ce).toNatClampNeg kd)))]) [0, 1] (by decide) rfl) hNW⟩ rfl rfl hl.1 rfl (lv_room (Nat.le_of_ble_eq_true rfl)) dX8_lay_32 ⟨Nat.zero_le _, Nat.zero_le _⟩) hP hD hS hA [0, 1] [] [0, 1] rfl rfl (by decide) (by decide) (fun _ => rfl) (by decide) (fun u5 H locs hw hP hD hS => ?_)
      have hP : va_P D vwCl [(aM, .inr (7, [.ref aRo, .ref aHi, .int ms, .ref aSn, .int (bI sv), .ref aAs, .ref aLg, .ref aPd, .int ml, .ref aCo, .ref aEa])), (aRo, .inl (y4.1, 151, .inl (m_X8_removeLamp (upd RO (0 + ce).toNatClampNeg kd) (m_X8_lampIn (upd RO (0 + ce).toNatClampNeg kd) ce))))] H := hP
      have hD : va_D A [(aM, .inr (7, [.ref aRo, .ref aHi, .int ms, .ref aSn, .int (bI sv), .ref aAs, .ref aLg, .ref aPd, .int ml, .ref aCo, .ref aEa])), (aRo, .inl (y4.1, 151, .inl (m_X8_removeLamp (upd RO (0 + ce).toNatClampNeg kd) (m_X8_lampIn (upd RO (0 + ce).toNatClampNeg kd) ce))))] := hD
      have em : m_X8_lay RO ce kd = (m_X8_removeLamp (upd RO (0 + ce).toNatClampNeg kd) (m_X8_lampIn (upd RO (0 + ce).toNatClampNeg kd) ce)) := (by first | (simp only [m_X8_lay, if_neg c1, if_neg c3]; done) | (simp only [m_X8_lay, if_neg c1, if_neg c3]; rfl))
      exact W.vret hx hb hr (fun t ht hW => ⟨⟨(), rfl, trivial, ⟨by rw [ht, em]; exact hP, by rw [em]; exact hD⟩⟩, hS.F ht⟩) hS.2.2 dX8_lay_35
