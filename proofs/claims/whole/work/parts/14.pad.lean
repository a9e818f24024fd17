theorem vp_in_b {b c : Int32} {N : Nat} (h : 0 ≤ b.toInt ∧ b.toInt ≤ N) (h2 : ¬ c ≤ b) (hc : c.toInt = N) : vp_in b N := by
  rw [vp_in_iff]
  rw [Int32.le_iff_toInt_le] at h2
  omega
theorem lpx_ind {σ ρ : Type} {f : Nat → σ → ρ ⊕ σ} (I : Nat → σ → Prop) (hs : ∀ k s s', I k s → f k s = .inr s' → I (k + 1) s') : ∀ (n i0 : Nat) (s0 : σ), I i0 s0 → ∀ t, lpx f n i0 s0 = .inr t → I (i0 + n) t := by
  intro n
  induction n with
  | zero =>
    intro i0 s0 h0 t ht
    have e : s0 = t := Sum.inr.inj ht
    rw [← e]; exact h0
  | succ n ih =>
    intro i0 s0 h0 t ht
    rw [lpx] at ht
    cases hf : f i0 s0 with
    | inl r => rw [hf] at ht; cases ht
    | inr s' =>
      rw [hf] at ht
      have := ih (i0 + 1) s' (hs i0 s0 s' h0 hf) t ht
      rw [show i0 + (n + 1) = i0 + 1 + n by omega]
      exact this
/-- a loop with an answer: what holds of every state and of every answer from within -/
theorem lpx_out {σ ρ : Type} {f : Nat → σ → ρ ⊕ σ} (I : Nat → σ → Prop) (P : ρ → Prop) (hs : ∀ k s, I k s → (∀ r, f k s = .inl r → P r) ∧ ∀ s', f k s = .inr s' → I (k + 1) s') : ∀ (n i0 : Nat) (s0 : σ), I i0 s0 → ∀ r, lpx f n i0 s0 = .inl r → P r := by
  intro n
  induction n with
  | zero => intro i0 s0 _ r hr; cases hr
  | succ n ih =>
    intro i0 s0 h0 r hr
    rw [lpx] at hr
    cases hf : f i0 s0 with
    | inl r' => rw [hf] at hr; cases hr; exact (hs i0 s0 h0).1 r hf
    | inr s' => rw [hf] at hr; exact ih (i0 + 1) s' ((hs i0 s0 h0).2 s' hf) r hr

theorem kat_cells : ∀ c : Nat, c < 64 → 0 ≤ ((m_X0_row (nI c)) * 9 + (m_X0_column (nI c))).toInt ∧ ((m_X0_row (nI c)) * 9 + (m_X0_column (nI c))).toInt < (80 : Nat) := by decide +kernel
theorem kat_in {c : Int32} (h : vp_in c 64) : vp_in ((m_X0_row c) * 9 + (m_X0_column c)) 80 := by
  obtain ⟨j, hj, rfl⟩ := vp_in_of h (by decide)
  rw [vp_in_iff]
  exact kat_cells j hj

def m_X4_kindOf (ch : Int32) : Int32 := (if ch = 46 then (0 : Int32) else (if ch = 35 then (1 : Int32) else (if ch = 61 then (2 : Int32) else (if ch = 126 then (3 : Int32) else (-1 : Int32)))))
set_option maxHeartbeats 4000000 in
set_option maxRecDepth 100000 in
theorem met_X4_kindOf (l : Launch) (ch : Int32) : Met l yX4_kindOf wsX4_kindOf ({ frames := 0, cells := 0, slots := 0, locals := 0 }) (va_Pc [.int ch] (fun _ => True)) (va_Qi (fun (r : Int32) (_ : Unit) => r = (m_X4_kindOf ch)) (fun _ _ => True) (fun _ => False)) 0 0 (fun _ => False) := by
  refine Met.ofW (cc := cX4_kindOf) (maxL := 1) (ret := (some .int)) (by decide) rfl ?_
  intro p e s m args below meth c s₁ B hml hv
  obtain ⟨rfl, -⟩ := hv
  have hx := B.exec
  have hb := B.bytes
  have hr := B.returns
  have hts := atoms_spec (ws := wsX4_kindOf) B.pre
  have hown : s.vm.findClass RX4 = some m.cls := findClass_of_methodNamed B.named
  have hlocks := B.notSynchronized
  have hS : va_S (fun _ => False) s.heap s.heap [] := va_S.rf
  have hl := lv_entry ([.int ch]) (n := 1) (Nat.le_of_ble_eq_true rfl)
  rw [lg_entry_eq]
  generalize (lg_sl ([.int ch]) ++ List.replicate (1 - (lg_sl ([.int ch])).length) Slot.unset).toArray = ls at hl ⊢
  have hl : lv_has ls 1 [(0, .int ch)] := hl
  refine startS (fun H locs hS => ?_) hS
  refine lv_iload_n hx hb dX4_kindOf_0 rfl (lv_at hl 0 rfl) ?_
  refine lv_bipush (v := 46) hx hb dX4_kindOf_1 (by decide) ?_
  refine lv_icmp_ne (tgt := 8) hx hb dX4_kindOf_3 (by decide) (fun c1 => ?_) (fun c1 => ?_)
  · refine lv_iload_n hx hb dX4_kindOf_8 rfl (lv_at hl 0 rfl) ?_
    refine lv_bipush (v := 35) hx hb dX4_kindOf_9 (by decide) ?_
    refine lv_icmp_ne (tgt := 16) hx hb dX4_kindOf_11 (by decide) (fun c2 => ?_) (fun c2 => ?_)
    · refine lv_iload_n hx hb dX4_kindOf_16 rfl (lv_at hl 0 rfl) ?_
      refine lv_bipush (v := 61) hx hb dX4_kindOf_17 (by decide) ?_
      refine lv_icmp_ne (tgt := 24) hx hb dX4_kindOf_19 (by decide) (fun c3 => ?_) (fun c3 => ?_)
      · refine lv_iload_n hx hb dX4_kindOf_24 rfl (lv_at hl 0 rfl) ?_
        refine lv_bipush (v := 126) hx hb dX4_kindOf_25 (by decide) ?_
        refine lv_icmp_ne (tgt := 34) hx hb dX4_kindOf_27 (by decide) (fun c4 => ?_) (fun c4 => ?_)
        · refine lv_iconst (v := (-1)) hx hb dX4_kindOf_34 (by decide) ?_
          have em : m_X4_kindOf ch = (-1 : Int32) := (by first | (simp only [m_X4_kindOf, if_neg c1, if_neg c2, if_neg c3, if_neg c4]; done) | (simp only [m_X4_kindOf, if_neg c1, if_neg c2, if_neg c3, if_neg c4]; rfl))
          exact W.iret (v := (-1)) hx hb hr (fun t ht hW => ⟨⟨(-1), (), rfl, (by rw [em]), trivial⟩, hS.F ht⟩) hS.2.2 dX4_kindOf_35
        · refine lv_iconst (v := 3) hx hb dX4_kindOf_30 (by decide) ?_
          refine lv_goto (tgt := 35) hx hb dX4_kindOf_31 (by decide) ?_
          have em : m_X4_kindOf ch = (3 : Int32) := (by first | (simp only [m_X4_kindOf, if_neg c1, if_neg c2, if_neg c3, if_pos c4]; done) | (simp only [m_X4_kindOf, if_neg c1, if_neg c2, if_neg c3, if_pos c4]; rfl))
          exact W.iret (v := 3) hx hb hr (fun t ht hW => ⟨⟨3, (), rfl, (by rw [em]), trivial⟩, hS.F ht⟩) hS.2.2 dX4_kindOf_35
      · refine lv_iconst (v := 2) hx hb dX4_kindOf_22 (by decide) ?_
        have em : m_X4_kindOf ch = (2 : Int32) := (by first | (simp only [m_X4_kindOf, if_neg c1, if_neg c2, if_pos c3]; done) | (simp only [m_X4_kindOf, if_neg c1, if_neg c2, if_pos c3]; rfl))
        exact W.iret (v := 2) hx hb hr (fun t ht hW => ⟨⟨2, (), rfl, (by rw [em]), trivial⟩, hS.F ht⟩) hS.2.2 dX4_kindOf_23
    · refine lv_iconst (v := 1) hx hb dX4_kindOf_14 (by decide) ?_
      have em : m_X4_kindOf ch = (1 : Int32) := (by first | (simp only [m_X4_kindOf, if_neg c1, if_pos c2]; done) | (simp only [m_X4_kindOf, if_neg c1, if_pos c2]; rfl))
      exact W.iret (v := 1) hx hb hr (fun t ht hW => ⟨⟨1, (), rfl, (by rw [em]), trivial⟩, hS.F ht⟩) hS.2.2 dX4_kindOf_15
  · refine lv_iconst (v := 0) hx hb dX4_kindOf_6 (by decide) ?_
    have em : m_X4_kindOf ch = (0 : Int32) := (by first | (simp only [m_X4_kindOf, if_pos c1]; done) | (simp only [m_X4_kindOf, if_pos c1]; rfl))
    exact W.iret (v := 0) hx hb hr (fun t ht hW => ⟨⟨0, (), rfl, (by rw [em]), trivial⟩, hS.F ht⟩) hS.2.2 dX4_kindOf_7
def m_X4_add (pl : Int32) (SG : Nat → Int32) (ch : Int32) : Int32 × (Nat → Int32) := (if 80 ≤ pl then (pl, SG) else (pl + 1, upd SG (pl).toNatClampNeg (vp_nar .char ch)))
set_option maxHeartbeats 4000000 in
set_option maxRecDepth 100000 in
theorem met_X4_add (l : Launch) (D : va_G) (y4 : vT) (aPa aSg : Nat) (sz : Nat) (pl : Int32) (SG : Nat → Int32) (ch : Int32) (hpl : 0 ≤ pl.toInt ∧ pl.toInt ≤ (80 : Nat)) : Met l yX4_add wsX4_add ({ frames := 0, cells := 0, slots := 0, locals := 0 }) (va_Pc [.ref aPa, .int ch] (PreW D y4 [(aPa, .inr (3, [.ref aSg, .int pl])), (aSg, .inl (y4.2.1, 80, .inl SG))] sz)) (va_Qv (fun (_ : Unit) => True) (fun _ t => PostW D (va_A [(aPa, .inr (3, [.ref aSg, .int pl])), (aSg, .inl (y4.2.1, 80, .inl SG))] sz) [(aPa, .inr (3, [.ref aSg, .int ((m_X4_add pl SG ch).1)])), (aSg, .inl (y4.2.1, 80, .inl ((m_X4_add pl SG ch).2)))] t) (va_A [(aPa, .inr (3, [.ref aSg, .int pl])), (aSg, .inl (y4.2.1, 80, .inl SG))] sz)) 0 0 (va_A [(aPa, .inr (3, [.ref aSg, .int pl])), (aSg, .inl (y4.2.1, 80, .inl SG))] sz) := by
  refine Met.ofW (cc := cX4_add) (maxL := 2) (ret := none) (by decide) rfl ?_
  intro p e s m args below meth c s₁ B hml hv
  obtain ⟨rfl, hsz, hP, hK, hD0, hNW⟩ := hv
  have hx := B.exec
  have hb := B.bytes
  have hr := B.returns
  have hts := atoms_spec (ws := wsX4_add) B.pre
  have hown : s.vm.findClass RX4 = some m.cls := findClass_of_methodNamed B.named
  have hlocks := B.notSynchronized
  subst hsz
  have hD := hD0.self (sz := s.heap.size)
  generalize hAe : va_A [(aPa, .inr (3, [.ref aSg, .int pl])), (aSg, .inl (y4.2.1, 80, .inl SG))] s.heap.size = A at hD ⊢
  have hA : ∀ q : Nat, s.heap.size ≤ q → A q := fun q h => by rw [← hAe]; exact Or.inr h
  have hS : va_S A s.heap s.heap [] := va_S.rf
  have hl := lv_entry ([.ref aPa, .int ch]) (n := 2) (Nat.le_of_ble_eq_true rfl)
  rw [lg_entry_eq]
  generalize (lg_sl ([.ref aPa, .int ch]) ++ List.replicate (2 - (lg_sl ([.ref aPa, .int ch])).length) Slot.unset).toArray = ls at hl ⊢
  have hl : lv_has ls 2 [(0, .ref aPa), (1, .int ch)] := hl
  have f15 := hts (.fieldLink RX4 15 "PillarLight$Pad" "length" "I") (List.mem_of_getElem? (i := 1) rfl)
  have iX4 : ∀ w ∈ wsX40, w ∈ wsX4_add := fun _ h => List.mem_cons_of_mem _ (List.mem_append_right _ h)
  have f11 := hts (.fieldLink RX4 11 "PillarLight$Pad" "signs" "[C") (List.mem_of_getElem? (i := 2) rfl)
  refine startW (fun H locs hP hS => ?_) hP hS
  refine lv_aload_n hx hb dX4_add_0 rfl (lv_at hl 0 rfl) ?_
  refine va_get (ci := 3) (v := .int pl) (C := RX4) (T := TX4) (N := 2) hx hb hts iX4 hown hK hP 0 rfl rfl 1 (by decide) f15 (fun _ h9 => h9) rfl dX4_add_1 ?_
  refine lv_bipush (v := 80) hx hb dX4_add_4 (by decide) ?_
  refine lv_icmp_ge (tgt := 29) hx hb dX4_add_6 (by decide) (fun c1 => ?_) (fun c1 => ?_)
  · have em : m_X4_add pl SG ch = (pl, SG) := (by first | (simp only [m_X4_add, if_pos c1]; done) | (simp only [m_X4_add, if_pos c1]; rfl))
    exact W.vret hx hb hr (fun t ht hW => ⟨⟨(), rfl, trivial, ⟨by rw [ht, em]; exact hP, by rw [em]; exact hD⟩⟩, hS.F ht⟩) hS.2.2 dX4_add_29
  · refine lv_aload_n hx hb dX4_add_9 rfl (lv_at hl 0 rfl) ?_
    refine va_get (ci := 3) (v := .ref aSg) (C := RX4) (T := TX4) (N := 2) hx hb hts iX4 hown hK hP 0 rfl rfl 0 (by decide) f11 (fun _ h9 => h9) rfl dX4_add_10 ?_
    refine lv_aload_n hx hb dX4_add_13 rfl (lv_at hl 0 rfl) ?_
    refine va_get (ci := 3) (v := .int pl) (C := RX4) (T := TX4) (N := 2) hx hb hts iX4 hown hK hP 0 rfl rfl 1 (by decide) f15 (fun _ h9 => h9) rfl dX4_add_14 ?_
    refine lv_iload_n hx hb dX4_add_17 rfl (lv_at hl 1 rfl) ?_
    refine va_cast hx hb hK hP hD hS 1 1 rfl rfl (vp_in_b hpl (by assumption) (by decide)) dX4_add_18 (fun H locs hP hD hS => ?_)
    have hP : va_P D vwCl [(aPa, .inr (3, [.ref aSg, .int pl])), (aSg, .inl (y4.2.1, 80, .inl (upd SG (pl).toNatClampNeg (vp_nar .char ch))))] H := hP
    have hD : va_D A [(aPa, .inr (3, [.ref aSg, .int pl])), (aSg, .inl (y4.2.1, 80, .inl (upd SG (pl).toNatClampNeg (vp_nar .char ch))))] := hD
    refine lv_aload_n hx hb dX4_add_19 rfl (lv_at hl 0 rfl) ?_
    refine lv_dup hx hb dX4_add_20 rfl ?_
    refine va_get (ci := 3) (v := .int pl) (C := RX4) (T := TX4) (N := 2) hx hb hts iX4 hown hK hP 0 rfl rfl 1 (by decide) f15 (fun _ h9 => h9) rfl dX4_add_21 ?_
    refine lv_iconst (v := 1) hx hb dX4_add_24 (by decide) ?_
    refine lv_iadd hx hb dX4_add_25 ?_
    refine va_put (ci := 3) (v := .int (pl + 1)) (ty := .int) (C := RX4) (T := TX4) (N := 2) hx hb hts iX4 tyX4 tyX4_ok nmX4 hown hK hP hD hS 0 rfl rfl 1 (by decide) f15 (fun _ h9 => h9) rfl (by decide +kernel) rfl rfl (Nat.le_of_ble_eq_true rfl) dX4_add_26 (fun H locs hP hD hS => ?_)
    have hP : va_P D vwCl [(aPa, .inr (3, [.ref aSg, .int (pl + 1)])), (aSg, .inl (y4.2.1, 80, .inl (upd SG (pl).toNatClampNeg (vp_nar .char ch))))] H := hP
    have hD : va_D A [(aPa, .inr (3, [.ref aSg, .int (pl + 1)])), (aSg, .inl (y4.2.1, 80, .inl (upd SG (pl).toNatClampNeg (vp_nar .char ch))))] := hD
    have em : m_X4_add pl SG ch = (pl + 1, upd SG (pl).toNatClampNeg (vp_nar .char ch)) := (by first | (simp only [m_X4_add, if_neg c1]; done) | (simp only [m_X4_add, if_neg c1]; rfl))
    exact W.vret hx hb hr (fun t ht hW => ⟨⟨(), rfl, trivial, ⟨by rw [ht, em]; exact hP, by rw [em]; exact hD⟩⟩, hS.F ht⟩) hS.2.2 dX4_add_29
def m_X4_fitsMap (SG : Nat → Int32) (at_ : Int32) (wk : Int32) : Bool := (if at_ < 71 then (if (at_ - at_ / 9 * 9) = 8 then (if (SG (at_).toNatClampNeg) = 47 then true else false) else (if (m_X4_kindOf (SG (at_).toNatClampNeg)) = (-1) then false else (if (((at_ / 9) * 8) + (at_ - at_ / 9 * 9)) = wk then (let q5 : Bool := m_X0_stopsFeet (m_X4_kindOf (SG (at_).toNatClampNeg)); (if q5 = false then true else false)) else true))) else false)
set_option maxHeartbeats 4000000 in
set_option maxRecDepth 100000 in
theorem met_X4_fitsMap (l : Launch) (D : va_G) (y4 : vT) (aPa aSg : Nat) (sz : Nat) (pl : Int32) (SG : Nat → Int32) (at_ : Int32) (wk : Int32) (hat : vp_in at_ 80) : Met l yX4_fitsMap wsX4_fitsMap ({ frames := 1, cells := 0, slots := 0, locals := 20 }) (va_Pc [.ref aPa, .int at_, .int wk] (PreW D y4 [(aPa, .inr (3, [.ref aSg, .int pl])), (aSg, .inl (y4.2.1, 80, .inl SG))] sz)) (va_Qi (fun (r : Int32) (_ : Unit) => r = bI (m_X4_fitsMap SG at_ wk)) (fun _ t => PostW D (va_A [(aPa, .inr (3, [.ref aSg, .int pl])), (aSg, .inl (y4.2.1, 80, .inl SG))] sz) [(aPa, .inr (3, [.ref aSg, .int pl])), (aSg, .inl (y4.2.1, 80, .inl SG))] t) (va_A [(aPa, .inr (3, [.ref aSg, .int pl])), (aSg, .inl (y4.2.1, 80, .inl SG))] sz)) 0 0 (va_A [(aPa, .inr (3, [.ref aSg, .int pl])), (aSg, .inl (y4.2.1, 80, .inl SG))] sz) := by
  refine Met.ofW (cc := cX4_fitsMap) (maxL := 6) (ret := (some .boolean)) (by decide) rfl ?_
  intro p e s m args below meth c s₁ B hml hv
  obtain ⟨rfl, hsz, hP, hK, hD0, hNW⟩ := hv
  have hx := B.exec
  have hb := B.bytes
  have hr := B.returns
  have hts := atoms_spec (ws := wsX4_fitsMap) B.pre
  have hown : s.vm.findClass RX4 = some m.cls := findClass_of_methodNamed B.named
  have hlocks := B.notSynchronized
  subst hsz
  have hD := hD0.self (sz := s.heap.size)
  generalize hAe : va_A [(aPa, .inr (3, [.ref aSg, .int pl])), (aSg, .inl (y4.2.1, 80, .inl SG))] s.heap.size = A at hD ⊢
  have hA : ∀ q : Nat, s.heap.size ≤ q → A q := fun q h => by rw [← hAe]; exact Or.inr h
  have hS : va_S A s.heap s.heap [] := va_S.rf
  have hl := lv_entry ([.ref aPa, .int at_, .int wk]) (n := 6) (Nat.le_of_ble_eq_true rfl)
  rw [lg_entry_eq]
  generalize (lg_sl ([.ref aPa, .int at_, .int wk]) ++ List.replicate (6 - (lg_sl ([.ref aPa, .int at_, .int wk])).length) Slot.unset).toArray = ls at hl ⊢
  have hl : lv_has ls 6 [(0, .ref aPa), (1, .int at_), (2, .int wk)] := hl
  have f11 := hts (.fieldLink RX4 11 "PillarLight$Pad" "signs" "[C") (List.mem_of_getElem? (i := 1) rfl)
  have iX4 : ∀ w ∈ wsX40, w ∈ wsX4_fitsMap := fun _ h => List.mem_cons_of_mem _ (List.mem_append_right _ h)
  refine startW (fun H locs hP hS => ?_) hP hS
  refine lv_iload_n hx hb dX4_fitsMap_0 rfl (lv_at hl 1 rfl) ?_
  refine lv_bipush (v := 71) hx hb dX4_fitsMap_1 (by decide) ?_
  refine lv_icmp_lt (tgt := 8) hx hb dX4_fitsMap_3 (by decide) (fun c1 => ?_) (fun c1 => ?_)
  · refine lv_iload_n hx hb dX4_fitsMap_8 rfl (lv_at hl 1 rfl) ?_
    refine lv_bipush (v := 9) hx hb dX4_fitsMap_9 (by decide) ?_
    refine lv_irem hx hb dX4_fitsMap_11 (by decide) ?_
    refine lv_istore_n (lv' := [(3, .int (at_ - at_ / 9 * 9)), (0, .ref aPa), (1, .int at_), (2, .int wk)]) hx hb dX4_fitsMap_12 rfl hl (by decide) rfl (fun ls hl => ?_)
    refine lv_iload_n hx hb dX4_fitsMap_13 rfl (lv_at hl 0 rfl) ?_
    refine lv_bipush (v := 8) hx hb dX4_fitsMap_14 (by decide) ?_
    refine lv_icmp_ne (tgt := 36) hx hb dX4_fitsMap_16 (by decide) (fun c2 => ?_) (fun c2 => ?_)
    · refine lv_aload_n hx hb dX4_fitsMap_36 rfl (lv_at hl 1 rfl) ?_
      refine va_get (ci := 3) (v := .ref aSg) (C := RX4) (T := TX4) (N := 2) hx hb hts iX4 hown hK hP 0 rfl rfl 0 (by decide) f11 (fun _ h9 => h9) rfl dX4_fitsMap_37 ?_
      refine lv_iload_n hx hb dX4_fitsMap_40 rfl (lv_at hl 2 rfl) ?_
      refine va_cald hx hb hK hP 1 1 rfl rfl (by first | assumption | exact vp_in_cmp (by assumption) (by assumption) (by decide)) dX4_fitsMap_41 ?_
      refine callK_i (va_runS (As := [.int (SG (at_).toNatClampNeg)]) (rest := []) ⟨hx, hb, hml, hown, hts⟩ (met_X4_kindOf l  (SG (at_).toNatClampNeg)) (va_cwS 1 hts gX4_fitsMap_X4_kindOf rfl rfl rfl (by decide +kernel) ⟨Nat.le_of_ble_eq_true rfl, Nat.le_of_ble_eq_true rfl⟩) ⟨preS_blind, fun U hU hW => ⟨rfl, trivial⟩⟩ rfl rfl hl.1 rfl (lv_room (Nat.le_of_ble_eq_true rfl)) dX4_fitsMap_42 ⟨Nat.zero_le _, Nat.zero_le _⟩) hP hS (fun r u H locs hw hP hS => ?_)
      subst hw
      refine lv_istore (lv' := [(4, .int (m_X4_kindOf (SG (at_).toNatClampNeg))), (3, .int (at_ - at_ / 9 * 9)), (0, .ref aPa), (1, .int at_), (2, .int wk)]) hx hb dX4_fitsMap_45 hl (by decide) rfl (fun ls hl => ?_)
      refine lv_iload_n hx hb dX4_fitsMap_47 rfl (lv_at hl 3 rfl) ?_
      refine lv_bipush (v := 9) hx hb dX4_fitsMap_48 (by decide) ?_
      refine lv_idiv hx hb dX4_fitsMap_50 (by decide) ?_
      refine lv_bipush (v := 8) hx hb dX4_fitsMap_51 (by decide) ?_
      refine lv_imul hx hb dX4_fitsMap_53 ?_
      refine lv_iload_n hx hb dX4_fitsMap_54 rfl (lv_at hl 1 rfl) ?_
      refine lv_iadd hx hb dX4_fitsMap_55 ?_
      refine lv_istore (lv' := [(5, .int (((at_ / 9) * 8) + (at_ - at_ / 9 * 9))), (4, .int (m_X4_kindOf (SG (at_).toNatClampNeg))), (3, .int (at_ - at_ / 9 * 9)), (0, .ref aPa), (1, .int at_), (2, .int wk)]) hx hb dX4_fitsMap_56 hl (by decide) rfl (fun ls hl => ?_)
      refine lv_iload hx hb dX4_fitsMap_58 (lv_at hl 1 rfl) ?_
      refine lv_iconst (v := (-1)) hx hb dX4_fitsMap_60 (by decide) ?_
      refine lv_icmp_eq (tgt := 82) hx hb dX4_fitsMap_61 (by decide) (fun c3 => ?_) (fun c3 => ?_)
      · refine lv_iconst (v := 0) hx hb dX4_fitsMap_82 (by decide) ?_
        have em : m_X4_fitsMap SG at_ wk = false := (by first | (simp only [m_X4_fitsMap, if_pos c1, if_neg c2, if_pos c3]; done) | (simp only [m_X4_fitsMap, if_pos c1, if_neg c2, if_pos c3]; rfl))
        exact W.zret (v := 0) hx hb hr rfl (fun t ht hW => ⟨⟨0, (), rfl, (by rw [em]; rfl), ⟨by rw [ht]; exact hP, by exact hD⟩⟩, hS.F ht⟩) hS.2.2 dX4_fitsMap_83
      · refine lv_iload hx hb dX4_fitsMap_64 (lv_at hl 0 rfl) ?_
        refine lv_iload_n hx hb dX4_fitsMap_66 rfl (lv_at hl 5 rfl) ?_
        refine lv_icmp_ne (tgt := 78) hx hb dX4_fitsMap_67 (by decide) (fun c4 => ?_) (fun c4 => ?_)
        · refine lv_iconst (v := 1) hx hb dX4_fitsMap_78 (by decide) ?_
          refine lv_goto (tgt := 83) hx hb dX4_fitsMap_79 (by decide) ?_
          have em : m_X4_fitsMap SG at_ wk = true := (by first | (simp only [m_X4_fitsMap, if_pos c1, if_neg c2, if_neg c3, if_neg c4]; done) | (simp only [m_X4_fitsMap, if_pos c1, if_neg c2, if_neg c3, if_neg c4]; rfl))
          exact W.zret (v := 1) hx hb hr rfl (fun t ht hW => ⟨⟨1, (), rfl, (by rw [em]; rfl), ⟨by rw [ht]; exact hP, by exact hD⟩⟩, hS.F ht⟩) hS.2.2 dX4_fitsMap_83
        · refine lv_iload hx hb dX4_fitsMap_70 (lv_at hl 1 rfl) ?_
          refine callK_i (va_runS (As := [.int (m_X4_kindOf (SG (at_).toNatClampNeg))]) (rest := []) ⟨hx, hb, hml, hown, hts⟩ (met_X0_stopsFeet l  (m_X4_kindOf (SG (at_).toNatClampNeg))) (va_cwS 1 hts gX4_fitsMap_X0_stopsFeet rfl rfl rfl (by decide +kernel) ⟨Nat.le_of_ble_eq_true rfl, Nat.le_of_ble_eq_true rfl⟩) ⟨preS_blind, fun U hU hW => ⟨rfl, trivial⟩⟩ rfl rfl hl.1 rfl (lv_room (Nat.le_of_ble_eq_true rfl)) dX4_fitsMap_72 ⟨Nat.zero_le _, Nat.zero_le _⟩) hP hS (fun r u H locs hw hP hS => ?_)
          obtain ⟨q5, eq5⟩ : ∃ z, z = m_X0_stopsFeet (m_X4_kindOf (SG (at_).toNatClampNeg)) := ⟨_, rfl⟩
          rw [← eq5] at hw
          subst hw
          refine lb_if_ne (tgt := 82) hx hb dX4_fitsMap_75 (by decide) (fun c6 => ?_) (fun c6 => ?_)
          · refine lv_iconst (v := 0) hx hb dX4_fitsMap_82 (by decide) ?_
            have em : m_X4_fitsMap SG at_ wk = false := (by subst eq5; first | (simp only [m_X4_fitsMap, if_pos c1, if_neg c2, if_neg c3, if_pos c4, if_neg c6]; done) | (simp only [m_X4_fitsMap, if_pos c1, if_neg c2, if_neg c3, if_pos c4, if_neg c6]; rfl))
            exact W.zret (v := 0) hx hb hr rfl (fun t ht hW => ⟨⟨0, (), rfl, (by rw [em]; rfl), ⟨by rw [ht]; exact hP, by exact hD⟩⟩, hS.F ht⟩) hS.2.2 dX4_fitsMap_83
          · refine lv_iconst (v := 1) hx hb dX4_fitsMap_78 (by decide) ?_
            refine lv_goto (tgt := 83) hx hb dX4_fitsMap_79 (by decide) ?_
            have em : m_X4_fitsMap SG at_ wk = true := (by subst eq5; first | (simp only [m_X4_fitsMap, if_pos c1, if_neg c2, if_neg c3, if_pos c4, if_pos c6]; done) | (simp only [m_X4_fitsMap, if_pos c1, if_neg c2, if_neg c3, if_pos c4, if_pos c6]; rfl))
            exact W.zret (v := 1) hx hb hr rfl (fun t ht hW => ⟨⟨1, (), rfl, (by rw [em]; rfl), ⟨by rw [ht]; exact hP, by exact hD⟩⟩, hS.F ht⟩) hS.2.2 dX4_fitsMap_83
    · refine lv_aload_n hx hb dX4_fitsMap_19 rfl (lv_at hl 1 rfl) ?_
      refine va_get (ci := 3) (v := .ref aSg) (C := RX4) (T := TX4) (N := 2) hx hb hts iX4 hown hK hP 0 rfl rfl 0 (by decide) f11 (fun _ h9 => h9) rfl dX4_fitsMap_20 ?_
      refine lv_iload_n hx hb dX4_fitsMap_23 rfl (lv_at hl 2 rfl) ?_
      refine va_cald hx hb hK hP 1 1 rfl rfl (by first | assumption | exact vp_in_cmp (by assumption) (by assumption) (by decide)) dX4_fitsMap_24 ?_
      refine lv_bipush (v := 47) hx hb dX4_fitsMap_25 (by decide) ?_
      refine lv_icmp_ne (tgt := 34) hx hb dX4_fitsMap_27 (by decide) (fun c7 => ?_) (fun c7 => ?_)
      · refine lv_iconst (v := 0) hx hb dX4_fitsMap_34 (by decide) ?_
        have em : m_X4_fitsMap SG at_ wk = false := (by first | (simp only [m_X4_fitsMap, if_pos c1, if_pos c2, if_neg c7]; done) | (simp only [m_X4_fitsMap, if_pos c1, if_pos c2, if_neg c7]; rfl))
        exact W.zret (v := 0) hx hb hr rfl (fun t ht hW => ⟨⟨0, (), rfl, (by rw [em]; rfl), ⟨by rw [ht]; exact hP, by exact hD⟩⟩, hS.F ht⟩) hS.2.2 dX4_fitsMap_35
      · refine lv_iconst (v := 1) hx hb dX4_fitsMap_30 (by decide) ?_
        refine lv_goto (tgt := 35) hx hb dX4_fitsMap_31 (by decide) ?_
        have em : m_X4_fitsMap SG at_ wk = true := (by first | (simp only [m_X4_fitsMap, if_pos c1, if_pos c2, if_pos c7]; done) | (simp only [m_X4_fitsMap, if_pos c1, if_pos c2, if_pos c7]; rfl))
        exact W.zret (v := 1) hx hb hr rfl (fun t ht hW => ⟨⟨1, (), rfl, (by rw [em]; rfl), ⟨by rw [ht]; exact hP, by exact hD⟩⟩, hS.F ht⟩) hS.2.2 dX4_fitsMap_35
  · refine lv_iconst (v := 0) hx hb dX4_fitsMap_6 (by decide) ?_
    have em : m_X4_fitsMap SG at_ wk = false := (by first | (simp only [m_X4_fitsMap, if_neg c1]; done) | (simp only [m_X4_fitsMap, if_neg c1]; rfl))
    exact W.zret (v := 0) hx hb hr rfl (fun t ht hW => ⟨⟨0, (), rfl, (by rw [em]; rfl), ⟨by rw [ht]; exact hP, by exact hD⟩⟩, hS.F ht⟩) hS.2.2 dX4_fitsMap_7
def f_X4_faultAsMap_2 (SG : Nat → Int32) (wk : Int32) (k1 : Nat) (t2 : Unit) : (Int32 ⊕ Unit) ⊕ Unit := (if (m_X4_fitsMap SG (nI k1) wk) = false then (.inl (.inl (nI k1))) else (.inr ()))
def m_X4_faultAsMap (pl : Int32) (SG : Nat → Int32) (wk : Int32) : Int32 := (lpr (lpx (f_X4_faultAsMap_2 SG wk) ((pl).toNatClampNeg) 0 ()) id (fun t8 => (if 71 ≤ pl then (-4 : Int32) else pl)))
set_option maxHeartbeats 4000000 in
set_option maxRecDepth 100000 in
theorem met_X4_faultAsMap (l : Launch) (D : va_G) (y4 : vT) (aPa aSg : Nat) (sz : Nat) (pl : Int32) (SG : Nat → Int32) (wk : Int32) (hpl : 0 ≤ pl.toInt ∧ pl.toInt ≤ (80 : Nat)) : Met l yX4_faultAsMap wsX4_faultAsMap ({ frames := 2, cells := 0, slots := 0, locals := 45 }) (va_Pc [.ref aPa, .int wk] (PreW D y4 [(aPa, .inr (3, [.ref aSg, .int pl])), (aSg, .inl (y4.2.1, 80, .inl SG))] sz)) (va_Qi (fun (r : Int32) (_ : Unit) => r = (m_X4_faultAsMap pl SG wk)) (fun _ t => PostW D (va_A [(aPa, .inr (3, [.ref aSg, .int pl])), (aSg, .inl (y4.2.1, 80, .inl SG))] sz) [(aPa, .inr (3, [.ref aSg, .int pl])), (aSg, .inl (y4.2.1, 80, .inl SG))] t) (va_A [(aPa, .inr (3, [.ref aSg, .int pl])), (aSg, .inl (y4.2.1, 80, .inl SG))] sz)) 0 0 (va_A [(aPa, .inr (3, [.ref aSg, .int pl])), (aSg, .inl (y4.2.1, 80, .inl SG))] sz) := by
  refine Met.ofW (cc := cX4_faultAsMap) (maxL := 3) (ret := (some .int)) (by decide) rfl ?_
  intro p e s m args below meth c s₁ B hml hv
  obtain ⟨rfl, hsz, hP, hK, hD0, hNW⟩ := hv
  have hx := B.exec
  have hb := B.bytes
  have hr := B.returns
  have hts := atoms_spec (ws := wsX4_faultAsMap) B.pre
  have hown : s.vm.findClass RX4 = some m.cls := findClass_of_methodNamed B.named
  have hlocks := B.notSynchronized
  subst hsz
  have hD := hD0.self (sz := s.heap.size)
  generalize hAe : va_A [(aPa, .inr (3, [.ref aSg, .int pl])), (aSg, .inl (y4.2.1, 80, .inl SG))] s.heap.size = A at hD ⊢
  have hA : ∀ q : Nat, s.heap.size ≤ q → A q := fun q h => by rw [← hAe]; exact Or.inr h
  have hS : va_S A s.heap s.heap [] := va_S.rf
  have hl := lv_entry ([.ref aPa, .int wk]) (n := 3) (Nat.le_of_ble_eq_true rfl)
  rw [lg_entry_eq]
  generalize (lg_sl ([.ref aPa, .int wk]) ++ List.replicate (3 - (lg_sl ([.ref aPa, .int wk])).length) Slot.unset).toArray = ls at hl ⊢
  have hl : lv_has ls 3 [(0, .ref aPa), (1, .int wk)] := hl
  have f15 := hts (.fieldLink RX4 15 "PillarLight$Pad" "length" "I") (List.mem_of_getElem? (i := 1) rfl)
  have iX4 : ∀ w ∈ wsX40, w ∈ wsX4_faultAsMap := fun _ h => List.mem_cons_of_mem _ (List.mem_append_right _ h)
  refine startW (fun H locs hP hS => ?_) hP hS
  refine lv_iconst (v := 0) hx hb dX4_faultAsMap_0 (by decide) ?_
  refine lv_istore_n (lv' := [(2, .int 0), (0, .ref aPa), (1, .int wk)]) hx hb dX4_faultAsMap_1 rfl hl (by decide) rfl (fun ls hl => ?_)
  refine cutW (X := Unit) 27 (fun x H locs ls => ((lpx (f_X4_faultAsMap_2 SG wk) ((pl).toNatClampNeg) 0 ()) = .inl (.inr x) ∨ (lpx (f_X4_faultAsMap_2 SG wk) ((pl).toNatClampNeg) 0 ()) = .inr x) ∧ va_P D vwCl [(aPa, .inr (3, [.ref aSg, .int pl])), (aSg, .inl (y4.2.1, 80, .inl SG))] H ∧ va_D A [(aPa, .inr (3, [.ref aSg, .int pl])), (aSg, .inl (y4.2.1, 80, .inl SG))] ∧ va_S A s.heap H locs ∧ lv_has ls 3 [(0, .ref aPa)]) (fun x => []) ?_ (fun K27 => ?_)
  · rintro t8 H locs ls ⟨et8, hP, hD, hS, hl⟩
    have hP : va_P D vwCl [(aPa, .inr (3, [.ref aSg, .int pl])), (aSg, .inl (y4.2.1, 80, .inl SG))] H := hP
    have hD : va_D A [(aPa, .inr (3, [.ref aSg, .int pl])), (aSg, .inl (y4.2.1, 80, .inl SG))] := hD
    have hl : lv_has ls 3 [(0, .ref aPa)] := hl
    refine lv_aload_n hx hb dX4_faultAsMap_27 rfl (lv_at hl 0 rfl) ?_
    refine va_get (ci := 3) (v := .int pl) (C := RX4) (T := TX4) (N := 2) hx hb hts iX4 hown hK hP 0 rfl rfl 1 (by decide) f15 (fun _ h9 => h9) rfl dX4_faultAsMap_28 ?_
    refine lv_bipush (v := 71) hx hb dX4_faultAsMap_31 (by decide) ?_
    refine lv_icmp_ge (tgt := 43) hx hb dX4_faultAsMap_33 (by decide) (fun c9 => ?_) (fun c9 => ?_)
    · refine lv_bipush (v := (-4)) hx hb dX4_faultAsMap_43 (by decide) ?_
      have em : m_X4_faultAsMap pl SG wk = (-4 : Int32) := (by first | (simp only [m_X4_faultAsMap, lpr_k et8, if_pos c9]; done) | (simp only [m_X4_faultAsMap, lpr_k et8, if_pos c9]; rfl))
      exact W.iret (v := (-4)) hx hb hr (fun t ht hW => ⟨⟨(-4), (), rfl, (by rw [em]), ⟨by rw [ht]; exact hP, by exact hD⟩⟩, hS.F ht⟩) hS.2.2 dX4_faultAsMap_45
    · refine lv_aload_n hx hb dX4_faultAsMap_36 rfl (lv_at hl 0 rfl) ?_
      refine va_get (ci := 3) (v := .int pl) (C := RX4) (T := TX4) (N := 2) hx hb hts iX4 hown hK hP 0 rfl rfl 1 (by decide) f15 (fun _ h9 => h9) rfl dX4_faultAsMap_37 ?_
      refine lv_goto (tgt := 45) hx hb dX4_faultAsMap_40 (by decide) ?_
      have em : m_X4_faultAsMap pl SG wk = pl := (by first | (simp only [m_X4_faultAsMap, lpr_k et8, if_neg c9]; done) | (simp only [m_X4_faultAsMap, lpr_k et8, if_neg c9]; rfl))
      exact W.iret (v := pl) hx hb hr (fun t ht hW => ⟨⟨pl, (), rfl, (by rw [em]), ⟨by rw [ht]; exact hP, by exact hD⟩⟩, hS.F ht⟩) hS.2.2 dX4_faultAsMap_45
  · refine loopX (σ := Unit) (ρ := Int32 ⊕ Unit) 2 (f_X4_faultAsMap_2 SG wk) (fun _ _ => True) ((pl).toNatClampNeg) 0 () (fun k1 t2 H locs ls => va_P D vwCl [(aPa, .inr (3, [.ref aSg, .int pl])), (aSg, .inl (y4.2.1, 80, .inl SG))] H ∧ va_D A [(aPa, .inr (3, [.ref aSg, .int pl])), (aSg, .inl (y4.2.1, 80, .inl SG))] ∧ va_S A s.heap H locs ∧ lv_has ls 3 [(2, .int (nI k1)), (0, .ref aPa), (1, .int wk)]) trivial ⟨hP, hD, hS, lv_sub hl [0, 1, 2] rfl⟩ (fun t6 H locs ls et6 hit6 hh => ?_) (fun k1 t2 hkk1 hjk1 hik1 hretk1 ihk1 H locs ls hh => ?_)
    · obtain ⟨hP, hD, hS, hl⟩ := hh
      have hP : va_P D vwCl [(aPa, .inr (3, [.ref aSg, .int pl])), (aSg, .inl (y4.2.1, 80, .inl SG))] H := hP
      have hD : va_D A [(aPa, .inr (3, [.ref aSg, .int pl])), (aSg, .inl (y4.2.1, 80, .inl SG))] := hD
      have hl : lv_has ls 3 [(2, .int (nI (0 + (pl).toNatClampNeg))), (0, .ref aPa), (1, .int wk)] := hl
      refine lv_iload_n hx hb dX4_faultAsMap_2 rfl (lv_at hl 0 rfl) ?_
      refine lv_aload_n hx hb dX4_faultAsMap_3 rfl (lv_at hl 1 rfl) ?_
      refine va_get (ci := 3) (v := .int pl) (C := RX4) (T := TX4) (N := 2) hx hb hts iX4 hown hK hP 0 rfl rfl 1 (by decide) f15 (fun _ h9 => h9) rfl dX4_faultAsMap_4 ?_
      refine lv_icmp_ge (tgt := 27) hx hb dX4_faultAsMap_7 (by decide) (fun c7 => ?_) (fun c7 => absurd (cl_le hpl (by omega) (by have := cl_lt hpl; omega)) c7)
      exact K27 t6 H locs ls ⟨Or.inr et6, hP, hD, hS, lv_sub hl [1] rfl⟩
    · obtain ⟨hP, hD, hS, hl⟩ := hh
      have hP : va_P D vwCl [(aPa, .inr (3, [.ref aSg, .int pl])), (aSg, .inl (y4.2.1, 80, .inl SG))] H := hP
      have hD : va_D A [(aPa, .inr (3, [.ref aSg, .int pl])), (aSg, .inl (y4.2.1, 80, .inl SG))] := hD
      have hl : lv_has ls 3 [(2, .int (nI k1)), (0, .ref aPa), (1, .int wk)] := hl
      refine lv_iload_n hx hb dX4_faultAsMap_2 rfl (lv_at hl 0 rfl) ?_
      refine lv_aload_n hx hb dX4_faultAsMap_3 rfl (lv_at hl 1 rfl) ?_
      refine va_get (ci := 3) (v := .int pl) (C := RX4) (T := TX4) (N := 2) hx hb hts iX4 hown hK hP 0 rfl rfl 1 (by decide) f15 (fun _ h9 => h9) rfl dX4_faultAsMap_4 ?_
      refine lv_icmp_ge (tgt := 27) hx hb dX4_faultAsMap_7 (by decide) (fun c3 => absurd c3 (cl_ge hpl (by omega))) (fun c3 => ?_)
      refine lv_aload_n hx hb dX4_faultAsMap_10 rfl (lv_at hl 1 rfl) ?_
      refine lv_iload_n hx hb dX4_faultAsMap_11 rfl (lv_at hl 0 rfl) ?_
      refine lv_iload_n hx hb dX4_faultAsMap_12 rfl (lv_at hl 2 rfl) ?_
      refine callW_i (wr := []) (wn := fun u => [(aPa, .inr (3, [.ref aSg, .int pl])), (aSg, .inl (y4.2.1, 80, .inl SG))]) (va_runV (As := [.int (nI k1), .int wk]) (rest := []) ⟨hx, hb, hml, hown, hts⟩ (met_X4_fitsMap l D y4 aPa aSg H.size pl SG (nI k1) wk (cl_in hpl (by omega))) (cwV 2 hts gX4_faultAsMap_X4_fitsMap rfl rfl rfl (by decide +kernel) ⟨Nat.le_of_ble_eq_true rfl, Nat.le_of_ble_eq_true rfl⟩) ⟨preW_blind, va_recv hK hP (ci := 3) (q0 := 0) rfl rfl, preW_at (hP.sub (ws' := [(aPa, .inr (3, [.ref aSg, .int pl])), (aSg, .inl (y4.2.1, 80, .inl SG))]) [0, 1] rfl) hK (hD.sub (ws' := [(aPa, .inr (3, [.ref aSg, .int pl])), (aSg, .inl (y4.2.1, 80, .inl SG))]) [0, 1] (by decide) rfl) hNW⟩ rfl rfl hl.1 rfl (lv_room (Nat.le_of_ble_eq_true rfl)) dX4_faultAsMap_13 ⟨Nat.zero_le _, Nat.zero_le _⟩) hP hD hS hA [0, 1] [] [0, 1] rfl rfl (by decide) (by decide) (fun _ => rfl) (by decide) (fun r u4 H locs hw hP hD hS => ?_)
      subst hw
      have hP : va_P D vwCl [(aPa, .inr (3, [.ref aSg, .int pl])), (aSg, .inl (y4.2.1, 80, .inl SG))] H := hP
      have hD : va_D A [(aPa, .inr (3, [.ref aSg, .int pl])), (aSg, .inl (y4.2.1, 80, .inl SG))] := hD
      refine lb_if_ne (tgt := 21) hx hb dX4_faultAsMap_16 (by decide) (fun c5 => ?_) (fun c5 => ?_)
      · refine lv_iinc (v := nI (k1 + 1)) (lv' := [(2, .int (nI (k1 + 1))), (0, .ref aPa), (1, .int wk)]) hx hb dX4_faultAsMap_21 hl (k := 0) rfl (nI_1 _) (by decide) rfl (fun ls hl => ?_)
        refine lv_goto (tgt := 2) hx hb dX4_faultAsMap_24 (by decide) ?_
        have ef : (f_X4_faultAsMap_2 SG wk) k1 t2 = .inr () := (by first | (simp only [f_X4_faultAsMap_2, if_neg c5]; done) | (simp only [f_X4_faultAsMap_2, if_neg c5]; rfl))
        exact ihk1 _ ef trivial H locs ls ⟨hP, hD, hS, lv_sub hl [0, 1, 2] rfl⟩
      · refine lv_iload_n hx hb dX4_faultAsMap_19 rfl (lv_at hl 0 rfl) ?_
        have ef : (f_X4_faultAsMap_2 SG wk) k1 t2 = .inl (.inl (nI k1)) := (by first | (simp only [f_X4_faultAsMap_2, if_pos c5]; done) | (simp only [f_X4_faultAsMap_2, if_pos c5]; rfl))
        have erk1 := hretk1 _ ef
        have em : m_X4_faultAsMap pl SG wk = nI k1 := (by first | (simp only [m_X4_faultAsMap, lpr_j erk1]; done) | (simp only [m_X4_faultAsMap, lpr_j erk1]; rfl))
        exact W.iret (v := nI k1) hx hb hr (fun t ht hW => ⟨⟨nI k1, (), rfl, (by rw [em]), ⟨by rw [ht]; exact hP, by exact hD⟩⟩, hS.F ht⟩) hS.2.2 dX4_faultAsMap_20
def m_X4_kindAt (SG : Nat → Int32) (ce : Int32) : Int32 := (let q1 : Int32 := m_X4_kindOf (SG (((m_X0_row ce) * 9) + (m_X0_column ce)).toNatClampNeg); q1)
set_option maxHeartbeats 4000000 in
set_option maxRecDepth 100000 in
theorem met_X4_kindAt (l : Launch) (D : va_G) (y4 : vT) (aPa aSg : Nat) (sz : Nat) (pl : Int32) (SG : Nat → Int32) (ce : Int32) (hce : vp_in ce 64) : Met l yX4_kindAt wsX4_kindAt ({ frames := 1, cells := 0, slots := 0, locals := 20 }) (va_Pc [.ref aPa, .int ce] (PreW D y4 [(aPa, .inr (3, [.ref aSg, .int pl])), (aSg, .inl (y4.2.1, 80, .inl SG))] sz)) (va_Qi (fun (r : Int32) (_ : Unit) => r = (m_X4_kindAt SG ce)) (fun _ t => PostW D (va_A [(aPa, .inr (3, [.ref aSg, .int pl])), (aSg, .inl (y4.2.1, 80, .inl SG))] sz) [(aPa, .inr (3, [.ref aSg, .int pl])), (aSg, .inl (y4.2.1, 80, .inl SG))] t) (va_A [(aPa, .inr (3, [.ref aSg, .int pl])), (aSg, .inl (y4.2.1, 80, .inl SG))] sz)) 0 0 (va_A [(aPa, .inr (3, [.ref aSg, .int pl])), (aSg, .inl (y4.2.1, 80, .inl SG))] sz) := by
  refine Met.ofW (cc := cX4_kindAt) (maxL := 2) (ret := (some .int)) (by decide) rfl ?_
  intro p e s m args below meth c s₁ B hml hv
  obtain ⟨rfl, hsz, hP, hK, hD0, hNW⟩ := hv
  have hx := B.exec
  have hb := B.bytes
  have hr := B.returns
  have hts := atoms_spec (ws := wsX4_kindAt) B.pre
  have hown : s.vm.findClass RX4 = some m.cls := findClass_of_methodNamed B.named
  have hlocks := B.notSynchronized
  subst hsz
  have hD := hD0.self (sz := s.heap.size)
  generalize hAe : va_A [(aPa, .inr (3, [.ref aSg, .int pl])), (aSg, .inl (y4.2.1, 80, .inl SG))] s.heap.size = A at hD ⊢
  have hA : ∀ q : Nat, s.heap.size ≤ q → A q := fun q h => by rw [← hAe]; exact Or.inr h
  have hS : va_S A s.heap s.heap [] := va_S.rf
  have hl := lv_entry ([.ref aPa, .int ce]) (n := 2) (Nat.le_of_ble_eq_true rfl)
  rw [lg_entry_eq]
  generalize (lg_sl ([.ref aPa, .int ce]) ++ List.replicate (2 - (lg_sl ([.ref aPa, .int ce])).length) Slot.unset).toArray = ls at hl ⊢
  have hl : lv_has ls 2 [(0, .ref aPa), (1, .int ce)] := hl
  have f11 := hts (.fieldLink RX4 11 "PillarLight$Pad" "signs" "[C") (List.mem_of_getElem? (i := 1) rfl)
  have iX4 : ∀ w ∈ wsX40, w ∈ wsX4_kindAt := fun _ h => List.mem_cons_of_mem _ (List.mem_append_right _ h)
  refine startW (fun H locs hP hS => ?_) hP hS
  refine lv_aload_n hx hb dX4_kindAt_0 rfl (lv_at hl 0 rfl) ?_
  refine va_get (ci := 3) (v := .ref aSg) (C := RX4) (T := TX4) (N := 2) hx hb hts iX4 hown hK hP 0 rfl rfl 0 (by decide) f11 (fun _ h9 => h9) rfl dX4_kindAt_1 ?_
  refine lv_iload_n hx hb dX4_kindAt_4 rfl (lv_at hl 1 rfl) ?_
  refine callK_i (va_runS (As := [.int ce]) (rest := [.ref aSg]) ⟨hx, hb, hml, hown, hts⟩ (met_X0_row l  ce) (va_cwS 1 hts gX4_kindAt_X0_row rfl rfl rfl (by decide +kernel) ⟨Nat.le_of_ble_eq_true rfl, Nat.le_of_ble_eq_true rfl⟩) ⟨preS_blind, fun U hU hW => ⟨rfl, trivial⟩⟩ rfl rfl hl.1 rfl (lv_room (Nat.le_of_ble_eq_true rfl)) dX4_kindAt_5 ⟨Nat.zero_le _, Nat.zero_le _⟩) hP hS (fun r u H locs hw hP hS => ?_)
  subst hw
  refine lv_bipush (v := 9) hx hb dX4_kindAt_8 (by decide) ?_
  refine lv_imul hx hb dX4_kindAt_10 ?_
  refine lv_iload_n hx hb dX4_kindAt_11 rfl (lv_at hl 1 rfl) ?_
  refine callK_i (va_runS (As := [.int ce]) (rest := [.int ((m_X0_row ce) * 9), .ref aSg]) ⟨hx, hb, hml, hown, hts⟩ (met_X0_column l  ce) (va_cwS 1 hts gX4_kindAt_X0_column rfl rfl rfl (by decide +kernel) ⟨Nat.le_of_ble_eq_true rfl, Nat.le_of_ble_eq_true rfl⟩) ⟨preS_blind, fun U hU hW => ⟨rfl, trivial⟩⟩ rfl rfl hl.1 rfl (lv_room (Nat.le_of_ble_eq_true rfl)) dX4_kindAt_12 ⟨Nat.zero_le _, Nat.zero_le _⟩) hP hS (fun r u H locs hw hP hS => ?_)
  subst hw
  refine lv_iadd hx hb dX4_kindAt_15 ?_
  refine va_cald hx hb hK hP 1 1 rfl rfl (kat_in hce) dX4_kindAt_16 ?_
  refine callK_i (va_runS (As := [.int (SG (((m_X0_row ce) * 9) + (m_X0_column ce)).toNatClampNeg)]) (rest := []) ⟨hx, hb, hml, hown, hts⟩ (met_X4_kindOf l  (SG (((m_X0_row ce) * 9) + (m_X0_column ce)).toNatClampNeg)) (va_cwS 1 hts gX4_kindAt_X4_kindOf rfl rfl rfl (by decide +kernel) ⟨Nat.le_of_ble_eq_true rfl, Nat.le_of_ble_eq_true rfl⟩) ⟨preS_blind, fun U hU hW => ⟨rfl, trivial⟩⟩ rfl rfl hl.1 rfl (lv_room (Nat.le_of_ble_eq_true rfl)) dX4_kindAt_17 ⟨Nat.zero_le _, Nat.zero_le _⟩) hP hS (fun r u H locs hw hP hS => ?_)
  obtain ⟨q1, eq1⟩ : ∃ z, z = m_X4_kindOf (SG (((m_X0_row ce) * 9) + (m_X0_column ce)).toNatClampNeg) := ⟨_, rfl⟩
  rw [← eq1] at hw
  replace hw := hw.symm
  subst hw
  have em : m_X4_kindAt SG ce = q1 := (by subst eq1; first | (simp only [m_X4_kindAt]; done) | (unfold m_X4_kindAt; rfl) | rfl)
  exact W.iret (v := q1) hx hb hr (fun t ht hW => ⟨⟨q1, (), rfl, (by rw [em]), ⟨by rw [ht]; exact hP, by exact hD⟩⟩, hS.F ht⟩) hS.2.2 dX4_kindAt_20
def f_X4_faultAsWalk_2 (SG : Nat → Int32) (k1 : Nat) (t2 : Unit) : (Int32 ⊕ Unit) ⊕ Unit := (if (SG (nI k1).toNatClampNeg) < 48 then (.inl (.inl (nI k1))) else (if (SG (nI k1).toNatClampNeg) ≤ 51 then (.inr ()) else (.inl (.inl (nI k1)))))
def m_X4_faultAsWalk (pl : Int32) (SG : Nat → Int32) : Int32 := (lpr (lpx (f_X4_faultAsWalk_2 SG) ((pl).toNatClampNeg) 0 ()) id (fun t8 => (if pl = 0 then (0 : Int32) else (-4 : Int32))))
set_option maxHeartbeats 4000000 in
set_option maxRecDepth 100000 in
theorem met_X4_faultAsWalk (l : Launch) (D : va_G) (y4 : vT) (aPa aSg : Nat) (sz : Nat) (pl : Int32) (SG : Nat → Int32) (hpl : 0 ≤ pl.toInt ∧ pl.toInt ≤ (80 : Nat)) : Met l yX4_faultAsWalk wsX4_faultAsWalk ({ frames := 0, cells := 0, slots := 0, locals := 0 }) (va_Pc [.ref aPa] (PreW D y4 [(aPa, .inr (3, [.ref aSg, .int pl])), (aSg, .inl (y4.2.1, 80, .inl SG))] sz)) (va_Qi (fun (r : Int32) (_ : Unit) => r = (m_X4_faultAsWalk pl SG)) (fun _ t => PostW D (va_A [(aPa, .inr (3, [.ref aSg, .int pl])), (aSg, .inl (y4.2.1, 80, .inl SG))] sz) [(aPa, .inr (3, [.ref aSg, .int pl])), (aSg, .inl (y4.2.1, 80, .inl SG))] t) (va_A [(aPa, .inr (3, [.ref aSg, .int pl])), (aSg, .inl (y4.2.1, 80, .inl SG))] sz)) 0 0 (va_A [(aPa, .inr (3, [.ref aSg, .int pl])), (aSg, .inl (y4.2.1, 80, .inl SG))] sz) := by
  refine Met.ofW (cc := cX4_faultAsWalk) (maxL := 2) (ret := (some .int)) (by decide) rfl ?_
  intro p e s m args below meth c s₁ B hml hv
  obtain ⟨rfl, hsz, hP, hK, hD0, hNW⟩ := hv
  have hx := B.exec
  have hb := B.bytes
  have hr := B.returns
  have hts := atoms_spec (ws := wsX4_faultAsWalk) B.pre
  have hown : s.vm.findClass RX4 = some m.cls := findClass_of_methodNamed B.named
  have hlocks := B.notSynchronized
  subst hsz
  have hD := hD0.self (sz := s.heap.size)
  generalize hAe : va_A [(aPa, .inr (3, [.ref aSg, .int pl])), (aSg, .inl (y4.2.1, 80, .inl SG))] s.heap.size = A at hD ⊢
  have hA : ∀ q : Nat, s.heap.size ≤ q → A q := fun q h => by rw [← hAe]; exact Or.inr h
  have hS : va_S A s.heap s.heap [] := va_S.rf
  have hl := lv_entry ([.ref aPa]) (n := 2) (Nat.le_of_ble_eq_true rfl)
  rw [lg_entry_eq]
  generalize (lg_sl ([.ref aPa]) ++ List.replicate (2 - (lg_sl ([.ref aPa])).length) Slot.unset).toArray = ls at hl ⊢
  have hl : lv_has ls 2 [(0, .ref aPa)] := hl
  have f15 := hts (.fieldLink RX4 15 "PillarLight$Pad" "length" "I") (List.mem_of_getElem? (i := 1) rfl)
  have iX4 : ∀ w ∈ wsX40, w ∈ wsX4_faultAsWalk := fun _ h => List.mem_cons_of_mem _ (List.mem_append_right _ h)
  have f11 := hts (.fieldLink RX4 11 "PillarLight$Pad" "signs" "[C") (List.mem_of_getElem? (i := 2) rfl)
  refine startW (fun H locs hP hS => ?_) hP hS
  refine lv_iconst (v := 0) hx hb dX4_faultAsWalk_0 (by decide) ?_
  refine lv_istore_n (lv' := [(1, .int 0), (0, .ref aPa)]) hx hb dX4_faultAsWalk_1 rfl hl (by decide) rfl (fun ls hl => ?_)
  refine cutW (X := Unit) 40 (fun x H locs ls => ((lpx (f_X4_faultAsWalk_2 SG) ((pl).toNatClampNeg) 0 ()) = .inl (.inr x) ∨ (lpx (f_X4_faultAsWalk_2 SG) ((pl).toNatClampNeg) 0 ()) = .inr x) ∧ va_P D vwCl [(aPa, .inr (3, [.ref aSg, .int pl])), (aSg, .inl (y4.2.1, 80, .inl SG))] H ∧ va_D A [(aPa, .inr (3, [.ref aSg, .int pl])), (aSg, .inl (y4.2.1, 80, .inl SG))] ∧ va_S A s.heap H locs ∧ lv_has ls 2 [(0, .ref aPa)]) (fun x => []) ?_ (fun K40 => ?_)
  · rintro t8 H locs ls ⟨et8, hP, hD, hS, hl⟩
    have hP : va_P D vwCl [(aPa, .inr (3, [.ref aSg, .int pl])), (aSg, .inl (y4.2.1, 80, .inl SG))] H := hP
    have hD : va_D A [(aPa, .inr (3, [.ref aSg, .int pl])), (aSg, .inl (y4.2.1, 80, .inl SG))] := hD
    have hl : lv_has ls 2 [(0, .ref aPa)] := hl
    refine lv_aload_n hx hb dX4_faultAsWalk_40 rfl (lv_at hl 0 rfl) ?_
    refine va_get (ci := 3) (v := .int pl) (C := RX4) (T := TX4) (N := 2) hx hb hts iX4 hown hK hP 0 rfl rfl 1 (by decide) f15 (fun _ h9 => h9) rfl dX4_faultAsWalk_41 ?_
    refine lv_if_ne (tgt := 51) hx hb dX4_faultAsWalk_44 (by decide) (fun c9 => ?_) (fun c9 => ?_)
    · refine lv_bipush (v := (-4)) hx hb dX4_faultAsWalk_51 (by decide) ?_
      have em : m_X4_faultAsWalk pl SG = (-4 : Int32) := (by first | (simp only [m_X4_faultAsWalk, lpr_k et8, if_neg c9]; done) | (simp only [m_X4_faultAsWalk, lpr_k et8, if_neg c9]; rfl))
      exact W.iret (v := (-4)) hx hb hr (fun t ht hW => ⟨⟨(-4), (), rfl, (by rw [em]), ⟨by rw [ht]; exact hP, by exact hD⟩⟩, hS.F ht⟩) hS.2.2 dX4_faultAsWalk_53
    · refine lv_iconst (v := 0) hx hb dX4_faultAsWalk_47 (by decide) ?_
      refine lv_goto (tgt := 53) hx hb dX4_faultAsWalk_48 (by decide) ?_
      have em : m_X4_faultAsWalk pl SG = (0 : Int32) := (by first | (simp only [m_X4_faultAsWalk, lpr_k et8, if_pos c9]; done) | (simp only [m_X4_faultAsWalk, lpr_k et8, if_pos c9]; rfl))
      exact W.iret (v := 0) hx hb hr (fun t ht hW => ⟨⟨0, (), rfl, (by rw [em]), ⟨by rw [ht]; exact hP, by exact hD⟩⟩, hS.F ht⟩) hS.2.2 dX4_faultAsWalk_53
  · refine loopX (σ := Unit) (ρ := Int32 ⊕ Unit) 2 (f_X4_faultAsWalk_2 SG) (fun _ _ => True) ((pl).toNatClampNeg) 0 () (fun k1 t2 H locs ls => va_P D vwCl [(aPa, .inr (3, [.ref aSg, .int pl])), (aSg, .inl (y4.2.1, 80, .inl SG))] H ∧ va_D A [(aPa, .inr (3, [.ref aSg, .int pl])), (aSg, .inl (y4.2.1, 80, .inl SG))] ∧ va_S A s.heap H locs ∧ lv_has ls 2 [(1, .int (nI k1)), (0, .ref aPa)]) trivial ⟨hP, hD, hS, lv_sub hl [0, 1] rfl⟩ (fun t6 H locs ls et6 hit6 hh => ?_) (fun k1 t2 hkk1 hjk1 hik1 hretk1 ihk1 H locs ls hh => ?_)
    · obtain ⟨hP, hD, hS, hl⟩ := hh
      have hP : va_P D vwCl [(aPa, .inr (3, [.ref aSg, .int pl])), (aSg, .inl (y4.2.1, 80, .inl SG))] H := hP
      have hD : va_D A [(aPa, .inr (3, [.ref aSg, .int pl])), (aSg, .inl (y4.2.1, 80, .inl SG))] := hD
      have hl : lv_has ls 2 [(1, .int (nI (0 + (pl).toNatClampNeg))), (0, .ref aPa)] := hl
      refine lv_iload_n hx hb dX4_faultAsWalk_2 rfl (lv_at hl 0 rfl) ?_
      refine lv_aload_n hx hb dX4_faultAsWalk_3 rfl (lv_at hl 1 rfl) ?_
      refine va_get (ci := 3) (v := .int pl) (C := RX4) (T := TX4) (N := 2) hx hb hts iX4 hown hK hP 0 rfl rfl 1 (by decide) f15 (fun _ h9 => h9) rfl dX4_faultAsWalk_4 ?_
      refine lv_icmp_ge (tgt := 40) hx hb dX4_faultAsWalk_7 (by decide) (fun c7 => ?_) (fun c7 => absurd (cl_le hpl (by omega) (by have := cl_lt hpl; omega)) c7)
      exact K40 t6 H locs ls ⟨Or.inr et6, hP, hD, hS, lv_sub hl [1] rfl⟩
    · obtain ⟨hP, hD, hS, hl⟩ := hh
      have hP : va_P D vwCl [(aPa, .inr (3, [.ref aSg, .int pl])), (aSg, .inl (y4.2.1, 80, .inl SG))] H := hP
      have hD : va_D A [(aPa, .inr (3, [.ref aSg, .int pl])), (aSg, .inl (y4.2.1, 80, .inl SG))] := hD
      have hl : lv_has ls 2 [(1, .int (nI k1)), (0, .ref aPa)] := hl
      refine lv_iload_n hx hb dX4_faultAsWalk_2 rfl (lv_at hl 0 rfl) ?_
      refine lv_aload_n hx hb dX4_faultAsWalk_3 rfl (lv_at hl 1 rfl) ?_
      refine va_get (ci := 3) (v := .int pl) (C := RX4) (T := TX4) (N := 2) hx hb hts iX4 hown hK hP 0 rfl rfl 1 (by decide) f15 (fun _ h9 => h9) rfl dX4_faultAsWalk_4 ?_
      refine lv_icmp_ge (tgt := 40) hx hb dX4_faultAsWalk_7 (by decide) (fun c3 => absurd c3 (cl_ge hpl (by omega))) (fun c3 => ?_)
      refine lv_aload_n hx hb dX4_faultAsWalk_10 rfl (lv_at hl 1 rfl) ?_
      refine va_get (ci := 3) (v := .ref aSg) (C := RX4) (T := TX4) (N := 2) hx hb hts iX4 hown hK hP 0 rfl rfl 0 (by decide) f11 (fun _ h9 => h9) rfl dX4_faultAsWalk_11 ?_
      refine lv_iload_n hx hb dX4_faultAsWalk_14 rfl (lv_at hl 0 rfl) ?_
      refine va_cald hx hb hK hP 1 1 rfl rfl (cl_in hpl (by omega)) dX4_faultAsWalk_15 ?_
      refine lv_bipush (v := 48) hx hb dX4_faultAsWalk_16 (by decide) ?_
      refine lv_icmp_lt (tgt := 32) hx hb dX4_faultAsWalk_18 (by decide) (fun c4 => ?_) (fun c4 => ?_)
      · refine lv_iload_n hx hb dX4_faultAsWalk_32 rfl (lv_at hl 0 rfl) ?_
        have ef : (f_X4_faultAsWalk_2 SG) k1 t2 = .inl (.inl (nI k1)) := (by first | (simp only [f_X4_faultAsWalk_2, if_pos c4]; done) | (simp only [f_X4_faultAsWalk_2, if_pos c4]; rfl))
        have erk1 := hretk1 _ ef
        have em : m_X4_faultAsWalk pl SG = nI k1 := (by first | (simp only [m_X4_faultAsWalk, lpr_j erk1]; done) | (simp only [m_X4_faultAsWalk, lpr_j erk1]; rfl))
        exact W.iret (v := nI k1) hx hb hr (fun t ht hW => ⟨⟨nI k1, (), rfl, (by rw [em]), ⟨by rw [ht]; exact hP, by exact hD⟩⟩, hS.F ht⟩) hS.2.2 dX4_faultAsWalk_33
      · refine lv_aload_n hx hb dX4_faultAsWalk_21 rfl (lv_at hl 1 rfl) ?_
        refine va_get (ci := 3) (v := .ref aSg) (C := RX4) (T := TX4) (N := 2) hx hb hts iX4 hown hK hP 0 rfl rfl 0 (by decide) f11 (fun _ h9 => h9) rfl dX4_faultAsWalk_22 ?_
        refine lv_iload_n hx hb dX4_faultAsWalk_25 rfl (lv_at hl 0 rfl) ?_
        refine va_cald hx hb hK hP 1 1 rfl rfl (cl_in hpl (by omega)) dX4_faultAsWalk_26 ?_
        refine lv_bipush (v := 51) hx hb dX4_faultAsWalk_27 (by decide) ?_
        refine lv_icmp_le (tgt := 34) hx hb dX4_faultAsWalk_29 (by decide) (fun c5 => ?_) (fun c5 => ?_)
        · refine lv_iinc (v := nI (k1 + 1)) (lv' := [(1, .int (nI (k1 + 1))), (0, .ref aPa)]) hx hb dX4_faultAsWalk_34 hl (k := 0) rfl (nI_1 _) (by decide) rfl (fun ls hl => ?_)
          refine lv_goto (tgt := 2) hx hb dX4_faultAsWalk_37 (by decide) ?_
          have ef : (f_X4_faultAsWalk_2 SG) k1 t2 = .inr () := (by first | (simp only [f_X4_faultAsWalk_2, if_neg c4, if_pos c5]; done) | (simp only [f_X4_faultAsWalk_2, if_neg c4, if_pos c5]; rfl))
          exact ihk1 _ ef trivial H locs ls ⟨hP, hD, hS, lv_sub hl [0, 1] rfl⟩
        · refine lv_iload_n hx hb dX4_faultAsWalk_32 rfl (lv_at hl 0 rfl) ?_
          have ef : (f_X4_faultAsWalk_2 SG) k1 t2 = .inl (.inl (nI k1)) := (by first | (simp only [f_X4_faultAsWalk_2, if_neg c4, if_neg c5]; done) | (simp only [f_X4_faultAsWalk_2, if_neg c4, if_neg c5]; rfl))
          have erk1 := hretk1 _ ef
          have em : m_X4_faultAsWalk pl SG = nI k1 := (by first | (simp only [m_X4_faultAsWalk, lpr_j erk1]; done) | (simp only [m_X4_faultAsWalk, lpr_j erk1]; rfl))
          exact W.iret (v := nI k1) hx hb hr (fun t ht hW => ⟨⟨nI k1, (), rfl, (by rw [em]), ⟨by rw [ht]; exact hP, by exact hD⟩⟩, hS.F ht⟩) hS.2.2 dX4_faultAsWalk_33
def m_X4_directionAt (SG : Nat → Int32) (at_ : Int32) : Int32 := (SG (at_).toNatClampNeg) - 48
set_option maxHeartbeats 4000000 in
set_option maxRecDepth 100000 in
theorem met_X4_directionAt (l : Launch) (D : va_G) (y4 : vT) (aPa aSg : Nat) (sz : Nat) (pl : Int32) (SG : Nat → Int32) (at_ : Int32) (hat : vp_in at_ 80) : Met l yX4_directionAt wsX4_directionAt ({ frames := 0, cells := 0, slots := 0, locals := 0 }) (va_Pc [.ref aPa, .int at_] (PreW D y4 [(aPa, .inr (3, [.ref aSg, .int pl])), (aSg, .inl (y4.2.1, 80, .inl SG))] sz)) (va_Qi (fun (r : Int32) (_ : Unit) => r = (m_X4_directionAt SG at_)) (fun _ t => PostW D (va_A [(aPa, .inr (3, [.ref aSg, .int pl])), (aSg, .inl (y4.2.1, 80, .inl SG))] sz) [(aPa, .inr (3, [.ref aSg, .int pl])), (aSg, .inl (y4.2.1, 80, .inl SG))] t) (va_A [(aPa, .inr (3, [.ref aSg, .int pl])), (aSg, .inl (y4.2.1, 80, .inl SG))] sz)) 0 0 (va_A [(aPa, .inr (3, [.ref aSg, .int pl])), (aSg, .inl (y4.2.1, 80, .inl SG))] sz) := by
  refine Met.ofW (cc := cX4_directionAt) (maxL := 2) (ret := (some .int)) (by decide) rfl ?_
  intro p e s m args below meth c s₁ B hml hv
  obtain ⟨rfl, hsz, hP, hK, hD0, hNW⟩ := hv
  have hx := B.exec
  have hb := B.bytes
  have hr := B.returns
  have hts := atoms_spec (ws := wsX4_directionAt) B.pre
  have hown : s.vm.findClass RX4 = some m.cls := findClass_of_methodNamed B.named
  have hlocks := B.notSynchronized
  subst hsz
  have hD := hD0.self (sz := s.heap.size)
  generalize hAe : va_A [(aPa, .inr (3, [.ref aSg, .int pl])), (aSg, .inl (y4.2.1, 80, .inl SG))] s.heap.size = A at hD ⊢
  have hA : ∀ q : Nat, s.heap.size ≤ q → A q := fun q h => by rw [← hAe]; exact Or.inr h
  have hS : va_S A s.heap s.heap [] := va_S.rf
  have hl := lv_entry ([.ref aPa, .int at_]) (n := 2) (Nat.le_of_ble_eq_true rfl)
  rw [lg_entry_eq]
  generalize (lg_sl ([.ref aPa, .int at_]) ++ List.replicate (2 - (lg_sl ([.ref aPa, .int at_])).length) Slot.unset).toArray = ls at hl ⊢
  have hl : lv_has ls 2 [(0, .ref aPa), (1, .int at_)] := hl
  have f11 := hts (.fieldLink RX4 11 "PillarLight$Pad" "signs" "[C") (List.mem_of_getElem? (i := 1) rfl)
  have iX4 : ∀ w ∈ wsX40, w ∈ wsX4_directionAt := fun _ h => List.mem_cons_of_mem _ (List.mem_append_right _ h)
  refine startW (fun H locs hP hS => ?_) hP hS
  refine lv_aload_n hx hb dX4_directionAt_0 rfl (lv_at hl 0 rfl) ?_
  refine va_get (ci := 3) (v := .ref aSg) (C := RX4) (T := TX4) (N := 2) hx hb hts iX4 hown hK hP 0 rfl rfl 0 (by decide) f11 (fun _ h9 => h9) rfl dX4_directionAt_1 ?_
  refine lv_iload_n hx hb dX4_directionAt_4 rfl (lv_at hl 1 rfl) ?_
  refine va_cald hx hb hK hP 1 1 rfl rfl (by first | assumption | exact vp_in_cmp (by assumption) (by assumption) (by decide)) dX4_directionAt_5 ?_
  refine lv_bipush (v := 48) hx hb dX4_directionAt_6 (by decide) ?_
  refine lv_isub hx hb dX4_directionAt_8 ?_
  have em : m_X4_directionAt SG at_ = (SG (at_).toNatClampNeg) - 48 := (by first | (simp only [m_X4_directionAt]; done) | (unfold m_X4_directionAt; rfl) | rfl)
  exact W.iret (v := (SG (at_).toNatClampNeg) - 48) hx hb hr (fun t ht hW => ⟨⟨(SG (at_).toNatClampNeg) - 48, (), rfl, (by rw [em]), ⟨by rw [ht]; exact hP, by exact hD⟩⟩, hS.F ht⟩) hS.2.2 dX4_directionAt_9
