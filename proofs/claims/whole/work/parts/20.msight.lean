theorem off_in {c b : Int32} {n N : Nat} (h : vp_in c n) (hb0 : 0 ≤ b.toInt) (hb : b.toInt + n ≤ N) (hN : N < 2 ^ 31) : vp_in (b + c) N := by
  rw [vp_in_iff] at h ⊢
  have h1 := Int32.toInt_add b c
  have h2 : (b.toInt + c.toInt).bmod (2 ^ 32) = b.toInt + c.toInt := by
    apply Int.bmod_eq_of_le <;> omega
  rw [h1, h2]
  omega
/-- what the model's row keeps: lamps at most 6, in cells, the walker in a cell -/
def MI (RO : Nat → Int32) : Prop := (0 ≤ (RO 128).toInt ∧ (RO 128).toInt ≤ (6 : Nat)) ∧ (∀ i : Nat, i < (RO 128).toNatClampNeg → vp_in (RO ((129 : Int32) + nI i).toNatClampNeg) 64) ∧ vp_in (RO 147) 64
theorem ms_cells : ∀ a : Nat, a < 64 → ∀ b : Nat, b < 64 → ¬ (2 + (nI a / 8 - nI b / 8) * (nI a / 8 - nI b / 8)) + ((nI a - nI a / 8 * 8) - (nI b - nI b / 8 * 8)) * ((nI a - nI a / 8 * 8) - (nI b - nI b / 8 * 8)) = 0 := by decide +kernel
theorem ms_ne {a b : Int32} (ha : vp_in a 64) (hb : vp_in b 64) : ¬ (2 + (a / 8 - b / 8) * (a / 8 - b / 8)) + ((a - a / 8 * 8) - (b - b / 8 * 8)) * ((a - a / 8 * 8) - (b - b / 8 * 8)) = 0 := by
  obtain ⟨i, hi, rfl⟩ := vp_in_of ha (by decide)
  obtain ⟨j, hj, rfl⟩ := vp_in_of hb (by decide)
  exact ms_cells i hi j hj

def m_X8_in (a : Int32) (b : Int32) (z : Int32) : Bool := (if a < b then false else (if z < a then false else true))
set_option maxHeartbeats 4000000 in
set_option maxRecDepth 100000 in
theorem met_X8_in (l : Launch) (a : Int32) (b : Int32) (z : Int32) : Met l yX8_in wsX8_in ({ frames := 0, cells := 0, slots := 0, locals := 0 }) (va_Pc [.int a, .int b, .int z] (fun _ => True)) (va_Qi (fun (r : Int32) (_ : Unit) => r = bI (m_X8_in a b z)) (fun _ _ => True) (fun _ => False)) 0 0 (fun _ => False) := by
  refine Met.ofW (cc := cX8_in) (maxL := 3) (ret := (some .boolean)) (by decide) rfl ?_
  intro p e s m args below meth c s₁ B hml hv
  obtain ⟨rfl, -⟩ := hv
  have hx := B.exec
  have hb := B.bytes
  have hr := B.returns
  have hts := atoms_spec (ws := wsX8_in) B.pre
  have hown : s.vm.findClass RX8 = some m.cls := findClass_of_methodNamed B.named
  have hlocks := B.notSynchronized
  have hS : va_S (fun _ => False) s.heap s.heap [] := va_S.rf
  have hl := lv_entry ([.int a, .int b, .int z]) (n := 3) (Nat.le_of_ble_eq_true rfl)
  rw [lg_entry_eq]
  generalize (lg_sl ([.int a, .int b, .int z]) ++ List.replicate (3 - (lg_sl ([.int a, .int b, .int z])).length) Slot.unset).toArray = ls at hl ⊢
  have hl : lv_has ls 3 [(0, .int a), (1, .int b), (2, .int z)] := hl
  refine startS (fun H locs hS => ?_) hS
  refine lv_iload_n hx hb dX8_in_0 rfl (lv_at hl 0 rfl) ?_
  refine lv_iload_n hx hb dX8_in_1 rfl (lv_at hl 1 rfl) ?_
  refine lv_icmp_lt (tgt := 14) hx hb dX8_in_2 (by decide) (fun c1 => ?_) (fun c1 => ?_)
  · refine lv_iconst (v := 0) hx hb dX8_in_14 (by decide) ?_
    have em : m_X8_in a b z = false := (by first | (simp only [m_X8_in, if_pos c1]; done) | (simp only [m_X8_in, if_pos c1]; rfl))
    exact W.zret (v := 0) hx hb hr rfl (fun t ht hW => ⟨⟨0, (), rfl, (by rw [em]; rfl), trivial⟩, hS.F ht⟩) hS.2.2 dX8_in_15
  · refine lv_iload_n hx hb dX8_in_5 rfl (lv_at hl 0 rfl) ?_
    refine lv_iload_n hx hb dX8_in_6 rfl (lv_at hl 2 rfl) ?_
    refine lv_icmp_gt (tgt := 14) hx hb dX8_in_7 (by decide) (fun c2 => ?_) (fun c2 => ?_)
    · refine lv_iconst (v := 0) hx hb dX8_in_14 (by decide) ?_
      have em : m_X8_in a b z = false := (by first | (simp only [m_X8_in, if_neg c1, if_pos c2]; done) | (simp only [m_X8_in, if_neg c1, if_pos c2]; rfl))
      exact W.zret (v := 0) hx hb hr rfl (fun t ht hW => ⟨⟨0, (), rfl, (by rw [em]; rfl), trivial⟩, hS.F ht⟩) hS.2.2 dX8_in_15
    · refine lv_iconst (v := 1) hx hb dX8_in_10 (by decide) ?_
      refine lv_goto (tgt := 15) hx hb dX8_in_11 (by decide) ?_
      have em : m_X8_in a b z = true := (by first | (simp only [m_X8_in, if_neg c1, if_neg c2]; done) | (simp only [m_X8_in, if_neg c1, if_neg c2]; rfl))
      exact W.zret (v := 1) hx hb hr rfl (fun t ht hW => ⟨⟨1, (), rfl, (by rw [em]; rfl), trivial⟩, hS.F ht⟩) hS.2.2 dX8_in_15
def m_X8_isCell (a : Int32) : Bool := (m_X8_in a 0 63)
set_option maxHeartbeats 4000000 in
set_option maxRecDepth 100000 in
theorem met_X8_isCell (l : Launch) (a : Int32) : Met l yX8_isCell wsX8_isCell ({ frames := 1, cells := 0, slots := 0, locals := 22 }) (va_Pc [.int a] (fun _ => True)) (va_Qi (fun (r : Int32) (_ : Unit) => r = bI (m_X8_isCell a)) (fun _ _ => True) (fun _ => False)) 0 0 (fun _ => False) := by
  refine Met.ofW (cc := cX8_isCell) (maxL := 1) (ret := (some .boolean)) (by decide) rfl ?_
  intro p e s m args below meth c s₁ B hml hv
  obtain ⟨rfl, -⟩ := hv
  have hx := B.exec
  have hb := B.bytes
  have hr := B.returns
  have hts := atoms_spec (ws := wsX8_isCell) B.pre
  have hown : s.vm.findClass RX8 = some m.cls := findClass_of_methodNamed B.named
  have hlocks := B.notSynchronized
  have hS : va_S (fun _ => False) s.heap s.heap [] := va_S.rf
  have hl := lv_entry ([.int a]) (n := 1) (Nat.le_of_ble_eq_true rfl)
  rw [lg_entry_eq]
  generalize (lg_sl ([.int a]) ++ List.replicate (1 - (lg_sl ([.int a])).length) Slot.unset).toArray = ls at hl ⊢
  have hl : lv_has ls 1 [(0, .int a)] := hl
  refine startS (fun H locs hS => ?_) hS
  refine lv_iload_n hx hb dX8_isCell_0 rfl (lv_at hl 0 rfl) ?_
  refine lv_iconst (v := 0) hx hb dX8_isCell_1 (by decide) ?_
  refine lv_bipush (v := 63) hx hb dX8_isCell_2 (by decide) ?_
  refine callS_i (va_runS (As := [.int a, .int 0, .int 63]) (rest := []) ⟨hx, hb, hml, hown, hts⟩ (met_X8_in l  a 0 63) (va_cwS 3 hts gX8_isCell_X8_in rfl rfl rfl (by decide +kernel) ⟨Nat.le_of_ble_eq_true rfl, Nat.le_of_ble_eq_true rfl⟩) ⟨preS_blind, fun U hU hW => ⟨rfl, trivial⟩⟩ rfl rfl hl.1 rfl (lv_room (Nat.le_of_ble_eq_true rfl)) dX8_isCell_4 ⟨Nat.zero_le _, Nat.zero_le _⟩) hS (fun r u H locs hw hS => ?_)
  subst hw
  have em : m_X8_isCell a = (m_X8_in a 0 63) := (by first | (simp only [m_X8_isCell]; done) | (unfold m_X8_isCell; rfl) | rfl)
  exact W.zret (v := bI (m_X8_in a 0 63)) hx hb hr (bI_nar _) (fun t ht hW => ⟨⟨bI (m_X8_in a 0 63), (), rfl, (by rw [em]), trivial⟩, hS.F ht⟩) hS.2.2 dX8_isCell_7
def m_X8_isDark (a : Int32) : Bool := (if a = 1 then true else (if a = 3 then true else false))
set_option maxHeartbeats 4000000 in
set_option maxRecDepth 100000 in
theorem met_X8_isDark (l : Launch) (a : Int32) : Met l yX8_isDark wsX8_isDark ({ frames := 0, cells := 0, slots := 0, locals := 0 }) (va_Pc [.int a] (fun _ => True)) (va_Qi (fun (r : Int32) (_ : Unit) => r = bI (m_X8_isDark a)) (fun _ _ => True) (fun _ => False)) 0 0 (fun _ => False) := by
  refine Met.ofW (cc := cX8_isDark) (maxL := 1) (ret := (some .boolean)) (by decide) rfl ?_
  intro p e s m args below meth c s₁ B hml hv
  obtain ⟨rfl, -⟩ := hv
  have hx := B.exec
  have hb := B.bytes
  have hr := B.returns
  have hts := atoms_spec (ws := wsX8_isDark) B.pre
  have hown : s.vm.findClass RX8 = some m.cls := findClass_of_methodNamed B.named
  have hlocks := B.notSynchronized
  have hS : va_S (fun _ => False) s.heap s.heap [] := va_S.rf
  have hl := lv_entry ([.int a]) (n := 1) (Nat.le_of_ble_eq_true rfl)
  rw [lg_entry_eq]
  generalize (lg_sl ([.int a]) ++ List.replicate (1 - (lg_sl ([.int a])).length) Slot.unset).toArray = ls at hl ⊢
  have hl : lv_has ls 1 [(0, .int a)] := hl
  refine startS (fun H locs hS => ?_) hS
  refine lv_iload_n hx hb dX8_isDark_0 rfl (lv_at hl 0 rfl) ?_
  refine lv_iconst (v := 1) hx hb dX8_isDark_1 (by decide) ?_
  refine lv_icmp_eq (tgt := 10) hx hb dX8_isDark_2 (by decide) (fun c1 => ?_) (fun c1 => ?_)
  · refine lv_iconst (v := 1) hx hb dX8_isDark_10 (by decide) ?_
    refine lv_goto (tgt := 15) hx hb dX8_isDark_11 (by decide) ?_
    have em : m_X8_isDark a = true := (by first | (simp only [m_X8_isDark, if_pos c1]; done) | (simp only [m_X8_isDark, if_pos c1]; rfl))
    exact W.zret (v := 1) hx hb hr rfl (fun t ht hW => ⟨⟨1, (), rfl, (by rw [em]; rfl), trivial⟩, hS.F ht⟩) hS.2.2 dX8_isDark_15
  · refine lv_iload_n hx hb dX8_isDark_5 rfl (lv_at hl 0 rfl) ?_
    refine lv_iconst (v := 3) hx hb dX8_isDark_6 (by decide) ?_
    refine lv_icmp_ne (tgt := 14) hx hb dX8_isDark_7 (by decide) (fun c2 => ?_) (fun c2 => ?_)
    · refine lv_iconst (v := 0) hx hb dX8_isDark_14 (by decide) ?_
      have em : m_X8_isDark a = false := (by first | (simp only [m_X8_isDark, if_neg c1, if_neg c2]; done) | (simp only [m_X8_isDark, if_neg c1, if_neg c2]; rfl))
      exact W.zret (v := 0) hx hb hr rfl (fun t ht hW => ⟨⟨0, (), rfl, (by rw [em]; rfl), trivial⟩, hS.F ht⟩) hS.2.2 dX8_isDark_15
    · refine lv_iconst (v := 1) hx hb dX8_isDark_10 (by decide) ?_
      refine lv_goto (tgt := 15) hx hb dX8_isDark_11 (by decide) ?_
      have em : m_X8_isDark a = true := (by first | (simp only [m_X8_isDark, if_neg c1, if_pos c2]; done) | (simp only [m_X8_isDark, if_neg c1, if_pos c2]; rfl))
      exact W.zret (v := 1) hx hb hr rfl (fun t ht hW => ⟨⟨1, (), rfl, (by rw [em]; rfl), trivial⟩, hS.F ht⟩) hS.2.2 dX8_isDark_15
def m_X8_isClosed (a : Int32) : Bool := (if a = 1 then true else (if a = 2 then true else false))
set_option maxHeartbeats 4000000 in
set_option maxRecDepth 100000 in
theorem met_X8_isClosed (l : Launch) (a : Int32) : Met l yX8_isClosed wsX8_isClosed ({ frames := 0, cells := 0, slots := 0, locals := 0 }) (va_Pc [.int a] (fun _ => True)) (va_Qi (fun (r : Int32) (_ : Unit) => r = bI (m_X8_isClosed a)) (fun _ _ => True) (fun _ => False)) 0 0 (fun _ => False) := by
  refine Met.ofW (cc := cX8_isClosed) (maxL := 1) (ret := (some .boolean)) (by decide) rfl ?_
  intro p e s m args below meth c s₁ B hml hv
  obtain ⟨rfl, -⟩ := hv
  have hx := B.exec
  have hb := B.bytes
  have hr := B.returns
  have hts := atoms_spec (ws := wsX8_isClosed) B.pre
  have hown : s.vm.findClass RX8 = some m.cls := findClass_of_methodNamed B.named
  have hlocks := B.notSynchronized
  have hS : va_S (fun _ => False) s.heap s.heap [] := va_S.rf
  have hl := lv_entry ([.int a]) (n := 1) (Nat.le_of_ble_eq_true rfl)
  rw [lg_entry_eq]
  generalize (lg_sl ([.int a]) ++ List.replicate (1 - (lg_sl ([.int a])).length) Slot.unset).toArray = ls at hl ⊢
  have hl : lv_has ls 1 [(0, .int a)] := hl
  refine startS (fun H locs hS => ?_) hS
  refine lv_iload_n hx hb dX8_isClosed_0 rfl (lv_at hl 0 rfl) ?_
  refine lv_iconst (v := 1) hx hb dX8_isClosed_1 (by decide) ?_
  refine lv_icmp_eq (tgt := 10) hx hb dX8_isClosed_2 (by decide) (fun c1 => ?_) (fun c1 => ?_)
  · refine lv_iconst (v := 1) hx hb dX8_isClosed_10 (by decide) ?_
    refine lv_goto (tgt := 15) hx hb dX8_isClosed_11 (by decide) ?_
    have em : m_X8_isClosed a = true := (by first | (simp only [m_X8_isClosed, if_pos c1]; done) | (simp only [m_X8_isClosed, if_pos c1]; rfl))
    exact W.zret (v := 1) hx hb hr rfl (fun t ht hW => ⟨⟨1, (), rfl, (by rw [em]; rfl), trivial⟩, hS.F ht⟩) hS.2.2 dX8_isClosed_15
  · refine lv_iload_n hx hb dX8_isClosed_5 rfl (lv_at hl 0 rfl) ?_
    refine lv_iconst (v := 2) hx hb dX8_isClosed_6 (by decide) ?_
    refine lv_icmp_ne (tgt := 14) hx hb dX8_isClosed_7 (by decide) (fun c2 => ?_) (fun c2 => ?_)
    · refine lv_iconst (v := 0) hx hb dX8_isClosed_14 (by decide) ?_
      have em : m_X8_isClosed a = false := (by first | (simp only [m_X8_isClosed, if_neg c1, if_neg c2]; done) | (simp only [m_X8_isClosed, if_neg c1, if_neg c2]; rfl))
      exact W.zret (v := 0) hx hb hr rfl (fun t ht hW => ⟨⟨0, (), rfl, (by rw [em]; rfl), trivial⟩, hS.F ht⟩) hS.2.2 dX8_isClosed_15
    · refine lv_iconst (v := 1) hx hb dX8_isClosed_10 (by decide) ?_
      refine lv_goto (tgt := 15) hx hb dX8_isClosed_11 (by decide) ?_
      have em : m_X8_isClosed a = true := (by first | (simp only [m_X8_isClosed, if_neg c1, if_pos c2]; done) | (simp only [m_X8_isClosed, if_neg c1, if_pos c2]; rfl))
      exact W.zret (v := 1) hx hb hr rfl (fun t ht hW => ⟨⟨1, (), rfl, (by rw [em]; rfl), trivial⟩, hS.F ht⟩) hS.2.2 dX8_isClosed_15
def m_X8_size (a : Int32) : Int32 := (if 0 ≤ a then a else -a)
set_option maxHeartbeats 4000000 in
set_option maxRecDepth 100000 in
theorem met_X8_size (l : Launch) (a : Int32) : Met l yX8_size wsX8_size ({ frames := 0, cells := 0, slots := 0, locals := 0 }) (va_Pc [.int a] (fun _ => True)) (va_Qi (fun (r : Int32) (_ : Unit) => r = (m_X8_size a)) (fun _ _ => True) (fun _ => False)) 0 0 (fun _ => False) := by
  refine Met.ofW (cc := cX8_size) (maxL := 1) (ret := (some .int)) (by decide) rfl ?_
  intro p e s m args below meth c s₁ B hml hv
  obtain ⟨rfl, -⟩ := hv
  have hx := B.exec
  have hb := B.bytes
  have hr := B.returns
  have hts := atoms_spec (ws := wsX8_size) B.pre
  have hown : s.vm.findClass RX8 = some m.cls := findClass_of_methodNamed B.named
  have hlocks := B.notSynchronized
  have hS : va_S (fun _ => False) s.heap s.heap [] := va_S.rf
  have hl := lv_entry ([.int a]) (n := 1) (Nat.le_of_ble_eq_true rfl)
  rw [lg_entry_eq]
  generalize (lg_sl ([.int a]) ++ List.replicate (1 - (lg_sl ([.int a])).length) Slot.unset).toArray = ls at hl ⊢
  have hl : lv_has ls 1 [(0, .int a)] := hl
  refine startS (fun H locs hS => ?_) hS
  refine lv_iload_n hx hb dX8_size_0 rfl (lv_at hl 0 rfl) ?_
  refine lv_if_ge (tgt := 9) hx hb dX8_size_1 (by decide) (fun c1 => ?_) (fun c1 => ?_)
  · refine lv_iload_n hx hb dX8_size_9 rfl (lv_at hl 0 rfl) ?_
    have em : m_X8_size a = a := (by first | (simp only [m_X8_size, if_pos c1]; done) | (simp only [m_X8_size, if_pos c1]; rfl))
    exact W.iret (v := a) hx hb hr (fun t ht hW => ⟨⟨a, (), rfl, (by rw [em]), trivial⟩, hS.F ht⟩) hS.2.2 dX8_size_10
  · refine lv_iload_n hx hb dX8_size_4 rfl (lv_at hl 0 rfl) ?_
    refine lv_ineg hx hb dX8_size_5 ?_
    refine lv_goto (tgt := 10) hx hb dX8_size_6 (by decide) ?_
    have em : m_X8_size a = -a := (by first | (simp only [m_X8_size, if_neg c1]; done) | (simp only [m_X8_size, if_neg c1]; rfl))
    exact W.iret (v := -a) hx hb hr (fun t ht hW => ⟨⟨-a, (), rfl, (by rw [em]), trivial⟩, hS.F ht⟩) hS.2.2 dX8_size_10
def m_X8_least (a : Int32) (b : Int32) : Int32 := (if b ≤ a then b else a)
set_option maxHeartbeats 4000000 in
set_option maxRecDepth 100000 in
theorem met_X8_least (l : Launch) (a : Int32) (b : Int32) : Met l yX8_least wsX8_least ({ frames := 0, cells := 0, slots := 0, locals := 0 }) (va_Pc [.int a, .int b] (fun _ => True)) (va_Qi (fun (r : Int32) (_ : Unit) => r = (m_X8_least a b)) (fun _ _ => True) (fun _ => False)) 0 0 (fun _ => False) := by
  refine Met.ofW (cc := cX8_least) (maxL := 2) (ret := (some .int)) (by decide) rfl ?_
  intro p e s m args below meth c s₁ B hml hv
  obtain ⟨rfl, -⟩ := hv
  have hx := B.exec
  have hb := B.bytes
  have hr := B.returns
  have hts := atoms_spec (ws := wsX8_least) B.pre
  have hown : s.vm.findClass RX8 = some m.cls := findClass_of_methodNamed B.named
  have hlocks := B.notSynchronized
  have hS : va_S (fun _ => False) s.heap s.heap [] := va_S.rf
  have hl := lv_entry ([.int a, .int b]) (n := 2) (Nat.le_of_ble_eq_true rfl)
  rw [lg_entry_eq]
  generalize (lg_sl ([.int a, .int b]) ++ List.replicate (2 - (lg_sl ([.int a, .int b])).length) Slot.unset).toArray = ls at hl ⊢
  have hl : lv_has ls 2 [(0, .int a), (1, .int b)] := hl
  refine startS (fun H locs hS => ?_) hS
  refine lv_iload_n hx hb dX8_least_0 rfl (lv_at hl 0 rfl) ?_
  refine lv_iload_n hx hb dX8_least_1 rfl (lv_at hl 1 rfl) ?_
  refine lv_icmp_ge (tgt := 9) hx hb dX8_least_2 (by decide) (fun c1 => ?_) (fun c1 => ?_)
  · refine lv_iload_n hx hb dX8_least_9 rfl (lv_at hl 1 rfl) ?_
    have em : m_X8_least a b = b := (by first | (simp only [m_X8_least, if_pos c1]; done) | (simp only [m_X8_least, if_pos c1]; rfl))
    exact W.iret (v := b) hx hb hr (fun t ht hW => ⟨⟨b, (), rfl, (by rw [em]), trivial⟩, hS.F ht⟩) hS.2.2 dX8_least_10
  · refine lv_iload_n hx hb dX8_least_5 rfl (lv_at hl 0 rfl) ?_
    refine lv_goto (tgt := 10) hx hb dX8_least_6 (by decide) ?_
    have em : m_X8_least a b = a := (by first | (simp only [m_X8_least, if_neg c1]; done) | (simp only [m_X8_least, if_neg c1]; rfl))
    exact W.iret (v := a) hx hb hr (fun t ht hW => ⟨⟨a, (), rfl, (by rw [em]), trivial⟩, hS.F ht⟩) hS.2.2 dX8_least_10
def m_X8_most (a : Int32) (b : Int32) : Int32 := (if a ≤ b then b else a)
set_option maxHeartbeats 4000000 in
set_option maxRecDepth 100000 in
theorem met_X8_most (l : Launch) (a : Int32) (b : Int32) : Met l yX8_most wsX8_most ({ frames := 0, cells := 0, slots := 0, locals := 0 }) (va_Pc [.int a, .int b] (fun _ => True)) (va_Qi (fun (r : Int32) (_ : Unit) => r = (m_X8_most a b)) (fun _ _ => True) (fun _ => False)) 0 0 (fun _ => False) := by
  refine Met.ofW (cc := cX8_most) (maxL := 2) (ret := (some .int)) (by decide) rfl ?_
  intro p e s m args below meth c s₁ B hml hv
  obtain ⟨rfl, -⟩ := hv
  have hx := B.exec
  have hb := B.bytes
  have hr := B.returns
  have hts := atoms_spec (ws := wsX8_most) B.pre
  have hown : s.vm.findClass RX8 = some m.cls := findClass_of_methodNamed B.named
  have hlocks := B.notSynchronized
  have hS : va_S (fun _ => False) s.heap s.heap [] := va_S.rf
  have hl := lv_entry ([.int a, .int b]) (n := 2) (Nat.le_of_ble_eq_true rfl)
  rw [lg_entry_eq]
  generalize (lg_sl ([.int a, .int b]) ++ List.replicate (2 - (lg_sl ([.int a, .int b])).length) Slot.unset).toArray = ls at hl ⊢
  have hl : lv_has ls 2 [(0, .int a), (1, .int b)] := hl
  refine startS (fun H locs hS => ?_) hS
  refine lv_iload_n hx hb dX8_most_0 rfl (lv_at hl 0 rfl) ?_
  refine lv_iload_n hx hb dX8_most_1 rfl (lv_at hl 1 rfl) ?_
  refine lv_icmp_le (tgt := 9) hx hb dX8_most_2 (by decide) (fun c1 => ?_) (fun c1 => ?_)
  · refine lv_iload_n hx hb dX8_most_9 rfl (lv_at hl 1 rfl) ?_
    have em : m_X8_most a b = b := (by first | (simp only [m_X8_most, if_pos c1]; done) | (simp only [m_X8_most, if_pos c1]; rfl))
    exact W.iret (v := b) hx hb hr (fun t ht hW => ⟨⟨b, (), rfl, (by rw [em]), trivial⟩, hS.F ht⟩) hS.2.2 dX8_most_10
  · refine lv_iload_n hx hb dX8_most_5 rfl (lv_at hl 0 rfl) ?_
    refine lv_goto (tgt := 10) hx hb dX8_most_6 (by decide) ?_
    have em : m_X8_most a b = a := (by first | (simp only [m_X8_most, if_neg c1]; done) | (simp only [m_X8_most, if_neg c1]; rfl))
    exact W.iret (v := a) hx hb hr (fun t ht hW => ⟨⟨a, (), rfl, (by rw [em]), trivial⟩, hS.F ht⟩) hS.2.2 dX8_most_10
def m_X8_side (fr : Int32) (to : Int32) (x : Int32) (y : Int32) : Int32 := (((to / 8) - (fr / 8)) * ((y - (2 * (fr - fr / 8 * 8))) - 1)) - (((to - to / 8 * 8) - (fr - fr / 8 * 8)) * ((x - (2 * (fr / 8))) - 1))
set_option maxHeartbeats 4000000 in
set_option maxRecDepth 100000 in
theorem met_X8_side (l : Launch) (fr : Int32) (to : Int32) (x : Int32) (y : Int32) : Met l yX8_side wsX8_side ({ frames := 0, cells := 0, slots := 0, locals := 0 }) (va_Pc [.int fr, .int to, .int x, .int y] (fun _ => True)) (va_Qi (fun (r : Int32) (_ : Unit) => r = (m_X8_side fr to x y)) (fun _ _ => True) (fun _ => False)) 0 0 (fun _ => False) := by
  refine Met.ofW (cc := cX8_side) (maxL := 6) (ret := (some .int)) (by decide) rfl ?_
  intro p e s m args below meth c s₁ B hml hv
  obtain ⟨rfl, -⟩ := hv
  have hx := B.exec
  have hb := B.bytes
  have hr := B.returns
  have hts := atoms_spec (ws := wsX8_side) B.pre
  have hown : s.vm.findClass RX8 = some m.cls := findClass_of_methodNamed B.named
  have hlocks := B.notSynchronized
  have hS : va_S (fun _ => False) s.heap s.heap [] := va_S.rf
  have hl := lv_entry ([.int fr, .int to, .int x, .int y]) (n := 6) (Nat.le_of_ble_eq_true rfl)
  rw [lg_entry_eq]
  generalize (lg_sl ([.int fr, .int to, .int x, .int y]) ++ List.replicate (6 - (lg_sl ([.int fr, .int to, .int x, .int y])).length) Slot.unset).toArray = ls at hl ⊢
  have hl : lv_has ls 6 [(0, .int fr), (1, .int to), (2, .int x), (3, .int y)] := hl
  refine startS (fun H locs hS => ?_) hS
  refine lv_iload_n hx hb dX8_side_0 rfl (lv_at hl 1 rfl) ?_
  refine lv_bipush (v := 8) hx hb dX8_side_1 (by decide) ?_
  refine lv_idiv hx hb dX8_side_3 (by decide) ?_
  refine lv_iload_n hx hb dX8_side_4 rfl (lv_at hl 0 rfl) ?_
  refine lv_bipush (v := 8) hx hb dX8_side_5 (by decide) ?_
  refine lv_idiv hx hb dX8_side_7 (by decide) ?_
  refine lv_isub hx hb dX8_side_8 ?_
  refine lv_istore (lv' := [(4, .int ((to / 8) - (fr / 8))), (0, .int fr), (1, .int to), (2, .int x), (3, .int y)]) hx hb dX8_side_9 hl (by decide) rfl (fun ls hl => ?_)
  refine lv_iload_n hx hb dX8_side_11 rfl (lv_at hl 2 rfl) ?_
  refine lv_bipush (v := 8) hx hb dX8_side_12 (by decide) ?_
  refine lv_irem hx hb dX8_side_14 (by decide) ?_
  refine lv_iload_n hx hb dX8_side_15 rfl (lv_at hl 1 rfl) ?_
  refine lv_bipush (v := 8) hx hb dX8_side_16 (by decide) ?_
  refine lv_irem hx hb dX8_side_18 (by decide) ?_
  refine lv_isub hx hb dX8_side_19 ?_
  refine lv_istore (lv' := [(5, .int ((to - to / 8 * 8) - (fr - fr / 8 * 8))), (4, .int ((to / 8) - (fr / 8))), (0, .int fr), (1, .int to), (2, .int x), (3, .int y)]) hx hb dX8_side_20 hl (by decide) rfl (fun ls hl => ?_)
  refine lv_iload hx hb dX8_side_22 (lv_at hl 1 rfl) ?_
  refine lv_iload_n hx hb dX8_side_24 rfl (lv_at hl 5 rfl) ?_
  refine lv_iconst (v := 2) hx hb dX8_side_25 (by decide) ?_
  refine lv_iload_n hx hb dX8_side_26 rfl (lv_at hl 2 rfl) ?_
  refine lv_bipush (v := 8) hx hb dX8_side_27 (by decide) ?_
  refine lv_irem hx hb dX8_side_29 (by decide) ?_
  refine lv_imul hx hb dX8_side_30 ?_
  refine lv_isub hx hb dX8_side_31 ?_
  refine lv_iconst (v := 1) hx hb dX8_side_32 (by decide) ?_
  refine lv_isub hx hb dX8_side_33 ?_
  refine lv_imul hx hb dX8_side_34 ?_
  refine lv_iload hx hb dX8_side_35 (lv_at hl 0 rfl) ?_
  refine lv_iload_n hx hb dX8_side_37 rfl (lv_at hl 4 rfl) ?_
  refine lv_iconst (v := 2) hx hb dX8_side_38 (by decide) ?_
  refine lv_iload_n hx hb dX8_side_39 rfl (lv_at hl 2 rfl) ?_
  refine lv_bipush (v := 8) hx hb dX8_side_40 (by decide) ?_
  refine lv_idiv hx hb dX8_side_42 (by decide) ?_
  refine lv_imul hx hb dX8_side_43 ?_
  refine lv_isub hx hb dX8_side_44 ?_
  refine lv_iconst (v := 1) hx hb dX8_side_45 (by decide) ?_
  refine lv_isub hx hb dX8_side_46 ?_
  refine lv_imul hx hb dX8_side_47 ?_
  refine lv_isub hx hb dX8_side_48 ?_
  have em : m_X8_side fr to x y = (((to / 8) - (fr / 8)) * ((y - (2 * (fr - fr / 8 * 8))) - 1)) - (((to - to / 8 * 8) - (fr - fr / 8 * 8)) * ((x - (2 * (fr / 8))) - 1)) := (by first | (simp only [m_X8_side]; done) | (unfold m_X8_side; rfl) | rfl)
  exact W.iret (v := (((to / 8) - (fr / 8)) * ((y - (2 * (fr - fr / 8 * 8))) - 1)) - (((to - to / 8 * 8) - (fr - fr / 8 * 8)) * ((x - (2 * (fr / 8))) - 1))) hx hb hr (fun t ht hW => ⟨⟨(((to / 8) - (fr / 8)) * ((y - (2 * (fr - fr / 8 * 8))) - 1)) - (((to - to / 8 * 8) - (fr - fr / 8 * 8)) * ((x - (2 * (fr / 8))) - 1)), (), rfl, (by rw [em]), trivial⟩, hS.F ht⟩) hS.2.2 dX8_side_49
def m_X8_isBetween (a : Int32) (b : Int32) (z : Int32) : Bool := (if z ≤ b then (m_X8_in a z b) else (m_X8_in a b z))
set_option maxHeartbeats 4000000 in
set_option maxRecDepth 100000 in
theorem met_X8_isBetween (l : Launch) (a : Int32) (b : Int32) (z : Int32) : Met l yX8_isBetween wsX8_isBetween ({ frames := 1, cells := 0, slots := 0, locals := 22 }) (va_Pc [.int a, .int b, .int z] (fun _ => True)) (va_Qi (fun (r : Int32) (_ : Unit) => r = bI (m_X8_isBetween a b z)) (fun _ _ => True) (fun _ => False)) 0 0 (fun _ => False) := by
  refine Met.ofW (cc := cX8_isBetween) (maxL := 3) (ret := (some .boolean)) (by decide) rfl ?_
  intro p e s m args below meth c s₁ B hml hv
  obtain ⟨rfl, -⟩ := hv
  have hx := B.exec
  have hb := B.bytes
  have hr := B.returns
  have hts := atoms_spec (ws := wsX8_isBetween) B.pre
  have hown : s.vm.findClass RX8 = some m.cls := findClass_of_methodNamed B.named
  have hlocks := B.notSynchronized
  have hS : va_S (fun _ => False) s.heap s.heap [] := va_S.rf
  have hl := lv_entry ([.int a, .int b, .int z]) (n := 3) (Nat.le_of_ble_eq_true rfl)
  rw [lg_entry_eq]
  generalize (lg_sl ([.int a, .int b, .int z]) ++ List.replicate (3 - (lg_sl ([.int a, .int b, .int z])).length) Slot.unset).toArray = ls at hl ⊢
  have hl : lv_has ls 3 [(0, .int a), (1, .int b), (2, .int z)] := hl
  refine startS (fun H locs hS => ?_) hS
  refine lv_iload_n hx hb dX8_isBetween_0 rfl (lv_at hl 1 rfl) ?_
  refine lv_iload_n hx hb dX8_isBetween_1 rfl (lv_at hl 2 rfl) ?_
  refine lv_icmp_ge (tgt := 14) hx hb dX8_isBetween_2 (by decide) (fun c1 => ?_) (fun c1 => ?_)
  · refine lv_iload_n hx hb dX8_isBetween_14 rfl (lv_at hl 0 rfl) ?_
    refine lv_iload_n hx hb dX8_isBetween_15 rfl (lv_at hl 2 rfl) ?_
    refine lv_iload_n hx hb dX8_isBetween_16 rfl (lv_at hl 1 rfl) ?_
    refine callS_i (va_runS (As := [.int a, .int z, .int b]) (rest := []) ⟨hx, hb, hml, hown, hts⟩ (met_X8_in l  a z b) (va_cwS 3 hts gX8_isBetween_X8_in rfl rfl rfl (by decide +kernel) ⟨Nat.le_of_ble_eq_true rfl, Nat.le_of_ble_eq_true rfl⟩) ⟨preS_blind, fun U hU hW => ⟨rfl, trivial⟩⟩ rfl rfl hl.1 rfl (lv_room (Nat.le_of_ble_eq_true rfl)) dX8_isBetween_17 ⟨Nat.zero_le _, Nat.zero_le _⟩) hS (fun r u H locs hw hS => ?_)
    subst hw
    have em : m_X8_isBetween a b z = (m_X8_in a z b) := (by first | (simp only [m_X8_isBetween, if_pos c1]; done) | (simp only [m_X8_isBetween, if_pos c1]; rfl))
    exact W.zret (v := bI (m_X8_in a z b)) hx hb hr (bI_nar _) (fun t ht hW => ⟨⟨bI (m_X8_in a z b), (), rfl, (by rw [em]), trivial⟩, hS.F ht⟩) hS.2.2 dX8_isBetween_20
  · refine lv_iload_n hx hb dX8_isBetween_5 rfl (lv_at hl 0 rfl) ?_
    refine lv_iload_n hx hb dX8_isBetween_6 rfl (lv_at hl 1 rfl) ?_
    refine lv_iload_n hx hb dX8_isBetween_7 rfl (lv_at hl 2 rfl) ?_
    refine callS_i (va_runS (As := [.int a, .int b, .int z]) (rest := []) ⟨hx, hb, hml, hown, hts⟩ (met_X8_in l  a b z) (va_cwS 3 hts gX8_isBetween_X8_in rfl rfl rfl (by decide +kernel) ⟨Nat.le_of_ble_eq_true rfl, Nat.le_of_ble_eq_true rfl⟩) ⟨preS_blind, fun U hU hW => ⟨rfl, trivial⟩⟩ rfl rfl hl.1 rfl (lv_room (Nat.le_of_ble_eq_true rfl)) dX8_isBetween_8 ⟨Nat.zero_le _, Nat.zero_le _⟩) hS (fun r u H locs hw hS => ?_)
    subst hw
    refine lv_goto (tgt := 20) hx hb dX8_isBetween_11 (by decide) ?_
    have em : m_X8_isBetween a b z = (m_X8_in a b z) := (by first | (simp only [m_X8_isBetween, if_neg c1]; done) | (simp only [m_X8_isBetween, if_neg c1]; rfl))
    exact W.zret (v := bI (m_X8_in a b z)) hx hb hr (bI_nar _) (fun t ht hW => ⟨⟨bI (m_X8_in a b z), (), rfl, (by rw [em]), trivial⟩, hS.F ht⟩) hS.2.2 dX8_isBetween_20
def m_X8_goesThrough (fr : Int32) (to : Int32) (ce : Int32) : Bool := (let v3 : Bool := (if ce = fr then false else (if ce = to then false else true)); (if v3 = false then false else (if (m_X8_isBetween (ce / 8) (fr / 8) (to / 8)) = false then false else (let q6 : Bool := m_X8_isBetween (ce - ce / 8 * 8) (fr - fr / 8 * 8) (to - to / 8 * 8); (if q6 = false then false else (let q8 : Int32 := m_X8_side fr to (2 * (ce / 8)) (2 * (ce - ce / 8 * 8)); (let q9 : Int32 := m_X8_side fr to ((2 * (ce / 8)) + 2) (2 * (ce - ce / 8 * 8)); (let q10 : Int32 := m_X8_side fr to (2 * (ce / 8)) ((2 * (ce - ce / 8 * 8)) + 2); (let q11 : Int32 := m_X8_side fr to ((2 * (ce / 8)) + 2) ((2 * (ce - ce / 8 * 8)) + 2); (let v16 : Bool := (if 0 < q8 then true else (if 0 < q9 then true else (if 0 < q10 then true else (if q11 ≤ 0 then false else true)))); (if v16 = false then false else (if q8 < 0 then true else (if q9 < 0 then true else (if q10 < 0 then true else (if 0 ≤ q11 then false else true)))))))))))))))
set_option maxHeartbeats 4000000 in
set_option maxRecDepth 100000 in
theorem met_X8_goesThrough (l : Launch) (fr : Int32) (to : Int32) (ce : Int32) : Met l yX8_goesThrough wsX8_goesThrough ({ frames := 2, cells := 0, slots := 0, locals := 44 }) (va_Pc [.int fr, .int to, .int ce] (fun _ => True)) (va_Qi (fun (r : Int32) (_ : Unit) => r = bI (m_X8_goesThrough fr to ce)) (fun _ _ => True) (fun _ => False)) 0 0 (fun _ => False) := by
  refine Met.ofW (cc := cX8_goesThrough) (maxL := 11) (ret := (some .boolean)) (by decide) rfl ?_
  intro p e s m args below meth c s₁ B hml hv
  obtain ⟨rfl, -⟩ := hv
  have hx := B.exec
  have hb := B.bytes
  have hr := B.returns
  have hts := atoms_spec (ws := wsX8_goesThrough) B.pre
  have hown : s.vm.findClass RX8 = some m.cls := findClass_of_methodNamed B.named
  have hlocks := B.notSynchronized
  have hS : va_S (fun _ => False) s.heap s.heap [] := va_S.rf
  have hl := lv_entry ([.int fr, .int to, .int ce]) (n := 11) (Nat.le_of_ble_eq_true rfl)
  rw [lg_entry_eq]
  generalize (lg_sl ([.int fr, .int to, .int ce]) ++ List.replicate (11 - (lg_sl ([.int fr, .int to, .int ce])).length) Slot.unset).toArray = ls at hl ⊢
  have hl : lv_has ls 11 [(0, .int fr), (1, .int to), (2, .int ce)] := hl
  refine startS (fun H locs hS => ?_) hS
  refine lv_iload_n hx hb dX8_goesThrough_0 rfl (lv_at hl 2 rfl) ?_
  refine lv_iload_n hx hb dX8_goesThrough_1 rfl (lv_at hl 0 rfl) ?_
  refine cutW (X := Bool) 15 (fun x H locs ls => x = (if ce = fr then false else (if ce = to then false else true)) ∧ va_S (fun _ => False) s.heap H locs ∧ lv_has ls 11 [(0, .int fr), (1, .int to), (2, .int ce)]) (fun x => [.int (bI x)]) ?_ (fun K15 => ?_)
  · rintro v3 H locs ls ⟨ev3, hS, hl⟩
    have ev3 : v3 = (if ce = fr then false else (if ce = to then false else true)) := ev3
    have hl : lv_has ls 11 [(0, .int fr), (1, .int to), (2, .int ce)] := hl
    refine lv_istore_n (lv' := [(3, .int (bI v3)), (0, .int fr), (1, .int to), (2, .int ce)]) hx hb dX8_goesThrough_15 rfl hl (by decide) rfl (fun ls hl => ?_)
    refine lv_iload_n hx hb dX8_goesThrough_16 rfl (lv_at hl 0 rfl) ?_
    refine lb_if_eq (tgt := 56) hx hb dX8_goesThrough_17 (by decide) (fun c4 => ?_) (fun c4 => ?_)
    · refine lv_iconst (v := 0) hx hb dX8_goesThrough_56 (by decide) ?_
      have em : m_X8_goesThrough fr to ce = false := (by subst ev3; first | (simp only [m_X8_goesThrough, if_pos c4]; done) | (simp only [m_X8_goesThrough, if_pos c4]; rfl))
      exact W.zret (v := 0) hx hb hr rfl (fun t ht hW => ⟨⟨0, (), rfl, (by rw [em]; rfl), trivial⟩, hS.F ht⟩) hS.2.2 dX8_goesThrough_57
    · refine lv_iload_n hx hb dX8_goesThrough_20 rfl (lv_at hl 3 rfl) ?_
      refine lv_bipush (v := 8) hx hb dX8_goesThrough_21 (by decide) ?_
      refine lv_idiv hx hb dX8_goesThrough_23 (by decide) ?_
      refine lv_iload_n hx hb dX8_goesThrough_24 rfl (lv_at hl 1 rfl) ?_
      refine lv_bipush (v := 8) hx hb dX8_goesThrough_25 (by decide) ?_
      refine lv_idiv hx hb dX8_goesThrough_27 (by decide) ?_
      refine lv_iload_n hx hb dX8_goesThrough_28 rfl (lv_at hl 2 rfl) ?_
      refine lv_bipush (v := 8) hx hb dX8_goesThrough_29 (by decide) ?_
      refine lv_idiv hx hb dX8_goesThrough_31 (by decide) ?_
      refine callS_i (va_runS (As := [.int (ce / 8), .int (fr / 8), .int (to / 8)]) (rest := []) ⟨hx, hb, hml, hown, hts⟩ (met_X8_isBetween l  (ce / 8) (fr / 8) (to / 8)) (va_cwS 3 hts gX8_goesThrough_X8_isBetween rfl rfl rfl (by decide +kernel) ⟨Nat.le_of_ble_eq_true rfl, Nat.le_of_ble_eq_true rfl⟩) ⟨preS_blind, fun U hU hW => ⟨rfl, trivial⟩⟩ rfl rfl hl.1 rfl (lv_room (Nat.le_of_ble_eq_true rfl)) dX8_goesThrough_32 ⟨Nat.zero_le _, Nat.zero_le _⟩) hS (fun r u H locs hw hS => ?_)
      subst hw
      refine lb_if_eq (tgt := 56) hx hb dX8_goesThrough_35 (by decide) (fun c5 => ?_) (fun c5 => ?_)
      · refine lv_iconst (v := 0) hx hb dX8_goesThrough_56 (by decide) ?_
        have em : m_X8_goesThrough fr to ce = false := (by subst ev3; first | (simp only [m_X8_goesThrough, if_neg c4, if_pos c5]; done) | (simp only [m_X8_goesThrough, if_neg c4, if_pos c5]; rfl))
        exact W.zret (v := 0) hx hb hr rfl (fun t ht hW => ⟨⟨0, (), rfl, (by rw [em]; rfl), trivial⟩, hS.F ht⟩) hS.2.2 dX8_goesThrough_57
      · refine lv_iload_n hx hb dX8_goesThrough_38 rfl (lv_at hl 3 rfl) ?_
        refine lv_bipush (v := 8) hx hb dX8_goesThrough_39 (by decide) ?_
        refine lv_irem hx hb dX8_goesThrough_41 (by decide) ?_
        refine lv_iload_n hx hb dX8_goesThrough_42 rfl (lv_at hl 1 rfl) ?_
        refine lv_bipush (v := 8) hx hb dX8_goesThrough_43 (by decide) ?_
        refine lv_irem hx hb dX8_goesThrough_45 (by decide) ?_
        refine lv_iload_n hx hb dX8_goesThrough_46 rfl (lv_at hl 2 rfl) ?_
        refine lv_bipush (v := 8) hx hb dX8_goesThrough_47 (by decide) ?_
        refine lv_irem hx hb dX8_goesThrough_49 (by decide) ?_
        refine callS_i (va_runS (As := [.int (ce - ce / 8 * 8), .int (fr - fr / 8 * 8), .int (to - to / 8 * 8)]) (rest := []) ⟨hx, hb, hml, hown, hts⟩ (met_X8_isBetween l  (ce - ce / 8 * 8) (fr - fr / 8 * 8) (to - to / 8 * 8)) (va_cwS 3 hts gX8_goesThrough_X8_isBetween rfl rfl rfl (by decide +kernel) ⟨Nat.le_of_ble_eq_true rfl, Nat.le_of_ble_eq_true rfl⟩) ⟨preS_blind, fun U hU hW => ⟨rfl, trivial⟩⟩ rfl rfl hl.1 rfl (lv_room (Nat.le_of_ble_eq_true rfl)) dX8_goesThrough_50 ⟨Nat.zero_le _, Nat.zero_le _⟩) hS (fun r u H locs hw hS => ?_)
        obtain ⟨q6, eq6⟩ : ∃ z, z = m_X8_isBetween (ce - ce / 8 * 8) (fr - fr / 8 * 8) (to - to / 8 * 8) := ⟨_, rfl⟩
        rw [← eq6] at hw
        subst hw
        refine lb_if_ne (tgt := 58) hx hb dX8_goesThrough_53 (by decide) (fun c7 => ?_) (fun c7 => ?_)
        · refine lv_iconst (v := 2) hx hb dX8_goesThrough_58 (by decide) ?_
          refine lv_iload_n hx hb dX8_goesThrough_59 rfl (lv_at hl 3 rfl) ?_
          refine lv_bipush (v := 8) hx hb dX8_goesThrough_60 (by decide) ?_
          refine lv_idiv hx hb dX8_goesThrough_62 (by decide) ?_
          refine lv_imul hx hb dX8_goesThrough_63 ?_
          refine lv_istore (lv' := [(4, .int (2 * (ce / 8))), (3, .int (bI v3)), (0, .int fr), (1, .int to), (2, .int ce)]) hx hb dX8_goesThrough_64 hl (by decide) rfl (fun ls hl => ?_)
          refine lv_iconst (v := 2) hx hb dX8_goesThrough_66 (by decide) ?_
          refine lv_iload_n hx hb dX8_goesThrough_67 rfl (lv_at hl 4 rfl) ?_
          refine lv_bipush (v := 8) hx hb dX8_goesThrough_68 (by decide) ?_
          refine lv_irem hx hb dX8_goesThrough_70 (by decide) ?_
          refine lv_imul hx hb dX8_goesThrough_71 ?_
          refine lv_istore (lv' := [(5, .int (2 * (ce - ce / 8 * 8))), (4, .int (2 * (ce / 8))), (3, .int (bI v3)), (0, .int fr), (1, .int to), (2, .int ce)]) hx hb dX8_goesThrough_72 hl (by decide) rfl (fun ls hl => ?_)
          refine lv_iload_n hx hb dX8_goesThrough_74 rfl (lv_at hl 3 rfl) ?_
          refine lv_iload_n hx hb dX8_goesThrough_75 rfl (lv_at hl 4 rfl) ?_
          refine lv_iload hx hb dX8_goesThrough_76 (lv_at hl 1 rfl) ?_
          refine lv_iload hx hb dX8_goesThrough_78 (lv_at hl 0 rfl) ?_
          refine callS_i (va_runS (As := [.int fr, .int to, .int (2 * (ce / 8)), .int (2 * (ce - ce / 8 * 8))]) (rest := []) ⟨hx, hb, hml, hown, hts⟩ (met_X8_side l  fr to (2 * (ce / 8)) (2 * (ce - ce / 8 * 8))) (va_cwS 4 hts gX8_goesThrough_X8_side rfl rfl rfl (by decide +kernel) ⟨Nat.le_of_ble_eq_true rfl, Nat.le_of_ble_eq_true rfl⟩) ⟨preS_blind, fun U hU hW => ⟨rfl, trivial⟩⟩ rfl rfl hl.1 rfl (lv_room (Nat.le_of_ble_eq_true rfl)) dX8_goesThrough_80 ⟨Nat.zero_le _, Nat.zero_le _⟩) hS (fun r u H locs hw hS => ?_)
          obtain ⟨q8, eq8⟩ : ∃ z, z = m_X8_side fr to (2 * (ce / 8)) (2 * (ce - ce / 8 * 8)) := ⟨_, rfl⟩
          rw [← eq8] at hw
          replace hw := hw.symm
          subst hw
          refine lv_istore (lv' := [(6, .int q8), (5, .int (2 * (ce - ce / 8 * 8))), (4, .int (2 * (ce / 8))), (3, .int (bI v3)), (0, .int fr), (1, .int to), (2, .int ce)]) hx hb dX8_goesThrough_83 hl (by decide) rfl (fun ls hl => ?_)
          refine lv_iload_n hx hb dX8_goesThrough_85 rfl (lv_at hl 4 rfl) ?_
          refine lv_iload_n hx hb dX8_goesThrough_86 rfl (lv_at hl 5 rfl) ?_
          refine lv_iload hx hb dX8_goesThrough_87 (lv_at hl 2 rfl) ?_
          refine lv_iconst (v := 2) hx hb dX8_goesThrough_89 (by decide) ?_
          refine lv_iadd hx hb dX8_goesThrough_90 ?_
          refine lv_iload hx hb dX8_goesThrough_91 (lv_at hl 1 rfl) ?_
          refine callS_i (va_runS (As := [.int fr, .int to, .int ((2 * (ce / 8)) + 2), .int (2 * (ce - ce / 8 * 8))]) (rest := []) ⟨hx, hb, hml, hown, hts⟩ (met_X8_side l  fr to ((2 * (ce / 8)) + 2) (2 * (ce - ce / 8 * 8))) (va_cwS 4 hts gX8_goesThrough_X8_side rfl rfl rfl (by decide +kernel) ⟨Nat.le_of_ble_eq_true rfl, Nat.le_of_ble_eq_true rfl⟩) ⟨preS_blind, fun U hU hW => ⟨rfl, trivial⟩⟩ rfl rfl hl.1 rfl (lv_room (Nat.le_of_ble_eq_true rfl)) dX8_goesThrough_93 ⟨Nat.zero_le _, Nat.zero_le _⟩) hS (fun r u H locs hw hS => ?_)
          obtain ⟨q9, eq9⟩ : ∃ z, z = m_X8_side fr to ((2 * (ce / 8)) + 2) (2 * (ce - ce / 8 * 8)) := ⟨_, rfl⟩
          rw [← eq9] at hw
          replace hw := hw.symm
          subst hw
          refine lv_istore (lv' := [(7, .int q9), (6, .int q8), (5, .int (2 * (ce - ce / 8 * 8))), (4, .int (2 * (ce / 8))), (3, .int (bI v3)), (0, .int fr), (1, .int to), (2, .int ce)]) hx hb dX8_goesThrough_96 hl (by decide) rfl (fun ls hl => ?_)
          refine lv_iload_n hx hb dX8_goesThrough_98 rfl (lv_at hl 5 rfl) ?_
          refine lv_iload_n hx hb dX8_goesThrough_99 rfl (lv_at hl 6 rfl) ?_
          refine lv_iload hx hb dX8_goesThrough_100 (lv_at hl 3 rfl) ?_
          refine lv_iload hx hb dX8_goesThrough_102 (lv_at hl 2 rfl) ?_
          refine lv_iconst (v := 2) hx hb dX8_goesThrough_104 (by decide) ?_
          refine lv_iadd hx hb dX8_goesThrough_105 ?_
          refine callS_i (va_runS (As := [.int fr, .int to, .int (2 * (ce / 8)), .int ((2 * (ce - ce / 8 * 8)) + 2)]) (rest := []) ⟨hx, hb, hml, hown, hts⟩ (met_X8_side l  fr to (2 * (ce / 8)) ((2 * (ce - ce / 8 * 8)) + 2)) (va_cwS 4 hts gX8_goesThrough_X8_side rfl rfl rfl (by decide +kernel) ⟨Nat.le_of_ble_eq_true rfl, Nat.le_of_ble_eq_true rfl⟩) ⟨preS_blind, fun U hU hW => ⟨rfl, trivial⟩⟩ rfl rfl hl.1 rfl (lv_room (Nat.le_of_ble_eq_true rfl)) dX8_goesThrough_106 ⟨Nat.zero_le _, Nat.zero_le _⟩) hS (fun r u H locs hw hS => ?_)
          obtain ⟨q10, eq10⟩ : ∃ z, z = m_X8_side fr to (2 * (ce / 8)) ((2 * (ce - ce / 8 * 8)) + 2) := ⟨_, rfl⟩
          rw [← eq10] at hw
          replace hw := hw.symm
          subst hw
          refine lv_istore (lv' := [(8, .int q10), (7, .int q9), (6, .int q8), (5, .int (2 * (ce - ce / 8 * 8))), (4, .int (2 * (ce / 8))), (3, .int (bI v3)), (0, .int fr), (1, .int to), (2, .int ce)]) hx hb dX8_goesThrough_109 hl (by decide) rfl (fun ls hl => ?_)
          refine lv_iload_n hx hb dX8_goesThrough_111 rfl (lv_at hl 6 rfl) ?_
          refine lv_iload_n hx hb dX8_goesThrough_112 rfl (lv_at hl 7 rfl) ?_
          refine lv_iload hx hb dX8_goesThrough_113 (lv_at hl 4 rfl) ?_
          refine lv_iconst (v := 2) hx hb dX8_goesThrough_115 (by decide) ?_
          refine lv_iadd hx hb dX8_goesThrough_116 ?_
          refine lv_iload hx hb dX8_goesThrough_117 (lv_at hl 3 rfl) ?_
          refine lv_iconst (v := 2) hx hb dX8_goesThrough_119 (by decide) ?_
          refine lv_iadd hx hb dX8_goesThrough_120 ?_
          refine callS_i (va_runS (As := [.int fr, .int to, .int ((2 * (ce / 8)) + 2), .int ((2 * (ce - ce / 8 * 8)) + 2)]) (rest := []) ⟨hx, hb, hml, hown, hts⟩ (met_X8_side l  fr to ((2 * (ce / 8)) + 2) ((2 * (ce - ce / 8 * 8)) + 2)) (va_cwS 4 hts gX8_goesThrough_X8_side rfl rfl rfl (by decide +kernel) ⟨Nat.le_of_ble_eq_true rfl, Nat.le_of_ble_eq_true rfl⟩) ⟨preS_blind, fun U hU hW => ⟨rfl, trivial⟩⟩ rfl rfl hl.1 rfl (lv_room (Nat.le_of_ble_eq_true rfl)) dX8_goesThrough_121 ⟨Nat.zero_le _, Nat.zero_le _⟩) hS (fun r u H locs hw hS => ?_)
          obtain ⟨q11, eq11⟩ : ∃ z, z = m_X8_side fr to ((2 * (ce / 8)) + 2) ((2 * (ce - ce / 8 * 8)) + 2) := ⟨_, rfl⟩
          rw [← eq11] at hw
          replace hw := hw.symm
          subst hw
          refine lv_istore (lv' := [(9, .int q11), (8, .int q10), (7, .int q9), (6, .int q8), (5, .int (2 * (ce - ce / 8 * 8))), (4, .int (2 * (ce / 8))), (3, .int (bI v3)), (0, .int fr), (1, .int to), (2, .int ce)]) hx hb dX8_goesThrough_124 hl (by decide) rfl (fun ls hl => ?_)
          refine lv_iload hx hb dX8_goesThrough_126 (lv_at hl 3 rfl) ?_
          refine cutW (X := Bool) 151 (fun x H locs ls => x = (if 0 < q8 then true else (if 0 < q9 then true else (if 0 < q10 then true else (if q11 ≤ 0 then false else true)))) ∧ va_S (fun _ => False) s.heap H locs ∧ lv_has ls 11 [(9, .int q11), (8, .int q10), (7, .int q9), (6, .int q8)]) (fun x => [.int (bI x)]) ?_ (fun K151 => ?_)
          · rintro v16 H locs ls ⟨ev16, hS, hl⟩
            have ev16 : v16 = (if 0 < q8 then true else (if 0 < q9 then true else (if 0 < q10 then true else (if q11 ≤ 0 then false else true)))) := ev16
            have hl : lv_has ls 11 [(9, .int q11), (8, .int q10), (7, .int q9), (6, .int q8)] := hl
            refine lv_istore (lv' := [(10, .int (bI v16)), (9, .int q11), (8, .int q10), (7, .int q9), (6, .int q8)]) hx hb dX8_goesThrough_151 hl (by decide) rfl (fun ls hl => ?_)
            refine lv_iload hx hb dX8_goesThrough_153 (lv_at hl 0 rfl) ?_
            refine lb_if_eq (tgt := 182) hx hb dX8_goesThrough_155 (by decide) (fun c17 => ?_) (fun c17 => ?_)
            · refine lv_iconst (v := 0) hx hb dX8_goesThrough_182 (by decide) ?_
              have em : m_X8_goesThrough fr to ce = false := (by subst ev16 eq11 eq10 eq9 eq8 eq6 ev3; first | (simp only [m_X8_goesThrough, if_neg c4, if_neg c5, if_neg c7, if_pos c17]; done) | (simp only [m_X8_goesThrough, if_neg c4, if_neg c5, if_neg c7, if_pos c17]; rfl))
              exact W.zret (v := 0) hx hb hr rfl (fun t ht hW => ⟨⟨0, (), rfl, (by rw [em]; rfl), trivial⟩, hS.F ht⟩) hS.2.2 dX8_goesThrough_183
            · refine lv_iload hx hb dX8_goesThrough_158 (lv_at hl 4 rfl) ?_
              refine lv_if_lt (tgt := 178) hx hb dX8_goesThrough_160 (by decide) (fun c18 => ?_) (fun c18 => ?_)
              · refine lv_iconst (v := 1) hx hb dX8_goesThrough_178 (by decide) ?_
                refine lv_goto (tgt := 183) hx hb dX8_goesThrough_179 (by decide) ?_
                have em : m_X8_goesThrough fr to ce = true := (by subst ev16 eq11 eq10 eq9 eq8 eq6 ev3; first | (simp only [m_X8_goesThrough, if_neg c4, if_neg c5, if_neg c7, if_neg c17, if_pos c18]; done) | (simp only [m_X8_goesThrough, if_neg c4, if_neg c5, if_neg c7, if_neg c17, if_pos c18]; rfl))
                exact W.zret (v := 1) hx hb hr rfl (fun t ht hW => ⟨⟨1, (), rfl, (by rw [em]; rfl), trivial⟩, hS.F ht⟩) hS.2.2 dX8_goesThrough_183
              · refine lv_iload hx hb dX8_goesThrough_163 (lv_at hl 3 rfl) ?_
                refine lv_if_lt (tgt := 178) hx hb dX8_goesThrough_165 (by decide) (fun c19 => ?_) (fun c19 => ?_)
                · refine lv_iconst (v := 1) hx hb dX8_goesThrough_178 (by decide) ?_
                  refine lv_goto (tgt := 183) hx hb dX8_goesThrough_179 (by decide) ?_
                  have em : m_X8_goesThrough fr to ce = true := (by subst ev16 eq11 eq10 eq9 eq8 eq6 ev3; first | (simp only [m_X8_goesThrough, if_neg c4, if_neg c5, if_neg c7, if_neg c17, if_neg c18, if_pos c19]; done) | (simp only [m_X8_goesThrough, if_neg c4, if_neg c5, if_neg c7, if_neg c17, if_neg c18, if_pos c19]; rfl))
                  exact W.zret (v := 1) hx hb hr rfl (fun t ht hW => ⟨⟨1, (), rfl, (by rw [em]; rfl), trivial⟩, hS.F ht⟩) hS.2.2 dX8_goesThrough_183
                · refine lv_iload hx hb dX8_goesThrough_168 (lv_at hl 2 rfl) ?_
                  refine lv_if_lt (tgt := 178) hx hb dX8_goesThrough_170 (by decide) (fun c20 => ?_) (fun c20 => ?_)
                  · refine lv_iconst (v := 1) hx hb dX8_goesThrough_178 (by decide) ?_
                    refine lv_goto (tgt := 183) hx hb dX8_goesThrough_179 (by decide) ?_
                    have em : m_X8_goesThrough fr to ce = true := (by subst ev16 eq11 eq10 eq9 eq8 eq6 ev3; first | (simp only [m_X8_goesThrough, if_neg c4, if_neg c5, if_neg c7, if_neg c17, if_neg c18, if_neg c19, if_pos c20]; done) | (simp only [m_X8_goesThrough, if_neg c4, if_neg c5, if_neg c7, if_neg c17, if_neg c18, if_neg c19, if_pos c20]; rfl))
                    exact W.zret (v := 1) hx hb hr rfl (fun t ht hW => ⟨⟨1, (), rfl, (by rw [em]; rfl), trivial⟩, hS.F ht⟩) hS.2.2 dX8_goesThrough_183
                  · refine lv_iload hx hb dX8_goesThrough_173 (lv_at hl 1 rfl) ?_
                    refine lv_if_ge (tgt := 182) hx hb dX8_goesThrough_175 (by decide) (fun c21 => ?_) (fun c21 => ?_)
                    · refine lv_iconst (v := 0) hx hb dX8_goesThrough_182 (by decide) ?_
                      have em : m_X8_goesThrough fr to ce = false := (by subst ev16 eq11 eq10 eq9 eq8 eq6 ev3; first | (simp only [m_X8_goesThrough, if_neg c4, if_neg c5, if_neg c7, if_neg c17, if_neg c18, if_neg c19, if_neg c20, if_pos c21]; done) | (simp only [m_X8_goesThrough, if_neg c4, if_neg c5, if_neg c7, if_neg c17, if_neg c18, if_neg c19, if_neg c20, if_pos c21]; rfl))
                      exact W.zret (v := 0) hx hb hr rfl (fun t ht hW => ⟨⟨0, (), rfl, (by rw [em]; rfl), trivial⟩, hS.F ht⟩) hS.2.2 dX8_goesThrough_183
                    · refine lv_iconst (v := 1) hx hb dX8_goesThrough_178 (by decide) ?_
                      refine lv_goto (tgt := 183) hx hb dX8_goesThrough_179 (by decide) ?_
                      have em : m_X8_goesThrough fr to ce = true := (by subst ev16 eq11 eq10 eq9 eq8 eq6 ev3; first | (simp only [m_X8_goesThrough, if_neg c4, if_neg c5, if_neg c7, if_neg c17, if_neg c18, if_neg c19, if_neg c20, if_neg c21]; done) | (simp only [m_X8_goesThrough, if_neg c4, if_neg c5, if_neg c7, if_neg c17, if_neg c18, if_neg c19, if_neg c20, if_neg c21]; rfl))
                      exact W.zret (v := 1) hx hb hr rfl (fun t ht hW => ⟨⟨1, (), rfl, (by rw [em]; rfl), trivial⟩, hS.F ht⟩) hS.2.2 dX8_goesThrough_183
          · refine lv_if_gt (tgt := 146) hx hb dX8_goesThrough_128 (by decide) (fun c12 => ?_) (fun c12 => ?_)
            · refine lv_iconst (v := 1) hx hb dX8_goesThrough_146 (by decide) ?_
              refine lv_goto (tgt := 151) hx hb dX8_goesThrough_147 (by decide) ?_
              exact K151 true H locs ls ⟨(by subst eq11 eq10 eq9 eq8 eq6 ev3; first | (simp only [if_neg c4, if_neg c5, if_neg c7, if_pos c12]; done) | (simp only [if_neg c4, if_neg c5, if_neg c7, if_pos c12]; rfl) | rfl), hS, lv_sub hl [0, 1, 2, 3] rfl⟩
            · refine lv_iload hx hb dX8_goesThrough_131 (lv_at hl 2 rfl) ?_
              refine lv_if_gt (tgt := 146) hx hb dX8_goesThrough_133 (by decide) (fun c13 => ?_) (fun c13 => ?_)
              · refine lv_iconst (v := 1) hx hb dX8_goesThrough_146 (by decide) ?_
                refine lv_goto (tgt := 151) hx hb dX8_goesThrough_147 (by decide) ?_
                exact K151 true H locs ls ⟨(by subst eq11 eq10 eq9 eq8 eq6 ev3; first | (simp only [if_neg c4, if_neg c5, if_neg c7, if_neg c12, if_pos c13]; done) | (simp only [if_neg c4, if_neg c5, if_neg c7, if_neg c12, if_pos c13]; rfl) | rfl), hS, lv_sub hl [0, 1, 2, 3] rfl⟩
              · refine lv_iload hx hb dX8_goesThrough_136 (lv_at hl 1 rfl) ?_
                refine lv_if_gt (tgt := 146) hx hb dX8_goesThrough_138 (by decide) (fun c14 => ?_) (fun c14 => ?_)
                · refine lv_iconst (v := 1) hx hb dX8_goesThrough_146 (by decide) ?_
                  refine lv_goto (tgt := 151) hx hb dX8_goesThrough_147 (by decide) ?_
                  exact K151 true H locs ls ⟨(by subst eq11 eq10 eq9 eq8 eq6 ev3; first | (simp only [if_neg c4, if_neg c5, if_neg c7, if_neg c12, if_neg c13, if_pos c14]; done) | (simp only [if_neg c4, if_neg c5, if_neg c7, if_neg c12, if_neg c13, if_pos c14]; rfl) | rfl), hS, lv_sub hl [0, 1, 2, 3] rfl⟩
                · refine lv_iload hx hb dX8_goesThrough_141 (lv_at hl 0 rfl) ?_
                  refine lv_if_le (tgt := 150) hx hb dX8_goesThrough_143 (by decide) (fun c15 => ?_) (fun c15 => ?_)
                  · refine lv_iconst (v := 0) hx hb dX8_goesThrough_150 (by decide) ?_
                    exact K151 false H locs ls ⟨(by subst eq11 eq10 eq9 eq8 eq6 ev3; first | (simp only [if_neg c4, if_neg c5, if_neg c7, if_neg c12, if_neg c13, if_neg c14, if_pos c15]; done) | (simp only [if_neg c4, if_neg c5, if_neg c7, if_neg c12, if_neg c13, if_neg c14, if_pos c15]; rfl) | rfl), hS, lv_sub hl [0, 1, 2, 3] rfl⟩
                  · refine lv_iconst (v := 1) hx hb dX8_goesThrough_146 (by decide) ?_
                    refine lv_goto (tgt := 151) hx hb dX8_goesThrough_147 (by decide) ?_
                    exact K151 true H locs ls ⟨(by subst eq11 eq10 eq9 eq8 eq6 ev3; first | (simp only [if_neg c4, if_neg c5, if_neg c7, if_neg c12, if_neg c13, if_neg c14, if_neg c15]; done) | (simp only [if_neg c4, if_neg c5, if_neg c7, if_neg c12, if_neg c13, if_neg c14, if_neg c15]; rfl) | rfl), hS, lv_sub hl [0, 1, 2, 3] rfl⟩
        · refine lv_iconst (v := 0) hx hb dX8_goesThrough_56 (by decide) ?_
          have em : m_X8_goesThrough fr to ce = false := (by subst eq6 ev3; first | (simp only [m_X8_goesThrough, if_neg c4, if_neg c5, if_pos c7]; done) | (simp only [m_X8_goesThrough, if_neg c4, if_neg c5, if_pos c7]; rfl))
          exact W.zret (v := 0) hx hb hr rfl (fun t ht hW => ⟨⟨0, (), rfl, (by rw [em]; rfl), trivial⟩, hS.F ht⟩) hS.2.2 dX8_goesThrough_57
  · refine lv_icmp_eq (tgt := 14) hx hb dX8_goesThrough_2 (by decide) (fun c1 => ?_) (fun c1 => ?_)
    · refine lv_iconst (v := 0) hx hb dX8_goesThrough_14 (by decide) ?_
      exact K15 false H locs ls ⟨(by first | (simp only [if_pos c1]; done) | (simp only [if_pos c1]; rfl) | rfl), hS, lv_sub hl [0, 1, 2] rfl⟩
    · refine lv_iload_n hx hb dX8_goesThrough_5 rfl (lv_at hl 2 rfl) ?_
      refine lv_iload_n hx hb dX8_goesThrough_6 rfl (lv_at hl 1 rfl) ?_
      refine lv_icmp_eq (tgt := 14) hx hb dX8_goesThrough_7 (by decide) (fun c2 => ?_) (fun c2 => ?_)
      · refine lv_iconst (v := 0) hx hb dX8_goesThrough_14 (by decide) ?_
        exact K15 false H locs ls ⟨(by first | (simp only [if_neg c1, if_pos c2]; done) | (simp only [if_neg c1, if_pos c2]; rfl) | rfl), hS, lv_sub hl [0, 1, 2] rfl⟩
      · refine lv_iconst (v := 1) hx hb dX8_goesThrough_10 (by decide) ?_
        refine lv_goto (tgt := 15) hx hb dX8_goesThrough_11 (by decide) ?_
        exact K15 true H locs ls ⟨(by first | (simp only [if_neg c1, if_neg c2]; done) | (simp only [if_neg c1, if_neg c2]; rfl) | rfl), hS, lv_sub hl [0, 1, 2] rfl⟩
def m_X8_isLamp (RO : Nat → Int32) (j : Int32) : Bool := (m_X8_in j 0 ((RO 128) - 1))
set_option maxHeartbeats 4000000 in
set_option maxRecDepth 100000 in
theorem met_X8_isLamp (l : Launch) (D : va_G) (y4 : vT) (aM aRo aHi aSn aAs aLg aPd aCo aEa : Nat) (sz : Nat) (ms : Int32) (sv : Bool) (ml : Int32) (RO : Nat → Int32) (j : Int32) : Met l yX8_isLamp wsX8_isLamp ({ frames := 1, cells := 0, slots := 0, locals := 22 }) (va_Pc [.ref aM, .int j] (PreW D y4 [(aM, .inr (7, [.ref aRo, .ref aHi, .int ms, .ref aSn, .int (bI sv), .ref aAs, .ref aLg, .ref aPd, .int ml, .ref aCo, .ref aEa])), (aRo, .inl (y4.1, 151, .inl RO))] sz)) (va_Qi (fun (r : Int32) (_ : Unit) => r = bI (m_X8_isLamp RO j)) (fun _ t => PostW D (va_A [(aM, .inr (7, [.ref aRo, .ref aHi, .int ms, .ref aSn, .int (bI sv), .ref aAs, .ref aLg, .ref aPd, .int ml, .ref aCo, .ref aEa])), (aRo, .inl (y4.1, 151, .inl RO))] sz) [(aM, .inr (7, [.ref aRo, .ref aHi, .int ms, .ref aSn, .int (bI sv), .ref aAs, .ref aLg, .ref aPd, .int ml, .ref aCo, .ref aEa])), (aRo, .inl (y4.1, 151, .inl RO))] t) (va_A [(aM, .inr (7, [.ref aRo, .ref aHi, .int ms, .ref aSn, .int (bI sv), .ref aAs, .ref aLg, .ref aPd, .int ml, .ref aCo, .ref aEa])), (aRo, .inl (y4.1, 151, .inl RO))] sz)) 0 0 (va_A [(aM, .inr (7, [.ref aRo, .ref aHi, .int ms, .ref aSn, .int (bI sv), .ref aAs, .ref aLg, .ref aPd, .int ml, .ref aCo, .ref aEa])), (aRo, .inl (y4.1, 151, .inl RO))] sz) := by
  refine Met.ofW (cc := cX8_isLamp) (maxL := 2) (ret := (some .boolean)) (by decide) rfl ?_
  intro p e s m args below meth c s₁ B hml hv
  obtain ⟨rfl, hsz, hP, hK, hD0, hNW⟩ := hv
  have hx := B.exec
  have hb := B.bytes
  have hr := B.returns
  have hts := atoms_spec (ws := wsX8_isLamp) B.pre
  have hown : s.vm.findClass RX8 = some m.cls := findClass_of_methodNamed B.named
  have hlocks := B.notSynchronized
  subst hsz
  have hD := hD0.self (sz := s.heap.size)
  generalize hAe : va_A [(aM, .inr (7, [.ref aRo, .ref aHi, .int ms, .ref aSn, .int (bI sv), .ref aAs, .ref aLg, .ref aPd, .int ml, .ref aCo, .ref aEa])), (aRo, .inl (y4.1, 151, .inl RO))] s.heap.size = A at hD ⊢
  have hA : ∀ q : Nat, s.heap.size ≤ q → A q := fun q h => by rw [← hAe]; exact Or.inr h
  have hS : va_S A s.heap s.heap [] := va_S.rf
  have hl := lv_entry ([.ref aM, .int j]) (n := 2) (Nat.le_of_ble_eq_true rfl)
  rw [lg_entry_eq]
  generalize (lg_sl ([.ref aM, .int j]) ++ List.replicate (2 - (lg_sl ([.ref aM, .int j])).length) Slot.unset).toArray = ls at hl ⊢
  have hl : lv_has ls 2 [(0, .ref aM), (1, .int j)] := hl
  have f7 := hts (.fieldLink RX8 7 "PillarLightModel" "row" "[I") (List.mem_of_getElem? (i := 1) rfl)
  have iX8 : ∀ w ∈ wsX80, w ∈ wsX8_isLamp := fun _ h => List.mem_cons_of_mem _ (List.mem_append_right _ h)
  refine startW (fun H locs hP hS => ?_) hP hS
  refine lv_iload_n hx hb dX8_isLamp_0 rfl (lv_at hl 1 rfl) ?_
  refine lv_iconst (v := 0) hx hb dX8_isLamp_1 (by decide) ?_
  refine lv_aload_n hx hb dX8_isLamp_2 rfl (lv_at hl 0 rfl) ?_
  refine va_get (ci := 7) (v := .ref aRo) (C := RX8) (T := TX8) (N := 11) hx hb hts iX8 hown hK hP 0 rfl rfl 0 (by decide) f7 (fun _ h9 => h9) rfl dX8_isLamp_3 ?_
  refine lv_sipush (v := 128) hx hb dX8_isLamp_6 (by decide) ?_
  refine va_iald hx hb hK hP 1 0 rfl rfl (vp_in_nI (n := 128) (by decide) (by decide)) dX8_isLamp_9 ?_
  refine W.ofeqi (y := RO 128) (congrArg RO (by decide : (128 : Int32).toNatClampNeg = 128)) ?_
  refine lv_iconst (v := 1) hx hb dX8_isLamp_10 (by decide) ?_
  refine lv_isub hx hb dX8_isLamp_11 ?_
  refine callK_i (va_runS (As := [.int j, .int 0, .int ((RO 128) - 1)]) (rest := []) ⟨hx, hb, hml, hown, hts⟩ (met_X8_in l  j 0 ((RO 128) - 1)) (va_cwS 3 hts gX8_isLamp_X8_in rfl rfl rfl (by decide +kernel) ⟨Nat.le_of_ble_eq_true rfl, Nat.le_of_ble_eq_true rfl⟩) ⟨preS_blind, fun U hU hW => ⟨rfl, trivial⟩⟩ rfl rfl hl.1 rfl (lv_room (Nat.le_of_ble_eq_true rfl)) dX8_isLamp_12 ⟨Nat.zero_le _, Nat.zero_le _⟩) hP hS (fun r u H locs hw hP hS => ?_)
  subst hw
  have em : m_X8_isLamp RO j = (m_X8_in j 0 ((RO 128) - 1)) := (by first | (simp only [m_X8_isLamp]; done) | (unfold m_X8_isLamp; rfl) | rfl)
  exact W.zret (v := bI (m_X8_in j 0 ((RO 128) - 1))) hx hb hr (bI_nar _) (fun t ht hW => ⟨⟨bI (m_X8_in j 0 ((RO 128) - 1)), (), rfl, (by rw [em]), ⟨by rw [ht]; exact hP, by exact hD⟩⟩, hS.F ht⟩) hS.2.2 dX8_isLamp_15
def m_X8_isDarkAt (RO : Nat → Int32) (li : Int32) (co : Int32) : Bool := (let q1 : Bool := m_X8_isDark (RO ((0 + (8 * li)) + co).toNatClampNeg); q1)
set_option maxHeartbeats 4000000 in
set_option maxRecDepth 100000 in
theorem met_X8_isDarkAt (l : Launch) (D : va_G) (y4 : vT) (aM aRo aHi aSn aAs aLg aPd aCo aEa : Nat) (sz : Nat) (ms : Int32) (sv : Bool) (ml : Int32) (RO : Nat → Int32) (li : Int32) (co : Int32) (hix : vp_in ((0 + (8 * li)) + co) 151) : Met l yX8_isDarkAt wsX8_isDarkAt ({ frames := 1, cells := 0, slots := 0, locals := 20 }) (va_Pc [.ref aM, .int li, .int co] (PreW D y4 [(aM, .inr (7, [.ref aRo, .ref aHi, .int ms, .ref aSn, .int (bI sv), .ref aAs, .ref aLg, .ref aPd, .int ml, .ref aCo, .ref aEa])), (aRo, .inl (y4.1, 151, .inl RO))] sz)) (va_Qi (fun (r : Int32) (_ : Unit) => r = bI (m_X8_isDarkAt RO li co)) (fun _ t => PostW D (va_A [(aM, .inr (7, [.ref aRo, .ref aHi, .int ms, .ref aSn, .int (bI sv), .ref aAs, .ref aLg, .ref aPd, .int ml, .ref aCo, .ref aEa])), (aRo, .inl (y4.1, 151, .inl RO))] sz) [(aM, .inr (7, [.ref aRo, .ref aHi, .int ms, .ref aSn, .int (bI sv), .ref aAs, .ref aLg, .ref aPd, .int ml, .ref aCo, .ref aEa])), (aRo, .inl (y4.1, 151, .inl RO))] t) (va_A [(aM, .inr (7, [.ref aRo, .ref aHi, .int ms, .ref aSn, .int (bI sv), .ref aAs, .ref aLg, .ref aPd, .int ml, .ref aCo, .ref aEa])), (aRo, .inl (y4.1, 151, .inl RO))] sz)) 0 0 (va_A [(aM, .inr (7, [.ref aRo, .ref aHi, .int ms, .ref aSn, .int (bI sv), .ref aAs, .ref aLg, .ref aPd, .int ml, .ref aCo, .ref aEa])), (aRo, .inl (y4.1, 151, .inl RO))] sz) := by
  refine Met.ofW (cc := cX8_isDarkAt) (maxL := 3) (ret := (some .boolean)) (by decide) rfl ?_
  intro p e s m args below meth c s₁ B hml hv
  obtain ⟨rfl, hsz, hP, hK, hD0, hNW⟩ := hv
  have hx := B.exec
  have hb := B.bytes
  have hr := B.returns
  have hts := atoms_spec (ws := wsX8_isDarkAt) B.pre
  have hown : s.vm.findClass RX8 = some m.cls := findClass_of_methodNamed B.named
  have hlocks := B.notSynchronized
  subst hsz
  have hD := hD0.self (sz := s.heap.size)
  generalize hAe : va_A [(aM, .inr (7, [.ref aRo, .ref aHi, .int ms, .ref aSn, .int (bI sv), .ref aAs, .ref aLg, .ref aPd, .int ml, .ref aCo, .ref aEa])), (aRo, .inl (y4.1, 151, .inl RO))] s.heap.size = A at hD ⊢
  have hA : ∀ q : Nat, s.heap.size ≤ q → A q := fun q h => by rw [← hAe]; exact Or.inr h
  have hS : va_S A s.heap s.heap [] := va_S.rf
  have hl := lv_entry ([.ref aM, .int li, .int co]) (n := 3) (Nat.le_of_ble_eq_true rfl)
  rw [lg_entry_eq]
  generalize (lg_sl ([.ref aM, .int li, .int co]) ++ List.replicate (3 - (lg_sl ([.ref aM, .int li, .int co])).length) Slot.unset).toArray = ls at hl ⊢
  have hl : lv_has ls 3 [(0, .ref aM), (1, .int li), (2, .int co)] := hl
  have f7 := hts (.fieldLink RX8 7 "PillarLightModel" "row" "[I") (List.mem_of_getElem? (i := 1) rfl)
  have iX8 : ∀ w ∈ wsX80, w ∈ wsX8_isDarkAt := fun _ h => List.mem_cons_of_mem _ (List.mem_append_right _ h)
  refine startW (fun H locs hP hS => ?_) hP hS
  refine lv_aload_n hx hb dX8_isDarkAt_0 rfl (lv_at hl 0 rfl) ?_
  refine va_get (ci := 7) (v := .ref aRo) (C := RX8) (T := TX8) (N := 11) hx hb hts iX8 hown hK hP 0 rfl rfl 0 (by decide) f7 (fun _ h9 => h9) rfl dX8_isDarkAt_1 ?_
  refine lv_iconst (v := 0) hx hb dX8_isDarkAt_4 (by decide) ?_
  refine lv_bipush (v := 8) hx hb dX8_isDarkAt_5 (by decide) ?_
  refine lv_iload_n hx hb dX8_isDarkAt_7 rfl (lv_at hl 1 rfl) ?_
  refine lv_imul hx hb dX8_isDarkAt_8 ?_
  refine lv_iadd hx hb dX8_isDarkAt_9 ?_
  refine lv_iload_n hx hb dX8_isDarkAt_10 rfl (lv_at hl 2 rfl) ?_
  refine lv_iadd hx hb dX8_isDarkAt_11 ?_
  refine va_iald hx hb hK hP 1 0 rfl rfl hix dX8_isDarkAt_12 ?_
  refine callK_i (va_runS (As := [.int (RO ((0 + (8 * li)) + co).toNatClampNeg)]) (rest := []) ⟨hx, hb, hml, hown, hts⟩ (met_X8_isDark l  (RO ((0 + (8 * li)) + co).toNatClampNeg)) (va_cwS 1 hts gX8_isDarkAt_X8_isDark rfl rfl rfl (by decide +kernel) ⟨Nat.le_of_ble_eq_true rfl, Nat.le_of_ble_eq_true rfl⟩) ⟨preS_blind, fun U hU hW => ⟨rfl, trivial⟩⟩ rfl rfl hl.1 rfl (lv_room (Nat.le_of_ble_eq_true rfl)) dX8_isDarkAt_13 ⟨Nat.zero_le _, Nat.zero_le _⟩) hP hS (fun r u H locs hw hP hS => ?_)
  obtain ⟨q1, eq1⟩ : ∃ z, z = m_X8_isDark (RO ((0 + (8 * li)) + co).toNatClampNeg) := ⟨_, rfl⟩
  rw [← eq1] at hw
  subst hw
  have em : m_X8_isDarkAt RO li co = q1 := (by subst eq1; first | (simp only [m_X8_isDarkAt]; done) | (unfold m_X8_isDarkAt; rfl) | rfl)
  exact W.zret (v := bI q1) hx hb hr (bI_nar _) (fun t ht hW => ⟨⟨bI q1, (), rfl, (by rw [em]), ⟨by rw [ht]; exact hP, by exact hD⟩⟩, hS.F ht⟩) hS.2.2 dX8_isDarkAt_16
def sqP (fr to li co : Int32) : Prop := ((¬ m_X8_in li ((m_X8_least (fr / 8) (to / 8)) + 1) (m_X8_most (fr / 8) (to / 8)) = false) ∧ (¬ m_X8_in co ((m_X8_least (fr - fr / 8 * 8) (to - to / 8 * 8)) + 1) (m_X8_most (fr - fr / 8 * 8) (to - to / 8 * 8)) = false))
def okB (x y : Int32) : Bool := decide (0 ≤ ((0 + (8 * x)) + y).toInt) && decide (((0 + (8 * x)) + y).toInt < 151)
theorem sq_small : ∀ l : Nat, l < 7 → ∀ c : Nat, c < 7 → okB (nI (l + 1) - 1) (nI (c + 1)) = true ∧ okB (nI (l + 1)) (nI (c + 1) - 1) = true ∧ okB (nI (l + 1) - 1) (nI (c + 1) - 1) = true ∧ okB (nI (l + 1)) (nI (c + 1)) = true := by decide +kernel
theorem okB_in {x y : Int32} (h : okB x y = true) : vp_in ((0 + (8 * x)) + y) 151 := by
  rw [vp_in_iff]
  unfold okB at h
  rw [Bool.and_eq_true, decide_eq_true_eq, decide_eq_true_eq] at h
  exact h
theorem sq_low : ∀ a : Nat, a < 64 → ∀ b : Nat, b < 64 → 1 ≤ ((m_X8_least (nI a / 8) (nI b / 8)) + 1).toInt ∧ 1 ≤ ((m_X8_least (nI a - nI a / 8 * 8) (nI b - nI b / 8 * 8)) + 1).toInt := by decide +kernel
theorem in_low {x b z : Int32} (h : ¬ m_X8_in x b z = false) (hb : 1 ≤ b.toInt) : 1 ≤ x.toInt := by
  unfold m_X8_in at h
  by_cases h1 : x < b
  · simp [h1] at h
  · rw [Int32.lt_iff_toInt_lt] at h1; omega
theorem sq_in {fr to li co : Int32} (hf : vp_in fr 64) (ht : vp_in to 64) (hl : vp_in li 8) (hc : vp_in co 8) (h : sqP fr to li co) : vp_in ((0 + (8 * (li - 1))) + co) 151 ∧ vp_in ((0 + (8 * li)) + (co - 1)) 151 ∧ vp_in ((0 + (8 * (li - 1))) + (co - 1)) 151 ∧ vp_in ((0 + (8 * li)) + co) 151 := by
  obtain ⟨i, hi, rfl⟩ := vp_in_of hf (by decide)
  obtain ⟨j, hj, rfl⟩ := vp_in_of ht (by decide)
  obtain ⟨a, ha, rfl⟩ := vp_in_of hl (by decide)
  obtain ⟨b, hb, rfl⟩ := vp_in_of hc (by decide)
  have h0 := sq_low i hi j hj
  have h1 := in_low h.1 h0.1
  have h2 := in_low h.2 h0.2
  rw [nI_toInt (by omega)] at h1 h2
  obtain ⟨a, rfl⟩ : ∃ z, a = z + 1 := ⟨a - 1, by omega⟩
  obtain ⟨b, rfl⟩ : ∃ z, b = z + 1 := ⟨b - 1, by omega⟩
  have h3 := sq_small a (by omega) b (by omega)
  exact ⟨okB_in h3.1, okB_in h3.2.1, okB_in h3.2.2.1, okB_in h3.2.2.2⟩
theorem rc_cells : ∀ k : Nat, k < 64 → (0 ≤ (nI k / 8).toInt ∧ (nI k / 8).toInt < (8 : Nat)) ∧ (0 ≤ (nI k - nI k / 8 * 8).toInt ∧ (nI k - nI k / 8 * 8).toInt < (8 : Nat)) := by decide +kernel
theorem r_in {k : Nat} (h : k < 64) : vp_in (nI k / 8) 8 := vp_in_iff.mpr (rc_cells k h).1
theorem c_in {k : Nat} (h : k < 64) : vp_in (nI k - nI k / 8 * 8) 8 := vp_in_iff.mpr (rc_cells k h).2

