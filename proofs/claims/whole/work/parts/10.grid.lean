def m_X0_isCell (a : Int32) : Bool := (if a < 0 then false else (if 64 ≤ a then false else true))
set_option maxHeartbeats 4000000 in
set_option maxRecDepth 100000 in
theorem met_X0_isCell (l : Launch) (a : Int32) : Met l yX0_isCell wsX0_isCell ({ frames := 0, cells := 0, slots := 0, locals := 0 }) (va_Pc [.int a] (fun _ => True)) (va_Qi (fun (r : Int32) (_ : Unit) => r = bI (m_X0_isCell a)) (fun _ _ => True) (fun _ => False)) 0 0 (fun _ => False) := by
  refine Met.ofW (cc := cX0_isCell) (maxL := 1) (ret := (some .boolean)) (by decide) rfl ?_
  intro p e s m args below meth c s₁ B hml hv
  obtain ⟨rfl, -⟩ := hv
  have hx := B.exec
  have hb := B.bytes
  have hr := B.returns
  have hts := atoms_spec (ws := wsX0_isCell) B.pre
  have hown : s.vm.findClass RX0 = some m.cls := findClass_of_methodNamed B.named
  have hlocks := B.notSynchronized
  have hS : va_S (fun _ => False) s.heap s.heap [] := va_S.rf
  have hl := lv_entry ([.int a]) (n := 1) (Nat.le_of_ble_eq_true rfl)
  rw [lg_entry_eq]
  generalize (lg_sl ([.int a]) ++ List.replicate (1 - (lg_sl ([.int a])).length) Slot.unset).toArray = ls at hl ⊢
  have hl : lv_has ls 1 [(0, .int a)] := hl
  refine startS (fun H locs hS => ?_) hS
  refine lv_iload_n hx hb dX0_isCell_0 rfl (lv_at hl 0 rfl) ?_
  refine lv_if_lt (tgt := 14) hx hb dX0_isCell_1 (by decide) (fun c1 => ?_) (fun c1 => ?_)
  · refine lv_iconst (v := 0) hx hb dX0_isCell_14 (by decide) ?_
    have em : m_X0_isCell a = false := (by first | (simp only [m_X0_isCell, if_pos c1]; done) | (simp only [m_X0_isCell, if_pos c1]; rfl))
    exact W.zret (v := 0) hx hb hr rfl (fun t ht hW => ⟨⟨0, (), rfl, (by rw [em]; rfl), trivial⟩, hS.F ht⟩) hS.2.2 dX0_isCell_15
  · refine lv_iload_n hx hb dX0_isCell_4 rfl (lv_at hl 0 rfl) ?_
    refine lv_bipush (v := 64) hx hb dX0_isCell_5 (by decide) ?_
    refine lv_icmp_ge (tgt := 14) hx hb dX0_isCell_7 (by decide) (fun c2 => ?_) (fun c2 => ?_)
    · refine lv_iconst (v := 0) hx hb dX0_isCell_14 (by decide) ?_
      have em : m_X0_isCell a = false := (by first | (simp only [m_X0_isCell, if_neg c1, if_pos c2]; done) | (simp only [m_X0_isCell, if_neg c1, if_pos c2]; rfl))
      exact W.zret (v := 0) hx hb hr rfl (fun t ht hW => ⟨⟨0, (), rfl, (by rw [em]; rfl), trivial⟩, hS.F ht⟩) hS.2.2 dX0_isCell_15
    · refine lv_iconst (v := 1) hx hb dX0_isCell_10 (by decide) ?_
      refine lv_goto (tgt := 15) hx hb dX0_isCell_11 (by decide) ?_
      have em : m_X0_isCell a = true := (by first | (simp only [m_X0_isCell, if_neg c1, if_neg c2]; done) | (simp only [m_X0_isCell, if_neg c1, if_neg c2]; rfl))
      exact W.zret (v := 1) hx hb hr rfl (fun t ht hW => ⟨⟨1, (), rfl, (by rw [em]; rfl), trivial⟩, hS.F ht⟩) hS.2.2 dX0_isCell_15
def m_X0_isKind (a : Int32) : Bool := (if a < 0 then false else (if 3 < a then false else true))
set_option maxHeartbeats 4000000 in
set_option maxRecDepth 100000 in
theorem met_X0_isKind (l : Launch) (a : Int32) : Met l yX0_isKind wsX0_isKind ({ frames := 0, cells := 0, slots := 0, locals := 0 }) (va_Pc [.int a] (fun _ => True)) (va_Qi (fun (r : Int32) (_ : Unit) => r = bI (m_X0_isKind a)) (fun _ _ => True) (fun _ => False)) 0 0 (fun _ => False) := by
  refine Met.ofW (cc := cX0_isKind) (maxL := 1) (ret := (some .boolean)) (by decide) rfl ?_
  intro p e s m args below meth c s₁ B hml hv
  obtain ⟨rfl, -⟩ := hv
  have hx := B.exec
  have hb := B.bytes
  have hr := B.returns
  have hts := atoms_spec (ws := wsX0_isKind) B.pre
  have hown : s.vm.findClass RX0 = some m.cls := findClass_of_methodNamed B.named
  have hlocks := B.notSynchronized
  have hS : va_S (fun _ => False) s.heap s.heap [] := va_S.rf
  have hl := lv_entry ([.int a]) (n := 1) (Nat.le_of_ble_eq_true rfl)
  rw [lg_entry_eq]
  generalize (lg_sl ([.int a]) ++ List.replicate (1 - (lg_sl ([.int a])).length) Slot.unset).toArray = ls at hl ⊢
  have hl : lv_has ls 1 [(0, .int a)] := hl
  refine startS (fun H locs hS => ?_) hS
  refine lv_iload_n hx hb dX0_isKind_0 rfl (lv_at hl 0 rfl) ?_
  refine lv_if_lt (tgt := 13) hx hb dX0_isKind_1 (by decide) (fun c1 => ?_) (fun c1 => ?_)
  · refine lv_iconst (v := 0) hx hb dX0_isKind_13 (by decide) ?_
    have em : m_X0_isKind a = false := (by first | (simp only [m_X0_isKind, if_pos c1]; done) | (simp only [m_X0_isKind, if_pos c1]; rfl))
    exact W.zret (v := 0) hx hb hr rfl (fun t ht hW => ⟨⟨0, (), rfl, (by rw [em]; rfl), trivial⟩, hS.F ht⟩) hS.2.2 dX0_isKind_14
  · refine lv_iload_n hx hb dX0_isKind_4 rfl (lv_at hl 0 rfl) ?_
    refine lv_iconst (v := 3) hx hb dX0_isKind_5 (by decide) ?_
    refine lv_icmp_gt (tgt := 13) hx hb dX0_isKind_6 (by decide) (fun c2 => ?_) (fun c2 => ?_)
    · refine lv_iconst (v := 0) hx hb dX0_isKind_13 (by decide) ?_
      have em : m_X0_isKind a = false := (by first | (simp only [m_X0_isKind, if_neg c1, if_pos c2]; done) | (simp only [m_X0_isKind, if_neg c1, if_pos c2]; rfl))
      exact W.zret (v := 0) hx hb hr rfl (fun t ht hW => ⟨⟨0, (), rfl, (by rw [em]; rfl), trivial⟩, hS.F ht⟩) hS.2.2 dX0_isKind_14
    · refine lv_iconst (v := 1) hx hb dX0_isKind_9 (by decide) ?_
      refine lv_goto (tgt := 14) hx hb dX0_isKind_10 (by decide) ?_
      have em : m_X0_isKind a = true := (by first | (simp only [m_X0_isKind, if_neg c1, if_neg c2]; done) | (simp only [m_X0_isKind, if_neg c1, if_neg c2]; rfl))
      exact W.zret (v := 1) hx hb hr rfl (fun t ht hW => ⟨⟨1, (), rfl, (by rw [em]; rfl), trivial⟩, hS.F ht⟩) hS.2.2 dX0_isKind_14
def m_X0_stopsLight (a : Int32) : Bool := (if a = 1 then true else (if a = 3 then true else false))
set_option maxHeartbeats 4000000 in
set_option maxRecDepth 100000 in
theorem met_X0_stopsLight (l : Launch) (a : Int32) : Met l yX0_stopsLight wsX0_stopsLight ({ frames := 0, cells := 0, slots := 0, locals := 0 }) (va_Pc [.int a] (fun _ => True)) (va_Qi (fun (r : Int32) (_ : Unit) => r = bI (m_X0_stopsLight a)) (fun _ _ => True) (fun _ => False)) 0 0 (fun _ => False) := by
  refine Met.ofW (cc := cX0_stopsLight) (maxL := 1) (ret := (some .boolean)) (by decide) rfl ?_
  intro p e s m args below meth c s₁ B hml hv
  obtain ⟨rfl, -⟩ := hv
  have hx := B.exec
  have hb := B.bytes
  have hr := B.returns
  have hts := atoms_spec (ws := wsX0_stopsLight) B.pre
  have hown : s.vm.findClass RX0 = some m.cls := findClass_of_methodNamed B.named
  have hlocks := B.notSynchronized
  have hS : va_S (fun _ => False) s.heap s.heap [] := va_S.rf
  have hl := lv_entry ([.int a]) (n := 1) (Nat.le_of_ble_eq_true rfl)
  rw [lg_entry_eq]
  generalize (lg_sl ([.int a]) ++ List.replicate (1 - (lg_sl ([.int a])).length) Slot.unset).toArray = ls at hl ⊢
  have hl : lv_has ls 1 [(0, .int a)] := hl
  refine startS (fun H locs hS => ?_) hS
  refine lv_iload_n hx hb dX0_stopsLight_0 rfl (lv_at hl 0 rfl) ?_
  refine lv_iconst (v := 1) hx hb dX0_stopsLight_1 (by decide) ?_
  refine lv_icmp_eq (tgt := 10) hx hb dX0_stopsLight_2 (by decide) (fun c1 => ?_) (fun c1 => ?_)
  · refine lv_iconst (v := 1) hx hb dX0_stopsLight_10 (by decide) ?_
    refine lv_goto (tgt := 15) hx hb dX0_stopsLight_11 (by decide) ?_
    have em : m_X0_stopsLight a = true := (by first | (simp only [m_X0_stopsLight, if_pos c1]; done) | (simp only [m_X0_stopsLight, if_pos c1]; rfl))
    exact W.zret (v := 1) hx hb hr rfl (fun t ht hW => ⟨⟨1, (), rfl, (by rw [em]; rfl), trivial⟩, hS.F ht⟩) hS.2.2 dX0_stopsLight_15
  · refine lv_iload_n hx hb dX0_stopsLight_5 rfl (lv_at hl 0 rfl) ?_
    refine lv_iconst (v := 3) hx hb dX0_stopsLight_6 (by decide) ?_
    refine lv_icmp_ne (tgt := 14) hx hb dX0_stopsLight_7 (by decide) (fun c2 => ?_) (fun c2 => ?_)
    · refine lv_iconst (v := 0) hx hb dX0_stopsLight_14 (by decide) ?_
      have em : m_X0_stopsLight a = false := (by first | (simp only [m_X0_stopsLight, if_neg c1, if_neg c2]; done) | (simp only [m_X0_stopsLight, if_neg c1, if_neg c2]; rfl))
      exact W.zret (v := 0) hx hb hr rfl (fun t ht hW => ⟨⟨0, (), rfl, (by rw [em]; rfl), trivial⟩, hS.F ht⟩) hS.2.2 dX0_stopsLight_15
    · refine lv_iconst (v := 1) hx hb dX0_stopsLight_10 (by decide) ?_
      refine lv_goto (tgt := 15) hx hb dX0_stopsLight_11 (by decide) ?_
      have em : m_X0_stopsLight a = true := (by first | (simp only [m_X0_stopsLight, if_neg c1, if_pos c2]; done) | (simp only [m_X0_stopsLight, if_neg c1, if_pos c2]; rfl))
      exact W.zret (v := 1) hx hb hr rfl (fun t ht hW => ⟨⟨1, (), rfl, (by rw [em]; rfl), trivial⟩, hS.F ht⟩) hS.2.2 dX0_stopsLight_15
def m_X0_stopsFeet (a : Int32) : Bool := (if a = 1 then true else (if a = 2 then true else false))
set_option maxHeartbeats 4000000 in
set_option maxRecDepth 100000 in
theorem met_X0_stopsFeet (l : Launch) (a : Int32) : Met l yX0_stopsFeet wsX0_stopsFeet ({ frames := 0, cells := 0, slots := 0, locals := 0 }) (va_Pc [.int a] (fun _ => True)) (va_Qi (fun (r : Int32) (_ : Unit) => r = bI (m_X0_stopsFeet a)) (fun _ _ => True) (fun _ => False)) 0 0 (fun _ => False) := by
  refine Met.ofW (cc := cX0_stopsFeet) (maxL := 1) (ret := (some .boolean)) (by decide) rfl ?_
  intro p e s m args below meth c s₁ B hml hv
  obtain ⟨rfl, -⟩ := hv
  have hx := B.exec
  have hb := B.bytes
  have hr := B.returns
  have hts := atoms_spec (ws := wsX0_stopsFeet) B.pre
  have hown : s.vm.findClass RX0 = some m.cls := findClass_of_methodNamed B.named
  have hlocks := B.notSynchronized
  have hS : va_S (fun _ => False) s.heap s.heap [] := va_S.rf
  have hl := lv_entry ([.int a]) (n := 1) (Nat.le_of_ble_eq_true rfl)
  rw [lg_entry_eq]
  generalize (lg_sl ([.int a]) ++ List.replicate (1 - (lg_sl ([.int a])).length) Slot.unset).toArray = ls at hl ⊢
  have hl : lv_has ls 1 [(0, .int a)] := hl
  refine startS (fun H locs hS => ?_) hS
  refine lv_iload_n hx hb dX0_stopsFeet_0 rfl (lv_at hl 0 rfl) ?_
  refine lv_iconst (v := 1) hx hb dX0_stopsFeet_1 (by decide) ?_
  refine lv_icmp_eq (tgt := 10) hx hb dX0_stopsFeet_2 (by decide) (fun c1 => ?_) (fun c1 => ?_)
  · refine lv_iconst (v := 1) hx hb dX0_stopsFeet_10 (by decide) ?_
    refine lv_goto (tgt := 15) hx hb dX0_stopsFeet_11 (by decide) ?_
    have em : m_X0_stopsFeet a = true := (by first | (simp only [m_X0_stopsFeet, if_pos c1]; done) | (simp only [m_X0_stopsFeet, if_pos c1]; rfl))
    exact W.zret (v := 1) hx hb hr rfl (fun t ht hW => ⟨⟨1, (), rfl, (by rw [em]; rfl), trivial⟩, hS.F ht⟩) hS.2.2 dX0_stopsFeet_15
  · refine lv_iload_n hx hb dX0_stopsFeet_5 rfl (lv_at hl 0 rfl) ?_
    refine lv_iconst (v := 2) hx hb dX0_stopsFeet_6 (by decide) ?_
    refine lv_icmp_ne (tgt := 14) hx hb dX0_stopsFeet_7 (by decide) (fun c2 => ?_) (fun c2 => ?_)
    · refine lv_iconst (v := 0) hx hb dX0_stopsFeet_14 (by decide) ?_
      have em : m_X0_stopsFeet a = false := (by first | (simp only [m_X0_stopsFeet, if_neg c1, if_neg c2]; done) | (simp only [m_X0_stopsFeet, if_neg c1, if_neg c2]; rfl))
      exact W.zret (v := 0) hx hb hr rfl (fun t ht hW => ⟨⟨0, (), rfl, (by rw [em]; rfl), trivial⟩, hS.F ht⟩) hS.2.2 dX0_stopsFeet_15
    · refine lv_iconst (v := 1) hx hb dX0_stopsFeet_10 (by decide) ?_
      refine lv_goto (tgt := 15) hx hb dX0_stopsFeet_11 (by decide) ?_
      have em : m_X0_stopsFeet a = true := (by first | (simp only [m_X0_stopsFeet, if_neg c1, if_pos c2]; done) | (simp only [m_X0_stopsFeet, if_neg c1, if_pos c2]; rfl))
      exact W.zret (v := 1) hx hb hr rfl (fun t ht hW => ⟨⟨1, (), rfl, (by rw [em]; rfl), trivial⟩, hS.F ht⟩) hS.2.2 dX0_stopsFeet_15
def m_X0_row (a : Int32) : Int32 := a / 8
set_option maxHeartbeats 4000000 in
set_option maxRecDepth 100000 in
theorem met_X0_row (l : Launch) (a : Int32) : Met l yX0_row wsX0_row ({ frames := 0, cells := 0, slots := 0, locals := 0 }) (va_Pc [.int a] (fun _ => True)) (va_Qi (fun (r : Int32) (_ : Unit) => r = (m_X0_row a)) (fun _ _ => True) (fun _ => False)) 0 0 (fun _ => False) := by
  refine Met.ofW (cc := cX0_row) (maxL := 1) (ret := (some .int)) (by decide) rfl ?_
  intro p e s m args below meth c s₁ B hml hv
  obtain ⟨rfl, -⟩ := hv
  have hx := B.exec
  have hb := B.bytes
  have hr := B.returns
  have hts := atoms_spec (ws := wsX0_row) B.pre
  have hown : s.vm.findClass RX0 = some m.cls := findClass_of_methodNamed B.named
  have hlocks := B.notSynchronized
  have hS : va_S (fun _ => False) s.heap s.heap [] := va_S.rf
  have hl := lv_entry ([.int a]) (n := 1) (Nat.le_of_ble_eq_true rfl)
  rw [lg_entry_eq]
  generalize (lg_sl ([.int a]) ++ List.replicate (1 - (lg_sl ([.int a])).length) Slot.unset).toArray = ls at hl ⊢
  have hl : lv_has ls 1 [(0, .int a)] := hl
  refine startS (fun H locs hS => ?_) hS
  refine lv_iload_n hx hb dX0_row_0 rfl (lv_at hl 0 rfl) ?_
  refine lv_bipush (v := 8) hx hb dX0_row_1 (by decide) ?_
  refine lv_idiv hx hb dX0_row_3 (by decide) ?_
  have em : m_X0_row a = a / 8 := (by first | (simp only [m_X0_row]; done) | (unfold m_X0_row; rfl) | rfl)
  exact W.iret (v := a / 8) hx hb hr (fun t ht hW => ⟨⟨a / 8, (), rfl, (by rw [em]), trivial⟩, hS.F ht⟩) hS.2.2 dX0_row_4
def m_X0_column (a : Int32) : Int32 := a - a / 8 * 8
set_option maxHeartbeats 4000000 in
set_option maxRecDepth 100000 in
theorem met_X0_column (l : Launch) (a : Int32) : Met l yX0_column wsX0_column ({ frames := 0, cells := 0, slots := 0, locals := 0 }) (va_Pc [.int a] (fun _ => True)) (va_Qi (fun (r : Int32) (_ : Unit) => r = (m_X0_column a)) (fun _ _ => True) (fun _ => False)) 0 0 (fun _ => False) := by
  refine Met.ofW (cc := cX0_column) (maxL := 1) (ret := (some .int)) (by decide) rfl ?_
  intro p e s m args below meth c s₁ B hml hv
  obtain ⟨rfl, -⟩ := hv
  have hx := B.exec
  have hb := B.bytes
  have hr := B.returns
  have hts := atoms_spec (ws := wsX0_column) B.pre
  have hown : s.vm.findClass RX0 = some m.cls := findClass_of_methodNamed B.named
  have hlocks := B.notSynchronized
  have hS : va_S (fun _ => False) s.heap s.heap [] := va_S.rf
  have hl := lv_entry ([.int a]) (n := 1) (Nat.le_of_ble_eq_true rfl)
  rw [lg_entry_eq]
  generalize (lg_sl ([.int a]) ++ List.replicate (1 - (lg_sl ([.int a])).length) Slot.unset).toArray = ls at hl ⊢
  have hl : lv_has ls 1 [(0, .int a)] := hl
  refine startS (fun H locs hS => ?_) hS
  refine lv_iload_n hx hb dX0_column_0 rfl (lv_at hl 0 rfl) ?_
  refine lv_bipush (v := 8) hx hb dX0_column_1 (by decide) ?_
  refine lv_irem hx hb dX0_column_3 (by decide) ?_
  have em : m_X0_column a = a - a / 8 * 8 := (by first | (simp only [m_X0_column]; done) | (unfold m_X0_column; rfl) | rfl)
  exact W.iret (v := a - a / 8 * 8) hx hb hr (fun t ht hW => ⟨⟨a - a / 8 * 8, (), rfl, (by rw [em]), trivial⟩, hS.F ht⟩) hS.2.2 dX0_column_4
def m_X0_rowsBetween (a : Int32) (b : Int32) : Int32 := iabs ((m_X0_row b) - (m_X0_row a))
set_option maxHeartbeats 4000000 in
set_option maxRecDepth 100000 in
theorem met_X0_rowsBetween (l : Launch) (a : Int32) (b : Int32) : Met l yX0_rowsBetween wsX0_rowsBetween ({ frames := 1, cells := 0, slots := 0, locals := 33 }) (va_Pc [.int a, .int b] (fun _ => True)) (va_Qi (fun (r : Int32) (_ : Unit) => r = (m_X0_rowsBetween a b)) (fun _ _ => True) (fun _ => False)) 0 0 (fun _ => False) := by
  refine Met.ofW (cc := cX0_rowsBetween) (maxL := 2) (ret := (some .int)) (by decide) rfl ?_
  intro p e s m args below meth c s₁ B hml hv
  obtain ⟨rfl, -⟩ := hv
  have hx := B.exec
  have hb := B.bytes
  have hr := B.returns
  have hts := atoms_spec (ws := wsX0_rowsBetween) B.pre
  have hown : s.vm.findClass RX0 = some m.cls := findClass_of_methodNamed B.named
  have hlocks := B.notSynchronized
  have hS : va_S (fun _ => False) s.heap s.heap [] := va_S.rf
  have hl := lv_entry ([.int a, .int b]) (n := 2) (Nat.le_of_ble_eq_true rfl)
  rw [lg_entry_eq]
  generalize (lg_sl ([.int a, .int b]) ++ List.replicate (2 - (lg_sl ([.int a, .int b])).length) Slot.unset).toArray = ls at hl ⊢
  have hl : lv_has ls 2 [(0, .int a), (1, .int b)] := hl
  have fabs15 := hts (.methodLink RX0 15 Lib.Math.abs.name) (List.mem_of_getElem? (i := 1) rfl)
  have fabsst := hts (.static Lib.Math.abs.name) (List.mem_of_getElem? (i := 2) rfl)
  have fabsin := hts (.initialized "java/lang/Math") (List.mem_of_getElem? (i := 3) rfl)
  have fabsco := hts (.code Lib.Math.abs.name Lib.Math.abs.code 1 (some .int)) (List.mem_of_getElem? (i := 4) rfl)
  refine startS (fun H locs hS => ?_) hS
  refine lv_iload_n hx hb dX0_rowsBetween_0 rfl (lv_at hl 1 rfl) ?_
  refine callS_i (va_runS (As := [.int b]) (rest := []) ⟨hx, hb, hml, hown, hts⟩ (met_X0_row l  b) (va_cwS 1 hts gX0_rowsBetween_X0_row rfl rfl rfl (by decide +kernel) ⟨Nat.le_of_ble_eq_true rfl, Nat.le_of_ble_eq_true rfl⟩) ⟨preS_blind, fun U hU hW => ⟨rfl, trivial⟩⟩ rfl rfl hl.1 rfl (lv_room (Nat.le_of_ble_eq_true rfl)) dX0_rowsBetween_1 ⟨Nat.zero_le _, Nat.zero_le _⟩) hS (fun r u H locs hw hS => ?_)
  replace hw := Eq.symm hw
  subst hw
  refine lv_iload_n hx hb dX0_rowsBetween_4 rfl (lv_at hl 0 rfl) ?_
  refine callS_i (va_runS (As := [.int a]) (rest := [.int (m_X0_row b)]) ⟨hx, hb, hml, hown, hts⟩ (met_X0_row l  a) (va_cwS 1 hts gX0_rowsBetween_X0_row rfl rfl rfl (by decide +kernel) ⟨Nat.le_of_ble_eq_true rfl, Nat.le_of_ble_eq_true rfl⟩) ⟨preS_blind, fun U hU hW => ⟨rfl, trivial⟩⟩ rfl rfl hl.1 rfl (lv_room (Nat.le_of_ble_eq_true rfl)) dX0_rowsBetween_5 ⟨Nat.zero_le _, Nat.zero_le _⟩) hS (fun r u H locs hw hS => ?_)
  replace hw := Eq.symm hw
  subst hw
  refine lv_isub hx hb dX0_rowsBetween_8 ?_
  refine va_mabs hx hb (hml.trans hl.1.symm) hown fabs15 fabsst fabsin fabsco (Nat.le_of_ble_eq_true rfl) (Nat.le_of_ble_eq_true rfl) (Nat.zero_le _) (Nat.zero_le _) (x := (m_X0_row b) - (m_X0_row a)) dX0_rowsBetween_9 ?_
  refine W.ofeqi (y := iabs ((m_X0_row b) - (m_X0_row a))) rfl ?_
  have em : m_X0_rowsBetween a b = iabs ((m_X0_row b) - (m_X0_row a)) := (by first | (simp only [m_X0_rowsBetween]; done) | (unfold m_X0_rowsBetween; rfl) | rfl)
  exact W.iret (v := iabs ((m_X0_row b) - (m_X0_row a))) hx hb hr (fun t ht hW => ⟨⟨iabs ((m_X0_row b) - (m_X0_row a)), (), rfl, (by rw [em]), trivial⟩, hS.F ht⟩) hS.2.2 dX0_rowsBetween_12
def m_X0_columnsBetween (a : Int32) (b : Int32) : Int32 := iabs ((m_X0_column b) - (m_X0_column a))
set_option maxHeartbeats 4000000 in
set_option maxRecDepth 100000 in
theorem met_X0_columnsBetween (l : Launch) (a : Int32) (b : Int32) : Met l yX0_columnsBetween wsX0_columnsBetween ({ frames := 1, cells := 0, slots := 0, locals := 33 }) (va_Pc [.int a, .int b] (fun _ => True)) (va_Qi (fun (r : Int32) (_ : Unit) => r = (m_X0_columnsBetween a b)) (fun _ _ => True) (fun _ => False)) 0 0 (fun _ => False) := by
  refine Met.ofW (cc := cX0_columnsBetween) (maxL := 2) (ret := (some .int)) (by decide) rfl ?_
  intro p e s m args below meth c s₁ B hml hv
  obtain ⟨rfl, -⟩ := hv
  have hx := B.exec
  have hb := B.bytes
  have hr := B.returns
  have hts := atoms_spec (ws := wsX0_columnsBetween) B.pre
  have hown : s.vm.findClass RX0 = some m.cls := findClass_of_methodNamed B.named
  have hlocks := B.notSynchronized
  have hS : va_S (fun _ => False) s.heap s.heap [] := va_S.rf
  have hl := lv_entry ([.int a, .int b]) (n := 2) (Nat.le_of_ble_eq_true rfl)
  rw [lg_entry_eq]
  generalize (lg_sl ([.int a, .int b]) ++ List.replicate (2 - (lg_sl ([.int a, .int b])).length) Slot.unset).toArray = ls at hl ⊢
  have hl : lv_has ls 2 [(0, .int a), (1, .int b)] := hl
  have fabs15 := hts (.methodLink RX0 15 Lib.Math.abs.name) (List.mem_of_getElem? (i := 1) rfl)
  have fabsst := hts (.static Lib.Math.abs.name) (List.mem_of_getElem? (i := 2) rfl)
  have fabsin := hts (.initialized "java/lang/Math") (List.mem_of_getElem? (i := 3) rfl)
  have fabsco := hts (.code Lib.Math.abs.name Lib.Math.abs.code 1 (some .int)) (List.mem_of_getElem? (i := 4) rfl)
  refine startS (fun H locs hS => ?_) hS
  refine lv_iload_n hx hb dX0_columnsBetween_0 rfl (lv_at hl 1 rfl) ?_
  refine callS_i (va_runS (As := [.int b]) (rest := []) ⟨hx, hb, hml, hown, hts⟩ (met_X0_column l  b) (va_cwS 1 hts gX0_columnsBetween_X0_column rfl rfl rfl (by decide +kernel) ⟨Nat.le_of_ble_eq_true rfl, Nat.le_of_ble_eq_true rfl⟩) ⟨preS_blind, fun U hU hW => ⟨rfl, trivial⟩⟩ rfl rfl hl.1 rfl (lv_room (Nat.le_of_ble_eq_true rfl)) dX0_columnsBetween_1 ⟨Nat.zero_le _, Nat.zero_le _⟩) hS (fun r u H locs hw hS => ?_)
  replace hw := Eq.symm hw
  subst hw
  refine lv_iload_n hx hb dX0_columnsBetween_4 rfl (lv_at hl 0 rfl) ?_
  refine callS_i (va_runS (As := [.int a]) (rest := [.int (m_X0_column b)]) ⟨hx, hb, hml, hown, hts⟩ (met_X0_column l  a) (va_cwS 1 hts gX0_columnsBetween_X0_column rfl rfl rfl (by decide +kernel) ⟨Nat.le_of_ble_eq_true rfl, Nat.le_of_ble_eq_true rfl⟩) ⟨preS_blind, fun U hU hW => ⟨rfl, trivial⟩⟩ rfl rfl hl.1 rfl (lv_room (Nat.le_of_ble_eq_true rfl)) dX0_columnsBetween_5 ⟨Nat.zero_le _, Nat.zero_le _⟩) hS (fun r u H locs hw hS => ?_)
  replace hw := Eq.symm hw
  subst hw
  refine lv_isub hx hb dX0_columnsBetween_8 ?_
  refine va_mabs hx hb (hml.trans hl.1.symm) hown fabs15 fabsst fabsin fabsco (Nat.le_of_ble_eq_true rfl) (Nat.le_of_ble_eq_true rfl) (Nat.zero_le _) (Nat.zero_le _) (x := (m_X0_column b) - (m_X0_column a)) dX0_columnsBetween_9 ?_
  refine W.ofeqi (y := iabs ((m_X0_column b) - (m_X0_column a))) rfl ?_
  have em : m_X0_columnsBetween a b = iabs ((m_X0_column b) - (m_X0_column a)) := (by first | (simp only [m_X0_columnsBetween]; done) | (unfold m_X0_columnsBetween; rfl) | rfl)
  exact W.iret (v := iabs ((m_X0_column b) - (m_X0_column a))) hx hb hr (fun t ht hW => ⟨⟨iabs ((m_X0_column b) - (m_X0_column a)), (), rfl, (by rw [em]), trivial⟩, hS.F ht⟩) hS.2.2 dX0_columnsBetween_12
def m_X0_neighbour (a : Int32) (b : Int32) : Int32 := (if b = 0 then (if (m_X0_row a) ≤ 0 then (-1 : Int32) else a - 8) else (if b = 1 then (if 7 ≤ (m_X0_column a) then (-1 : Int32) else a + 1) else (if b = 2 then (if 7 ≤ (m_X0_row a) then (-1 : Int32) else a + 8) else (if b = 3 then (if (m_X0_column a) ≤ 0 then (-1 : Int32) else a - 1) else (-1 : Int32)))))
set_option maxHeartbeats 4000000 in
set_option maxRecDepth 100000 in
theorem met_X0_neighbour (l : Launch) (a : Int32) (b : Int32) : Met l yX0_neighbour wsX0_neighbour ({ frames := 1, cells := 0, slots := 0, locals := 20 }) (va_Pc [.int a, .int b] (fun _ => True)) (va_Qi (fun (r : Int32) (_ : Unit) => r = (m_X0_neighbour a b)) (fun _ _ => True) (fun _ => False)) 0 0 (fun _ => False) := by
  refine Met.ofW (cc := cX0_neighbour) (maxL := 2) (ret := (some .int)) (by decide) rfl ?_
  intro p e s m args below meth c s₁ B hml hv
  obtain ⟨rfl, -⟩ := hv
  have hx := B.exec
  have hb := B.bytes
  have hr := B.returns
  have hts := atoms_spec (ws := wsX0_neighbour) B.pre
  have hown : s.vm.findClass RX0 = some m.cls := findClass_of_methodNamed B.named
  have hlocks := B.notSynchronized
  have hS : va_S (fun _ => False) s.heap s.heap [] := va_S.rf
  have hl := lv_entry ([.int a, .int b]) (n := 2) (Nat.le_of_ble_eq_true rfl)
  rw [lg_entry_eq]
  generalize (lg_sl ([.int a, .int b]) ++ List.replicate (2 - (lg_sl ([.int a, .int b])).length) Slot.unset).toArray = ls at hl ⊢
  have hl : lv_has ls 2 [(0, .int a), (1, .int b)] := hl
  refine startS (fun H locs hS => ?_) hS
  refine lv_iload_n hx hb dX0_neighbour_0 rfl (lv_at hl 1 rfl) ?_
  by_cases c1 : b = 0
  · refine lv_tableIn (off := 31) (tgt := 32) hx hb dX0_neighbour_1 (by rw [c1]; decide) (by rw [c1]; decide) (by rw [c1]; rfl) (by decide) ?_
    refine lv_iload_n hx hb dX0_neighbour_32 rfl (lv_at hl 0 rfl) ?_
    refine callS_i (va_runS (As := [.int a]) (rest := []) ⟨hx, hb, hml, hown, hts⟩ (met_X0_row l  a) (va_cwS 1 hts gX0_neighbour_X0_row rfl rfl rfl (by decide +kernel) ⟨Nat.le_of_ble_eq_true rfl, Nat.le_of_ble_eq_true rfl⟩) ⟨preS_blind, fun U hU hW => ⟨rfl, trivial⟩⟩ rfl rfl hl.1 rfl (lv_room (Nat.le_of_ble_eq_true rfl)) dX0_neighbour_33 ⟨Nat.zero_le _, Nat.zero_le _⟩) hS (fun r u H locs hw hS => ?_)
    replace hw := Eq.symm hw
    subst hw
    refine lv_if_le (tgt := 46) hx hb dX0_neighbour_36 (by decide) (fun c2 => ?_) (fun c2 => ?_)
    · refine lv_iconst (v := (-1)) hx hb dX0_neighbour_46 (by decide) ?_
      have em : m_X0_neighbour a b = (-1 : Int32) := (by first | (simp only [m_X0_neighbour, if_pos c1, if_pos c2]; done) | (simp only [m_X0_neighbour, if_pos c1, if_pos c2]; rfl))
      exact W.iret (v := (-1)) hx hb hr (fun t ht hW => ⟨⟨(-1), (), rfl, (by rw [em]), trivial⟩, hS.F ht⟩) hS.2.2 dX0_neighbour_47
    · refine lv_iload_n hx hb dX0_neighbour_39 rfl (lv_at hl 0 rfl) ?_
      refine lv_bipush (v := 8) hx hb dX0_neighbour_40 (by decide) ?_
      refine lv_isub hx hb dX0_neighbour_42 ?_
      refine lv_goto (tgt := 47) hx hb dX0_neighbour_43 (by decide) ?_
      have em : m_X0_neighbour a b = a - 8 := (by first | (simp only [m_X0_neighbour, if_pos c1, if_neg c2]; done) | (simp only [m_X0_neighbour, if_pos c1, if_neg c2]; rfl))
      exact W.iret (v := a - 8) hx hb hr (fun t ht hW => ⟨⟨a - 8, (), rfl, (by rw [em]), trivial⟩, hS.F ht⟩) hS.2.2 dX0_neighbour_47
  · by_cases c3 : b = 1
    · refine lv_tableIn (off := 47) (tgt := 48) hx hb dX0_neighbour_1 (by rw [c3]; decide) (by rw [c3]; decide) (by rw [c3]; rfl) (by decide) ?_
      refine lv_iload_n hx hb dX0_neighbour_48 rfl (lv_at hl 0 rfl) ?_
      refine callS_i (va_runS (As := [.int a]) (rest := []) ⟨hx, hb, hml, hown, hts⟩ (met_X0_column l  a) (va_cwS 1 hts gX0_neighbour_X0_column rfl rfl rfl (by decide +kernel) ⟨Nat.le_of_ble_eq_true rfl, Nat.le_of_ble_eq_true rfl⟩) ⟨preS_blind, fun U hU hW => ⟨rfl, trivial⟩⟩ rfl rfl hl.1 rfl (lv_room (Nat.le_of_ble_eq_true rfl)) dX0_neighbour_49 ⟨Nat.zero_le _, Nat.zero_le _⟩) hS (fun r u H locs hw hS => ?_)
      replace hw := Eq.symm hw
      subst hw
      refine lv_bipush (v := 7) hx hb dX0_neighbour_52 (by decide) ?_
      refine lv_icmp_ge (tgt := 63) hx hb dX0_neighbour_54 (by decide) (fun c4 => ?_) (fun c4 => ?_)
      · refine lv_iconst (v := (-1)) hx hb dX0_neighbour_63 (by decide) ?_
        have em : m_X0_neighbour a b = (-1 : Int32) := (by first | (simp only [m_X0_neighbour, if_neg c1, if_pos c3, if_pos c4]; done) | (simp only [m_X0_neighbour, if_neg c1, if_pos c3, if_pos c4]; rfl))
        exact W.iret (v := (-1)) hx hb hr (fun t ht hW => ⟨⟨(-1), (), rfl, (by rw [em]), trivial⟩, hS.F ht⟩) hS.2.2 dX0_neighbour_64
      · refine lv_iload_n hx hb dX0_neighbour_57 rfl (lv_at hl 0 rfl) ?_
        refine lv_iconst (v := 1) hx hb dX0_neighbour_58 (by decide) ?_
        refine lv_iadd hx hb dX0_neighbour_59 ?_
        refine lv_goto (tgt := 64) hx hb dX0_neighbour_60 (by decide) ?_
        have em : m_X0_neighbour a b = a + 1 := (by first | (simp only [m_X0_neighbour, if_neg c1, if_pos c3, if_neg c4]; done) | (simp only [m_X0_neighbour, if_neg c1, if_pos c3, if_neg c4]; rfl))
        exact W.iret (v := a + 1) hx hb hr (fun t ht hW => ⟨⟨a + 1, (), rfl, (by rw [em]), trivial⟩, hS.F ht⟩) hS.2.2 dX0_neighbour_64
    · by_cases c5 : b = 2
      · refine lv_tableIn (off := 64) (tgt := 65) hx hb dX0_neighbour_1 (by rw [c5]; decide) (by rw [c5]; decide) (by rw [c5]; rfl) (by decide) ?_
        refine lv_iload_n hx hb dX0_neighbour_65 rfl (lv_at hl 0 rfl) ?_
        refine callS_i (va_runS (As := [.int a]) (rest := []) ⟨hx, hb, hml, hown, hts⟩ (met_X0_row l  a) (va_cwS 1 hts gX0_neighbour_X0_row rfl rfl rfl (by decide +kernel) ⟨Nat.le_of_ble_eq_true rfl, Nat.le_of_ble_eq_true rfl⟩) ⟨preS_blind, fun U hU hW => ⟨rfl, trivial⟩⟩ rfl rfl hl.1 rfl (lv_room (Nat.le_of_ble_eq_true rfl)) dX0_neighbour_66 ⟨Nat.zero_le _, Nat.zero_le _⟩) hS (fun r u H locs hw hS => ?_)
        replace hw := Eq.symm hw
        subst hw
        refine lv_bipush (v := 7) hx hb dX0_neighbour_69 (by decide) ?_
        refine lv_icmp_ge (tgt := 81) hx hb dX0_neighbour_71 (by decide) (fun c6 => ?_) (fun c6 => ?_)
        · refine lv_iconst (v := (-1)) hx hb dX0_neighbour_81 (by decide) ?_
          have em : m_X0_neighbour a b = (-1 : Int32) := (by first | (simp only [m_X0_neighbour, if_neg c1, if_neg c3, if_pos c5, if_pos c6]; done) | (simp only [m_X0_neighbour, if_neg c1, if_neg c3, if_pos c5, if_pos c6]; rfl))
          exact W.iret (v := (-1)) hx hb hr (fun t ht hW => ⟨⟨(-1), (), rfl, (by rw [em]), trivial⟩, hS.F ht⟩) hS.2.2 dX0_neighbour_82
        · refine lv_iload_n hx hb dX0_neighbour_74 rfl (lv_at hl 0 rfl) ?_
          refine lv_bipush (v := 8) hx hb dX0_neighbour_75 (by decide) ?_
          refine lv_iadd hx hb dX0_neighbour_77 ?_
          refine lv_goto (tgt := 82) hx hb dX0_neighbour_78 (by decide) ?_
          have em : m_X0_neighbour a b = a + 8 := (by first | (simp only [m_X0_neighbour, if_neg c1, if_neg c3, if_pos c5, if_neg c6]; done) | (simp only [m_X0_neighbour, if_neg c1, if_neg c3, if_pos c5, if_neg c6]; rfl))
          exact W.iret (v := a + 8) hx hb hr (fun t ht hW => ⟨⟨a + 8, (), rfl, (by rw [em]), trivial⟩, hS.F ht⟩) hS.2.2 dX0_neighbour_82
      · by_cases c7 : b = 3
        · refine lv_tableIn (off := 82) (tgt := 83) hx hb dX0_neighbour_1 (by rw [c7]; decide) (by rw [c7]; decide) (by rw [c7]; rfl) (by decide) ?_
          refine lv_iload_n hx hb dX0_neighbour_83 rfl (lv_at hl 0 rfl) ?_
          refine callS_i (va_runS (As := [.int a]) (rest := []) ⟨hx, hb, hml, hown, hts⟩ (met_X0_column l  a) (va_cwS 1 hts gX0_neighbour_X0_column rfl rfl rfl (by decide +kernel) ⟨Nat.le_of_ble_eq_true rfl, Nat.le_of_ble_eq_true rfl⟩) ⟨preS_blind, fun U hU hW => ⟨rfl, trivial⟩⟩ rfl rfl hl.1 rfl (lv_room (Nat.le_of_ble_eq_true rfl)) dX0_neighbour_84 ⟨Nat.zero_le _, Nat.zero_le _⟩) hS (fun r u H locs hw hS => ?_)
          replace hw := Eq.symm hw
          subst hw
          refine lv_if_le (tgt := 96) hx hb dX0_neighbour_87 (by decide) (fun c8 => ?_) (fun c8 => ?_)
          · refine lv_iconst (v := (-1)) hx hb dX0_neighbour_96 (by decide) ?_
            have em : m_X0_neighbour a b = (-1 : Int32) := (by first | (simp only [m_X0_neighbour, if_neg c1, if_neg c3, if_neg c5, if_pos c7, if_pos c8]; done) | (simp only [m_X0_neighbour, if_neg c1, if_neg c3, if_neg c5, if_pos c7, if_pos c8]; rfl))
            exact W.iret (v := (-1)) hx hb hr (fun t ht hW => ⟨⟨(-1), (), rfl, (by rw [em]), trivial⟩, hS.F ht⟩) hS.2.2 dX0_neighbour_97
          · refine lv_iload_n hx hb dX0_neighbour_90 rfl (lv_at hl 0 rfl) ?_
            refine lv_iconst (v := 1) hx hb dX0_neighbour_91 (by decide) ?_
            refine lv_isub hx hb dX0_neighbour_92 ?_
            refine lv_goto (tgt := 97) hx hb dX0_neighbour_93 (by decide) ?_
            have em : m_X0_neighbour a b = a - 1 := (by first | (simp only [m_X0_neighbour, if_neg c1, if_neg c3, if_neg c5, if_pos c7, if_neg c8]; done) | (simp only [m_X0_neighbour, if_neg c1, if_neg c3, if_neg c5, if_pos c7, if_neg c8]; rfl))
            exact W.iret (v := a - 1) hx hb hr (fun t ht hW => ⟨⟨a - 1, (), rfl, (by rw [em]), trivial⟩, hS.F ht⟩) hS.2.2 dX0_neighbour_97
        · refine lv_tableOut (tgt := 98) hx hb dX0_neighbour_1 (sw_out 0 3 [0, 1, 2, 3] (by decide) (by simp only [List.mem_cons, List.not_mem_nil, or_false, forall_eq_or_imp, forall_eq]; exact ⟨c1, c3, c5, c7⟩) (by decide)) (by decide) ?_
          refine lv_iconst (v := (-1)) hx hb dX0_neighbour_98 (by decide) ?_
          have em : m_X0_neighbour a b = (-1 : Int32) := (by first | (simp only [m_X0_neighbour, if_neg c1, if_neg c3, if_neg c5, if_neg c7]; done) | (simp only [m_X0_neighbour, if_neg c1, if_neg c3, if_neg c5, if_neg c7]; rfl))
          exact W.iret (v := (-1)) hx hb hr (fun t ht hW => ⟨⟨(-1), (), rfl, (by rw [em]), trivial⟩, hS.F ht⟩) hS.2.2 dX0_neighbour_99
def m_X7_isWithin (a : Int32) (b : Int32) (z : Int32) : Bool := (if a < b then false else (if z < a then false else true))
set_option maxHeartbeats 4000000 in
set_option maxRecDepth 100000 in
theorem met_X7_isWithin (l : Launch) (a : Int32) (b : Int32) (z : Int32) : Met l yX7_isWithin wsX7_isWithin ({ frames := 0, cells := 0, slots := 0, locals := 0 }) (va_Pc [.int a, .int b, .int z] (fun _ => True)) (va_Qi (fun (r : Int32) (_ : Unit) => r = bI (m_X7_isWithin a b z)) (fun _ _ => True) (fun _ => False)) 0 0 (fun _ => False) := by
  refine Met.ofW (cc := cX7_isWithin) (maxL := 3) (ret := (some .boolean)) (by decide) rfl ?_
  intro p e s m args below meth c s₁ B hml hv
  obtain ⟨rfl, -⟩ := hv
  have hx := B.exec
  have hb := B.bytes
  have hr := B.returns
  have hts := atoms_spec (ws := wsX7_isWithin) B.pre
  have hown : s.vm.findClass RX7 = some m.cls := findClass_of_methodNamed B.named
  have hlocks := B.notSynchronized
  have hS : va_S (fun _ => False) s.heap s.heap [] := va_S.rf
  have hl := lv_entry ([.int a, .int b, .int z]) (n := 3) (Nat.le_of_ble_eq_true rfl)
  rw [lg_entry_eq]
  generalize (lg_sl ([.int a, .int b, .int z]) ++ List.replicate (3 - (lg_sl ([.int a, .int b, .int z])).length) Slot.unset).toArray = ls at hl ⊢
  have hl : lv_has ls 3 [(0, .int a), (1, .int b), (2, .int z)] := hl
  refine startS (fun H locs hS => ?_) hS
  refine lv_iload_n hx hb dX7_isWithin_0 rfl (lv_at hl 0 rfl) ?_
  refine lv_iload_n hx hb dX7_isWithin_1 rfl (lv_at hl 1 rfl) ?_
  refine lv_icmp_lt (tgt := 14) hx hb dX7_isWithin_2 (by decide) (fun c1 => ?_) (fun c1 => ?_)
  · refine lv_iconst (v := 0) hx hb dX7_isWithin_14 (by decide) ?_
    have em : m_X7_isWithin a b z = false := (by first | (simp only [m_X7_isWithin, if_pos c1]; done) | (simp only [m_X7_isWithin, if_pos c1]; rfl))
    exact W.zret (v := 0) hx hb hr rfl (fun t ht hW => ⟨⟨0, (), rfl, (by rw [em]; rfl), trivial⟩, hS.F ht⟩) hS.2.2 dX7_isWithin_15
  · refine lv_iload_n hx hb dX7_isWithin_5 rfl (lv_at hl 0 rfl) ?_
    refine lv_iload_n hx hb dX7_isWithin_6 rfl (lv_at hl 2 rfl) ?_
    refine lv_icmp_gt (tgt := 14) hx hb dX7_isWithin_7 (by decide) (fun c2 => ?_) (fun c2 => ?_)
    · refine lv_iconst (v := 0) hx hb dX7_isWithin_14 (by decide) ?_
      have em : m_X7_isWithin a b z = false := (by first | (simp only [m_X7_isWithin, if_neg c1, if_pos c2]; done) | (simp only [m_X7_isWithin, if_neg c1, if_pos c2]; rfl))
      exact W.zret (v := 0) hx hb hr rfl (fun t ht hW => ⟨⟨0, (), rfl, (by rw [em]; rfl), trivial⟩, hS.F ht⟩) hS.2.2 dX7_isWithin_15
    · refine lv_iconst (v := 1) hx hb dX7_isWithin_10 (by decide) ?_
      refine lv_goto (tgt := 15) hx hb dX7_isWithin_11 (by decide) ?_
      have em : m_X7_isWithin a b z = true := (by first | (simp only [m_X7_isWithin, if_neg c1, if_neg c2]; done) | (simp only [m_X7_isWithin, if_neg c1, if_neg c2]; rfl))
      exact W.zret (v := 1) hx hb hr rfl (fun t ht hW => ⟨⟨1, (), rfl, (by rw [em]; rfl), trivial⟩, hS.F ht⟩) hS.2.2 dX7_isWithin_15
