theorem kindOf_eq (ch : Int32) : (m_X4_kindOf ch = -1 ∧ m_X8_kindOf ch = -4) ∨ (¬ m_X4_kindOf ch = -1 ∧ ¬ m_X8_kindOf ch = -4 ∧ m_X8_kindOf ch = m_X4_kindOf ch ∧ ∃ k : Nat, k < 4 ∧ m_X4_kindOf ch = nI k) := by
  unfold m_X4_kindOf m_X8_kindOf
  by_cases c1 : ch = 46
  · rw [if_pos c1, if_pos c1]; exact Or.inr ⟨by decide, by decide, rfl, 0, by decide, rfl⟩
  · rw [if_neg c1, if_neg c1]
    by_cases c2 : ch = 35
    · rw [if_pos c2, if_pos c2]; exact Or.inr ⟨by decide, by decide, rfl, 1, by decide, rfl⟩
    · rw [if_neg c2, if_neg c2]
      by_cases c3 : ch = 61
      · rw [if_pos c3, if_pos c3]; exact Or.inr ⟨by decide, by decide, rfl, 2, by decide, rfl⟩
      · rw [if_neg c3, if_neg c3]
        by_cases c4 : ch = 126
        · rw [if_pos c4, if_pos c4]; exact Or.inr ⟨by decide, by decide, rfl, 3, by decide, rfl⟩
        · rw [if_neg c4, if_neg c4]; exact Or.inl ⟨rfl, rfl⟩
section ANS
variable {n w d t p : Nat} {K LC LS LF RO SG PD : Nat → Int32}
theorem fits_eq (hw : RO 147 = nI w) {k : Nat} (hk : k < 80) (hp : SG k = PD k) : m_X8_fits RO PD (nI k) = m_X4_fitsMap SG (nI k) (nI w) := by
  have c1 : nI k ≤ 70 ↔ nI k < 71 := by
    rw [show (70 : Int32) = nI 70 from rfl, show (71 : Int32) = nI 71 from rfl, nI_leI (by omega) (by decide), nI_ltI (by omega) (by decide)]; omega
  unfold m_X8_fits m_X4_fitsMap m_X8_mayPut
  simp only [c1, nI_clamp (show k < 2 ^ 31 by omega), hp, hw, Int32.mul_comm 8 (nI k / 9)]
  by_cases q1 : nI k < 71
  · rw [if_pos q1, if_pos q1]
    by_cases q2 : nI k - nI k / 9 * 9 = 8
    · rw [if_pos q2, if_pos q2]
    · rw [if_neg q2, if_neg q2]
      rcases kindOf_eq (PD k) with ⟨e1, e2⟩ | ⟨e1, e2, e3, -⟩
      · rw [if_pos e1, if_pos e2]
      · rw [if_neg e1, if_neg e2, e3]
        by_cases q3 : nI k / 9 * 8 + (nI k - nI k / 9 * 9) = nI w
        · rw [if_pos q3, if_pos q3]
          show (if (if m_X0_stopsFeet (m_X4_kindOf (PD k)) = false then true else false) = false then false else true) = _
          cases m_X0_stopsFeet (m_X4_kindOf (PD k)) <;> rfl
        · rw [if_neg q3, if_neg q3]; rfl
  · rw [if_neg q1, if_neg q1]
theorem mapFault_eq (hw : RO 147 = nI w) (hp : p ≤ 80) (hS : ∀ i, i < p → SG i = PD i) : m_X8_mapFault (nI p) RO PD = m_X4_faultAsMap (nI p) SG (nI w) := by
  have e8 : m_X8_mapFault (nI p) RO PD = (fstD (fun k => !(m_X4_fitsMap SG (nI k) (nI w))) nI p 0).getD (if nI p = 71 then (-4 : Int32) else nI p) := by
    unfold m_X8_mapFault
    rw [nI_clamp (show p < 2 ^ 31 by omega)]
    exact fst_lp (p := fun k => !(m_X4_fitsMap SG (nI k) (nI w))) (r := nI) p (fun k hk => by
      simp only [f_X8_mapFault_2, fits_eq hw (show k < 80 by omega) (hS k hk)]
      cases m_X4_fitsMap SG (nI k) (nI w) <;> rfl) p 0 (Nat.zero_add p)
  have e4 : m_X4_faultAsMap (nI p) SG (nI w) = (fstD (fun k => !(m_X4_fitsMap SG (nI k) (nI w))) nI p 0).getD (if 71 ≤ nI p then (-4 : Int32) else nI p) := by
    unfold m_X4_faultAsMap
    rw [nI_clamp (show p < 2 ^ 31 by omega)]
    exact fst_lp (p := fun k => !(m_X4_fitsMap SG (nI k) (nI w))) (r := nI) p (fun k hk => by
      simp only [f_X4_faultAsMap_2]
      cases m_X4_fitsMap SG (nI k) (nI w) <;> rfl) p 0 (Nat.zero_add p)
  rw [e8, e4]
  by_cases q : p ≤ 71
  · have i1 : nI p = 71 ↔ p = 71 := nI_eq (b := 71) (by omega) (by decide)
    have i2 : (71 : Int32) ≤ nI p ↔ 71 ≤ p := nI_leI (a := 71) (by decide) (by omega)
    simp only [i1, i2]
    by_cases c : p = 71
    · rw [if_pos c, if_pos (by omega)]
    · rw [if_neg c, if_neg (by omega)]
  · have bad : (fun k => !(m_X4_fitsMap SG (nI k) (nI w))) 71 = true := by
      show (!(m_X4_fitsMap SG (nI 71) (nI w))) = true
      unfold m_X4_fitsMap
      rw [if_neg (show ¬ nI 71 < 71 by decide)]; rfl
    obtain ⟨e, -, -, -, he⟩ := fst_ex (p := fun k => !(m_X4_fitsMap SG (nI k) (nI w))) (r := nI) p 0 ⟨71, by omega, by omega, bad⟩
    rw [he]; rfl
theorem walkFault_eq (hp : p ≤ 80) (hS : ∀ i, i < p → SG i = PD i) : m_X8_walkFault (nI p) PD = m_X4_faultAsWalk (nI p) SG := by
  unfold m_X8_walkFault m_X4_faultAsWalk
  rw [nI_clamp (show p < 2 ^ 31 by omega)]
  have e : lpx (f_X8_walkFault_2 PD) p 0 () = lpx (f_X4_faultAsWalk_2 SG) p 0 () := lpx_fn (fun _ _ => True) p 0 () trivial (fun k s hk _ => by
    refine ⟨?_, fun _ _ => trivial⟩
    have e1 : (51 : Int32) < PD k ↔ ¬ PD k ≤ 51 := by rw [Int32.lt_iff_toInt_lt, Int32.le_iff_toInt_le]; omega
    simp only [f_X8_walkFault_2, f_X4_faultAsWalk_2, nI_clamp (show k < 2 ^ 31 by omega), hS k (by omega), m_X8_in, e1]
    by_cases c1 : PD k < 48
    · simp [c1]
    · by_cases c2 : PD k ≤ 51
      · simp [c1, c2]
      · simp [c1, c2])
  rw [e]
  have i1 : nI p ≤ 0 ↔ nI p = 0 := by
    rw [← nI_0, nI_leI (by omega) (by decide), nI_eq (by omega) (by decide)]; omega
  simp only [i1]
theorem in07 {x : Int32} (h : ¬ m_X8_in x 0 7 = false) : x = 0 ∨ x = 1 ∨ x = 2 ∨ x = 3 ∨ x = 4 ∨ x = 5 ∨ x = 6 ∨ x = 7 := by
  rw [in_eq7] at h
  obtain ⟨c, -, h2, rfl⟩ := zwithin_of (lo := 0) (hi := 7) (by decide) (by decide) h
  rcases (by omega : c = 0 ∨ c = 1 ∨ c = 2 ∨ c = 3 ∨ c = 4 ∨ c = 5 ∨ c = 6 ∨ c = 7) with h | h | h | h | h | h | h | h <;> subst h <;> decide
theorem zseen_eq (h : zRT n w d t K LC LS LF RO) {c : Nat} (hc : c < 64) : m_X8_isSeen RO (nI c) = bitN (m_X2_seenCells (nI n) (nI w) (nI d) (nI t) K LC LS LF al0) c := by
  obtain ⟨hK, hL, h1, ⟨hw, h2, -⟩, ⟨-, hd, h3⟩, ⟨ht, h4⟩⟩ := h
  rw [seen8_z hK hL h1 hw h2 hd h3 ht h4 hc, seen2_z hL hw hd ht al0 hc]
theorem cell_eq (h : zRT n w d t K LC LS LF RO) {rm : Int64} (hm : ∀ i, i < 64 → RO (64 + i) = bI (bitN rm i)) (v1 v2 : Int32) : m_X7_cell (nI n) (nI w) (nI d) (nI t) rm K LC LS LF v1 v2 = m_X8_cell RO v1 v2 := by
  have hRT := h
  obtain ⟨hK, hL, h1, ⟨hw, h2, -⟩, ⟨-, hd, h3⟩, ⟨ht, h4⟩⟩ := h
  unfold m_X7_cell m_X8_cell
  rw [isCell_eq]
  by_cases q : m_X0_isCell v1 = false
  · rw [if_pos q, if_pos q]
  · rw [if_neg q, if_neg q]
    obtain ⟨c, hc, rfl⟩ := isCell_of q
    by_cases q2 : m_X8_in v2 0 7 = false
    · rw [if_pos q2]
      have ne : ∀ x : Int32, m_X8_in x 0 7 = true → ¬ v2 = x := fun x hx e => by rw [e, hx] at q2; exact absurd q2 (by decide)
      rw [if_neg (ne 0 (by decide)), if_neg (ne 1 (by decide)), if_neg (ne 2 (by decide)), if_neg (ne 3 (by decide)), if_neg (ne 4 (by decide)), if_neg (ne 5 (by decide)), if_neg (ne 6 (by decide)), if_neg (ne 7 (by decide))]
    · rw [if_neg q2]
      unfold m_X8_property
      have cc := nI_clamp (show c < 2 ^ 31 by omega)
      rcases in07 q2 with e | e | e | e | e | e | e | e <;> subst e
      · rw [if_pos rfl, if_pos rfl, cc, o0 c hc, hK c hc]
      · rw [if_neg (by decide), if_pos rfl, if_neg (by decide), if_pos rfl, at_eq hK hL h1 hc]
      · rw [if_neg (show ¬ (2 : Int32) = 0 by decide), if_neg (show ¬ (2 : Int32) = 1 by decide), if_pos (show (2 : Int32) = 2 from rfl), if_neg (show ¬ (2 : Int32) = 0 by decide), if_neg (show ¬ (2 : Int32) = 1 by decide), if_pos (show (2 : Int32) = 2 from rfl), at_eq hK hL h1 hc, h3]
      · rw [if_neg (by decide), if_neg (by decide), if_neg (by decide), if_pos rfl, if_neg (by decide), if_neg (by decide), if_neg (by decide), if_pos rfl, zseen_eq hRT hc, bit_of _ hc]
        cases bitN (m_X2_seenCells (nI n) (nI w) (nI d) (nI t) K LC LS LF al0) c <;> rfl
      · rw [if_neg (by decide), if_neg (by decide), if_neg (by decide), if_neg (by decide), if_pos rfl, if_neg (by decide), if_neg (by decide), if_neg (by decide), if_neg (by decide), if_pos rfl, bit_of _ hc, o64 c hc, hm c hc]
      · rw [if_neg (by decide), if_neg (by decide), if_neg (by decide), if_neg (by decide), if_neg (by decide), if_pos rfl, if_neg (by decide), if_neg (by decide), if_neg (by decide), if_neg (by decide), if_neg (by decide), if_pos rfl, givers_eq hK hL h1 hc]
      · rw [if_neg (by decide), if_neg (by decide), if_neg (by decide), if_neg (by decide), if_neg (by decide), if_neg (by decide), if_pos rfl, if_neg (by decide), if_neg (by decide), if_neg (by decide), if_neg (by decide), if_neg (by decide), if_neg (by decide), if_pos rfl, lampIn_eq hL h1]
      · rw [if_neg (by decide), if_neg (by decide), if_neg (by decide), if_neg (by decide), if_neg (by decide), if_neg (by decide), if_neg (by decide), if_pos rfl, if_neg (by decide), if_neg (by decide), if_neg (by decide), if_neg (by decide), if_neg (by decide), if_neg (by decide), if_neg (by decide), sees_eq hK hc]
theorem seesA_eq (hK : ∀ i, i < 64 → RO i = K i) (v1 v2 v3 : Int32) : m_X7_sees K v1 v2 v3 = m_X8_sees RO v1 v2 v3 := by
  unfold m_X7_sees m_X8_sees
  rw [isCell_eq, isCell_eq, in_eq7]
  by_cases q1 : m_X0_isCell v1 = false
  · rw [if_pos q1, if_pos q1]
  · rw [if_neg q1, if_neg q1]
    by_cases q2 : m_X0_isCell v2 = false
    · rw [if_pos q2, if_pos q2]
    · rw [if_neg q2, if_neg q2]
      by_cases q3 : m_X7_isWithin v3 0 1 = false
      · rw [if_pos q3, if_pos q3]
      · rw [if_neg q3, if_neg q3]
        obtain ⟨f, hf, rfl⟩ := isCell_of q1
        obtain ⟨g, hg, rfl⟩ := isCell_of q2
        rw [free_eq hK hf hg, each_eq K hf hg]
        by_cases q4 : v3 = 0
        · rw [if_pos q4]
        · rw [if_neg q4]
theorem stopsA_eq (hK : ∀ i, i < 64 → RO i = K i) (v1 v2 : Int32) : m_X7_stops K v1 v2 = m_X8_stops RO v1 v2 := by
  unfold m_X7_stops m_X8_stops
  rw [isCell_eq, isCell_eq]
  by_cases q1 : m_X0_isCell v1 = false
  · rw [if_pos q1, if_pos q1]
  · rw [if_neg q1, if_neg q1]
    by_cases q2 : m_X0_isCell v2 = false
    · rw [if_pos q2, if_pos q2]
    · rw [if_neg q2, if_neg q2]
      obtain ⟨f, hf, rfl⟩ := isCell_of q1
      obtain ⟨g, hg, rfl⟩ := isCell_of q2
      exact (stops_eq hK hf hg).symm
theorem lampOf_eq (h : zRT n w d t K LC LS LF RO) (v1 v2 : Int32) : m_X7_lampOf (nI n) (nI d) K LC LS LF v1 v2 = m_X8_lampOf RO v1 v2 := by
  obtain ⟨hK, hL, h1, ⟨hw, h2, -⟩, ⟨-, hd, h3⟩, ⟨ht, h4⟩⟩ := h
  have hn := hL.1
  unfold m_X7_lampOf m_X8_lampOf
  rw [isLamp_eq hn h1]
  by_cases q : m_X5_isLamp (nI n) v1 = false
  · rw [if_pos q, if_pos q]
  · rw [if_neg q, if_neg q]
    obtain ⟨j, hj, rfl⟩ := isLamp_of hn q
    obtain ⟨r1, r2, r3, -⟩ := hL.2.1 j hj
    rw [nI_clamp (show j < 2 ^ 31 by omega), o129 j (by omega), o135 j (by omega), o141 j (by omega), r1, r2, r3, cellsOf_eq hK hL hj, only_eq hK hL h1 h3 hj]
theorem litA_eq (h : zRT n w d t K LC LS LF RO) (LG : Nat → Int32) : m_X8_litCells RO LG = m_X2_litCells (nI n) (nI d) K LC LS LF al0 0 := by
  obtain ⟨hK, hL, h1, ⟨hw, h2, -⟩, ⟨-, hd, h3⟩, ⟨ht, h4⟩⟩ := h
  rw [lit8_z hK hL h1 LG hd h3, show (0 : Int32) = nI 0 from rfl, lit2_z hL al0 (by omega) hd]
theorem share_eq (h : zRT n w d t K LC LS LF RO) (LG : Nat → Int32) : m_X7_litShare (nI n) (nI d) K LC LS LF = m_X8_litShare RO LG := by
  unfold m_X7_litShare m_X8_litShare
  rw [litA_eq h LG]
theorem seenC_eq (h : zRT n w d t K LC LS LF RO) : m_X8_seenCells RO = m_J13_bitCount_95d88 (m_X2_seenCells (nI n) (nI w) (nI d) (nI t) K LC LS LF al0) := by
  rw [popc]
  unfold m_X8_seenCells
  refine cnt_bI 64 (fun k s hk => ?_)
  simp only [f_X8_seenCells_4, zseen_eq h hk]
  cases bitN (m_X2_seenCells (nI n) (nI w) (nI d) (nI t) K LC LS LF al0) k <;> rfl
theorem known_eq {rm : Int64} (hm : ∀ i, i < 64 → RO (64 + i) = bI (bitN rm i)) : m_X8_knownCells RO = m_J13_bitCount_95d88 rm := by
  rw [popc]
  unfold m_X8_knownCells
  refine cnt_bI 64 (fun k s hk => ?_)
  simp only [f_X8_knownCells_4, o64 k hk, hm k hk]
theorem op_eq (hK : ∀ i, i < 64 → RO i = K i) : ∀ v, v < 64 → opM RO v = opC K v := fun v hv => by
  unfold opM opC; rw [hK v hv]; rfl
theorem reachA_eq (h : zRT n w d t K LC LS LF RO) (RE LG CO : Nat → Int32) : m_X6_reachedCells RE (nI w) K = m_X8_reached RO LG CO := by
  obtain ⟨hK, hL, h1, ⟨hw, h2, -⟩, ⟨-, hd, h3⟩, ⟨ht, h4⟩⟩ := h
  exact reach_eq (op_eq hK) hw h2 (shine8_b hK hL h1 LG) RE
end ANS
