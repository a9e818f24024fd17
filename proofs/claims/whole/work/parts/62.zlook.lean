/-- numbers of lamps, walker's cell, settings; the row says the same as the class's state -/
def zRT (n w d t : Nat) (K LC LS LF RO : Nat → Int32) : Prop :=
  (∀ i, i < 64 → RO i = K i) ∧ zLR n LC LS LF RO ∧ RO 128 = nI n ∧ (w < 64 ∧ RO 147 = nI w ∧ opC K w = true) ∧ (1 ≤ d ∧ d ≤ 20 ∧ RO 149 = nI d) ∧ (t ≤ 4 ∧ RO 150 = nI t)
theorem in_eq7 (a b z : Int32) : m_X8_in a b z = m_X7_isWithin a b z := rfl
theorem kind_eq7 (a : Int32) : m_X8_in a 0 3 = m_X0_isKind a := rfl
theorem in_iff (a b z : Int32) : m_X7_isWithin a b z = true ↔ b.toInt ≤ a.toInt ∧ a.toInt ≤ z.toInt := by
  unfold m_X7_isWithin
  by_cases c1 : a < b
  · rw [if_pos c1]; rw [Int32.lt_iff_toInt_lt] at c1
    constructor
    · intro h; exact absurd h (by decide)
    · intro h; omega
  · rw [if_neg c1]; rw [Int32.lt_iff_toInt_lt] at c1
    by_cases c2 : z < a
    · rw [if_pos c2]; rw [Int32.lt_iff_toInt_lt] at c2
      constructor
      · intro h; exact absurd h (by decide)
      · intro h; omega
    · rw [if_neg c2]; rw [Int32.lt_iff_toInt_lt] at c2
      exact ⟨fun _ => ⟨by omega, by omega⟩, fun _ => rfl⟩
theorem isCell_eq (a : Int32) : m_X8_isCell a = m_X0_isCell a := by
  have h63 : (63 : Int32).toInt = 63 := by decide
  have h64 : (64 : Int32).toInt = 64 := by decide
  have e : (63 : Int32) < a ↔ (64 : Int32) ≤ a := by rw [Int32.lt_iff_toInt_lt, Int32.le_iff_toInt_le, h63, h64]; omega
  unfold m_X8_isCell m_X8_in m_X0_isCell
  simp only [e]
theorem isCell_of {a : Int32} (h : ¬ m_X0_isCell a = false) : ∃ c : Nat, c < 64 ∧ a = nI c := vp_in_of (isCell_in h) (by decide)
theorem zwithin_of {a : Int32} {lo hi : Nat} (hlo : lo ≤ hi) (hhi : hi < 2 ^ 31) (h : ¬ m_X7_isWithin a (nI lo) (nI hi) = false) : ∃ c : Nat, lo ≤ c ∧ c ≤ hi ∧ a = nI c := by
  have h' := of_b h
  rw [in_iff] at h'
  obtain ⟨h1, h2⟩ := h'
  rw [nI_toInt (by omega)] at h1 h2
  refine ⟨a.toInt.toNat, by omega, by omega, ?_⟩
  apply Int32.toInt_inj.mp
  rw [nI_toInt (by omega)]; omega
theorem fst_none {p : Nat → Bool} {r : Nat → Int32} : ∀ n d, (∀ e, d ≤ e → e < d + n → ¬ p e = true) → fstD p r n d = none
  | 0, _, _ => rfl
  | n + 1, d, h => by rw [fstD, if_neg (h d (Nat.le_refl _) (by omega))]; exact fst_none n (d + 1) (fun e h1 h2 => h e (by omega) (by omega))
section LOOK
variable {n w d t : Nat} {K LC LS LF RO : Nat → Int32}
theorem lampIn2 (hn : n ≤ 6) {c : Nat} : (m_X5_lampIn (nI n) LC (nI c) = -4 ∧ ∀ j, j < n → LC j ≠ nI c) ∨ ∃ j, j < n ∧ m_X5_lampIn (nI n) LC (nI c) = nI j ∧ LC j = nI c := by
  have e : m_X5_lampIn (nI n) LC (nI c) = (fstD (fun j => decide (LC j = nI c)) nI n 0).getD (-4) := by
    unfold m_X5_lampIn
    rw [nI_clamp (show n < 2 ^ 31 by omega)]
    exact fst_lp (p := fun j => decide (LC j = nI c)) (r := nI) n (fun k hk => by
      simp only [f_X5_lampIn_2, nI_clamp (show k < 2 ^ 31 by omega), decide_eq_true_eq]) n 0 (Nat.zero_add n)
  rw [e]
  by_cases q : ∃ j, j < n ∧ LC j = nI c
  · obtain ⟨j, hj, hc⟩ := q
    obtain ⟨i, -, h2, h3, h4⟩ := fst_ex (p := fun j => decide (LC j = nI c)) (r := nI) n 0 ⟨j, Nat.zero_le _, by omega, decide_eq_true hc⟩
    rw [h4]
    exact Or.inr ⟨i, by omega, rfl, of_decide_eq_true h3⟩
  · rw [fst_none (p := fun j => decide (LC j = nI c)) n 0 (fun i _ h2 h3 => q ⟨i, by omega, of_decide_eq_true h3⟩)]
    exact Or.inl ⟨rfl, fun j hj hc => q ⟨j, hj, hc⟩⟩
theorem lampIn8 (h : zLR n LC LS LF RO) (h1 : RO 128 = nI n) {c : Nat} : (m_X8_lampIn RO (nI c) = -4 ∧ ∀ j, j < n → LC j ≠ nI c) ∨ ∃ j, j < n ∧ m_X8_lampIn RO (nI c) = nI j ∧ LC j = nI c := by
  have hn := h.1
  have key : ∀ k, k ≤ n → (itr (f_X8_lampIn_5 RO (nI c)) k (-4) = -4 ∧ ∀ j, j < k → LC j ≠ nI c) ∨ ∃ j, j < k ∧ itr (f_X8_lampIn_5 RO (nI c)) k (-4) = nI j ∧ LC j = nI c := by
    intro k
    induction k with
    | zero => intro _; exact Or.inl ⟨rfl, fun j hj => by omega⟩
    | succ k ih =>
      intro hk
      have e : itr (f_X8_lampIn_5 RO (nI c)) (k + 1) (-4) = if LC k = nI c then nI k else itr (f_X8_lampIn_5 RO (nI c)) k (-4) := by
        show f_X8_lampIn_5 RO (nI c) k (itr (f_X8_lampIn_5 RO (nI c)) k (-4)) = _
        simp only [f_X8_lampIn_5, o129 k (by omega), (h.2.1 k (by omega)).1]
      rw [e]
      by_cases q : LC k = nI c
      · rw [if_pos q]; exact Or.inr ⟨k, by omega, rfl, q⟩
      · rw [if_neg q]
        rcases ih (by omega) with ⟨e1, e2⟩ | ⟨j, e1, e2, e3⟩
        · refine Or.inl ⟨e1, fun j hj => ?_⟩
          by_cases w : j = k
          · rw [w]; exact q
          · exact e2 j (by omega)
        · exact Or.inr ⟨j, by omega, e2, e3⟩
  have := key n (Nat.le_refl _)
  unfold m_X8_lampIn
  rw [h1, nI_clamp (show n < 2 ^ 31 by omega)]
  exact this
theorem lampIn_eq (h : zLR n LC LS LF RO) (h1 : RO 128 = nI n) {c : Nat} : m_X8_lampIn RO (nI c) = m_X5_lampIn (nI n) LC (nI c) := by
  have hn := h.1
  rcases lampIn8 h h1 (c := c) with ⟨e1, e2⟩ | ⟨j, e1, e2, e3⟩ <;> rcases lampIn2 (LC := LC) hn (c := c) with ⟨g1, g2⟩ | ⟨i, g1, g2, g3⟩
  · rw [e1, g1]
  · exact absurd g3 (e2 i g1)
  · exact absurd e3 (g2 j e1)
  · rw [e2, g2, h.2.2 i j g1 e1 (g3.trans e3.symm)]
theorem room_eq (hK : ∀ i, i < 64 → RO i = K i) (h : zLR n LC LS LF RO) (h1 : RO 128 = nI n) {c : Nat} (hc : c < 64) : m_X8_mayShine RO (nI c) = m_X5_hasRoomForLamp (nI n) K LC (nI c) := by
  unfold m_X8_mayShine m_X5_hasRoomForLamp
  rw [o0 c hc, nI_clamp (show c < 2 ^ 31 by omega), hK c hc, lampIn_eq h h1]
  rfl
theorem gift_given (hK : ∀ i, i < 64 → RO i = K i) (h : zLR n LC LS LF RO) {j c : Nat} (hj : j < n) (hc : c < 64) : m_X8_given RO (nI j) (nI c) = m_X2_gift K LC LS LF (nI j) (nI c) 0 := by
  rw [given_z hK h hj hc, show (0 : Int32) = nI 0 from rfl, gift_z h hj hc (by omega)]
theorem at_eq (hK : ∀ i, i < 64 → RO i = K i) (h : zLR n LC LS LF RO) (h1 : RO 128 = nI n) {c : Nat} (hc : c < 64) : m_X8_lightAt RO (nI c) = m_X2_at (nI n) K LC LS LF (nI c) := by
  rw [lightAt_z hK h h1 hc, at_z h hc]
theorem givers_eq (hK : ∀ i, i < 64 → RO i = K i) (h : zLR n LC LS LF RO) (h1 : RO 128 = nI n) {c : Nat} (hc : c < 64) : m_X8_lampsFor RO (nI c) = m_X2_givers (nI n) K LC LS LF (nI c) := by
  have hn := h.1
  unfold m_X8_lampsFor m_X2_givers
  rw [h1, nI_clamp (show n < 2 ^ 31 by omega)]
  refine itr_fn n 0 (fun k s hk => ?_)
  simp only [f_X8_lampsFor_4, f_X2_givers_5, gift_given hK h hk hc]
  by_cases q : m_X2_gift K LC LS LF (nI k) (nI c) 0 ≤ 0
  · rw [if_pos q, if_pos q, Int32.or_zero]
  · rw [if_neg q, if_neg q]
theorem bI_t (s : Int32) : s + bI true = s + 1 := rfl
theorem bI_f (s : Int32) : s + bI false = s := Int32.add_zero s
theorem sees_eq (hK : ∀ i, i < 64 → RO i = K i) {c : Nat} (hc : c < 64) : m_X8_seesMany RO (nI c) = m_X3_freeCells K (nI c) := by
  unfold m_X8_seesMany m_X3_freeCells
  refine itr_fn 64 0 (fun k s hk => ?_)
  simp only [f_X8_seesMany_4, f_X3_freeCells_5, free_eq hK hc hk]
  cases m_X3_isFreeAlong K (nI c) (nI k)
  · exact bI_f s
  · exact bI_t s
theorem cellsOf_eq (hK : ∀ i, i < 64 → RO i = K i) (h : zLR n LC LS LF RO) {j : Nat} (hj : j < n) : m_X8_cellsOf RO (nI j) = m_X2_reachOfLamp K LC LS LF (nI j) := by
  unfold m_X8_cellsOf m_X2_reachOfLamp
  refine itr_fn 64 0 (fun k s hk => ?_)
  simp only [f_X8_cellsOf_4, f_X2_reachOfLamp_5, gift_given hK h hj hk]
  by_cases q : m_X2_gift K LC LS LF (nI j) (nI k) 0 ≤ 0
  · rw [if_pos q, if_pos q]; exact bI_f s
  · rw [if_neg q, if_neg q]; exact bI_t s
theorem shine_eq (hK : ∀ i, i < 64 → RO i = K i) (h : zLR n LC LS LF RO) (h1 : RO 128 = nI n) (LG AL : Nat → Int32) {c : Nat} (hc : c < 64) : m_X8_shine RO LG c = m_X2_shine (nI n) K LC LS LF AL 0 c := by
  rw [shine8_z hK h h1 LG hc, show (0 : Int32) = nI 0 from rfl, shine2_z h AL (by omega) hc]
theorem only_eq (hK : ∀ i, i < 64 → RO i = K i) (h : zLR n LC LS LF RO) (h1 : RO 128 = nI n) (h3 : RO 149 = nI d) {j : Nat} (hj : j < n) : m_X8_litOnlyBy RO (nI j) = m_X2_needOfLamp (nI n) (nI d) K LC LS LF al0 (nI j) := by
  unfold m_X8_litOnlyBy m_X2_needOfLamp
  refine itr_fn 64 0 (fun k s hk => ?_)
  simp only [f_X8_litOnlyBy_4, f_X2_needOfLamp_11, gift_given hK h hj hk, nI_clamp (show k < 2 ^ 31 by omega), ← shine_eq hK h h1 al0 al0 hk, shine8_z hK h h1 al0 hk, lightAt_z hK h h1 hk, h3]
  by_cases q : nI (zsmN K LC LS LF 0 k n) < nI d
  · rw [if_pos q, if_pos q]; exact bI_f s
  · rw [if_neg q, if_neg q]
    by_cases q2 : nI d ≤ nI (zsmN K LC LS LF 0 k n) - m_X2_gift K LC LS LF (nI j) (nI k) 0
    · rw [if_pos q2, if_pos q2]; exact bI_f s
    · rw [if_neg q2, if_neg q2]; exact bI_t s
theorem kinds_eq (hK : ∀ i, i < 64 → RO i = K i) (kd : Int32) : m_X8_kinds RO kd = m_X5_cellsOfKind K kd := by
  unfold m_X8_kinds m_X5_cellsOfKind
  refine itr_fn 64 0 (fun k s hk => ?_)
  simp only [f_X8_kinds_4, f_X5_cellsOfKind_4, o0 k hk, nI_clamp (show k < 2 ^ 31 by omega), hK k hk]
  by_cases q : K k = kd
  · rw [if_pos q, if_pos q]; exact bI_t s
  · rw [if_neg q, if_neg q]; exact bI_f s
theorem all_eq (hK : ∀ i, i < 64 → RO i = K i) (h : zLR n LC LS LF RO) (h1 : RO 128 = nI n) (LG : Nat → Int32) : m_X8_allLight RO LG = m_X2_sum (nI n) K LC LS LF al0 := by
  unfold m_X8_allLight m_X2_sum
  refine itr_fn 64 0 (fun k s hk => ?_)
  simp only [f_X8_allLight_8, f_X2_sum_10, nI_clamp (show k < 2 ^ 31 by omega), shine_eq hK h h1 LG al0 hk]
theorem bright_eq (hK : ∀ i, i < 64 → RO i = K i) (h : zLR n LC LS LF RO) (h1 : RO 128 = nI n) (LG : Nat → Int32) : m_X8_brightest RO LG = m_X2_brightest (nI n) K LC LS LF al0 := by
  unfold m_X8_brightest m_X2_brightest
  rw [lpx_fn (f := f_X8_brightest_8 RO LG) (g := f_X2_brightest_10 (nI n) K LC LS LF al0) (fun _ t => vp_in t 64) 63 1 0 (vp_in_nI (n := 0) (by decide) (by decide)) (fun k s hk hs => by
    obtain ⟨c, hc, rfl⟩ := vp_in_of hs (by decide)
    refine ⟨?_, fun s' e => ?_⟩
    · simp only [f_X8_brightest_8, f_X2_brightest_10, nI_clamp (show k < 2 ^ 31 by omega), nI_clamp (show c < 2 ^ 31 by omega), shine_eq hK h h1 LG al0 hc, shine_eq hK h h1 LG al0 (show k < 64 by omega)]
    · rcases br_step RO LG k (nI c) with q | q
      · rw [q] at e; rw [← Sum.inr.inj e]; exact hs
      · rw [q] at e; rw [← Sum.inr.inj e]; exact vp_in_nI (by omega) (by decide))]
theorem litW_eq (hK : ∀ i, i < 64 → RO i = K i) (h : zLR n LC LS LF RO) (h1 : RO 128 = nI n) (hd : d ≤ 20) (h3 : RO 149 = nI d) (LG : Nat → Int32) {s c : Nat} (hs : s ≤ 9) (hc : c < 64) : m_X8_litWith RO (m_X8_shine RO LG) (nI c) (nI s) = m_X2_litWithLamp (nI d) K (m_X2_shine (nI n) K LC LS LF al0 0) (nI s) (nI c) := by
  unfold m_X8_litWith m_X2_litWithLamp
  refine itr_fn 64 0 (fun k r hk => ?_)
  have b := smN_216 (K := K) h (sp := 0) hk
  have b2 := str_36 hc hk hs
  simp only [f_X8_litWith_5, f_X2_litWithLamp_6, nI_clamp (show k < 2 ^ 31 by omega), ← shine_eq hK h h1 al0 al0 hk, shine8_z hK h h1 _ hk, h3, str8_z hc hk hs, str2_z hc hk hs, free_eq hK hc hk, nI_add]
  generalize 8 * s / (dnN c k).toNat = g at b2 ⊢
  generalize zsmN K LC LS LF 0 k n = m at b ⊢
  have e1 : nI d - nI m = oI ((d : Int) - m) := by rw [nI_oI, nI_oI, oI_sub]
  rw [e1]
  have sz : zsm ((d : Int) - m) := zsm_of (by omega) (by omega)
  have i1 : nI d ≤ nI m ↔ d ≤ m := nI_leI (by omega) (by omega)
  have i2 : oI ((d : Int) - m) ≤ 0 ↔ d ≤ m := by rw [oI_le0 sz]; omega
  have i3 : nI (m + g) < nI d ↔ m + g < d := nI_ltI (by omega) (by omega)
  have i4 : nI g < oI ((d : Int) - m) ↔ m + g < d := by rw [nI_oI, oI_lt (zsm_of (by omega) (by omega)) sz]; omega
  simp only [i1, i2, i3, i4]
  by_cases q1 : d ≤ m
  · rw [if_pos q1, if_pos q1]; exact bI_t r
  · rw [if_neg q1, if_neg q1]
    by_cases q2 : m + g < d
    · rw [if_pos q2, if_pos q2]; exact bI_f r
    · rw [if_neg q2, if_neg q2]
      cases m_X3_isFreeAlong K (nI c) (nI k)
      · exact bI_f r
      · exact bI_t r
theorem best_eq (hK : ∀ i, i < 64 → RO i = K i) (h : zLR n LC LS LF RO) (h1 : RO 128 = nI n) (hd : d ≤ 20) (h3 : RO 149 = nI d) (LG : Nat → Int32) (sr : Int32) : m_X8_bestLamp RO LG sr = m_X7_bestLamp (nI n) (nI d) K LC LS LF sr := by
  unfold m_X8_bestLamp m_X7_bestLamp
  rw [in_eq7]
  by_cases q : m_X7_isWithin sr 1 9 = false
  · rw [if_pos q, if_pos q]
  · rw [if_neg q, if_neg q]
    obtain ⟨s, h4, h5, rfl⟩ := zwithin_of (lo := 1) (hi := 9) (by decide) (by decide) q
    unfold m_X2_bestCell
    exact congrArg Prod.snd (itr_fn (f := f_X8_bestLamp_24 RO LG (nI s)) (g := f_X2_bestCell_15 (nI n) (nI d) K LC LS LF al0 (nI s)) 64 ((-1 : Int32), (-4 : Int32)) (fun k r hk => by
      simp only [f_X8_bestLamp_24, f_X2_bestCell_15, room_eq hK h h1 hk, litW_eq hK h h1 hd h3 LG h5 hk]))
theorem isLamp_eq (hn : n ≤ 6) (h1 : RO 128 = nI n) (j : Int32) : m_X8_isLamp RO j = m_X5_isLamp (nI n) j := by
  unfold m_X8_isLamp m_X8_in m_X5_isLamp
  have e : RO 128 - 1 < j ↔ nI n ≤ j := by
    rw [h1, Int32.lt_iff_toInt_lt, Int32.le_iff_toInt_le, nI_toInt (by omega), show nI n - 1 = oI ((n : Int) - 1) by rw [nI_oI, oI_l1, oI_sub], oI_toInt (zsm_of (by omega) (by omega))]
    omega
  simp only [e]
theorem isLamp_of (hn : n ≤ 6) {j : Int32} (h : ¬ m_X5_isLamp (nI n) j = false) : ∃ i : Nat, i < n ∧ j = nI i := by
  obtain ⟨h1, h2⟩ := isLamp_lt h
  rw [nI_toInt (by omega)] at h2
  refine ⟨j.toInt.toNat, by omega, ?_⟩
  apply Int32.toInt_inj.mp
  rw [nI_toInt (by omega)]; omega
end LOOK
