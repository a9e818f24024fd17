/-! the class's state and the model's row: what holds of them, but for what is remembered -/
def zLR (n : Nat) (LC LS LF RO : Nat → Int32) : Prop :=
  n ≤ 6 ∧ (∀ i, i < n → RO (129 + i) = LC i ∧ RO (135 + i) = LS i ∧ RO (141 + i) = LF i ∧ (∃ a : Nat, a < 64 ∧ LC i = nI a) ∧ (∃ a : Nat, 1 ≤ a ∧ a ≤ 9 ∧ LS i = nI a) ∧ (∃ a : Nat, a ≤ 99 ∧ LF i = nI a)) ∧ (∀ i j, i < n → j < n → LC i = LC j → i = j)
theorem zab_sq (x y : Int) : zab (y - x) * zab (y - x) = (x - y) * (x - y) := by
  unfold zab
  split
  · rw [show x - y = -(y - x) by omega, Int.neg_mul_neg]
  · rw [show (0 : Int) - (y - x) = x - y by omega]
theorem zab_sq0 (x : Int) : zab x * zab x = x * x := by
  unfold zab
  split
  · rfl
  · rw [Int.zero_sub, Int.neg_mul_neg]
def dnN (a c : Nat) : Int := 2 + zab (zRw c - zRw a) * zab (zRw c - zRw a) + zab (zCl c - zCl a) * zab (zCl c - zCl a)
theorem dnN_b {a c : Nat} (ha : a < 64) (hc : c < 64) : 2 ≤ dnN a c ∧ dnN a c ≤ 20000 := by
  have b1 := zRw_b ha; have b2 := zRw_b hc; have b3 := zCl_b a; have b4 := zCl_b c
  have p := zab_b (d := zRw c - zRw a) (by omega)
  have q := zab_b (d := zCl c - zCl a) (by omega)
  have p1 := Int.mul_nonneg p.1 p.1
  have q1 := Int.mul_nonneg q.1 q.1
  have p2 := mulb (a := zab (zRw c - zRw a)) (b := zab (zRw c - zRw a)) (by omega) (by omega)
  have q2 := mulb (a := zab (zCl c - zCl a)) (b := zab (zCl c - zCl a)) (by omega) (by omega)
  unfold dnN
  omega
theorem str2_z {a c s : Nat} (ha : a < 64) (hc : c < 64) (hs : s ≤ 9) : m_X2_strengthAt (nI s) (nI a) (nI c) = nI (8 * s / (dnN a c).toNat) := by
  have b1 := zRw_b ha; have b2 := zRw_b hc; have b3 := zCl_b a; have b4 := zCl_b c
  have bd := dnN_b ha hc
  have e : (2 + (m_X0_row (nI c) - m_X0_row (nI a)) * (m_X0_row (nI c) - m_X0_row (nI a))) + (m_X0_column (nI c) - m_X0_column (nI a)) * (m_X0_column (nI c) - m_X0_column (nI a)) = nI (dnN a c).toNat := by
    unfold m_X0_row m_X0_column
    rw [zcl ha, zcl hc, zrw ha, zrw hc, oI_sub, oI_sub, oI_l2, oI_mul, oI_mul, oI_add, oI_add, nI_oI]
    congr 1
    rw [show (((dnN a c).toNat : Nat) : Int) = dnN a c by omega]
    unfold dnN
    rw [zab_sq0, zab_sq0]
  unfold m_X2_strengthAt
  rw [e, show (8 : Int32) * nI s = nI (8 * s) from pk_mul 8 s, pk_div (by omega) (by omega) (by omega)]
theorem str8_z {a c s : Nat} (ha : a < 64) (hc : c < 64) (hs : s ≤ 9) : m_X8_strengthAt (nI a) (nI c) (nI s) = m_X2_strengthAt (nI s) (nI a) (nI c) := by
  have b1 := zRw_b ha; have b2 := zRw_b hc; have b3 := zCl_b a; have b4 := zCl_b c
  have bd := dnN_b ha hc
  have e : (2 + ((nI a / 8) - (nI c / 8)) * ((nI a / 8) - (nI c / 8))) + ((nI a - nI a / 8 * 8) - (nI c - nI c / 8 * 8)) * ((nI a - nI a / 8 * 8) - (nI c - nI c / 8 * 8)) = nI (dnN a c).toNat := by
    rw [zcl ha, zcl hc, zrw ha, zrw hc, oI_sub, oI_sub, oI_l2, oI_mul, oI_mul, oI_add, oI_add, nI_oI]
    congr 1
    rw [show (((dnN a c).toNat : Nat) : Int) = dnN a c by omega]
    unfold dnN
    rw [zab_sq, zab_sq]
  rw [str2_z ha hc hs]
  unfold m_X8_strengthAt
  rw [e, show (8 : Int32) * nI s = nI (8 * s) from pk_mul 8 s, pk_div (by omega) (by omega) (by omega)]
theorem str_36 {a c s : Nat} (ha : a < 64) (hc : c < 64) (hs : s ≤ 9) : 8 * s / (dnN a c).toNat ≤ 36 := by
  have bd := dnN_b ha hc
  have h1 : 8 * s / (dnN a c).toNat ≤ 8 * s / 2 := Nat.div_le_div_left (by omega) (by decide)
  omega
section LGT
variable {n : Nat} {K LC LS LF RO : Nat → Int32}
/-- what a lamp gives, whatever its fuel (number of the lamp, cell) -/
def gvN (K LC LS : Nat → Int32) (j c : Nat) : Nat := if m_X3_isFreeAlong K (LC j) (nI c) = true then (m_X2_strengthAt (LS j) (LC j) (nI c)).toNatClampNeg else 0
theorem gvN_b (h : zLR n LC LS LF RO) {j c : Nat} (hj : j < n) (hc : c < 64) : gvN K LC LS j c ≤ 36 := by
  obtain ⟨-, -, -, ⟨a, ha, ea⟩, ⟨s, h1, h2, es⟩, -⟩ := h.2.1 j hj
  unfold gvN
  rw [ea, es, str2_z ha hc h2]
  have := str_36 ha hc h2
  rw [nI_clamp (by omega)]
  split <;> omega
theorem gift_z (h : zLR n LC LS LF RO) {j c sp : Nat} (hj : j < n) (hc : c < 64) (hsp : sp ≤ 1000) : m_X2_gift K LC LS LF (nI j) (nI c) (nI sp) = nI (if sp < (LF j).toNatClampNeg then gvN K LC LS j c else 0) := by
  have hn := h.1
  obtain ⟨-, -, -, ⟨a, ha, ea⟩, ⟨s, h1, h2, es⟩, ⟨f, hf, ef⟩⟩ := h.2.1 j hj
  have cj := nI_clamp (show j < 2 ^ 31 by omega)
  have b := str_36 ha hc h2
  unfold m_X2_gift gvN
  simp only [cj, ea, es, ef, str2_z ha hc h2, nI_ltI (show sp < 2 ^ 31 by omega) (show f < 2 ^ 31 by omega), nI_clamp (show f < 2 ^ 31 by omega), nI_clamp (show 8 * s / (dnN a c).toNat < 2 ^ 31 by omega)]
  by_cases c1 : sp < f
  · rw [if_pos c1, if_pos c1]
    by_cases c2 : m_X3_isFreeAlong K (nI a) (nI c) = true
    · have nf : ¬ m_X3_isFreeAlong K (nI a) (nI c) = false := by rw [c2]; decide
      rw [if_pos c2]
      by_cases c3 : nI (8 * s / (dnN a c).toNat) ≤ 0
      · rw [if_pos c3]
        rw [← nI_0, nI_leI (by omega) (by decide)] at c3
        rw [Nat.eq_zero_of_le_zero c3]; rfl
      · rw [if_neg c3, if_neg nf]
    · have c2' : m_X3_isFreeAlong K (nI a) (nI c) = false := by cases q : m_X3_isFreeAlong K (nI a) (nI c) with
        | false => rfl
        | true => exact absurd q c2
      rw [if_neg c2, if_pos c2']
      split <;> rfl
  · rw [if_neg c1, if_neg c1]; rfl
theorem given_z (hK : ∀ i, i < 64 → RO i = K i) (h : zLR n LC LS LF RO) {j c : Nat} (hj : j < n) (hc : c < 64) : m_X8_given RO (nI j) (nI c) = nI (if 0 < (LF j).toNatClampNeg then gvN K LC LS j c else 0) := by
  have hn := h.1
  obtain ⟨r1, r2, r3, ⟨a, ha, ea⟩, ⟨s, h1, h2, es⟩, ⟨f, hf, ef⟩⟩ := h.2.1 j hj
  have b := str_36 ha hc h2
  unfold m_X8_given gvN
  rw [o141 j (by omega), o129 j (by omega), o135 j (by omega), r1, r2, r3]
  simp only [ea, es, ef, str8_z ha hc h2, str2_z ha hc h2, free_eq hK ha hc, nI_clamp (show f < 2 ^ 31 by omega), nI_clamp (show 8 * s / (dnN a c).toNat < 2 ^ 31 by omega)]
  have e0 : nI f = 0 ↔ f = 0 := by rw [← nI_0]; exact nI_eq (by omega) (by decide)
  by_cases c1 : f = 0
  · rw [if_pos (e0.mpr c1), if_neg (by omega)]; rfl
  · rw [if_neg (fun q => c1 (e0.mp q)), if_pos (show 0 < f by omega)]
    cases m_X3_isFreeAlong K (nI a) (nI c) <;> rfl
/-- the sum of what n lamps give, some steps from now -/
def zsmN (K LC LS LF : Nat → Int32) (sp c : Nat) : Nat → Nat
  | 0 => 0
  | k + 1 => zsmN K LC LS LF sp c k + (if sp < (LF k).toNatClampNeg then gvN K LC LS k c else 0)
theorem smN_b (h : zLR n LC LS LF RO) {sp c : Nat} (hc : c < 64) : ∀ k, k ≤ n → zsmN K LC LS LF sp c k ≤ 36 * k
  | 0, _ => Nat.zero_le _
  | k + 1, hk => by
    have := smN_b h (sp := sp) hc k (by omega)
    have := gvN_b (K := K) h (show k < n by omega) hc
    rw [zsmN]; split <;> omega
theorem smN_216 (h : zLR n LC LS LF RO) {sp c : Nat} (hc : c < 64) : zsmN K LC LS LF sp c n ≤ 216 := by
  have := smN_b (K := K) h (sp := sp) hc n (Nat.le_refl _)
  have := h.1
  omega
theorem sum_itr {g : Nat → Int32 → Int32} {v : Nat → Nat} {S : Nat → Nat} (h0 : S 0 = 0) (hS : ∀ k, S (k + 1) = S k + v k) : ∀ n, (∀ k t, k < n → g k t = t + nI (v k)) → itr g n 0 = nI (S n)
  | 0, _ => by rw [h0]; rfl
  | n + 1, h => by
    show g n (itr g n 0) = _
    rw [h n _ (by omega), sum_itr h0 hS n (fun k t hk => h k t (by omega)), nI_add, hS]
theorem atS_z (h : zLR n LC LS LF RO) {sp c : Nat} (hsp : sp ≤ 1000) (hc : c < 64) : atS K LC LS LF (nI sp) n (nI c) = nI (zsmN K LC LS LF sp c n) :=
  sum_itr rfl (fun _ => rfl) n (fun k t hk => by
    show t + m_X2_gift K LC LS LF (nI k) (nI c) (nI sp) = _
    rw [gift_z h hk hc hsp])
theorem at_z (h : zLR n LC LS LF RO) {c : Nat} (hc : c < 64) : m_X2_at (nI n) K LC LS LF (nI c) = nI (zsmN K LC LS LF 0 c n) := by
  have hn := h.1
  unfold m_X2_at
  rw [nI_clamp (show n < 2 ^ 31 by omega)]
  exact sum_itr rfl (fun _ => rfl) n (fun k t hk => by
    show t + m_X2_gift K LC LS LF (nI k) (nI c) 0 = _
    rw [show (0 : Int32) = nI 0 from rfl, gift_z h hk hc (by omega)])
theorem lightAt_z (hK : ∀ i, i < 64 → RO i = K i) (h : zLR n LC LS LF RO) (h1 : RO 128 = nI n) {c : Nat} (hc : c < 64) : m_X8_lightAt RO (nI c) = nI (zsmN K LC LS LF 0 c n) := by
  have hn := h.1
  unfold m_X8_lightAt
  rw [h1, nI_clamp (show n < 2 ^ 31 by omega)]
  exact sum_itr rfl (fun _ => rfl) n (fun k t hk => by
    show t + m_X8_given RO (nI k) (nI c) = _
    rw [given_z hK h hk hc])
theorem shine2_z (h : zLR n LC LS LF RO) (AL : Nat → Int32) {sp c : Nat} (hsp : sp ≤ 1000) (hc : c < 64) : m_X2_shine (nI n) K LC LS LF AL (nI sp) c = nI (zsmN K LC LS LF sp c n) := by
  have hn := h.1
  rw [shine_all, if_pos hc, nI_clamp (show n < 2 ^ 31 by omega), atS_z h hsp hc]
theorem shine8_z (hK : ∀ i, i < 64 → RO i = K i) (h : zLR n LC LS LF RO) (h1 : RO 128 = nI n) (LG : Nat → Int32) {c : Nat} (hc : c < 64) : m_X8_shine RO LG c = nI (zsmN K LC LS LF 0 c n) := by
  unfold m_X8_shine
  have := sh_out (f := f_X8_shine_2 RO) (v := fun k => m_X8_lightAt RO (nI k)) (fun k t x hk => by
    simp only [f_X8_shine_2, nI_clamp (show k < 2 ^ 31 by omega)]) LG 64 (Nat.le_refl _) c
  rw [if_pos hc] at this
  refine this.trans ?_
  exact lightAt_z hK h h1 hc
theorem shine8_b (hK : ∀ i, i < 64 → RO i = K i) (h : zLR n LC LS LF RO) (h1 : RO 128 = nI n) (LG : Nat → Int32) : ∀ c : Nat, c < 64 → 0 ≤ (m_X8_shine RO LG c).toInt ∧ (m_X8_shine RO LG c).toInt ≤ 216 := by
  intro c hc
  rw [shine8_z hK h h1 LG hc]
  have := smN_216 (K := K) h (sp := 0) hc
  rw [nI_toInt (by omega)]
  omega
/-! how many cells are lit; what is seen -/
theorem lit2_z (h : zLR n LC LS LF RO) (AL : Nat → Int32) {sp d : Nat} (hsp : sp ≤ 1000) (hd : d ≤ 20) : m_X2_litCells (nI n) (nI d) K LC LS LF AL (nI sp) = nI (cntB (fun c => decide (d ≤ zsmN K LC LS LF sp c n)) 64) := by
  unfold m_X2_litCells
  refine cnt_if 64 (fun c t hc => ?_)
  have b := smN_216 (K := K) h (sp := sp) hc
  simp only [f_X2_litCells_11, nI_clamp (show c < 2 ^ 31 by omega), shine2_z h AL hsp hc, nI_ltI (show zsmN K LC LS LF sp c n < 2 ^ 31 by omega) (show d < 2 ^ 31 by omega), decide_eq_true_eq]
  by_cases q : d ≤ zsmN K LC LS LF sp c n
  · rw [if_neg (by omega), if_pos q]
  · rw [if_pos (by omega), if_neg q]
theorem lit8_z (hK : ∀ i, i < 64 → RO i = K i) (h : zLR n LC LS LF RO) (h1 : RO 128 = nI n) (LG : Nat → Int32) {d : Nat} (hd : d ≤ 20) (h2 : RO 149 = nI d) : m_X8_litCells RO LG = nI (cntB (fun c => decide (d ≤ zsmN K LC LS LF 0 c n)) 64) := by
  unfold m_X8_litCells
  refine cnt_bI 64 (fun c t hc => ?_)
  have b := smN_216 (K := K) h (sp := 0) hc
  simp only [f_X8_litCells_8, nI_clamp (show c < 2 ^ 31 by omega), shine8_z hK h h1 LG hc, h2, nI_ltI (show zsmN K LC LS LF 0 c n < 2 ^ 31 by omega) (show d < 2 ^ 31 by omega)]
  by_cases q : d ≤ zsmN K LC LS LF 0 c n
  · rw [if_neg (by omega), decide_eq_true q]
  · rw [if_pos (by omega), decide_eq_false q]
end LGT
/-- whether a cell is near -/
def nrB (w t c : Nat) : Bool := decide (zab (zRw w - zRw c) ≤ t) && decide (zab (zCl w - zCl c) ≤ t)
theorem near2_z {w t c : Nat} (hw : w < 64) (ht : t ≤ 4) (hc : c < 64) : m_X2_isNear (nI w) (nI t) (nI c) = nrB w t c := by
  have b1 := zRw_b hw; have b2 := zRw_b hc; have b3 := zCl_b w; have b4 := zCl_b c
  have p := zab_b (d := zRw w - zRw c) (by omega)
  have q := zab_b (d := zCl w - zCl c) (by omega)
  have st : zsm (t : Int) := zsm_of (by omega) (by omega)
  unfold m_X2_isNear m_X0_rowsBetween m_X0_columnsBetween m_X0_row m_X0_column nrB
  rw [zcl hw, zcl hc, zrw hw, zrw hc, oI_sub, oI_sub, iabs_z (zsm_of (by omega) (by omega)), iabs_z (zsm_of (by omega) (by omega)), nI_oI]
  rw [show (if 0 ≤ zRw c - zRw w then zRw c - zRw w else 0 - (zRw c - zRw w)) = zab (zRw w - zRw c) from zab_swap _ _, show (if 0 ≤ zCl c - zCl w then zCl c - zCl w else 0 - (zCl c - zCl w)) = zab (zCl w - zCl c) from zab_swap _ _]
  simp only [oI_lt st (zsm_of (z := zab (zRw w - zRw c)) (by omega) (by omega)), oI_lt st (zsm_of (z := zab (zCl w - zCl c)) (by omega) (by omega))]
  by_cases c1 : zab (zRw w - zRw c) ≤ t
  · by_cases c2 : zab (zCl w - zCl c) ≤ t
    · rw [if_neg (by omega), if_neg (by omega), decide_eq_true c1, decide_eq_true c2]; rfl
    · rw [if_neg (by omega), if_pos (by omega), decide_eq_true c1, decide_eq_false c2]; rfl
  · rw [if_pos (by omega), decide_eq_false c1]; rfl
theorem near8_z {RO : Nat → Int32} {w t c : Nat} (hw : w < 64) (ht : t ≤ 4) (hc : c < 64) (h1 : RO 147 = nI w) (h2 : RO 150 = nI t) : m_X8_isNear RO (nI c) = nrB w t c := by
  have b1 := zRw_b hw; have b2 := zRw_b hc; have b3 := zCl_b w; have b4 := zCl_b c
  have p := zab_b (d := zRw w - zRw c) (by omega)
  have q := zab_b (d := zCl w - zCl c) (by omega)
  have st : zsm (t : Int) := zsm_of (by omega) (by omega)
  unfold m_X8_isNear nrB
  rw [h1, h2, zcl hw, zcl hc, zrw hw, zrw hc, oI_sub, oI_sub, size_z (zsm_of (by omega) (by omega)), size_z (zsm_of (by omega) (by omega)), nI_oI]
  simp only [oI_lt st (zsm_of (z := zab (zRw w - zRw c)) (by omega) (by omega)), oI_lt st (zsm_of (z := zab (zCl w - zCl c)) (by omega) (by omega))]
  by_cases c1 : zab (zRw w - zRw c) ≤ t
  · by_cases c2 : zab (zCl w - zCl c) ≤ t
    · rw [if_neg (by omega), if_neg (by omega), decide_eq_true c1, decide_eq_true c2]; rfl
    · rw [if_neg (by omega), if_pos (by omega), decide_eq_true c1, decide_eq_false c2]; rfl
  · rw [if_pos (by omega), decide_eq_false c1]; rfl
/-- whether the walker sees a cell -/
def snB (K LC LS LF : Nat → Int32) (n w d t c : Nat) : Bool := (decide (d ≤ zsmN K LC LS LF 0 c n) || nrB w t c) && m_X3_isFreeAlong K (nI w) (nI c)
theorem seen2_z {n w d t : Nat} {K LC LS LF RO : Nat → Int32} (h : zLR n LC LS LF RO) (hw : w < 64) (hd : d ≤ 20) (ht : t ≤ 4) (AL : Nat → Int32) {c : Nat} (hc : c < 64) : bitN (m_X2_seenCells (nI n) (nI w) (nI d) (nI t) K LC LS LF AL) c = snB K LC LS LF n w d t c := by
  unfold m_X2_seenCells
  have := bits_itr (f := f_X2_seenCells_11 (nI n) (nI w) (nI d) (nI t) K LC LS LF AL) (p := snB K LC LS LF n w d t) (fun k s hk => by
    have b := smN_216 (K := K) h (sp := 0) hk
    simp only [f_X2_seenCells_11, nI_clamp (show k < 2 ^ 31 by omega)]
    rw [show (0 : Int32) = nI 0 from rfl, shine2_z h AL (by omega) hk, near2_z hw ht hk]
    simp only [nI_leI (show d < 2 ^ 31 by omega) (show zsmN K LC LS LF 0 k n < 2 ^ 31 by omega)]
    unfold snB
    by_cases c1 : d ≤ zsmN K LC LS LF 0 k n
    · rw [if_pos c1, decide_eq_true c1]
      cases m_X3_isFreeAlong K (nI w) (nI k) <;> rfl
    · rw [if_neg c1, decide_eq_false c1]
      cases nrB w t k <;> cases m_X3_isFreeAlong K (nI w) (nI k) <;> rfl) 64 (Nat.le_refl _) c hc
  rw [decide_eq_true hc, Bool.true_and] at this
  exact this
theorem seen8_z {n w d t : Nat} {K LC LS LF RO : Nat → Int32} (hK : ∀ i, i < 64 → RO i = K i) (h : zLR n LC LS LF RO) (h1 : RO 128 = nI n) (hw : w < 64) (h2 : RO 147 = nI w) (hd : d ≤ 20) (h3 : RO 149 = nI d) (ht : t ≤ 4) (h4 : RO 150 = nI t) {c : Nat} (hc : c < 64) : m_X8_isSeen RO (nI c) = snB K LC LS LF n w d t c := by
  have b := smN_216 (K := K) h (sp := 0) hc
  unfold m_X8_isSeen snB
  rw [near8_z hw ht hc h2 h4, lightAt_z hK h h1 hc, h2, h3, free_eq hK hw hc]
  simp only [nI_ltI (show zsmN K LC LS LF 0 c n < 2 ^ 31 by omega) (show d < 2 ^ 31 by omega)]
  by_cases c1 : d ≤ zsmN K LC LS LF 0 c n
  · rw [if_neg (show ¬ zsmN K LC LS LF 0 c n < d by omega), decide_eq_true c1]
    cases nrB w t c <;> cases m_X3_isFreeAlong K (nI w) (nI c) <;> rfl
  · rw [if_pos (show zsmN K LC LS LF 0 c n < d by omega), decide_eq_false c1]
    cases nrB w t c <;> cases m_X3_isFreeAlong K (nI w) (nI c) <;> rfl
