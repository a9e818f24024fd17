section DARK
variable {n w d t : Nat} {K LC LS LF RO : Nat → Int32}
def litB (K LC LS LF : Nat → Int32) (n d sp : Nat) : Prop := ∃ c, c < 64 ∧ d ≤ zsmN K LC LS LF sp c n
theorem zsm_cong {sp sp' c : Nat} : ∀ n, (∀ k, k < n → (sp < (LF k).toNatClampNeg ↔ sp' < (LF k).toNatClampNeg)) → zsmN K LC LS LF sp c n = zsmN K LC LS LF sp' c n
  | 0, _ => rfl
  | n + 1, h => by
    have e := zsm_cong (sp := sp) (sp' := sp') (c := c) n (fun k hk => h k (by omega))
    rw [zsmN, zsmN, e]
    simp only [h n (by omega)]
theorem zsm_zero {sp c : Nat} : ∀ n, (∀ k, k < n → ¬ sp < (LF k).toNatClampNeg) → zsmN K LC LS LF sp c n = 0
  | 0, _ => rfl
  | n + 1, h => by rw [zsmN, zsm_zero n (fun k hk => h k (by omega)), if_neg (h n (by omega))]
theorem fuel_n (h : zLR n LC LS LF RO) {k : Nat} (hk : k < n) : LF k = nI (LF k).toNatClampNeg ∧ (LF k).toNatClampNeg ≤ 99 := by
  obtain ⟨-, -, -, -, -, ⟨f, hf, e⟩⟩ := h.2.1 k hk
  rw [e, nI_clamp (show f < 2 ^ 31 by omega)]
  exact ⟨rfl, hf⟩
theorem lit_some (hd : 1 ≤ d) {sp : Nat} (h : litB K LC LS LF n d sp) : ∃ k, k < n ∧ sp < (LF k).toNatClampNeg := by
  obtain ⟨c, -, hc⟩ := h
  apply Classical.byContradiction
  intro q
  have := zsm_zero (K := K) (LC := LC) (LS := LS) (LF := LF) (sp := sp) (c := c) n (fun k hk w => q ⟨k, hk, w⟩)
  omega
theorem lfa_spec (h : zLR n LC LS LF RO) {s : Nat} (hs : s ≤ 99) : ∀ k, k ≤ n → (itr (f_X5_leastFuelAbove_4 LF (nI s)) k (nI s) = nI s ∧ ∀ j, j < k → ¬ s < (LF j).toNatClampNeg) ∨ ∃ r, itr (f_X5_leastFuelAbove_4 LF (nI s)) k (nI s) = nI r ∧ s < r ∧ r ≤ 99 ∧ (∃ j, j < k ∧ (LF j).toNatClampNeg = r) ∧ ∀ j, j < k → s < (LF j).toNatClampNeg → r ≤ (LF j).toNatClampNeg := by
  intro k
  induction k with
  | zero => intro _; exact Or.inl ⟨rfl, fun j hj => by omega⟩
  | succ k ih =>
    intro hk
    have hn := h.1
    obtain ⟨ef, bf⟩ := fuel_n h (show k < n by omega)
    have e : ∀ r, r ≤ 99 → f_X5_leastFuelAbove_4 LF (nI s) k (nI r) = if (LF k).toNatClampNeg ≤ s then nI r else (if r = s then LF k else (if r ≤ (LF k).toNatClampNeg then nI r else LF k)) := by
      intro r hr
      have i1 : LF k ≤ nI s ↔ (LF k).toNatClampNeg ≤ s := by rw [ef, nI_clamp (by omega)]; exact nI_leI (by omega) (by omega)
      have i2 : nI r = nI s ↔ r = s := nI_eq (by omega) (by omega)
      have i3 : nI r ≤ LF k ↔ r ≤ (LF k).toNatClampNeg := by rw [ef, nI_clamp (by omega)]; exact nI_leI (by omega) (by omega)
      simp only [f_X5_leastFuelAbove_4, nI_clamp (show k < 2 ^ 31 by omega), i1, i2, i3]
    rw [show itr (f_X5_leastFuelAbove_4 LF (nI s)) (k + 1) (nI s) = f_X5_leastFuelAbove_4 LF (nI s) k (itr (f_X5_leastFuelAbove_4 LF (nI s)) k (nI s)) from rfl]
    rcases ih (by omega) with ⟨e1, e2⟩ | ⟨r, e1, e2, e3, ⟨j0, g1, g2⟩, e4⟩
    · rw [e1, e s hs]
      by_cases c1 : (LF k).toNatClampNeg ≤ s
      · rw [if_pos c1]
        refine Or.inl ⟨rfl, fun j hj => ?_⟩
        by_cases q : j = k
        · rw [q]; omega
        · exact e2 j (by omega)
      · rw [if_neg c1, if_pos rfl]
        refine Or.inr ⟨(LF k).toNatClampNeg, ef, by omega, bf, ⟨k, by omega, rfl⟩, fun j hj hjs => ?_⟩
        by_cases q : j = k
        · rw [q]; exact Nat.le_refl _
        · exact absurd hjs (e2 j (by omega))
    · rw [e1, e r e3]
      by_cases c1 : (LF k).toNatClampNeg ≤ s
      · rw [if_pos c1]
        refine Or.inr ⟨r, rfl, e2, e3, ⟨j0, by omega, g2⟩, fun j hj hjs => ?_⟩
        by_cases q : j = k
        · rw [q] at hjs; omega
        · exact e4 j (by omega) hjs
      · rw [if_neg c1, if_neg (by omega)]
        by_cases c2 : r ≤ (LF k).toNatClampNeg
        · rw [if_pos c2]
          refine Or.inr ⟨r, rfl, e2, e3, ⟨j0, by omega, g2⟩, fun j hj hjs => ?_⟩
          by_cases q : j = k
          · rw [q]; exact c2
          · exact e4 j (by omega) hjs
        · rw [if_neg c2]
          refine Or.inr ⟨(LF k).toNatClampNeg, ef, by omega, bf, ⟨k, by omega, rfl⟩, fun j hj hjs => ?_⟩
          by_cases q : j = k
          · rw [q]; exact Nat.le_refl _
          · have := e4 j (by omega) hjs; omega
theorem lit_cells0 (h : zLR n LC LS LF RO) (hd : d ≤ 20) {sp : Nat} (hsp : sp ≤ 1000) : m_X2_litCells (nI n) (nI d) K LC LS LF al0 (nI sp) ≤ 0 ↔ ¬ litB K LC LS LF n d sp := by
  rw [lit2_z h al0 hsp hd]
  have b := cntB_le (fun c => decide (d ≤ zsmN K LC LS LF sp c n)) 64
  rw [← nI_0, nI_leI (by omega) (by decide)]
  constructor
  · rintro q ⟨c, hc, hl⟩
    have := cntB_pos (p := fun c => decide (d ≤ zsmN K LC LS LF sp c n)) (x := c) (decide_eq_true hl) 64 hc
    omega
  · intro q
    have e : ∀ m, m ≤ 64 → cntB (fun c => decide (d ≤ zsmN K LC LS LF sp c n)) m = 0 := by
      intro m
      induction m with
      | zero => intro _; rfl
      | succ m ih =>
        intro hm
        rw [cntB, ih (by omega), if_neg (fun w => q ⟨m, by omega, of_decide_eq_true w⟩)]
    rw [e 64 (Nat.le_refl _)]; exact Nat.le_refl 0
theorem dark_c (h : zLR n LC LS LF RO) (hd1 : 1 ≤ d) (hd : d ≤ 20) {D : Nat} (hD : D ≤ 99) (hD1 : ¬ litB K LC LS LF n d D) (hD2 : ∀ j, j < D → litB K LC LS LF n d j) : ∀ m k s, cntB (fun j => decide (s < (LF j).toNatClampNeg)) n ≤ m → s ≤ D → lpr (lpx (f_X7_darkIn_4 (nI n) (nI d) K LC LS LF) m k (nI s)) id (fun t => t) = nI D := by
  have hn := h.1
  intro m
  induction m with
  | zero =>
    intro k s hc hs
    have : s = D := by
      apply Classical.byContradiction
      intro q
      obtain ⟨j, hj, hf⟩ := lit_some hd1 (hD2 s (by omega))
      have := cntB_pos (p := fun j => decide (s < (LF j).toNatClampNeg)) (x := j) (decide_eq_true hf) n hj
      omega
    rw [this]; rfl
  | succ m ih =>
    intro k s hc hs
    have lc := lit_cells0 (K := K) h hd (sp := s) (by omega)
    rw [lpx]
    by_cases q : litB K LC LS LF n d s
    · have e : f_X7_darkIn_4 (nI n) (nI d) K LC LS LF k (nI s) = .inr (m_X5_leastFuelAbove (nI n) LF (nI s)) := by
        simp only [f_X7_darkIn_4]; rw [if_neg (fun w => lc.mp w q)]
      have e2 : m_X5_leastFuelAbove (nI n) LF (nI s) = itr (f_X5_leastFuelAbove_4 LF (nI s)) n (nI s) := by
        simp only [m_X5_leastFuelAbove, nI_clamp (show n < 2 ^ 31 by omega)]
      obtain ⟨j, hj, hf⟩ := lit_some hd1 q
      rw [e, e2]
      rcases lfa_spec h (show s ≤ 99 by omega) n (Nat.le_refl _) with ⟨-, g2⟩ | ⟨r, g1, g2, g3, ⟨j0, g4, g5⟩, g6⟩
      · exact absurd hf (g2 j hj)
      · rw [g1]
        refine ih (k + 1) r ?_ ?_
        · have := cntB_more (p := fun j => decide (r < (LF j).toNatClampNeg)) (q := fun j => decide (s < (LF j).toNatClampNeg)) (x := j0) (by simp only [decide_eq_true_eq]; omega) (decide_eq_true (by omega)) n g4 (fun v _ hp => by
            have := of_decide_eq_true hp
            exact decide_eq_true (by omega))
          omega
        · apply Classical.byContradiction
          intro w
          apply hD1
          obtain ⟨c, hc1, hc2⟩ := q
          refine ⟨c, hc1, ?_⟩
          rw [← zsm_cong (sp := s) (sp' := D) n (fun v hv => ⟨fun a => by have := g6 v hv a; omega, fun a => by omega⟩)]
          exact hc2
    · have e : f_X7_darkIn_4 (nI n) (nI d) K LC LS LF k (nI s) = .inl (.inr (nI s)) := by
        simp only [f_X7_darkIn_4]; rw [if_pos (lc.mpr q)]
      rw [e]
      have : s = D := by
        apply Classical.byContradiction
        intro w
        exact q (hD2 s (by omega))
      rw [this]; rfl
theorem upd_itr {f : Nat → (Nat → Int32) → (Nat → Int32)} {v : Nat → Int32} (N : Nat) (hf : ∀ k t x, k < N → f k t x = upd t k (v k) x) (t : Nat → Int32) : ∀ m, m ≤ N → ∀ x, itr f m t x = if x < m then v x else t x := by
  intro m
  induction m with
  | zero => intro _ x; rw [if_neg (by omega)]; rfl
  | succ m ih =>
    intro hm x
    show f m (itr f m t) x = _
    rw [hf m _ x (by omega)]
    by_cases e : x = m
    · subst e; rw [pk_us, if_pos (by omega)]
    · rw [pk_un e, ih (by omega) x]
      by_cases q : x < m
      · rw [if_pos q, if_pos (by omega)]
      · rw [if_neg q, if_neg (by omega)]
theorem orLoop {p : Nat → Bool} {g : Nat → Bool → Bool} : ∀ n, (∀ k b, k < n → g k b = if b = false then p k else true) → (itr g n false = true ↔ ∃ k, k < n ∧ p k = true)
  | 0, _ => ⟨fun h => absurd (show (false : Bool) = true from h) (by decide), fun ⟨k, h, _⟩ => by omega⟩
  | n + 1, h => by
    have ih := orLoop (p := p) (g := g) n (fun k b hk => h k b (by omega))
    show g n (itr g n false) = true ↔ _
    rw [h n _ (by omega)]
    cases q : itr g n false with
    | true =>
      rw [if_neg (by decide)]
      refine ⟨fun _ => ?_, fun _ => rfl⟩
      obtain ⟨k, h1, h2⟩ := ih.mp q
      exact ⟨k, by omega, h2⟩
    | false =>
      rw [if_pos rfl]
      constructor
      · intro w; exact ⟨n, by omega, w⟩
      · rintro ⟨k, h1, h2⟩
        by_cases e : k = n
        · rw [← e]; exact h2
        · have := ih.mpr ⟨k, by omega, h2⟩
          rw [q] at this; exact absurd this (by decide)
theorem each_z (hK : ∀ i, i < 64 → RO i = K i) (h : zLR n LC LS LF RO) (EA : Nat → Int32) {l c : Nat} (hl : l < n) (hc : c < 64) : itr (f_X8_darkIn_2 RO) (64 * n) EA (64 * l + c) = nI (if 0 < (LF l).toNatClampNeg then gvN K LC LS l c else 0) := by
  have hn := h.1
  have key := upd_itr (f := f_X8_darkIn_2 RO) (v := fun k => m_X8_given RO (nI (k / 64)) (nI (k % 64))) (64 * n) (fun k t x hk => by
    simp only [f_X8_darkIn_2, nI_clamp (show k < 2 ^ 31 by omega)]
    rw [(dk_div k (by omega)).2, (dk_div k (by omega)).1]) EA (64 * n) (Nat.le_refl _) (64 * l + c)
  rw [key, if_pos (by omega), show (64 * l + c) / 64 = l by omega, show (64 * l + c) % 64 = c by omega, given_z hK h hl hc]
theorem lit_m (hK : ∀ i, i < 64 → RO i = K i) (h : zLR n LC LS LF RO) (h1 : RO 128 = nI n) (hd : d ≤ 20) (h3 : RO 149 = nI d) (EA : Nat → Int32) {sp : Nat} (hsp : sp ≤ 1000) : m_X8_isLitBehind RO (itr (f_X8_darkIn_2 RO) (64 * n) EA) (nI sp) = true ↔ litB K LC LS LF n d sp := by
  have hn := h.1
  unfold m_X8_isLitBehind
  refine (orLoop (p := fun c => decide (d ≤ zsmN K LC LS LF sp c n)) 64 (fun c b hc => ?_)).trans ⟨fun ⟨c, hc, q⟩ => ⟨c, hc, of_decide_eq_true q⟩, fun ⟨c, hc, q⟩ => ⟨c, hc, decide_eq_true q⟩⟩
  have bb := smN_216 (K := K) h (sp := sp) hc
  have e : itr (f_X8_isLitBehind_16 RO (itr (f_X8_darkIn_2 RO) (64 * n) EA) (nI sp) c) n 0 = nI (zsmN K LC LS LF sp c n) :=
    sum_itr rfl (fun _ => rfl) n (fun l s hl => by
      obtain ⟨ef, bf⟩ := fuel_n h hl
      have i1 : LF l ≤ nI sp ↔ (LF l).toNatClampNeg ≤ sp := by rw [ef, nI_clamp (by omega)]; exact nI_leI (by omega) (by omega)
      simp only [f_X8_isLitBehind_16, o141 l (by omega), (h.2.1 l hl).2.2.1, i1]
      rw [show ((64 : Int32) * nI l + nI c).toNatClampNeg = 64 * l + c by rw [show (64 : Int32) * nI l = nI (64 * l) from pk_mul 64 l, nI_add, nI_clamp (by omega)], each_z hK h EA hl hc]
      congr 1
      by_cases q : (LF l).toNatClampNeg ≤ sp
      · rw [if_pos q, if_neg (by omega)]; rfl
      · rw [if_neg q, if_pos (by omega), if_pos (by omega)])
  simp only [f_X8_isLitBehind_4, h1, nI_clamp (show n < 2 ^ 31 by omega), e, h3, nI_ltI (show zsmN K LC LS LF sp c n < 2 ^ 31 by omega) (show d < 2 ^ 31 by omega)]
  by_cases q : d ≤ zsmN K LC LS LF sp c n
  · rw [if_neg (show ¬ zsmN K LC LS LF sp c n < d by omega), decide_eq_true q]
  · rw [if_pos (show zsmN K LC LS LF sp c n < d by omega), decide_eq_false q]
theorem dark_m {EB : Nat → Int32} (hl : ∀ sp, sp ≤ 1000 → (m_X8_isLitBehind RO EB (nI sp) = true ↔ litB K LC LS LF n d sp)) {D : Nat} (hD : D ≤ 99) (hD1 : ¬ litB K LC LS LF n d D) (hD2 : ∀ j, j < D → litB K LC LS LF n d j) : ∀ m k s, s ≤ D → D < s + m → lpr (lpx (f_X8_darkIn_43 RO EB) m k (nI s)) id (fun t => t) = nI D := by
  intro m
  induction m with
  | zero => intro k s h1 h2; omega
  | succ m ih =>
    intro k s h1 h2
    rw [lpx]
    by_cases q : s = D
    · have e : f_X8_darkIn_43 RO EB k (nI s) = .inl (.inr (nI s)) := by
        have : m_X8_isLitBehind RO EB (nI s) = false := by
          cases w : m_X8_isLitBehind RO EB (nI s) with
          | false => rfl
          | true => exact absurd ((hl s (by omega)).mp w) (by rw [q]; exact hD1)
        simp only [f_X8_darkIn_43]; rw [if_pos this]
      rw [e, q]; rfl
    · have e : f_X8_darkIn_43 RO EB k (nI s) = .inr (nI (s + 1)) := by
        have := (hl s (by omega)).mpr (hD2 s (by omega))
        simp only [f_X8_darkIn_43]; rw [if_neg (by rw [this]; decide), nI_1]
      rw [e]
      exact ih (k + 1) (s + 1) (by omega) (by omega)
theorem dark_eq (h : zRT n w d t K LC LS LF RO) (EA : Nat → Int32) : m_X7_darkIn (nI n) (nI d) K LC LS LF = m_X8_darkIn RO EA := by
  obtain ⟨hK, hL, h1, -, ⟨hd1, hd, h3⟩, -⟩ := h
  have hn := hL.1
  have ex : ¬ litB K LC LS LF n d 99 := fun q => by
    obtain ⟨k, hk, hf⟩ := lit_some hd1 q
    have := (fuel_n hL hk).2
    omega
  obtain ⟨D, hD1, hD2⟩ := pk_least (fun s => ¬ litB K LC LS LF n d s) ⟨99, ex⟩
  have hD2 : ∀ j, j < D → litB K LC LS LF n d j := fun j hj => Classical.byContradiction (fun q => hD2 j hj q)
  have hD : D ≤ 99 := by
    apply Classical.byContradiction
    intro q
    exact ex (hD2 99 (by omega))
  have e7 : m_X7_darkIn (nI n) (nI d) K LC LS LF = nI D := by
    unfold m_X7_darkIn
    exact dark_c hL hd1 hd hD hD1 hD2 6 0 0 (by have := cntB_le (fun j => decide (0 < (LF j).toNatClampNeg)) n; omega) (Nat.zero_le _)
  have e8 : m_X8_darkIn RO EA = nI D := by
    have e0 : m_X8_darkIn RO EA = lpr (lpx (f_X8_darkIn_43 RO (itr (f_X8_darkIn_2 RO) (64 * n) EA)) 100 0 (0 : Int32)) id (fun t16 => t16) := by
      simp only [m_X8_darkIn, h1, show (64 : Int32) * nI n = nI (64 * n) from pk_mul 64 n, nI_clamp (show 64 * n < 2 ^ 31 by omega)]
    rw [e0]
    exact dark_m (fun sp hsp => lit_m hK hL h1 hd h3 EA hsp) hD hD1 hD2 100 0 0 (Nat.zero_le _) (by omega)
  rw [e7, e8]
end DARK
