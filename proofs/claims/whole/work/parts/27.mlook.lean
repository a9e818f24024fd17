/-- rounds enough, of a number that nothing unfolds -/
noncomputable def fuelN : Nat := (Classical.choice (⟨⟨2000000, Nat.le_refl _⟩⟩ : Nonempty {n : Nat // 2000000 ≤ n})).1
theorem fuelN_ge : 2000000 ≤ fuelN := (Classical.choice (⟨⟨2000000, Nat.le_refl _⟩⟩ : Nonempty {n : Nat // 2000000 ≤ n})).2
/-- the state behind a loop, left early or not -/
def lpe {σ : Type} (x : σ ⊕ σ) : σ := match x with
  | .inl t => t
  | .inr t => t
theorem lpe_eq {σ : Type} {x : σ ⊕ σ} {t : σ} (h : x = .inl t ∨ x = .inr t) : t = lpe x := by
  rcases h with h | h <;> rw [h] <;> rfl
theorem lpe_ind {σ : Type} {f : Nat → σ → σ ⊕ σ} (I : σ → Prop) (hs : ∀ k s, I s → (∀ t, f k s = .inl t → I t) ∧ (∀ t, f k s = .inr t → I t)) : ∀ (n i0 : Nat) (s0 : σ), I s0 → I (lpe (lpx f n i0 s0)) := by
  intro n
  induction n with
  | zero => intro i0 s0 h0; exact h0
  | succ n ih =>
    intro i0 s0 h0
    rw [lpx]
    cases hf : f i0 s0 with
    | inl r => exact (hs i0 s0 h0).1 r hf
    | inr s' => exact ih (i0 + 1) s' ((hs i0 s0 h0).2 s' hf)
theorem itr_ind {σ : Type} {f : Nat → σ → σ} (I : σ → Prop) (n : Nat) (hs : ∀ k s, k < n → I s → I (f k s)) (s0 : σ) (h0 : I s0) : I (itr f n s0) := by
  induction n with
  | zero => exact h0
  | succ n ih => exact hs n _ (Nat.lt_succ_self n) (ih (fun k s hk => hs k s (Nat.lt_succ_of_lt hk)))
/-- how many cells have a cost -/
def cntC (C : Nat → Int32) : Nat → Nat
  | 0 => 0
  | n + 1 => cntC C n + (if C n = -4 then 0 else 1)
def muC (C : Nat → Int32) : Nat → Nat
  | 0 => 0
  | n + 1 => muC C n + (if C n = -4 then 14000 else (C n).toInt.toNat)
theorem cntC_le (C : Nat → Int32) : ∀ n, cntC C n ≤ n
  | 0 => Nat.le_refl 0
  | n + 1 => by have := cntC_le C n; rw [cntC]; split <;> omega
theorem cntC_lt {C : Nat → Int32} {x : Nat} (hx : C x = -4) : ∀ n, x < n → cntC C n < n := by
  intro n
  induction n with
  | zero => intro h; omega
  | succ n ih =>
    intro h
    rw [cntC]
    by_cases q : x = n
    · subst q; rw [if_pos hx]; have := cntC_le C x; omega
    · have := ih (by omega); split <;> omega
theorem cntC_pos {C : Nat → Int32} {x : Nat} (hx : C x ≠ -4) : ∀ n, x < n → 1 ≤ cntC C n := by
  intro n
  induction n with
  | zero => intro h; omega
  | succ n ih =>
    intro h
    rw [cntC]
    by_cases q : x = n
    · subst q; rw [if_neg hx]; omega
    · have := ih (by omega); omega
theorem cntC_upd {C : Nat → Int32} {x : Nat} {v : Int32} (hv : v ≠ -4) : ∀ n, cntC (upd C x v) n = cntC C n + (if x < n ∧ C x = -4 then 1 else 0) := by
  intro n
  induction n with
  | zero => rw [if_neg (by omega)]; rfl
  | succ n ih =>
    rw [cntC, cntC, ih]
    by_cases q : n = x
    · subst q
      rw [pk_us, if_neg hv]
      by_cases q2 : C n = -4
      · rw [if_neg (by omega), if_pos q2, if_pos ⟨by omega, q2⟩]
      · rw [if_neg (by omega), if_neg q2, if_neg (fun h => q2 h.2)]
    · rw [pk_un q]
      have e : (x < n + 1 ∧ C x = -4) ↔ (x < n ∧ C x = -4) := ⟨fun h => ⟨by omega, h.2⟩, fun h => ⟨by omega, h.2⟩⟩
      simp only [e]
      omega
theorem muC_upd {C : Nat → Int32} {x : Nat} {v : Int32} (hv : v ≠ -4) : ∀ n, x < n → muC (upd C x v) n + (if C x = -4 then 14000 else (C x).toInt.toNat) = muC C n + v.toInt.toNat := by
  intro n
  induction n with
  | zero => intro h; omega
  | succ n ih =>
    intro h
    rw [muC, muC]
    by_cases q : n = x
    · subst q
      rw [pk_us, if_neg hv]
      have : ∀ k, k ≤ n → muC (upd C n v) k = muC C k := by
        intro k
        induction k with
        | zero => intro _; rfl
        | succ k ihk => intro hk; rw [muC, muC, ihk (by omega), pk_un (by omega)]
      rw [this n (Nat.le_refl n)]; omega
    · rw [pk_un q]
      have := ih (by omega)
      omega
/-- costs are not below 0, and not above what so many cells can bring -/
def JC (C : Nat → Int32) : Prop := ∀ c : Nat, c < 64 → C c = -4 ∨ (0 ≤ (C c).toInt ∧ (C c).toInt + 217 ≤ 217 * (cntC C 64 : Int))
theorem JC_put {C : Nat → Int32} (h : JC C) {x : Nat} (hx : x < 64) {b : Int32} (hb : 0 ≤ b.toInt ∧ b.toInt ≤ 217 * (cntC C 64 : Int)) (hi : C x = -4 ∨ b < C x) : JC (upd C x b) ∧ muC (upd C x b) 64 < muC C 64 := by
  have hne : b ≠ -4 := fun e => by rw [e] at hb; have : (-4 : Int32).toInt = -4 := by decide
                                   omega
  have hc := cntC_upd (C := C) (x := x) hne 64
  have hm := muC_upd (C := C) (x := x) hne 64 hx
  have h64 := cntC_le C 64
  by_cases q : C x = -4
  · rw [if_pos ⟨hx, q⟩] at hc
    rw [if_pos q] at hm
    have hlt := cntC_lt q 64 hx
    refine ⟨fun c hc2 => ?_, by omega⟩
    rw [hc]
    by_cases e : c = x
    · subst e; rw [pk_us]; right; omega
    · rw [pk_un e]
      rcases h c hc2 with h1 | h1
      · exact Or.inl h1
      · right; omega
  · have hlt : b < C x := hi.resolve_left q
    rw [Int32.lt_iff_toInt_lt] at hlt
    rw [if_neg (fun z => q z.2)] at hc
    rw [if_neg q] at hm
    have hxx := (h x hx).resolve_left q
    refine ⟨fun c hc2 => ?_, by omega⟩
    rw [hc]
    by_cases e : c = x
    · subst e; rw [pk_us]; right; omega
    · rw [pk_un e]
      rcases h c hc2 with h1 | h1
      · exact Or.inl h1
      · right; omega
theorem upd_self {C : Nat → Int32} {x : Nat} : upd C x (C x) = C := by
  funext y
  by_cases e : y = x
  · subst e; exact pk_us
  · exact pk_un e
/-- what takes does: nothing, or it puts a cost that is less -/
theorem takes_ok {C : Nat → Int32} (h : JC C) {x : Int32} (hx : vp_in x 64) {b : Int32} (hb : 0 ≤ b.toInt ∧ b.toInt ≤ 217 * (cntC C 64 : Int)) :
    JC (m_X8_takes C x b).2 ∧ muC (m_X8_takes C x b).2 64 ≤ muC C 64 ∧ ((m_X8_takes C x b).1 = true → muC (m_X8_takes C x b).2 64 < muC C 64) := by
  obtain ⟨j, hj, rfl⟩ := vp_in_of hx (by decide)
  have ej : (nI j).toNatClampNeg = j := nI_clamp (by omega)
  have key : m_X8_takes C (nI j) b = (true, upd C j b) ∧ (C j = -4 ∨ b < C j) ∨ m_X8_takes C (nI j) b = (false, C) := by
    unfold m_X8_takes
    rw [ej]
    by_cases q : C j = -4
    · rw [if_pos q]; exact Or.inl ⟨rfl, Or.inl q⟩
    · rw [if_neg q]
      by_cases q2 : C j ≤ b
      · rw [if_pos q2]; right
        show (false, upd C j (C j)) = (false, C)
        rw [upd_self]
      · rw [if_neg q2]; left
        refine ⟨rfl, Or.inr ?_⟩
        rw [Int32.lt_iff_toInt_lt]; rw [Int32.le_iff_toInt_le] at q2; omega
  rcases key with ⟨e, hi⟩ | e
  · rw [e]
    have := JC_put h hj hb hi
    exact ⟨this.1, Nat.le_of_lt this.2, fun _ => this.2⟩
  · rw [e]; exact ⟨h, Nat.le_refl _, fun z => by cases z⟩

noncomputable def f_X8_lookFrom_24 (RO : Nat → Int32) (LG : Nat → Int32) (CO : Nat → Int32) (fr : Int32) (k62 : Nat) (k91 : Nat) (t92 : Bool × (Nat → Int32)) : (Bool × (Nat → Int32)) ⊕ (Bool × (Nat → Int32)) := (if (t92.2 (nI k62).toNatClampNeg) = (-4) then (.inl (t92.1, t92.2)) else (let v111 : Bool := (if (m_X8_canGo RO (nI k62) (nI k91)) = false then t92.1 else (let v110 : Bool := (if t92.1 = false then (if ((m_X8_takes t92.2 (m_X8_next (nI k62) (nI k91)) (((t92.2 (nI k62).toNatClampNeg) + 1) + (((m_X8_begin RO LG CO fr).1) ((m_X8_next (nI k62) (nI k91))).toNatClampNeg))).1) = false then false else true) else true); v110)); (let v112 : Nat → Int32 := (if (m_X8_canGo RO (nI k62) (nI k91)) = false then t92.2 else (let v110 : Bool := (if t92.1 = false then (if ((m_X8_takes t92.2 (m_X8_next (nI k62) (nI k91)) (((t92.2 (nI k62).toNatClampNeg) + 1) + (((m_X8_begin RO LG CO fr).1) ((m_X8_next (nI k62) (nI k91))).toNatClampNeg))).1) = false then false else true) else true); (m_X8_takes t92.2 (m_X8_next (nI k62) (nI k91)) (((t92.2 (nI k62).toNatClampNeg) + 1) + (((m_X8_begin RO LG CO fr).1) ((m_X8_next (nI k62) (nI k91))).toNatClampNeg))).2)); (.inr (v111, v112)))))
noncomputable def f_X8_lookFrom_15 (RO : Nat → Int32) (LG : Nat → Int32) (CO : Nat → Int32) (fr : Int32) (k62 : Nat) (t63 : Bool × (Nat → Int32)) : Bool × (Nat → Int32) := (let t115 : Bool × (Nat → Int32) := lpe (lpx (f_X8_lookFrom_24 RO LG CO fr k62) 4 0 (t63.1, t63.2)); (t115.1, t115.2))
noncomputable def f_X8_lookFrom_7 (RO : Nat → Int32) (LG : Nat → Int32) (CO : Nat → Int32) (fr : Int32) (k2 : Nat) (t3 : Bool × (Nat → Int32)) : (((Nat → Int32) × (Nat → Int32)) ⊕ (Bool × (Nat → Int32))) ⊕ (Bool × (Nat → Int32)) := (if t3.1 = false then (.inl (.inr (t3.1, t3.2))) else (let t116 : Bool × (Nat → Int32) := itr (f_X8_lookFrom_15 RO LG CO fr) 64 (false, t3.2); (.inr (t116.1, t116.2))))
noncomputable def m_X8_lookFrom (RO : Nat → Int32) (LG : Nat → Int32) (CO : Nat → Int32) (fr : Int32) : (Nat → Int32) × (Nat → Int32) := (lpr (lpx (f_X8_lookFrom_7 RO LG CO fr) fuelN 0 (true, (m_X8_begin RO LG CO fr).2)) id (fun t119 => ((m_X8_begin RO LG CO fr).1, t119.2)))
theorem add_i {a b : Int32} (h1 : -1000000 ≤ a.toInt) (h2 : a.toInt ≤ 1000000) (h3 : -1000000 ≤ b.toInt) (h4 : b.toInt ≤ 1000000) : (a + b).toInt = a.toInt + b.toInt := by
  rw [Int32.toInt_add]
  apply Int.bmod_eq_of_le <;> omega
def RC (m : Nat) (s : Bool × (Nat → Int32)) : Prop := JC s.2 ∧ muC s.2 64 ≤ m ∧ (s.1 = true → muC s.2 64 < m)
/-- one cost more, along a step -/
theorem step_cost {C L : Nat → Int32} (h : JC C) (hL : ∀ c : Nat, c < 64 → 0 ≤ (L c).toInt ∧ (L c).toInt ≤ 216) {k : Nat} (hk : k < 64) (h1 : ¬ C k = -4) {x : Int32} (hx : vp_in x 64) :
    0 ≤ ((C k + 1) + L x.toNatClampNeg).toInt ∧ ((C k + 1) + L x.toNatClampNeg).toInt ≤ 217 * (cntC C 64 : Int) := by
  obtain ⟨j, hj, rfl⟩ := vp_in_of hx (by decide)
  rw [nI_clamp (by omega)]
  have h2 := (h k hk).resolve_left h1
  have h3 := hL j hj
  have h4 := cntC_le C 64
  have e1 : (1 : Int32).toInt = 1 := by decide
  have e2 : (C k + 1).toInt = (C k).toInt + 1 := by rw [add_i (by omega) (by omega) (by omega) (by omega), e1]
  rw [add_i (by omega) (by omega) (by omega) (by omega), e2]
  omega
theorem lf24 {RO LG CO : Nat → Int32} {fr : Int32} (hL : ∀ c : Nat, c < 64 → 0 ≤ ((m_X8_begin RO LG CO fr).1 c).toInt ∧ ((m_X8_begin RO LG CO fr).1 c).toInt ≤ 216) {kc : Nat} (hk : kc < 64) {m : Nat} (kd : Nat) (s : Bool × (Nat → Int32)) (h : RC m s) :
    (∀ t, f_X8_lookFrom_24 RO LG CO fr kc kd s = .inl t → RC m t) ∧ (∀ t, f_X8_lookFrom_24 RO LG CO fr kc kd s = .inr t → RC m t) := by
  obtain ⟨mo, C⟩ := s
  obtain ⟨hJ, hm, ht⟩ := h
  unfold f_X8_lookFrom_24
  rw [nI_clamp (by omega)]
  by_cases h1 : C kc = -4
  · rw [if_pos h1]
    exact ⟨fun t e => (by rw [← Sum.inl.inj e]; exact ⟨hJ, hm, ht⟩), fun t e => (by cases e)⟩
  rw [if_neg h1]
  by_cases h2 : m_X8_canGo RO (nI kc) (nI kd) = false
  · simp only [if_pos h2]
    exact ⟨fun t e => (by cases e), fun t e => (by rw [← Sum.inr.inj e]; exact ⟨hJ, hm, ht⟩)⟩
  simp only [if_neg h2]
  have hx := canGo_in (vp_in_nI hk (by decide)) h2
  have T := takes_ok hJ hx (step_cost hJ hL hk h1 hx)
  generalize m_X8_takes C (m_X8_next (nI kc) (nI kd)) ((C kc + 1) + (m_X8_begin RO LG CO fr).1 (m_X8_next (nI kc) (nI kd)).toNatClampNeg) = z at T
  obtain ⟨is, C'⟩ := z
  obtain ⟨t1, t2, t3⟩ := T
  refine ⟨fun t e => (by cases e), fun t e => ?_⟩
  rw [← Sum.inr.inj e]
  refine ⟨t1, Nat.le_trans t2 hm, fun hv => ?_⟩
  cases mo with
  | true => exact Nat.lt_of_le_of_lt t2 (ht rfl)
  | false =>
    cases is with
    | true => exact Nat.lt_of_lt_of_le (t3 rfl) hm
    | false => simp at hv
theorem muC_le {C : Nat → Int32} (h : JC C) : ∀ n, n ≤ 64 → muC C n ≤ 14000 * n := by
  intro n
  induction n with
  | zero => intro _; exact Nat.le_refl 0
  | succ n ih =>
    intro hn
    have := ih (by omega)
    have h4 := cntC_le C 64
    rw [muC]
    by_cases q : C n = -4
    · rw [if_pos q]; omega
    · rw [if_neg q]
      have := (h n (by omega)).resolve_left q
      omega
theorem begin_C (RO LG CO : Nat → Int32) {fr : Int32} (hf : vp_in fr 64) : ∀ c : Nat, c < 64 → (m_X8_begin RO LG CO fr).2 c = if nI c = fr then 0 else -4 := by
  obtain ⟨j, hj, rfl⟩ := vp_in_of hf (by decide)
  have key : ∀ n : Nat, n ≤ 64 → ∀ c : Nat, c < n → itr f_X8_begin_6 n CO c = -4 := by
    intro n
    induction n with
    | zero => intro _ c hc; omega
    | succ n ih =>
      intro hn c hc
      have e : itr f_X8_begin_6 (n + 1) CO = upd (itr f_X8_begin_6 n CO) (nI n).toNatClampNeg (-4) := rfl
      rw [e, nI_clamp (by omega)]
      by_cases q : c = n
      · subst q; exact pk_us
      · rw [pk_un q]; exact ih (by omega) c (by omega)
  intro c hc
  show upd (itr f_X8_begin_6 64 CO) (nI j).toNatClampNeg 0 c = _
  rw [nI_clamp (by omega)]
  by_cases q : c = j
  · subst q; rw [pk_us, if_pos rfl]
  · rw [pk_un q, key 64 (by decide) c hc, if_neg (fun e => q ((nI_eq (by omega) (by omega)).mp e))]
theorem begin_J (RO LG CO : Nat → Int32) {fr : Int32} (hf : vp_in fr 64) : JC (m_X8_begin RO LG CO fr).2 := by
  have hC := begin_C RO LG CO hf
  obtain ⟨j, hj, e⟩ := vp_in_of hf (by decide)
  have h0 : (m_X8_begin RO LG CO fr).2 j = 0 := by rw [hC j hj, if_pos e.symm]
  have hp := cntC_pos (C := (m_X8_begin RO LG CO fr).2) (x := j) (by rw [h0]; decide) 64 hj
  intro c hc
  rw [hC c hc]
  split
  · right
    have e1 : (0 : Int32).toInt = 0 := by decide
    omega
  · exact Or.inl rfl
/-- rounds that lower the sum end -/
theorem rounds_end {f : Nat → Bool × (Nat → Int32) → (((Nat → Int32) × (Nat → Int32)) ⊕ (Bool × (Nat → Int32))) ⊕ (Bool × (Nat → Int32))} (hf : ∀ k s s', JC s.2 → f k s = .inr s' → s.1 = true ∧ RC (muC s.2 64) s') {C : Nat → Int32} (h : JC C) {n : Nat} (hn : 2000000 ≤ n) : ∀ t, lpx f n 0 (true, C) ≠ .inr t := by
  intro t ht
  have hM := muC_le h 64 (Nat.le_refl 64)
  have := lpx_ind (f := f) (fun k s => JC s.2 ∧ ((s.1 = true ∧ muC s.2 64 + k ≤ muC C 64) ∨ (s.1 = false ∧ muC s.2 64 + k ≤ muC C 64 + 1))) (fun k s s' hs he => by
    obtain ⟨hJ, hk⟩ := hs
    obtain ⟨h1, h2, h3, h4⟩ := hf k s s' hJ he
    refine ⟨h2, ?_⟩
    have hk1 : muC s.2 64 + k ≤ muC C 64 := by
      rcases hk with q | q
      · exact q.2
      · rw [h1] at q; cases q.1
    cases hq : s'.1 with
    | true => left; have := h4 hq; exact ⟨rfl, by omega⟩
    | false => right; exact ⟨rfl, by omega⟩) n 0 (true, C) ⟨h, Or.inl ⟨rfl, Nat.le_refl _⟩⟩ t ht
  obtain ⟨-, q | q⟩ := this <;> omega
theorem lookFrom_ends {RO LG CO : Nat → Int32} {fr : Int32} (hL : ∀ c : Nat, c < 64 → 0 ≤ (m_X8_shine RO LG c).toInt ∧ (m_X8_shine RO LG c).toInt ≤ 216) (hf : vp_in fr 64) : ∀ t, lpx (f_X8_lookFrom_7 RO LG CO fr) fuelN 0 (true, (m_X8_begin RO LG CO fr).2) ≠ .inr t := by
  refine rounds_end (fun k s s' hJ he => ?_) (begin_J RO LG CO hf) fuelN_ge
  obtain ⟨mo, C⟩ := s
  unfold f_X8_lookFrom_7 at he
  cases mo with
  | false => simp at he
  | true =>
    refine ⟨rfl, ?_⟩
    simp only [Bool.true_eq_false, if_false] at he
    rw [← Sum.inr.inj he]
    have hz : RC (muC C 64) (itr (f_X8_lookFrom_15 RO LG CO fr) 64 (false, C)) := by
      refine itr_ind (f := f_X8_lookFrom_15 RO LG CO fr) (RC (muC C 64)) 64 (fun kc s hkc hs => ?_) (false, C) ⟨hJ, Nat.le_refl _, fun z => by cases z⟩
      have hy := lpe_ind (f := f_X8_lookFrom_24 RO LG CO fr kc) (RC (muC C 64)) (fun kd s hs => lf24 hL hkc kd s hs) 4 0 (s.1, s.2) hs
      unfold f_X8_lookFrom_15
      generalize lpe (lpx (f_X8_lookFrom_24 RO LG CO fr kc) 4 0 (s.1, s.2)) = z at hy ⊢
      exact hy
    generalize itr (f_X8_lookFrom_15 RO LG CO fr) 64 (false, C) = z at hz ⊢
    exact hz

set_option maxHeartbeats 4000000 in
set_option maxRecDepth 100000 in
theorem met_X8_lookFrom (l : Launch) (D : va_G) (y4 : vT) (aM aRo aHi aSn aAs aLg aPd aCo aEa : Nat) (sz : Nat) (ms : Int32) (sv : Bool) (ml : Int32) (RO : Nat → Int32) (LG : Nat → Int32) (CO : Nat → Int32) (fr : Int32) (hM : MI RO) (hfr : vp_in fr 64) (hSH : ∀ (LG : Nat → Int32) (c : Nat), c < 64 → 0 ≤ (m_X8_shine RO LG c).toInt ∧ (m_X8_shine RO LG c).toInt ≤ 216) : Met l yX8_lookFrom wsX8_lookFrom ({ frames := 8, cells := 0, slots := 0, locals := 187 }) (va_Pc [.ref aM, .int fr] (PreW D y4 [(aM, .inr (7, [.ref aRo, .ref aHi, .int ms, .ref aSn, .int (bI sv), .ref aAs, .ref aLg, .ref aPd, .int ml, .ref aCo, .ref aEa])), (aRo, .inl (y4.1, 151, .inl RO)), (aLg, .inl (y4.1, 64, .inl LG)), (aCo, .inl (y4.1, 64, .inl CO))] sz)) (va_Qv (fun (_ : Unit) => True) (fun _ t => PostW D (va_A [(aM, .inr (7, [.ref aRo, .ref aHi, .int ms, .ref aSn, .int (bI sv), .ref aAs, .ref aLg, .ref aPd, .int ml, .ref aCo, .ref aEa])), (aRo, .inl (y4.1, 151, .inl RO)), (aLg, .inl (y4.1, 64, .inl LG)), (aCo, .inl (y4.1, 64, .inl CO))] sz) [(aM, .inr (7, [.ref aRo, .ref aHi, .int ms, .ref aSn, .int (bI sv), .ref aAs, .ref aLg, .ref aPd, .int ml, .ref aCo, .ref aEa])), (aRo, .inl (y4.1, 151, .inl RO)), (aLg, .inl (y4.1, 64, .inl ((m_X8_lookFrom RO LG CO fr).1))), (aCo, .inl (y4.1, 64, .inl ((m_X8_lookFrom RO LG CO fr).2)))] t) (va_A [(aM, .inr (7, [.ref aRo, .ref aHi, .int ms, .ref aSn, .int (bI sv), .ref aAs, .ref aLg, .ref aPd, .int ml, .ref aCo, .ref aEa])), (aRo, .inl (y4.1, 151, .inl RO)), (aLg, .inl (y4.1, 64, .inl LG)), (aCo, .inl (y4.1, 64, .inl CO))] sz)) 0 0 (va_A [(aM, .inr (7, [.ref aRo, .ref aHi, .int ms, .ref aSn, .int (bI sv), .ref aAs, .ref aLg, .ref aPd, .int ml, .ref aCo, .ref aEa])), (aRo, .inl (y4.1, 151, .inl RO)), (aLg, .inl (y4.1, 64, .inl LG)), (aCo, .inl (y4.1, 64, .inl CO))] sz) := by
  refine Met.ofW (cc := cX8_lookFrom) (maxL := 7) (ret := none) (by decide) rfl ?_
  intro p e s m args below meth c s₁ B hml hv
  obtain ⟨rfl, hsz, hP, hK, hD0, hNW⟩ := hv
  have hx := B.exec
  have hb := B.bytes
  have hr := B.returns
  have hts := atoms_spec (ws := wsX8_lookFrom) B.pre
  have hown : s.vm.findClass RX8 = some m.cls := findClass_of_methodNamed B.named
  have hlocks := B.notSynchronized
  subst hsz
  have hD := hD0.self (sz := s.heap.size)
  generalize hAe : va_A [(aM, .inr (7, [.ref aRo, .ref aHi, .int ms, .ref aSn, .int (bI sv), .ref aAs, .ref aLg, .ref aPd, .int ml, .ref aCo, .ref aEa])), (aRo, .inl (y4.1, 151, .inl RO)), (aLg, .inl (y4.1, 64, .inl LG)), (aCo, .inl (y4.1, 64, .inl CO))] s.heap.size = A at hD ⊢
  have hA : ∀ q : Nat, s.heap.size ≤ q → A q := fun q h => by rw [← hAe]; exact Or.inr h
  have hS : va_S A s.heap s.heap [] := va_S.rf
  have hl := lv_entry ([.ref aM, .int fr]) (n := 7) (Nat.le_of_ble_eq_true rfl)
  rw [lg_entry_eq]
  generalize (lg_sl ([.ref aM, .int fr]) ++ List.replicate (7 - (lg_sl ([.ref aM, .int fr])).length) Slot.unset).toArray = ls at hl ⊢
  have hl : lv_has ls 7 [(0, .ref aM), (1, .int fr)] := hl
  have f28 := hts (.fieldLink RX8 28 "PillarLightModel" "cost" "[I") (List.mem_of_getElem? (i := 1) rfl)
  have iX8 : ∀ w ∈ wsX80, w ∈ wsX8_lookFrom := fun _ h => List.mem_cons_of_mem _ (List.mem_append_right _ h)
  have f22 := hts (.fieldLink RX8 22 "PillarLightModel" "light" "[I") (List.mem_of_getElem? (i := 2) rfl)
  refine startW (fun H locs hP hS => ?_) hP hS
  refine lv_aload_n hx hb dX8_lookFrom_0 rfl (lv_at hl 0 rfl) ?_
  refine lv_iload_n hx hb dX8_lookFrom_1 rfl (lv_at hl 1 rfl) ?_
  refine callW_v (wr := []) (wn := fun u => [(aM, .inr (7, [.ref aRo, .ref aHi, .int ms, .ref aSn, .int (bI sv), .ref aAs, .ref aLg, .ref aPd, .int ml, .ref aCo, .ref aEa])), (aRo, .inl (y4.1, 151, .inl RO)), (aLg, .inl (y4.1, 64, .inl ((m_X8_begin RO LG CO fr).1))), (aCo, .inl (y4.1, 64, .inl ((m_X8_begin RO LG CO fr).2)))]) (va_runV (As := [.int fr]) (rest := []) ⟨hx, hb, hml, hown, hts⟩ (met_X8_begin l D y4 aM aRo aHi aSn aAs aLg aPd aCo aEa H.size ms sv ml RO LG CO fr hM hfr) (cwV 1 hts gX8_lookFrom_X8_begin rfl rfl rfl (by decide +kernel) ⟨Nat.le_of_ble_eq_true rfl, Nat.le_of_ble_eq_true rfl⟩) ⟨preW_blind, va_recv hK hP (ci := 7) (q0 := 0) rfl rfl, preW_at (hP.sub (ws' := [(aM, .inr (7, [.ref aRo, .ref aHi, .int ms, .ref aSn, .int (bI sv), .ref aAs, .ref aLg, .ref aPd, .int ml, .ref aCo, .ref aEa])), (aRo, .inl (y4.1, 151, .inl RO)), (aLg, .inl (y4.1, 64, .inl LG)), (aCo, .inl (y4.1, 64, .inl CO))]) [0, 1, 2, 3] rfl) hK (hD.sub (ws' := [(aM, .inr (7, [.ref aRo, .ref aHi, .int ms, .ref aSn, .int (bI sv), .ref aAs, .ref aLg, .ref aPd, .int ml, .ref aCo, .ref aEa])), (aRo, .inl (y4.1, 151, .inl RO)), (aLg, .inl (y4.1, 64, .inl LG)), (aCo, .inl (y4.1, 64, .inl CO))]) [0, 1, 2, 3] (by decide) rfl) hNW⟩ rfl rfl hl.1 rfl (lv_room (Nat.le_of_ble_eq_true rfl)) dX8_lookFrom_2 ⟨Nat.zero_le _, Nat.zero_le _⟩) hP hD hS hA [0, 1, 2, 3] [] [0, 1, 2, 3] rfl rfl (by decide) (by decide) (fun _ => rfl) (by decide) (fun u1 H locs hw hP hD hS => ?_)
  have hP : va_P D vwCl [(aM, .inr (7, [.ref aRo, .ref aHi, .int ms, .ref aSn, .int (bI sv), .ref aAs, .ref aLg, .ref aPd, .int ml, .ref aCo, .ref aEa])), (aRo, .inl (y4.1, 151, .inl RO)), (aLg, .inl (y4.1, 64, .inl ((m_X8_begin RO LG CO fr).1))), (aCo, .inl (y4.1, 64, .inl ((m_X8_begin RO LG CO fr).2)))] H := hP
  have hD : va_D A [(aM, .inr (7, [.ref aRo, .ref aHi, .int ms, .ref aSn, .int (bI sv), .ref aAs, .ref aLg, .ref aPd, .int ml, .ref aCo, .ref aEa])), (aRo, .inl (y4.1, 151, .inl RO)), (aLg, .inl (y4.1, 64, .inl ((m_X8_begin RO LG CO fr).1))), (aCo, .inl (y4.1, 64, .inl ((m_X8_begin RO LG CO fr).2)))] := hD
  refine lv_iconst (v := 1) hx hb dX8_lookFrom_5 (by decide) ?_
  refine lv_istore_n (lv' := [(2, .int 1), (0, .ref aM), (1, .int fr)]) hx hb dX8_lookFrom_6 rfl hl (by decide) rfl (fun ls hl => ?_)
  refine cutW (X := Bool × (Nat → Int32)) 113 (fun x H locs ls => ((lpx (f_X8_lookFrom_7 RO LG CO fr) fuelN 0 (true, (m_X8_begin RO LG CO fr).2)) = .inl (.inr x) ∨ (lpx (f_X8_lookFrom_7 RO LG CO fr) fuelN 0 (true, (m_X8_begin RO LG CO fr).2)) = .inr x) ∧ va_P D vwCl [(aM, .inr (7, [.ref aRo, .ref aHi, .int ms, .ref aSn, .int (bI sv), .ref aAs, .ref aLg, .ref aPd, .int ml, .ref aCo, .ref aEa])), (aRo, .inl (y4.1, 151, .inl RO)), (aLg, .inl (y4.1, 64, .inl ((m_X8_begin RO LG CO fr).1))), (aCo, .inl (y4.1, 64, .inl x.2))] H ∧ va_D A [(aM, .inr (7, [.ref aRo, .ref aHi, .int ms, .ref aSn, .int (bI sv), .ref aAs, .ref aLg, .ref aPd, .int ml, .ref aCo, .ref aEa])), (aRo, .inl (y4.1, 151, .inl RO)), (aLg, .inl (y4.1, 64, .inl ((m_X8_begin RO LG CO fr).1))), (aCo, .inl (y4.1, 64, .inl x.2))] ∧ va_S A s.heap H locs ∧ lv_has ls 7 []) (fun x => []) ?_ (fun K113 => ?_)
  · rintro t119 H locs ls ⟨et119, hP, hD, hS, hl⟩
    have hP : va_P D vwCl [(aM, .inr (7, [.ref aRo, .ref aHi, .int ms, .ref aSn, .int (bI sv), .ref aAs, .ref aLg, .ref aPd, .int ml, .ref aCo, .ref aEa])), (aRo, .inl (y4.1, 151, .inl RO)), (aLg, .inl (y4.1, 64, .inl ((m_X8_begin RO LG CO fr).1))), (aCo, .inl (y4.1, 64, .inl t119.2))] H := hP
    have hD : va_D A [(aM, .inr (7, [.ref aRo, .ref aHi, .int ms, .ref aSn, .int (bI sv), .ref aAs, .ref aLg, .ref aPd, .int ml, .ref aCo, .ref aEa])), (aRo, .inl (y4.1, 151, .inl RO)), (aLg, .inl (y4.1, 64, .inl ((m_X8_begin RO LG CO fr).1))), (aCo, .inl (y4.1, 64, .inl t119.2))] := hD
    have hl : lv_has ls 7 [] := hl
    have em : m_X8_lookFrom RO LG CO fr = ((m_X8_begin RO LG CO fr).1, t119.2) := (by first | (simp only [m_X8_lookFrom, lpr_k et119]; done) | (simp only [m_X8_lookFrom, lpr_k et119]; rfl))
    exact W.vret hx hb hr (fun t ht hW => ⟨⟨(), rfl, trivial, ⟨by rw [ht, em]; exact hP, by rw [em]; exact hD⟩⟩, hS.F ht⟩) hS.2.2 dX8_lookFrom_113
  · refine loopX (σ := Bool × (Nat → Int32)) (ρ := ((Nat → Int32) × (Nat → Int32)) ⊕ (Bool × (Nat → Int32))) 7 (f_X8_lookFrom_7 RO LG CO fr) (fun _ _ => True) fuelN 0 (true, (m_X8_begin RO LG CO fr).2) (fun k2 t3 H locs ls => va_P D vwCl [(aM, .inr (7, [.ref aRo, .ref aHi, .int ms, .ref aSn, .int (bI sv), .ref aAs, .ref aLg, .ref aPd, .int ml, .ref aCo, .ref aEa])), (aRo, .inl (y4.1, 151, .inl RO)), (aLg, .inl (y4.1, 64, .inl ((m_X8_begin RO LG CO fr).1))), (aCo, .inl (y4.1, 64, .inl t3.2))] H ∧ va_D A [(aM, .inr (7, [.ref aRo, .ref aHi, .int ms, .ref aSn, .int (bI sv), .ref aAs, .ref aLg, .ref aPd, .int ml, .ref aCo, .ref aEa])), (aRo, .inl (y4.1, 151, .inl RO)), (aLg, .inl (y4.1, 64, .inl ((m_X8_begin RO LG CO fr).1))), (aCo, .inl (y4.1, 64, .inl t3.2))] ∧ va_S A s.heap H locs ∧ lv_has ls 7 [(2, .int (bI t3.1)), (0, .ref aM)]) trivial ⟨hP, hD, hS, lv_sub hl [0, 1] rfl⟩ (fun t118 H locs ls et118 hit118 hh => ?_) (fun k2 t3 hkk2 hjk2 hik2 hretk2 ihk2 H locs ls hh => ?_)
    · exact absurd et118 (lookFrom_ends (hSH LG) hfr _)
    · obtain ⟨hP, hD, hS, hl⟩ := hh
      have hP : va_P D vwCl [(aM, .inr (7, [.ref aRo, .ref aHi, .int ms, .ref aSn, .int (bI sv), .ref aAs, .ref aLg, .ref aPd, .int ml, .ref aCo, .ref aEa])), (aRo, .inl (y4.1, 151, .inl RO)), (aLg, .inl (y4.1, 64, .inl ((m_X8_begin RO LG CO fr).1))), (aCo, .inl (y4.1, 64, .inl t3.2))] H := hP
      have hD : va_D A [(aM, .inr (7, [.ref aRo, .ref aHi, .int ms, .ref aSn, .int (bI sv), .ref aAs, .ref aLg, .ref aPd, .int ml, .ref aCo, .ref aEa])), (aRo, .inl (y4.1, 151, .inl RO)), (aLg, .inl (y4.1, 64, .inl ((m_X8_begin RO LG CO fr).1))), (aCo, .inl (y4.1, 64, .inl t3.2))] := hD
      have hl : lv_has ls 7 [(2, .int (bI t3.1)), (0, .ref aM)] := hl
      refine lv_iload_n hx hb dX8_lookFrom_7 rfl (lv_at hl 0 rfl) ?_
      refine lb_if_eq (tgt := 113) hx hb dX8_lookFrom_8 (by decide) (fun c61 => ?_) (fun c61 => ?_)
      · have ef : (f_X8_lookFrom_7 RO LG CO fr) k2 t3 = .inl (.inr (t3.1, t3.2)) := (by first | (simp only [f_X8_lookFrom_7, if_pos c61]; done) | (simp only [f_X8_lookFrom_7, if_pos c61]; rfl))
        exact K113 (t3.1, t3.2) H locs ls ⟨Or.inl (hretk2 _ ef), hP, hD, hS, lv_sub hl [] rfl⟩
      · refine lv_iconst (v := 0) hx hb dX8_lookFrom_11 (by decide) ?_
        refine lv_istore_n (lv' := [(2, .int 0), (0, .ref aM)]) hx hb dX8_lookFrom_12 rfl hl (by decide) rfl (fun ls hl => ?_)
        refine lv_iconst (v := 0) hx hb dX8_lookFrom_13 (by decide) ?_
        refine lv_istore_n (lv' := [(3, .int 0), (2, .int 0), (0, .ref aM)]) hx hb dX8_lookFrom_14 rfl hl (by decide) rfl (fun ls hl => ?_)
        refine loopW (σ := Bool × (Nat → Int32)) 15 (f_X8_lookFrom_15 RO LG CO fr) 64 (false, t3.2) (fun k62 t63 H locs ls => va_P D vwCl [(aM, .inr (7, [.ref aRo, .ref aHi, .int ms, .ref aSn, .int (bI sv), .ref aAs, .ref aLg, .ref aPd, .int ml, .ref aCo, .ref aEa])), (aRo, .inl (y4.1, 151, .inl RO)), (aLg, .inl (y4.1, 64, .inl ((m_X8_begin RO LG CO fr).1))), (aCo, .inl (y4.1, 64, .inl t63.2))] H ∧ va_D A [(aM, .inr (7, [.ref aRo, .ref aHi, .int ms, .ref aSn, .int (bI sv), .ref aAs, .ref aLg, .ref aPd, .int ml, .ref aCo, .ref aEa])), (aRo, .inl (y4.1, 151, .inl RO)), (aLg, .inl (y4.1, 64, .inl ((m_X8_begin RO LG CO fr).1))), (aCo, .inl (y4.1, 64, .inl t63.2))] ∧ va_S A s.heap H locs ∧ lv_has ls 7 [(3, .int (nI k62)), (2, .int (bI t63.1)), (0, .ref aM)]) ⟨hP, hD, hS, lv_sub hl [0, 1, 2] rfl⟩ (fun t116 H locs ls et116 hh => ?_) (fun k62 t63 hkk62 hek62 ihk62 H locs ls hh => ?_)
        · obtain ⟨hP, hD, hS, hl⟩ := hh
          have hP : va_P D vwCl [(aM, .inr (7, [.ref aRo, .ref aHi, .int ms, .ref aSn, .int (bI sv), .ref aAs, .ref aLg, .ref aPd, .int ml, .ref aCo, .ref aEa])), (aRo, .inl (y4.1, 151, .inl RO)), (aLg, .inl (y4.1, 64, .inl ((m_X8_begin RO LG CO fr).1))), (aCo, .inl (y4.1, 64, .inl t116.2))] H := hP
          have hD : va_D A [(aM, .inr (7, [.ref aRo, .ref aHi, .int ms, .ref aSn, .int (bI sv), .ref aAs, .ref aLg, .ref aPd, .int ml, .ref aCo, .ref aEa])), (aRo, .inl (y4.1, 151, .inl RO)), (aLg, .inl (y4.1, 64, .inl ((m_X8_begin RO LG CO fr).1))), (aCo, .inl (y4.1, 64, .inl t116.2))] := hD
          have hl : lv_has ls 7 [(3, .int (nI 64)), (2, .int (bI t116.1)), (0, .ref aM)] := hl
          refine lv_iload_n hx hb dX8_lookFrom_15 rfl (lv_at hl 0 rfl) ?_
          refine lv_bipush (v := 64) hx hb dX8_lookFrom_16 (by decide) ?_
          refine lv_icmp_ge (tgt := 110) hx hb dX8_lookFrom_18 (by decide) (fun c117 => ?_) (fun c117 => absurd (nI_le (a := 64) (by omega) (by omega)) c117)
          refine lv_goto (tgt := 7) hx hb dX8_lookFrom_110 (by decide) ?_
          have ef : (f_X8_lookFrom_7 RO LG CO fr) k2 t3 = .inr (t116.1, t116.2) := (by subst et116; first | (simp only [f_X8_lookFrom_7, if_neg c61]; done) | (simp only [f_X8_lookFrom_7, if_neg c61]; rfl))
          exact ihk2 _ ef trivial H locs ls ⟨hP, hD, hS, lv_sub hl [1, 2] rfl⟩
        · obtain ⟨hP, hD, hS, hl⟩ := hh
          have hP : va_P D vwCl [(aM, .inr (7, [.ref aRo, .ref aHi, .int ms, .ref aSn, .int (bI sv), .ref aAs, .ref aLg, .ref aPd, .int ml, .ref aCo, .ref aEa])), (aRo, .inl (y4.1, 151, .inl RO)), (aLg, .inl (y4.1, 64, .inl ((m_X8_begin RO LG CO fr).1))), (aCo, .inl (y4.1, 64, .inl t63.2))] H := hP
          have hD : va_D A [(aM, .inr (7, [.ref aRo, .ref aHi, .int ms, .ref aSn, .int (bI sv), .ref aAs, .ref aLg, .ref aPd, .int ml, .ref aCo, .ref aEa])), (aRo, .inl (y4.1, 151, .inl RO)), (aLg, .inl (y4.1, 64, .inl ((m_X8_begin RO LG CO fr).1))), (aCo, .inl (y4.1, 64, .inl t63.2))] := hD
          have hl : lv_has ls 7 [(3, .int (nI k62)), (2, .int (bI t63.1)), (0, .ref aM)] := hl
          refine lv_iload_n hx hb dX8_lookFrom_15 rfl (lv_at hl 0 rfl) ?_
          refine lv_bipush (v := 64) hx hb dX8_lookFrom_16 (by decide) ?_
          refine lv_icmp_ge (tgt := 110) hx hb dX8_lookFrom_18 (by decide) (fun c90 => absurd c90 (nI_ge (b := 64) (by omega) (by omega))) (fun c90 => ?_)
          refine lv_iconst (v := 0) hx hb dX8_lookFrom_21 (by decide) ?_
          refine lv_istore (lv' := [(4, .int 0), (3, .int (nI k62)), (2, .int (bI t63.1)), (0, .ref aM)]) hx hb dX8_lookFrom_22 hl (by decide) rfl (fun ls hl => ?_)
          refine cutW (X := Bool × (Nat → Int32)) 104 (fun x H locs ls => ((lpx (f_X8_lookFrom_24 RO LG CO fr k62) 4 0 (t63.1, t63.2)) = .inl x ∨ (lpx (f_X8_lookFrom_24 RO LG CO fr k62) 4 0 (t63.1, t63.2)) = .inr x) ∧ va_P D vwCl [(aM, .inr (7, [.ref aRo, .ref aHi, .int ms, .ref aSn, .int (bI sv), .ref aAs, .ref aLg, .ref aPd, .int ml, .ref aCo, .ref aEa])), (aRo, .inl (y4.1, 151, .inl RO)), (aLg, .inl (y4.1, 64, .inl ((m_X8_begin RO LG CO fr).1))), (aCo, .inl (y4.1, 64, .inl x.2))] H ∧ va_D A [(aM, .inr (7, [.ref aRo, .ref aHi, .int ms, .ref aSn, .int (bI sv), .ref aAs, .ref aLg, .ref aPd, .int ml, .ref aCo, .ref aEa])), (aRo, .inl (y4.1, 151, .inl RO)), (aLg, .inl (y4.1, 64, .inl ((m_X8_begin RO LG CO fr).1))), (aCo, .inl (y4.1, 64, .inl x.2))] ∧ va_S A s.heap H locs ∧ lv_has ls 7 [(3, .int (nI k62)), (2, .int (bI x.1)), (0, .ref aM)]) (fun x => []) ?_ (fun K104 => ?_)
          · rintro t115 H locs ls ⟨et115, hP, hD, hS, hl⟩
            have hP : va_P D vwCl [(aM, .inr (7, [.ref aRo, .ref aHi, .int ms, .ref aSn, .int (bI sv), .ref aAs, .ref aLg, .ref aPd, .int ml, .ref aCo, .ref aEa])), (aRo, .inl (y4.1, 151, .inl RO)), (aLg, .inl (y4.1, 64, .inl ((m_X8_begin RO LG CO fr).1))), (aCo, .inl (y4.1, 64, .inl t115.2))] H := hP
            have hD : va_D A [(aM, .inr (7, [.ref aRo, .ref aHi, .int ms, .ref aSn, .int (bI sv), .ref aAs, .ref aLg, .ref aPd, .int ml, .ref aCo, .ref aEa])), (aRo, .inl (y4.1, 151, .inl RO)), (aLg, .inl (y4.1, 64, .inl ((m_X8_begin RO LG CO fr).1))), (aCo, .inl (y4.1, 64, .inl t115.2))] := hD
            have hl : lv_has ls 7 [(3, .int (nI k62)), (2, .int (bI t115.1)), (0, .ref aM)] := hl
            replace et115 : t115 = lpe (lpx (f_X8_lookFrom_24 RO LG CO fr k62) 4 0 (t63.1, t63.2)) := lpe_eq et115
            refine lv_iinc (v := nI (k62 + 1)) (lv' := [(3, .int (nI (k62 + 1))), (2, .int (bI t115.1)), (0, .ref aM)]) hx hb dX8_lookFrom_104 hl (k := 0) rfl (nI_1 _) (by decide) rfl (fun ls hl => ?_)
            refine lv_goto (tgt := 15) hx hb dX8_lookFrom_107 (by decide) ?_
            have ef : (f_X8_lookFrom_15 RO LG CO fr) k62 t63 = (t115.1, t115.2) := (by subst et115; first | (simp only [f_X8_lookFrom_15]; done) | (unfold f_X8_lookFrom_15; rfl) | rfl)
            rw [ef] at ihk62
            exact ihk62 H locs ls ⟨hP, hD, hS, lv_sub hl [0, 1, 2] rfl⟩
          · refine loopX (σ := Bool × (Nat → Int32)) (ρ := Bool × (Nat → Int32)) 24 (f_X8_lookFrom_24 RO LG CO fr k62) (fun _ _ => True) 4 0 (t63.1, t63.2) (fun k91 t92 H locs ls => va_P D vwCl [(aM, .inr (7, [.ref aRo, .ref aHi, .int ms, .ref aSn, .int (bI sv), .ref aAs, .ref aLg, .ref aPd, .int ml, .ref aCo, .ref aEa])), (aRo, .inl (y4.1, 151, .inl RO)), (aLg, .inl (y4.1, 64, .inl ((m_X8_begin RO LG CO fr).1))), (aCo, .inl (y4.1, 64, .inl t92.2))] H ∧ va_D A [(aM, .inr (7, [.ref aRo, .ref aHi, .int ms, .ref aSn, .int (bI sv), .ref aAs, .ref aLg, .ref aPd, .int ml, .ref aCo, .ref aEa])), (aRo, .inl (y4.1, 151, .inl RO)), (aLg, .inl (y4.1, 64, .inl ((m_X8_begin RO LG CO fr).1))), (aCo, .inl (y4.1, 64, .inl t92.2))] ∧ va_S A s.heap H locs ∧ lv_has ls 7 [(4, .int (nI k91)), (3, .int (nI k62)), (2, .int (bI t92.1)), (0, .ref aM)]) trivial ⟨hP, hD, hS, lv_sub hl [0, 1, 2, 3] rfl⟩ (fun t113 H locs ls et113 hit113 hh => ?_) (fun k91 t92 hkk91 hjk91 hik91 hretk91 ihk91 H locs ls hh => ?_)
            · obtain ⟨hP, hD, hS, hl⟩ := hh
              have hP : va_P D vwCl [(aM, .inr (7, [.ref aRo, .ref aHi, .int ms, .ref aSn, .int (bI sv), .ref aAs, .ref aLg, .ref aPd, .int ml, .ref aCo, .ref aEa])), (aRo, .inl (y4.1, 151, .inl RO)), (aLg, .inl (y4.1, 64, .inl ((m_X8_begin RO LG CO fr).1))), (aCo, .inl (y4.1, 64, .inl t113.2))] H := hP
              have hD : va_D A [(aM, .inr (7, [.ref aRo, .ref aHi, .int ms, .ref aSn, .int (bI sv), .ref aAs, .ref aLg, .ref aPd, .int ml, .ref aCo, .ref aEa])), (aRo, .inl (y4.1, 151, .inl RO)), (aLg, .inl (y4.1, 64, .inl ((m_X8_begin RO LG CO fr).1))), (aCo, .inl (y4.1, 64, .inl t113.2))] := hD
              have hl : lv_has ls 7 [(4, .int (nI 4)), (3, .int (nI k62)), (2, .int (bI t113.1)), (0, .ref aM)] := hl
              refine lv_iload hx hb dX8_lookFrom_24 (lv_at hl 0 rfl) ?_
              refine lv_iconst (v := 4) hx hb dX8_lookFrom_26 (by decide) ?_
              refine lv_icmp_ge (tgt := 104) hx hb dX8_lookFrom_27 (by decide) (fun c114 => ?_) (fun c114 => absurd (nI_le (a := 4) (by omega) (by omega)) c114)
              exact K104 t113 H locs ls ⟨Or.inr et113, hP, hD, hS, lv_sub hl [1, 2, 3] rfl⟩
            · obtain ⟨hP, hD, hS, hl⟩ := hh
              have hP : va_P D vwCl [(aM, .inr (7, [.ref aRo, .ref aHi, .int ms, .ref aSn, .int (bI sv), .ref aAs, .ref aLg, .ref aPd, .int ml, .ref aCo, .ref aEa])), (aRo, .inl (y4.1, 151, .inl RO)), (aLg, .inl (y4.1, 64, .inl ((m_X8_begin RO LG CO fr).1))), (aCo, .inl (y4.1, 64, .inl t92.2))] H := hP
              have hD : va_D A [(aM, .inr (7, [.ref aRo, .ref aHi, .int ms, .ref aSn, .int (bI sv), .ref aAs, .ref aLg, .ref aPd, .int ml, .ref aCo, .ref aEa])), (aRo, .inl (y4.1, 151, .inl RO)), (aLg, .inl (y4.1, 64, .inl ((m_X8_begin RO LG CO fr).1))), (aCo, .inl (y4.1, 64, .inl t92.2))] := hD
              have hl : lv_has ls 7 [(4, .int (nI k91)), (3, .int (nI k62)), (2, .int (bI t92.1)), (0, .ref aM)] := hl
              refine lv_iload hx hb dX8_lookFrom_24 (lv_at hl 0 rfl) ?_
              refine lv_iconst (v := 4) hx hb dX8_lookFrom_26 (by decide) ?_
              refine lv_icmp_ge (tgt := 104) hx hb dX8_lookFrom_27 (by decide) (fun c103 => absurd c103 (nI_ge (b := 4) (by omega) (by omega))) (fun c103 => ?_)
              refine lv_aload_n hx hb dX8_lookFrom_30 rfl (lv_at hl 3 rfl) ?_
              refine va_get (ci := 7) (v := .ref aCo) (C := RX8) (T := TX8) (N := 11) hx hb hts iX8 hown hK hP 0 rfl rfl 9 (by decide) f28 (fun _ h9 => h9) rfl dX8_lookFrom_31 ?_
              refine lv_iload_n hx hb dX8_lookFrom_34 rfl (lv_at hl 1 rfl) ?_
              refine va_iald hx hb hK hP 3 0 rfl rfl (vp_in_nI (by omega) (by decide)) dX8_lookFrom_35 ?_
              refine lv_bipush (v := (-4)) hx hb dX8_lookFrom_36 (by decide) ?_
              refine lv_icmp_eq (tgt := 104) hx hb dX8_lookFrom_38 (by decide) (fun c104 => ?_) (fun c104 => ?_)
              · have ef : (f_X8_lookFrom_24 RO LG CO fr k62) k91 t92 = .inl (t92.1, t92.2) := (by first | (simp only [f_X8_lookFrom_24, if_pos c104]; done) | (simp only [f_X8_lookFrom_24, if_pos c104]; rfl))
                exact K104 (t92.1, t92.2) H locs ls ⟨Or.inl (hretk91 _ ef), hP, hD, hS, lv_sub hl [1, 2, 3] rfl⟩
              · refine lv_aload_n hx hb dX8_lookFrom_41 rfl (lv_at hl 3 rfl) ?_
                refine lv_iload_n hx hb dX8_lookFrom_42 rfl (lv_at hl 1 rfl) ?_
                refine lv_iload hx hb dX8_lookFrom_43 (lv_at hl 0 rfl) ?_
                refine callW_i (wr := [(aLg, .inl (y4.1, 64, .inl ((m_X8_begin RO LG CO fr).1))), (aCo, .inl (y4.1, 64, .inl t92.2))]) (wn := fun u => [(aM, .inr (7, [.ref aRo, .ref aHi, .int ms, .ref aSn, .int (bI sv), .ref aAs, .ref aLg, .ref aPd, .int ml, .ref aCo, .ref aEa])), (aRo, .inl (y4.1, 151, .inl RO)), (aLg, .inl (y4.1, 64, .inl ((m_X8_begin RO LG CO fr).1))), (aCo, .inl (y4.1, 64, .inl t92.2))]) (va_runV (As := [.int (nI k62), .int (nI k91)]) (rest := []) ⟨hx, hb, hml, hown, hts⟩ (met_X8_canGo l D y4 aM aRo aHi aSn aAs aLg aPd aCo aEa H.size ms sv ml RO (nI k62) (nI k91) (vp_in_nI (by omega) (by decide))) (cwV 2 hts gX8_lookFrom_X8_canGo rfl rfl rfl (by decide +kernel) ⟨Nat.le_of_ble_eq_true rfl, Nat.le_of_ble_eq_true rfl⟩) ⟨preW_blind, va_recv hK hP (ci := 7) (q0 := 0) rfl rfl, preW_at (hP.sub (ws' := [(aM, .inr (7, [.ref aRo, .ref aHi, .int ms, .ref aSn, .int (bI sv), .ref aAs, .ref aLg, .ref aPd, .int ml, .ref aCo, .ref aEa])), (aRo, .inl (y4.1, 151, .inl RO))]) [0, 1] rfl) hK (hD.sub (ws' := [(aM, .inr (7, [.ref aRo, .ref aHi, .int ms, .ref aSn, .int (bI sv), .ref aAs, .ref aLg, .ref aPd, .int ml, .ref aCo, .ref aEa])), (aRo, .inl (y4.1, 151, .inl RO))]) [0, 1] (by decide) rfl) hNW⟩ rfl rfl hl.1 rfl (lv_room (Nat.le_of_ble_eq_true rfl)) dX8_lookFrom_45 ⟨Nat.zero_le _, Nat.zero_le _⟩) hP hD hS hA [0, 1] [2, 3] [2, 3, 0, 1] rfl rfl (by decide) (by decide) (fun _ => rfl) (by decide) (fun r u105 H locs hw hP hD hS => ?_)
                subst hw
                have hP : va_P D vwCl [(aM, .inr (7, [.ref aRo, .ref aHi, .int ms, .ref aSn, .int (bI sv), .ref aAs, .ref aLg, .ref aPd, .int ml, .ref aCo, .ref aEa])), (aRo, .inl (y4.1, 151, .inl RO)), (aLg, .inl (y4.1, 64, .inl ((m_X8_begin RO LG CO fr).1))), (aCo, .inl (y4.1, 64, .inl t92.2))] H := hP
                have hD : va_D A [(aM, .inr (7, [.ref aRo, .ref aHi, .int ms, .ref aSn, .int (bI sv), .ref aAs, .ref aLg, .ref aPd, .int ml, .ref aCo, .ref aEa])), (aRo, .inl (y4.1, 151, .inl RO)), (aLg, .inl (y4.1, 64, .inl ((m_X8_begin RO LG CO fr).1))), (aCo, .inl (y4.1, 64, .inl t92.2))] := hD
                refine cutW (X := Bool × (Nat → Int32)) 98 (fun x H locs ls => x.1 = (if (m_X8_canGo RO (nI k62) (nI k91)) = false then t92.1 else (let v110 : Bool := (if t92.1 = false then (if ((m_X8_takes t92.2 (m_X8_next (nI k62) (nI k91)) (((t92.2 (nI k62).toNatClampNeg) + 1) + (((m_X8_begin RO LG CO fr).1) ((m_X8_next (nI k62) (nI k91))).toNatClampNeg))).1) = false then false else true) else true); v110)) ∧ x.2 = (if (m_X8_canGo RO (nI k62) (nI k91)) = false then t92.2 else (let v110 : Bool := (if t92.1 = false then (if ((m_X8_takes t92.2 (m_X8_next (nI k62) (nI k91)) (((t92.2 (nI k62).toNatClampNeg) + 1) + (((m_X8_begin RO LG CO fr).1) ((m_X8_next (nI k62) (nI k91))).toNatClampNeg))).1) = false then false else true) else true); (m_X8_takes t92.2 (m_X8_next (nI k62) (nI k91)) (((t92.2 (nI k62).toNatClampNeg) + 1) + (((m_X8_begin RO LG CO fr).1) ((m_X8_next (nI k62) (nI k91))).toNatClampNeg))).2)) ∧ va_P D vwCl [(aM, .inr (7, [.ref aRo, .ref aHi, .int ms, .ref aSn, .int (bI sv), .ref aAs, .ref aLg, .ref aPd, .int ml, .ref aCo, .ref aEa])), (aRo, .inl (y4.1, 151, .inl RO)), (aLg, .inl (y4.1, 64, .inl ((m_X8_begin RO LG CO fr).1))), (aCo, .inl (y4.1, 64, .inl x.2))] H ∧ va_D A [(aM, .inr (7, [.ref aRo, .ref aHi, .int ms, .ref aSn, .int (bI sv), .ref aAs, .ref aLg, .ref aPd, .int ml, .ref aCo, .ref aEa])), (aRo, .inl (y4.1, 151, .inl RO)), (aLg, .inl (y4.1, 64, .inl ((m_X8_begin RO LG CO fr).1))), (aCo, .inl (y4.1, 64, .inl x.2))] ∧ va_S A s.heap H locs ∧ lv_has ls 7 [(4, .int (nI k91)), (3, .int (nI k62)), (2, .int (bI x.1)), (0, .ref aM)]) (fun x => []) ?_ (fun K98 => ?_)
                · rintro ⟨v111, v112⟩ H locs ls ⟨ev111, ev112, hP, hD, hS, hl⟩
                  have ev111 : v111 = (if (m_X8_canGo RO (nI k62) (nI k91)) = false then t92.1 else (let v110 : Bool := (if t92.1 = false then (if ((m_X8_takes t92.2 (m_X8_next (nI k62) (nI k91)) (((t92.2 (nI k62).toNatClampNeg) + 1) + (((m_X8_begin RO LG CO fr).1) ((m_X8_next (nI k62) (nI k91))).toNatClampNeg))).1) = false then false else true) else true); v110)) := ev111
                  have ev112 : v112 = (if (m_X8_canGo RO (nI k62) (nI k91)) = false then t92.2 else (let v110 : Bool := (if t92.1 = false then (if ((m_X8_takes t92.2 (m_X8_next (nI k62) (nI k91)) (((t92.2 (nI k62).toNatClampNeg) + 1) + (((m_X8_begin RO LG CO fr).1) ((m_X8_next (nI k62) (nI k91))).toNatClampNeg))).1) = false then false else true) else true); (m_X8_takes t92.2 (m_X8_next (nI k62) (nI k91)) (((t92.2 (nI k62).toNatClampNeg) + 1) + (((m_X8_begin RO LG CO fr).1) ((m_X8_next (nI k62) (nI k91))).toNatClampNeg))).2)) := ev112
                  have hP : va_P D vwCl [(aM, .inr (7, [.ref aRo, .ref aHi, .int ms, .ref aSn, .int (bI sv), .ref aAs, .ref aLg, .ref aPd, .int ml, .ref aCo, .ref aEa])), (aRo, .inl (y4.1, 151, .inl RO)), (aLg, .inl (y4.1, 64, .inl ((m_X8_begin RO LG CO fr).1))), (aCo, .inl (y4.1, 64, .inl v112))] H := hP
                  have hD : va_D A [(aM, .inr (7, [.ref aRo, .ref aHi, .int ms, .ref aSn, .int (bI sv), .ref aAs, .ref aLg, .ref aPd, .int ml, .ref aCo, .ref aEa])), (aRo, .inl (y4.1, 151, .inl RO)), (aLg, .inl (y4.1, 64, .inl ((m_X8_begin RO LG CO fr).1))), (aCo, .inl (y4.1, 64, .inl v112))] := hD
                  have hl : lv_has ls 7 [(4, .int (nI k91)), (3, .int (nI k62)), (2, .int (bI v111)), (0, .ref aM)] := hl
                  refine lv_iinc (v := nI (k91 + 1)) (lv' := [(4, .int (nI (k91 + 1))), (3, .int (nI k62)), (2, .int (bI v111)), (0, .ref aM)]) hx hb dX8_lookFrom_98 hl (k := 0) rfl (nI_1 _) (by decide) rfl (fun ls hl => ?_)
                  refine lv_goto (tgt := 24) hx hb dX8_lookFrom_101 (by decide) ?_
                  have ef : (f_X8_lookFrom_24 RO LG CO fr k62) k91 t92 = .inr (v111, v112) := (by subst ev112 ev111; first | (simp only [f_X8_lookFrom_24, if_neg c104]; done) | (simp only [f_X8_lookFrom_24, if_neg c104]; rfl))
                  exact ihk91 _ ef trivial H locs ls ⟨hP, hD, hS, lv_sub hl [0, 1, 2, 3] rfl⟩
                · refine lb_if_eq (tgt := 98) hx hb dX8_lookFrom_48 (by decide) (fun c106 => ?_) (fun c106 => ?_)
                  · exact K98 (t92.1, t92.2) H locs ls ⟨(by first | (simp only [if_neg c61, if_neg c104, if_pos c106]; done) | (simp only [if_neg c61, if_neg c104, if_pos c106]; rfl) | rfl), (by first | (simp only [if_neg c61, if_neg c104, if_pos c106]; done) | (simp only [if_neg c61, if_neg c104, if_pos c106]; rfl) | rfl), hP, hD, hS, lv_sub hl [0, 1, 2, 3] rfl⟩
                  · refine lv_iload_n hx hb dX8_lookFrom_51 rfl (lv_at hl 1 rfl) ?_
                    refine lv_iload hx hb dX8_lookFrom_52 (lv_at hl 0 rfl) ?_
                    refine callK_i (va_runS (As := [.int (nI k62), .int (nI k91)]) (rest := []) ⟨hx, hb, hml, hown, hts⟩ (met_X8_next l  (nI k62) (nI k91)) (va_cwS 2 hts gX8_lookFrom_X8_next rfl rfl rfl (by decide +kernel) ⟨Nat.le_of_ble_eq_true rfl, Nat.le_of_ble_eq_true rfl⟩) ⟨preS_blind, fun U hU hW => ⟨rfl, trivial⟩⟩ rfl rfl hl.1 rfl (lv_room (Nat.le_of_ble_eq_true rfl)) dX8_lookFrom_54 ⟨Nat.zero_le _, Nat.zero_le _⟩) hP hS (fun r u H locs hw hP hS => ?_)
                    subst hw
                    refine lv_istore (lv' := [(5, .int (m_X8_next (nI k62) (nI k91))), (4, .int (nI k91)), (3, .int (nI k62)), (2, .int (bI t92.1)), (0, .ref aM)]) hx hb dX8_lookFrom_57 hl (by decide) rfl (fun ls hl => ?_)
                    refine lv_aload_n hx hb dX8_lookFrom_59 rfl (lv_at hl 4 rfl) ?_
                    refine lv_iload hx hb dX8_lookFrom_60 (lv_at hl 0 rfl) ?_
                    refine lv_aload_n hx hb dX8_lookFrom_62 rfl (lv_at hl 4 rfl) ?_
                    refine va_get (ci := 7) (v := .ref aCo) (C := RX8) (T := TX8) (N := 11) hx hb hts iX8 hown hK hP 0 rfl rfl 9 (by decide) f28 (fun _ h9 => h9) rfl dX8_lookFrom_63 ?_
                    refine lv_iload_n hx hb dX8_lookFrom_66 rfl (lv_at hl 2 rfl) ?_
                    refine va_iald hx hb hK hP 3 0 rfl rfl (vp_in_nI (by omega) (by decide)) dX8_lookFrom_67 ?_
                    refine lv_iconst (v := 1) hx hb dX8_lookFrom_68 (by decide) ?_
                    refine lv_iadd hx hb dX8_lookFrom_69 ?_
                    refine lv_aload_n hx hb dX8_lookFrom_70 rfl (lv_at hl 4 rfl) ?_
                    refine va_get (ci := 7) (v := .ref aLg) (C := RX8) (T := TX8) (N := 11) hx hb hts iX8 hown hK hP 0 rfl rfl 6 (by decide) f22 (fun _ h9 => h9) rfl dX8_lookFrom_71 ?_
                    refine lv_iload hx hb dX8_lookFrom_74 (lv_at hl 0 rfl) ?_
                    refine va_iald hx hb hK hP 2 0 rfl rfl (canGo_in (vp_in_nI (by omega) (by decide)) (by assumption)) dX8_lookFrom_76 ?_
                    refine lv_iadd hx hb dX8_lookFrom_77 ?_
                    refine callW_i (wr := [(aRo, .inl (y4.1, 151, .inl RO)), (aLg, .inl (y4.1, 64, .inl ((m_X8_begin RO LG CO fr).1)))]) (wn := fun u => [(aM, .inr (7, [.ref aRo, .ref aHi, .int ms, .ref aSn, .int (bI sv), .ref aAs, .ref aLg, .ref aPd, .int ml, .ref aCo, .ref aEa])), (aRo, .inl (y4.1, 151, .inl RO)), (aLg, .inl (y4.1, 64, .inl ((m_X8_begin RO LG CO fr).1))), (aCo, .inl (y4.1, 64, .inl ((m_X8_takes t92.2 (m_X8_next (nI k62) (nI k91)) (((t92.2 (nI k62).toNatClampNeg) + 1) + (((m_X8_begin RO LG CO fr).1) ((m_X8_next (nI k62) (nI k91))).toNatClampNeg))).2)))]) (va_runV (As := [.int (m_X8_next (nI k62) (nI k91)), .int (((t92.2 (nI k62).toNatClampNeg) + 1) + (((m_X8_begin RO LG CO fr).1) ((m_X8_next (nI k62) (nI k91))).toNatClampNeg))]) (rest := []) ⟨hx, hb, hml, hown, hts⟩ (met_X8_takes l D y4 aM aRo aHi aSn aAs aLg aPd aCo aEa H.size ms sv ml t92.2 (m_X8_next (nI k62) (nI k91)) (((t92.2 (nI k62).toNatClampNeg) + 1) + (((m_X8_begin RO LG CO fr).1) ((m_X8_next (nI k62) (nI k91))).toNatClampNeg)) (canGo_in (vp_in_nI (by omega) (by decide)) (by assumption))) (cwV 2 hts gX8_lookFrom_X8_takes rfl rfl rfl (by decide +kernel) ⟨Nat.le_of_ble_eq_true rfl, Nat.le_of_ble_eq_true rfl⟩) ⟨preW_blind, va_recv hK hP (ci := 7) (q0 := 0) rfl rfl, preW_at (hP.sub (ws' := [(aM, .inr (7, [.ref aRo, .ref aHi, .int ms, .ref aSn, .int (bI sv), .ref aAs, .ref aLg, .ref aPd, .int ml, .ref aCo, .ref aEa])), (aCo, .inl (y4.1, 64, .inl t92.2))]) [0, 3] rfl) hK (hD.sub (ws' := [(aM, .inr (7, [.ref aRo, .ref aHi, .int ms, .ref aSn, .int (bI sv), .ref aAs, .ref aLg, .ref aPd, .int ml, .ref aCo, .ref aEa])), (aCo, .inl (y4.1, 64, .inl t92.2))]) [0, 3] (by decide) rfl) hNW⟩ rfl rfl hl.1 rfl (lv_room (Nat.le_of_ble_eq_true rfl)) dX8_lookFrom_78 ⟨Nat.zero_le _, Nat.zero_le _⟩) hP hD hS hA [0, 3] [1, 2] [2, 0, 1, 3] rfl rfl (by decide) (by decide) (fun _ => rfl) (by decide) (fun r u107 H locs hw hP hD hS => ?_)
                    subst hw
                    have hP : va_P D vwCl [(aM, .inr (7, [.ref aRo, .ref aHi, .int ms, .ref aSn, .int (bI sv), .ref aAs, .ref aLg, .ref aPd, .int ml, .ref aCo, .ref aEa])), (aRo, .inl (y4.1, 151, .inl RO)), (aLg, .inl (y4.1, 64, .inl ((m_X8_begin RO LG CO fr).1))), (aCo, .inl (y4.1, 64, .inl ((m_X8_takes t92.2 (m_X8_next (nI k62) (nI k91)) (((t92.2 (nI k62).toNatClampNeg) + 1) + (((m_X8_begin RO LG CO fr).1) ((m_X8_next (nI k62) (nI k91))).toNatClampNeg))).2)))] H := hP
                    have hD : va_D A [(aM, .inr (7, [.ref aRo, .ref aHi, .int ms, .ref aSn, .int (bI sv), .ref aAs, .ref aLg, .ref aPd, .int ml, .ref aCo, .ref aEa])), (aRo, .inl (y4.1, 151, .inl RO)), (aLg, .inl (y4.1, 64, .inl ((m_X8_begin RO LG CO fr).1))), (aCo, .inl (y4.1, 64, .inl ((m_X8_takes t92.2 (m_X8_next (nI k62) (nI k91)) (((t92.2 (nI k62).toNatClampNeg) + 1) + (((m_X8_begin RO LG CO fr).1) ((m_X8_next (nI k62) (nI k91))).toNatClampNeg))).2)))] := hD
                    refine lv_istore (lv' := [(6, .int (bI ((m_X8_takes t92.2 (m_X8_next (nI k62) (nI k91)) (((t92.2 (nI k62).toNatClampNeg) + 1) + (((m_X8_begin RO LG CO fr).1) ((m_X8_next (nI k62) (nI k91))).toNatClampNeg))).1))), (5, .int (m_X8_next (nI k62) (nI k91))), (4, .int (nI k91)), (3, .int (nI k62)), (2, .int (bI t92.1)), (0, .ref aM)]) hx hb dX8_lookFrom_81 hl (by decide) rfl (fun ls hl => ?_)
                    refine lv_iload_n hx hb dX8_lookFrom_83 rfl (lv_at hl 4 rfl) ?_
                    refine cutW (X := Bool) 97 (fun x H locs ls => x = (if t92.1 = false then (if ((m_X8_takes t92.2 (m_X8_next (nI k62) (nI k91)) (((t92.2 (nI k62).toNatClampNeg) + 1) + (((m_X8_begin RO LG CO fr).1) ((m_X8_next (nI k62) (nI k91))).toNatClampNeg))).1) = false then false else true) else true) ∧ va_P D vwCl [(aM, .inr (7, [.ref aRo, .ref aHi, .int ms, .ref aSn, .int (bI sv), .ref aAs, .ref aLg, .ref aPd, .int ml, .ref aCo, .ref aEa])), (aRo, .inl (y4.1, 151, .inl RO)), (aLg, .inl (y4.1, 64, .inl ((m_X8_begin RO LG CO fr).1))), (aCo, .inl (y4.1, 64, .inl ((m_X8_takes t92.2 (m_X8_next (nI k62) (nI k91)) (((t92.2 (nI k62).toNatClampNeg) + 1) + (((m_X8_begin RO LG CO fr).1) ((m_X8_next (nI k62) (nI k91))).toNatClampNeg))).2)))] H ∧ va_D A [(aM, .inr (7, [.ref aRo, .ref aHi, .int ms, .ref aSn, .int (bI sv), .ref aAs, .ref aLg, .ref aPd, .int ml, .ref aCo, .ref aEa])), (aRo, .inl (y4.1, 151, .inl RO)), (aLg, .inl (y4.1, 64, .inl ((m_X8_begin RO LG CO fr).1))), (aCo, .inl (y4.1, 64, .inl ((m_X8_takes t92.2 (m_X8_next (nI k62) (nI k91)) (((t92.2 (nI k62).toNatClampNeg) + 1) + (((m_X8_begin RO LG CO fr).1) ((m_X8_next (nI k62) (nI k91))).toNatClampNeg))).2)))] ∧ va_S A s.heap H locs ∧ lv_has ls 7 [(4, .int (nI k91)), (3, .int (nI k62)), (0, .ref aM)]) (fun x => [.int (bI x)]) ?_ (fun K97 => ?_)
                    · rintro v110 H locs ls ⟨ev110, hP, hD, hS, hl⟩
                      have ev110 : v110 = (if t92.1 = false then (if ((m_X8_takes t92.2 (m_X8_next (nI k62) (nI k91)) (((t92.2 (nI k62).toNatClampNeg) + 1) + (((m_X8_begin RO LG CO fr).1) ((m_X8_next (nI k62) (nI k91))).toNatClampNeg))).1) = false then false else true) else true) := ev110
                      have hP : va_P D vwCl [(aM, .inr (7, [.ref aRo, .ref aHi, .int ms, .ref aSn, .int (bI sv), .ref aAs, .ref aLg, .ref aPd, .int ml, .ref aCo, .ref aEa])), (aRo, .inl (y4.1, 151, .inl RO)), (aLg, .inl (y4.1, 64, .inl ((m_X8_begin RO LG CO fr).1))), (aCo, .inl (y4.1, 64, .inl ((m_X8_takes t92.2 (m_X8_next (nI k62) (nI k91)) (((t92.2 (nI k62).toNatClampNeg) + 1) + (((m_X8_begin RO LG CO fr).1) ((m_X8_next (nI k62) (nI k91))).toNatClampNeg))).2)))] H := hP
                      have hD : va_D A [(aM, .inr (7, [.ref aRo, .ref aHi, .int ms, .ref aSn, .int (bI sv), .ref aAs, .ref aLg, .ref aPd, .int ml, .ref aCo, .ref aEa])), (aRo, .inl (y4.1, 151, .inl RO)), (aLg, .inl (y4.1, 64, .inl ((m_X8_begin RO LG CO fr).1))), (aCo, .inl (y4.1, 64, .inl ((m_X8_takes t92.2 (m_X8_next (nI k62) (nI k91)) (((t92.2 (nI k62).toNatClampNeg) + 1) + (((m_X8_begin RO LG CO fr).1) ((m_X8_next (nI k62) (nI k91))).toNatClampNeg))).2)))] := hD
                      have hl : lv_has ls 7 [(4, .int (nI k91)), (3, .int (nI k62)), (0, .ref aM)] := hl
                      refine lv_istore_n (lv' := [(2, .int (bI v110)), (4, .int (nI k91)), (3, .int (nI k62)), (0, .ref aM)]) hx hb dX8_lookFrom_97 rfl hl (by decide) rfl (fun ls hl => ?_)
                      exact K98 (v110, (m_X8_takes t92.2 (m_X8_next (nI k62) (nI k91)) (((t92.2 (nI k62).toNatClampNeg) + 1) + (((m_X8_begin RO LG CO fr).1) ((m_X8_next (nI k62) (nI k91))).toNatClampNeg))).2) H locs ls ⟨(by subst ev110; first | (simp only [if_neg c61, if_neg c104, if_neg c106]; done) | (simp only [if_neg c61, if_neg c104, if_neg c106]; rfl) | rfl), (by subst ev110; first | (simp only [if_neg c61, if_neg c104, if_neg c106]; done) | (simp only [if_neg c61, if_neg c104, if_neg c106]; rfl) | rfl), hP, hD, hS, lv_sub hl [1, 2, 0, 3] rfl⟩
                    · refine lb_if_ne (tgt := 92) hx hb dX8_lookFrom_84 (by decide) (fun c108 => ?_) (fun c108 => ?_)
                      · refine lv_iconst (v := 1) hx hb dX8_lookFrom_92 (by decide) ?_
                        refine lv_goto (tgt := 97) hx hb dX8_lookFrom_93 (by decide) ?_
                        exact K97 true H locs ls ⟨(by first | (simp only [if_neg c61, if_neg c104, if_neg c106, if_neg c108]; done) | (simp only [if_neg c61, if_neg c104, if_neg c106, if_neg c108]; rfl) | rfl), hP, hD, hS, lv_sub hl [2, 3, 5] rfl⟩
                      · refine lv_iload hx hb dX8_lookFrom_87 (lv_at hl 0 rfl) ?_
                        refine lb_if_eq (tgt := 96) hx hb dX8_lookFrom_89 (by decide) (fun c109 => ?_) (fun c109 => ?_)
                        · refine lv_iconst (v := 0) hx hb dX8_lookFrom_96 (by decide) ?_
                          exact K97 false H locs ls ⟨(by first | (simp only [if_neg c61, if_neg c104, if_neg c106, if_pos c108, if_pos c109]; done) | (simp only [if_neg c61, if_neg c104, if_neg c106, if_pos c108, if_pos c109]; rfl) | rfl), hP, hD, hS, lv_sub hl [2, 3, 5] rfl⟩
                        · refine lv_iconst (v := 1) hx hb dX8_lookFrom_92 (by decide) ?_
                          refine lv_goto (tgt := 97) hx hb dX8_lookFrom_93 (by decide) ?_
                          exact K97 true H locs ls ⟨(by first | (simp only [if_neg c61, if_neg c104, if_neg c106, if_pos c108, if_neg c109]; done) | (simp only [if_neg c61, if_neg c104, if_neg c106, if_pos c108, if_neg c109]; rfl) | rfl), hP, hD, hS, lv_sub hl [2, 3, 5] rfl⟩
