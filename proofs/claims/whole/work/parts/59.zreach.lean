/-! counts -/
theorem cnt_bI {p : Nat → Bool} {g : Nat → Int32 → Int32} : ∀ n, (∀ k s, k < n → g k s = s + bI (p k)) → itr g n 0 = nI (cntB p n)
  | 0, _ => rfl
  | n + 1, h => by
    show g n (itr g n 0) = _
    rw [h n _ (by omega), cnt_bI n (fun k s hk => h k s (by omega)), cntB]
    cases q : p n with
    | true => rw [if_pos rfl]; show nI (cntB p n) + 1 = _; rw [nI_1]
    | false => rw [if_neg (by decide)]; show nI (cntB p n) + 0 = _; rw [Int32.add_zero]; rfl
theorem cnt_if {p : Nat → Bool} {g : Nat → Int32 → Int32} : ∀ n, (∀ k s, k < n → g k s = if p k = true then s + 1 else s) → itr g n 0 = nI (cntB p n)
  | 0, _ => rfl
  | n + 1, h => by
    show g n (itr g n 0) = _
    rw [h n _ (by omega), cnt_if n (fun k s hk => h k s (by omega)), cntB]
    cases q : p n with
    | true => rw [if_pos rfl, if_pos rfl, nI_1]
    | false => rw [if_neg (by decide), if_neg (by decide)]; rfl
/-! the cells that can be reached -/
theorem nof_nb (K : Nat → Int32) {c d : Nat} (hc : c < 64) (hd : d < 4) : m_X5_nextOnFoot K (nI c) (nI d) = if nbN c d < 64 ∧ opC K (nbN c d) = true then nI (nbN c d) else -1 := by
  unfold m_X5_nextOnFoot opC
  rcases nbN_tab c hc d hd with ⟨h1, -, h3⟩ | ⟨h1, h2, -, -⟩
  · rw [if_pos h1, if_neg (fun q => by omega)]
  · rw [h2, if_neg (n1_ne h1), nI_clamp (show nbN c d < 2 ^ 31 by omega)]
    cases m_X0_stopsFeet (K (nbN c d)) with
    | false => simp [h1]
    | true => simp
def rInv (K : Nat → Int32) (s : Nat) (fin : Nat → Prop) (k d : Nat) (t : Int32 × Int64 × (Nat → Int32)) : Prop :=
  ∃ F : Nat, t.1 = nI F ∧ 1 ≤ F ∧ F ≤ 64 ∧ cntB (bitN t.2.1) 64 = F ∧ (∀ i, i < F → ∃ c, c < 64 ∧ t.2.2 i = nI c ∧ bitN t.2.1 c = true ∧ fin c) ∧ (∀ c, c < 64 → bitN t.2.1 c = true → ∃ i, i < F ∧ t.2.2 i = nI c) ∧ bitN t.2.1 s = true ∧ (∀ i e, (i < k ∨ (i = k ∧ e < d)) → i < F → e < 4 → ∀ c, c < 64 → t.2.2 i = nI c → nbN c e < 64 → opC K (nbN c e) = true → bitN t.2.1 (nbN c e) = true)
theorem r_step {K : Nat → Int32} {s : Nat} {fin : Nat → Prop} (hcl : ∀ u v, u < 64 → v < 64 → eF (opC K) u v → fin u → fin v) {k d : Nat} (hk : k < 64) (hd : d < 4) {t : Int32 × Int64 × (Nat → Int32)} (h : rInv K s fin k d t) (hkf : ¬ t.1 ≤ nI k) : ∃ t', f_X6_reachedCells_40 K k d t = .inr t' ∧ rInv K s fin k (d + 1) t' ∧ ¬ t'.1 ≤ nI k := by
  obtain ⟨F, hF, h1, h2, h3, h4, h5, h6, h7⟩ := h
  have kF : k < F := by
    rw [hF, nI_leI (by omega) (by omega)] at hkf; omega
  obtain ⟨c, hc, hg, hb, hfn⟩ := h4 k kF
  have ck := nI_clamp (show k < 2 ^ 31 by omega)
  have same : rInv K s fin k (d + 1) t ∨ (nbN c d < 64 ∧ opC K (nbN c d) = true ∧ ¬ bitN t.2.1 (nbN c d) = true) := by
    by_cases q : nbN c d < 64 ∧ opC K (nbN c d) = true ∧ ¬ bitN t.2.1 (nbN c d) = true
    · exact Or.inr q
    · refine Or.inl ⟨F, hF, h1, h2, h3, h4, h5, h6, fun i e hde hi he c' hc' hgc hn ho => ?_⟩
      by_cases w : i = k ∧ e = d
      case neg => exact h7 i e (by omega) hi he c' hc' hgc hn ho
      case pos =>
        obtain ⟨rfl, rfl⟩ := w
        have : c' = c := by
          have := hgc.symm.trans hg
          exact (nI_eq (by omega) (by omega)).mp this
        subst this
        exact Classical.byContradiction (fun w => q ⟨hn, ho, w⟩)
  have nof := nof_nb K hc hd
  by_cases c1 : nbN c d < 64 ∧ opC K (nbN c d) = true
  · rw [if_pos c1] at nof
    have bo := bit_of t.2.1 c1.1
    by_cases c2 : bitN t.2.1 (nbN c d) = true
    · refine ⟨t, ?_, same.resolve_right (fun q => q.2.2 c2), hkf⟩
      simp only [f_X6_reachedCells_40, ck, hg, nof, if_neg (n1_ne c1.1), bo, c2]
      rfl
    · have c2' : bitN t.2.1 (nbN c d) = false := by cases q : bitN t.2.1 (nbN c d) with
        | false => rfl
        | true => exact absurd q c2
      have F64 : F < 64 := by
        have := cntB_le (bitN t.2.1) 64
        by_cases e : F = 64
        · exact absurd (cntB_all 64 (h3.trans e) _ c1.1) c2
        · omega
      have n64 : ¬ (64 : Int32) ≤ t.1 := by
        rw [hF]; exact nI_ge F64 (by decide)
      have cF := nI_clamp (show F < 2 ^ 31 by omega)
      refine ⟨(t.1 + 1, t.2.1 ||| (1 <<< (Int32.toInt64 (nI (nbN c d)) &&& 63)), upd t.2.2 F (nI (nbN c d))), ?_, ⟨F + 1, by rw [hF, nI_1], by omega, by omega, ?_, fun i hi => ?_, fun x hx hbx => ?_, ?_, fun i e hde hi he x hx hgx hn ho => ?_⟩, ?_⟩
      · simp only [f_X6_reachedCells_40, ck, hg, nof, if_neg (n1_ne c1.1), bo, c2', if_neg n64]
        rw [show t.1.toNatClampNeg = F by rw [hF, cF]]
        rfl
      · show cntB (bitN (t.2.1 ||| (1 <<< (Int32.toInt64 (nI (nbN c d)) &&& 63)))) 64 = F + 1
        have lo := cntB_more (p := bitN t.2.1) (q := bitN (t.2.1 ||| (1 <<< (Int32.toInt64 (nI (nbN c d)) &&& 63)))) (x := nbN c d) c2 (by rw [bit_set _ c1.1 c1.1]; simp) 64 c1.1 (fun v hv hp => by rw [bit_set _ c1.1 hv, hp]; rfl)
        have hi : ∀ n, n ≤ 64 → cntB (bitN (t.2.1 ||| (1 <<< (Int32.toInt64 (nI (nbN c d)) &&& 63)))) n ≤ cntB (bitN t.2.1) n + (if nbN c d < n then 1 else 0) := by
          intro n
          induction n with
          | zero => intro _; exact Nat.le_refl _
          | succ n ih =>
            intro hn
            have := ih (by omega)
            rw [cntB, cntB, bit_set _ c1.1 (show n < 64 by omega)]
            by_cases e : n = nbN c d
            · subst e
              rw [if_neg (Nat.lt_irrefl _)] at this
              rw [if_pos (Nat.lt_succ_self _)]
              split <;> omega
            · have e1 : (nbN c d < n + 1) ↔ nbN c d < n := by omega
              simp only [e, decide_false, Bool.or_false, e1]
              omega
        have := hi 64 (Nat.le_refl _)
        rw [if_pos c1.1] at this
        omega
      · by_cases e : i = F
        · subst e
          exact ⟨nbN c d, c1.1, pk_us, by rw [bit_set _ c1.1 c1.1]; simp, hcl c (nbN c d) hc c1.1 ⟨⟨d, hd, rfl⟩, c1.2⟩ hfn⟩
        · obtain ⟨x, hx, g1, g2, g3⟩ := h4 i (by omega)
          exact ⟨x, hx, (pk_un e).trans g1, by rw [bit_set _ c1.1 hx, g2]; rfl, g3⟩
      · rw [bit_set _ c1.1 hx] at hbx
        by_cases e : x = nbN c d
        · exact ⟨F, by omega, by rw [e]; exact pk_us⟩
        · rw [decide_eq_false e, Bool.or_false] at hbx
          obtain ⟨i, hi, gi⟩ := h5 x hx hbx
          exact ⟨i, by omega, (pk_un (by omega)).trans gi⟩
      · show bitN (t.2.1 ||| _) s = true
        have := bit_or t.2.1 (1 <<< (Int32.toInt64 (nI (nbN c d)) &&& 63)) s
        rw [this, h6]; rfl
      · show bitN (t.2.1 ||| _) _ = true
        have hgy : upd t.2.2 F (nI (nbN c d)) i = nI x := hgx
        rw [bit_set _ c1.1 hn]
        have iF : i ≠ F := by omega
        rw [pk_un iF] at hgy
        by_cases w : i = k ∧ e = d
        case neg => rw [h7 i e (by omega) (by omega) he x hx hgy hn ho]; rfl
        case pos =>
          obtain ⟨rfl, rfl⟩ := w
          have : x = c := (nI_eq (by omega) (by omega)).mp (hgy.symm.trans hg)
          subst this
          simp
      · show ¬ t.1 + 1 ≤ nI k
        rw [hF, nI_1, nI_leI (by omega) (by omega)]; omega
  · rw [if_neg c1] at nof
    refine ⟨t, ?_, same.resolve_right (fun q => c1 ⟨q.1, q.2.1⟩), hkf⟩
    simp only [f_X6_reachedCells_40, ck, hg, nof, if_true]
theorem r_cell {K : Nat → Int32} {s : Nat} {fin : Nat → Prop} (hcl : ∀ u v, u < 64 → v < 64 → eF (opC K) u v → fin u → fin v) {k : Nat} (hk : k < 64) : ∀ n d t, d + n = 4 → rInv K s fin k d t → ¬ t.1 ≤ nI k → rInv K s fin (k + 1) 0 (lpe (lpx (f_X6_reachedCells_40 K k) n d t)) := by
  intro n
  induction n with
  | zero =>
    intro d t hd h _
    obtain ⟨F, hF, h1, h2, h3, h4, h5, h6, h7⟩ := h
    exact ⟨F, hF, h1, h2, h3, h4, h5, h6, fun i e q hi he => h7 i e (by omega) hi he⟩
  | succ n ih =>
    intro d t hd h hkf
    obtain ⟨t', e, h', hkf'⟩ := r_step hcl hk (show d < 4 by omega) h hkf
    rw [lpx, e]
    exact ih (d + 1) t' (by omega) h' hkf'
theorem reach_c {K : Nat → Int32} {s : Nat} (hs : s < 64) {fin : Nat → Prop} (hf0 : fin s) (hcl : ∀ u v, u < 64 → v < 64 → eF (opC K) u v → fin u → fin v) (hind : ∀ P : Nat → Prop, P s → (∀ u v, u < 64 → v < 64 → eF (opC K) u v → P u → P v) → ∀ v, v < 64 → fin v → P v) (RE : Nat → Int32) {p : Nat → Bool} (hp : ∀ v, v < 64 → (p v = true ↔ fin v)) : m_X6_reachedCells RE (nI s) K = nI (cntB p 64) := by
  have fin_of : ∀ t : Int32 × Int64 × (Nat → Int32), ∀ k, rInv K s fin k 0 t → (64 ≤ k ∨ t.1 ≤ nI k) → t.1 = nI (cntB p 64) := by
    intro t k h hk
    obtain ⟨F, hF, h1, h2, h3, h4, h5, h6, h7⟩ := h
    have kF : F ≤ k ∨ 64 ≤ k := by
      rcases hk with q | q
      · exact Or.inr q
      · by_cases w : 64 ≤ k
        · exact Or.inr w
        · rw [hF, nI_leI (by omega) (by omega)] at q; exact Or.inl q
    have cl : ∀ u v, u < 64 → v < 64 → eF (opC K) u v → bitN t.2.1 u = true → bitN t.2.1 v = true := by
      intro u v hu hv hE hb
      obtain ⟨⟨d, hd, rfl⟩, ho⟩ := hE
      obtain ⟨i, hi, gi⟩ := h5 u hu hb
      exact h7 i d (by omega) hi hd u hu gi hv ho
    have all := hind (fun v => bitN t.2.1 v = true) h6 cl
    have e : cntB p 64 = cntB (bitN t.2.1) 64 := cntB_ext 64 (fun v hv => by
      rw [Bool.eq_iff_iff, hp v hv]
      exact ⟨fun q => all v hv q, fun q => by
        obtain ⟨i, hi, gi⟩ := h5 v hv q
        obtain ⟨c, hc, g1, -, g3⟩ := h4 i hi
        have : v = c := (nI_eq (by omega) (by omega)).mp (gi.symm.trans g1)
        rw [this]; exact g3⟩)
    rw [hF, e, h3]
  have st : ∀ k t, (k ≤ 64 → rInv K s fin k 0 t) → (∀ r, f_X6_reachedCells_23 K k t = .inl r → k < 64 → ∃ t', r = .inr t' ∧ t'.1 = nI (cntB p 64)) ∧ ∀ s', f_X6_reachedCells_23 K k t = .inr s' → (k + 1 ≤ 64 → rInv K s fin (k + 1) 0 s') := by
    intro k t h
    by_cases c : t.1 ≤ nI k
    · have e : f_X6_reachedCells_23 K k t = .inl (.inr (t.1, t.2.1, t.2.2)) := by simp only [f_X6_reachedCells_23]; rw [if_pos c]
      refine ⟨fun r hr hk => ?_, fun s' hs => ?_⟩
      · rw [e] at hr
        exact ⟨t, (Sum.inl.inj hr).symm, fin_of t k (h (by omega)) (Or.inr c)⟩
      · rw [e] at hs; cases hs
    · have e : f_X6_reachedCells_23 K k t = .inr (lpe (lpx (f_X6_reachedCells_40 K k) 4 0 t)) := by simp only [f_X6_reachedCells_23]; rw [if_neg c]
      refine ⟨fun r hr => ?_, fun s' hs hk => ?_⟩
      · rw [e] at hr; cases hr
      · rw [e] at hs
        rw [← Sum.inr.inj hs]
        exact r_cell hcl (by omega) 4 0 t rfl (h (by omega)) c
  have c0 : cntB (bitN (1 <<< (Int32.toInt64 (nI s) &&& 63))) 64 = 1 := by
    have e : ∀ n, n ≤ 64 → cntB (bitN (1 <<< (Int32.toInt64 (nI s) &&& 63))) n = if s < n then 1 else 0 := by
      intro n
      induction n with
      | zero => intro _; rfl
      | succ n ih =>
        intro hn
        rw [cntB, ih (by omega), bit_1 hs (show n < 64 by omega)]
        by_cases q : n = s
        · subst q; simp
        · have e1 : (s < n + 1) ↔ s < n := by omega
          simp [q, e1]
    rw [e 64 (Nat.le_refl _), if_pos hs]
  have h0 : rInv K s fin 0 0 ((1 : Int32), 1 <<< (Int32.toInt64 (nI s) &&& 63), upd RE 0 (nI s)) := by
    refine ⟨1, rfl, Nat.le_refl _, by decide, c0, fun i hi => ?_, fun c hc hb => ?_, ?_, fun i e q => by omega⟩
    · have : i = 0 := by omega
      subst this
      exact ⟨s, hs, (pk_us (f := RE) (k := 0) (x := nI s)), (bit_1 hs hs).trans (by simp), hf0⟩
    · have hb : bitN (1 <<< (Int32.toInt64 (nI s) &&& 63)) c = true := hb
      rw [bit_1 hs hc] at hb
      rw [of_decide_eq_true hb]
      exact ⟨0, by decide, (pk_us (f := RE) (k := 0) (x := nI s))⟩
    · exact (bit_1 hs hs).trans (by simp)
  have out : ∀ n k t, k + n = 64 → rInv K s fin k 0 t → lpr (lpx (f_X6_reachedCells_23 K) n k t) id (fun t40 => t40.1) = nI (cntB p 64) := by
    intro n
    induction n with
    | zero => intro k t hk h; exact fin_of t k h (Or.inl (by omega))
    | succ n ih =>
      intro k t hk h
      obtain ⟨s1, s2⟩ := st k t (fun _ => h)
      rw [lpx]
      cases hx : f_X6_reachedCells_23 K k t with
      | inl r =>
        obtain ⟨t', rfl, e⟩ := s1 r hx (by omega)
        exact e
      | inr t' => exact ih (k + 1) t' (by omega) (s2 t' hx (by omega))
  exact out 64 0 _ rfl h0
theorem fin_cl {E : Nat → Nat → Prop} {w : Nat → Nat → Int} {s : Nat} (hw : dW E w) {C : Nat → Int} (hI : dInv E w s C) (hF : dFix E w C) : ∀ u v, u < 64 → v < 64 → E u v → C u < 1000000 → C v < 1000000 := fun u v hu hv hE h => by
  have := dInv_top hI hu h
  have := hw u v hu hv hE
  have := hF u v hu hv hE h
  omega
theorem fin_ind {E : Nat → Nat → Prop} {w : Nat → Nat → Int} {s : Nat} (hw : dW E w) {C : Nat → Int} (hI : dInv E w s C) (P : Nat → Prop) (h0 : P s) (hs : ∀ u v, u < 64 → v < 64 → E u v → P u → P v) : ∀ (n : Nat) (v : Nat), v < 64 → C v < 1000000 → (C v).toNat ≤ n → P v := by
  intro n
  induction n with
  | zero =>
    intro v hv hf hn
    by_cases e : v = s
    · rw [e]; exact h0
    · obtain ⟨u, hu, hE, hfu, hle⟩ := hI.2.2.2 v hv e hf
      have := hw u v hu hv hE
      have := (hI.2.1 u hu).1
      omega
  | succ n ih =>
    intro v hv hf hn
    by_cases e : v = s
    · rw [e]; exact h0
    · obtain ⟨u, hu, hE, hfu, hle⟩ := hI.2.2.2 v hv e hf
      have h1 := hw u v hu hv hE
      have h2 := (hI.2.1 u hu).1
      exact hs u v hu hv hE (ih u hu hfu (by omega))
theorem reach_eq {RO K LG CO : Nat → Int32} (hK : ∀ v, v < 64 → opM RO v = opC K v) {s : Nat} (hs : s < 64) (hw : RO 147 = nI s) (hL : ∀ c : Nat, c < 64 → 0 ≤ (m_X8_shine RO LG c).toInt ∧ (m_X8_shine RO LG c).toInt ≤ 216) (RE : Nat → Int32) : m_X6_reachedCells RE (nI s) K = m_X8_reached RO LG CO := by
  obtain ⟨C, e, hO, hI, hF⟩ := lookFrom_spec (RO := RO) (LG := LG) (CO := CO) hs hL
  have dw := dW_F (op := opM RO) hL
  have hE : ∀ u v, v < 64 → (eF (opC K) u v ↔ eF (opM RO) u v) := fun u v hv => by unfold eF; rw [hK v hv]
  have r := reach_c (K := K) hs (fin := fun v => mC C v < 1000000) (by rw [hI.1]; decide) (fun u v hu hv h => fin_cl dw hI hF u v hu hv ((hE u v hv).mp h)) (fun P h0 hP v hv hf => fin_ind dw hI P h0 (fun u v hu hv h => hP u v hu hv ((hE u v hv).mpr h)) _ v hv hf (Nat.le_refl _)) RE (p := fun v => if C v = -4 then false else true) (fun v hv => by
    by_cases q : C v = -4
    · have : mC C v = 1000000 := by unfold mC; rw [if_pos q]
      simp only [q, if_true]
      constructor
      · intro h; exact absurd h (by decide)
      · intro h; omega
    · simp only [q, if_false]
      exact ⟨fun _ => (mC_fin hO hv q).2, fun _ => trivial⟩)
  rw [r]
  unfold m_X8_reached
  rw [hw, e]
  refine (cnt_bI 64 (fun k t hk => ?_)).symm
  simp only [f_X8_reached_16, nI_clamp (show k < 2 ^ 31 by omega)]
