/-! the class's ways of least exposure -/
theorem oI_mil : (1000000 : Int32) = oI 1000000 := nI_oI 1000000
theorem cC_big (LE : Nat → Int32) (a : Nat) : (1000000 : Int32) ≤ LE a ↔ 1000000 ≤ cC LE a := by
  rw [oI_mil, Int32.le_iff_toInt_le, oI_toInt (zsm_of (by omega) (by omega))]; rfl
def opC (K : Nat → Int32) (v : Nat) : Bool := !(m_X0_stopsFeet (K v))
def prOK (op : Nat → Bool) (lt : Nat → Int) (PR : Nat → Int32) : Prop := ∀ v, v < 64 → PR v = if op v = true then oI (1 + lt v) else 0
section CLS
variable {op : Nat → Bool} {lt : Nat → Int} {PR : Nat → Int32} {s : Nat} {C0 : Nat → Int}
theorem la_cell (hlt : ∀ v, v < 64 → 0 ≤ lt v ∧ lt v ≤ 216) (hPR : prOK op lt PR) {k : Nat} (hk : k < 64) {dn : Nat → Nat → Prop} {b : Bool} {LE : Nat → Int32} (h : pInv (eF op) (wF lt) s C0 dn b (cC LE)) (hf : cC LE k < 1000000) : ∀ d, d ≤ 4 →
    pInv (eF op) (wF lt) s C0 (fun u v => dn u v ∨ (u = k ∧ ∃ d', d' < d ∧ nbN k d' = v)) (b || (itr (f_X6_lessenAround_4 PR (nI k)) d (false, LE)).1) (cC (itr (f_X6_lessenAround_4 PR (nI k)) d (false, LE)).2)
    ∧ cC (itr (f_X6_lessenAround_4 PR (nI k)) d (false, LE)).2 k = cC LE k
    ∧ (∀ x, x < 64 → cC (itr (f_X6_lessenAround_4 PR (nI k)) d (false, LE)).2 x = cC LE x ∨ cC LE k + 1 ≤ cC (itr (f_X6_lessenAround_4 PR (nI k)) d (false, LE)).2 x) := by
  intro d
  induction d with
  | zero =>
    intro _
    refine ⟨?_, rfl, fun x _ => Or.inl rfl⟩
    show pInv _ _ _ _ _ (b || false) (cC LE)
    rw [Bool.or_false]
    exact p_mono h (fun u v _ _ q _ _ => by
      rcases q with q | ⟨-, d', q, -⟩
      · exact q
      · exact absurd q (Nat.not_lt_zero _))
  | succ d ih =>
    intro hd
    obtain ⟨h1, h2, h3⟩ := ih (by omega)
    rw [show itr (f_X6_lessenAround_4 PR (nI k)) (d + 1) (false, LE) = f_X6_lessenAround_4 PR (nI k) d (itr (f_X6_lessenAround_4 PR (nI k)) d (false, LE)) from rfl]
    generalize itr (f_X6_lessenAround_4 PR (nI k)) d (false, LE) = t at h1 h2 h3 ⊢
    have skip : f_X6_lessenAround_4 PR (nI k) d t = (t.1, t.2) → (∀ u v, u < 64 → v < 64 → u = k → nbN k d = v → eF op u v → C0 u < 1000000 → cC t.2 v ≤ C0 u + wF lt u v) →
        pInv (eF op) (wF lt) s C0 (fun u v => dn u v ∨ (u = k ∧ ∃ d', d' < d + 1 ∧ nbN k d' = v)) (b || (f_X6_lessenAround_4 PR (nI k) d t).1) (cC (f_X6_lessenAround_4 PR (nI k) d t).2)
        ∧ cC (f_X6_lessenAround_4 PR (nI k) d t).2 k = cC LE k
        ∧ (∀ x, x < 64 → cC (f_X6_lessenAround_4 PR (nI k) d t).2 x = cC LE x ∨ cC LE k + 1 ≤ cC (f_X6_lessenAround_4 PR (nI k) d t).2 x) := by
      intro e hq
      rw [e]
      refine ⟨⟨h1.1, h1.2.1, fun u v hu hv q hE hf' => ?_, h1.2.2.2⟩, h2, h3⟩
      rcases q with q | ⟨q1, d', q2, q3⟩
      · exact h1.2.2.1 u v hu hv (Or.inl q) hE hf'
      · by_cases w : d' = d
        · rw [w] at q3; exact hq u v hu hv q1 q3 hE hf'
        · exact h1.2.2.1 u v hu hv (Or.inr ⟨q1, d', by omega, q3⟩) hE hf'
    have ck : nI k = nI k := rfl
    rcases nbN_tab k hk d (by omega) with ⟨g1, -, g3⟩ | ⟨g1, g2, -, -⟩
    · refine skip (by simp only [f_X6_lessenAround_4, g1, if_true]) (fun u v hu hv q1 q3 _ _ => ?_)
      rw [g3] at q3; omega
    · have n1 : ¬ nI (nbN k d) = -1 := n1_ne g1
      have cv := nI_clamp (show nbN k d < 2 ^ 31 by omega)
      have cc := nI_clamp (show k < 2 ^ 31 by omega)
      have hp := hPR _ g1
      have hl := hlt _ g1
      by_cases c1 : op (nbN k d) = true
      · rw [if_pos c1] at hp
        have sp : zsm (1 + lt (nbN k d)) := zsm_of (by omega) (by omega)
        have np : ¬ oI (1 + lt (nbN k d)) ≤ 0 := by rw [oI_le0 sp]; omega
        have bk := h1.1.2.1 k hk
        have bv := h1.1.2.1 _ g1
        rw [h2] at bk
        have ek : t.2 k = oI (cC LE k) := by rw [← h2]; exact oI_of _
        have es : t.2 k + PR (nbN k d) = oI (cC LE k + (1 + lt (nbN k d))) := by rw [ek, hp, oI_add]
        have sk : zsm (cC LE k + (1 + lt (nbN k d))) := ⟨by omega, by omega⟩
        have cmp : t.2 (nbN k d) ≤ t.2 k + PR (nbN k d) ↔ cC t.2 (nbN k d) ≤ cC LE k + (1 + lt (nbN k d)) := by
          rw [es, Int32.le_iff_toInt_le, oI_toInt sk]; rfl
        by_cases c2 : t.2 (nbN k d) ≤ t.2 k + PR (nbN k d)
        · refine skip (by simp only [f_X6_lessenAround_4, g2, cv, cc, if_neg n1, hp, if_neg np] at c2 ⊢; rw [if_pos c2, if_pos c2]) (fun u v hu hv q1 q3 hE hf' => ?_)
          subst q1
          rw [← q3]
          have a := h1.2.1 u hu
          have := cmp.mp c2
          show cC t.2 (nbN u d) ≤ C0 u + (1 + lt (nbN u d))
          rw [h2] at a
          omega
        · have e : f_X6_lessenAround_4 PR (nI k) d t = (true, upd t.2 (nbN k d) (t.2 k + PR (nbN k d))) := by
            simp only [f_X6_lessenAround_4, g2, cv, cc, if_neg n1, hp, if_neg np] at c2 ⊢
            rw [if_neg c2, if_neg c2]
          have lt2 : cC LE k + (1 + lt (nbN k d)) < cC t.2 (nbN k d) := by
            have : ¬ cC t.2 (nbN k d) ≤ cC LE k + (1 + lt (nbN k d)) := fun q => c2 (cmp.mpr q)
            omega
          have nk : k ≠ nbN k d := fun q => by
            rw [← q] at lt2 hl
            rw [h2] at lt2; omega
          have r : relS (eF op) (wF lt) k (nbN k d) (b || t.1) (cC t.2) true (cC (upd t.2 (nbN k d) (t.2 k + PR (nbN k d)))) := by
            refine Or.inr ⟨rfl, g1, ⟨⟨d, by omega, rfl⟩, c1⟩, by rw [h2]; exact hf, ?_, ?_⟩
            · rw [h2]; exact lt2
            · rw [cC_upd, es, oI_toInt sk, h2]; rfl
          have p := p_step (dW_F hlt) hk h1 r
          rw [e]
          refine ⟨?_, ?_, fun x hx => ?_⟩
          · show pInv _ _ _ _ _ (b || true) _
            rw [Bool.or_true]
            refine p_mono p (fun u v hu hv q hE hf' => ?_)
            rcases q with q | ⟨q1, d', q2, q3⟩
            · exact Or.inl (Or.inl q)
            · by_cases w : d' = d
              · exact Or.inr ⟨q1, by rw [← q3, w]⟩
              · exact Or.inl (Or.inr ⟨q1, d', by omega, q3⟩)
          · show cC (upd t.2 (nbN k d) _) k = _
            rw [cC_upd, updZ_n _ _ nk]; exact h2
          · show cC (upd t.2 (nbN k d) _) x = _ ∨ _ ≤ cC (upd t.2 (nbN k d) _) x
            rw [cC_upd, es, oI_toInt sk]
            by_cases q : x = nbN k d
            · rw [q, updZ_s]; exact Or.inr (by omega)
            · rw [updZ_n _ _ q]; exact h3 x hx
      · rw [if_neg c1] at hp
        refine skip (by simp only [f_X6_lessenAround_4, g2, cv, cc, if_neg n1, hp]; rfl) (fun u v hu hv q1 q3 hE hf' => ?_)
        rw [← q3] at hE; exact absurd hE.2 c1
theorem la_def (PR LE : Nat → Int32) (k : Nat) : itr (f_X6_lessenAround_4 PR (nI k)) 4 (false, LE) = m_X6_lessenAround PR LE (nI k) := by
  unfold m_X6_lessenAround
  exact (fun (x : Bool × (Nat → Int32)) => (rfl : x = (x.1, x.2))) _
/-- one round of lessening -/
theorem le_round (hlt : ∀ v, v < 64 → 0 ≤ lt v ∧ lt v ≤ 216) (hPR : prOK op lt PR) {LE : Nat → Int32} (hI : dInv (eF op) (wF lt) s (cC LE)) : ∀ n, n ≤ 64 → pInv (eF op) (wF lt) s (cC LE) (fun u _ => u < n) (itr (f_X6_lessenFrom_24 PR) n (false, LE)).1 (cC (itr (f_X6_lessenFrom_24 PR) n (false, LE)).2) := by
  intro n
  induction n with
  | zero => intro _; exact p_mono (p_start hI) (fun u v _ _ q _ _ => absurd q (Nat.not_lt_zero _))
  | succ n ih =>
    intro hn
    have h := ih (by omega)
    rw [show itr (f_X6_lessenFrom_24 PR) (n + 1) (false, LE) = f_X6_lessenFrom_24 PR n (itr (f_X6_lessenFrom_24 PR) n (false, LE)) from rfl]
    generalize itr (f_X6_lessenFrom_24 PR) n (false, LE) = t at h ⊢
    have cn := nI_clamp (show n < 2 ^ 31 by omega)
    have cmp : (1000000 : Int32) ≤ t.2 (nI n).toNatClampNeg ↔ 1000000 ≤ cC t.2 n := by rw [cn]; exact cC_big t.2 n
    by_cases c : (1000000 : Int32) ≤ t.2 (nI n).toNatClampNeg
    · have e : f_X6_lessenFrom_24 PR n t = (t.1, t.2) := by
        unfold f_X6_lessenFrom_24; dsimp only; rw [if_pos c, if_pos c]
      rw [e]
      refine p_mono (b := t.1) h (fun u v hu hv q hE hf => ?_)
      by_cases w : u = n
      · subst w; have := h.2.1 u hu; have := cmp.mp c; omega
      · exact (by omega : u < n)
    · have hf : cC t.2 n < 1000000 := by
        have : ¬ 1000000 ≤ cC t.2 n := fun q => c (cmp.mpr q)
        omega
      obtain ⟨p, -, -⟩ := la_cell hlt hPR (show n < 64 by omega) h hf 4 (Nat.le_refl _)
      rw [la_def] at p
      have e : f_X6_lessenFrom_24 PR n t = (t.1 || (m_X6_lessenAround PR t.2 (nI n)).1, (m_X6_lessenAround PR t.2 (nI n)).2) := by
        unfold f_X6_lessenFrom_24; dsimp only; rw [if_neg c, if_neg c]
        generalize m_X6_lessenAround PR t.2 (nI n) = q
        obtain ⟨qb, qL⟩ := q
        cases t.1 <;> cases qb <;> rfl
      rw [e]
      refine p_mono p (fun u v hu hv q hE hf' => ?_)
      by_cases w : u = n
      · subst w
        obtain ⟨⟨d', h1, h2⟩, -⟩ := hE
        exact Or.inr ⟨rfl, d', h1, h2⟩
      · exact Or.inl (by omega)
end CLS
theorem cntB_mono {p q : Nat → Bool} : ∀ n, (∀ v, v < n → p v = true → q v = true) → cntB p n ≤ cntB q n
  | 0, _ => Nat.le_refl 0
  | n + 1, h => by
    have := cntB_mono n (fun v hv => h v (by omega))
    rw [cntB, cntB]
    by_cases c : p n = true
    · rw [if_pos c, if_pos (h n (by omega) c)]; omega
    · rw [if_neg c]; omega
theorem cntB_more {p q : Nat → Bool} {x : Nat} (hp : ¬ p x = true) (hq : q x = true) : ∀ n, x < n → (∀ v, v < n → p v = true → q v = true) → cntB p n + 1 ≤ cntB q n
  | 0, h, _ => by omega
  | n + 1, hx, h => by
    rw [cntB, cntB]
    by_cases e : x = n
    · subst e
      have := cntB_mono x (fun v hv => h v (by omega))
      rw [if_neg hp, if_pos hq]; omega
    · have := cntB_more hp hq n (by omega) (fun v hv => h v (by omega))
      by_cases c : p n = true
      · rw [if_pos c, if_pos (h n (by omega) c)]; omega
      · rw [if_neg c]; omega
theorem cntB_le (p : Nat → Bool) : ∀ n, cntB p n ≤ n
  | 0 => Nat.le_refl 0
  | n + 1 => by have := cntB_le p n; rw [cntB]; split <;> omega
theorem cntB_all {p : Nat → Bool} : ∀ n, cntB p n = n → ∀ v, v < n → p v = true
  | 0, _, v, hv => by omega
  | n + 1, h, v, hv => by
    have := cntB_le p n
    rw [cntB] at h
    by_cases c : p n = true
    · rw [if_pos c] at h
      by_cases e : v = n
      · rw [e]; exact c
      · exact cntB_all n (by omega) v (by omega)
    · rw [if_neg c] at h; omega
theorem cntB_pos {p : Nat → Bool} {x : Nat} (hx : p x = true) : ∀ n, x < n → 1 ≤ cntB p n
  | 0, h => by omega
  | n + 1, h => by
    rw [cntB]
    by_cases e : x = n
    · subst e; rw [if_pos hx]; omega
    · have := cntB_pos hx n (by omega); omega
theorem cntB_ext {p q : Nat → Bool} : ∀ n, (∀ v, v < n → p v = q v) → cntB p n = cntB q n
  | 0, _ => rfl
  | n + 1, h => by rw [cntB, cntB, cntB_ext n (fun v hv => h v (by omega)), h n (by omega)]
/-- a round brings one more cell to its least cost -/
theorem round_more {E : Nat → Nat → Prop} {w : Nat → Nat → Int} {s : Nat} (hw : dW E w) (hs : s < 64) {C C' D : Nat → Int} (hC : dInv E w s C) {b : Bool} (hp : pInv E w s C (fun _ _ => True) b C') (hD : dInv E w s D) (hF : dFix E w D) : ∀ (n : Nat) (v : Nat), v < 64 → (D v).toNat ≤ n → C v ≠ D v → ∃ x, x < 64 ∧ C x ≠ D x ∧ C' x = D x := by
  intro n
  induction n with
  | zero =>
    intro v hv hn hne
    have lo := d_low hw hs hC hD hF v hv
    have bD := hD.2.1 v hv
    have bC := hC.2.1 v hv
    by_cases e : v = s
    · subst e; exact absurd (hC.1.trans hD.1.symm) hne
    · obtain ⟨u, hu, hE, hfu, hle⟩ := hD.2.2.2 v hv e (by omega)
      have := hw u v hu hv hE
      have := (hD.2.1 u hu).1
      omega
  | succ n ih =>
    intro v hv hn hne
    have lo := d_low hw hs hC hD hF v hv
    have bD := hD.2.1 v hv
    have bC := hC.2.1 v hv
    by_cases e : v = s
    · subst e; exact absurd (hC.1.trans hD.1.symm) hne
    · obtain ⟨u, hu, hE, hfu, hle⟩ := hD.2.2.2 v hv e (by omega)
      have h1 := hw u v hu hv hE
      have h2 := (hD.2.1 u hu).1
      by_cases q : C u = D u
      · refine ⟨v, hv, hne, ?_⟩
        have a := hp.2.2.1 u v hu hv trivial hE (by omega)
        have b := d_low hw hs hp.1 hD hF v hv
        omega
      · exact ih u hu (by omega) q
theorem startFrom_spec {LE SE : Nat → Int32} {f : Nat} (hf : f < 64) : ∀ v, v < 64 → (m_X6_startFrom LE SE (nI f)).1 v = (if v = f then 0 else 1000000) ∧ (m_X6_startFrom LE SE (nI f)).2 v = 0 := by
  have key : ∀ n, n ≤ 64 → ∀ v, v < n → (itr (f_X6_startFrom_2 (nI f)) n (LE, SE)).1 v = (if v = f then 0 else 1000000) ∧ (itr (f_X6_startFrom_2 (nI f)) n (LE, SE)).2 v = 0 := by
    intro n
    induction n with
    | zero => intro _ v hv; omega
    | succ n ih =>
      intro hn v hv
      rw [show itr (f_X6_startFrom_2 (nI f)) (n + 1) (LE, SE) = f_X6_startFrom_2 (nI f) n (itr (f_X6_startFrom_2 (nI f)) n (LE, SE)) from rfl]
      have ih := ih (by omega)
      generalize itr (f_X6_startFrom_2 (nI f)) n (LE, SE) = t at ih ⊢
      simp only [f_X6_startFrom_2, nI_clamp (show n < 2 ^ 31 by omega), nI_eq (show n < 2 ^ 31 by omega) (show f < 2 ^ 31 by omega)]
      by_cases e : v = n
      · subst e
        rw [pk_us, pk_us]
        exact ⟨rfl, by decide⟩
      · rw [pk_un e, pk_un e]; exact ih v (by omega)
  exact fun v hv => key 64 (Nat.le_refl _) v hv
theorem start_d {E : Nat → Nat → Prop} {w : Nat → Nat → Int} {LE SE : Nat → Int32} {f : Nat} (hf : f < 64) : dInv E w f (cC (m_X6_startFrom LE SE (nI f)).1) := by
  refine d_init hf (fun v hv => ?_)
  unfold cC
  rw [(startFrom_spec hf v hv).1]
  split <;> decide
