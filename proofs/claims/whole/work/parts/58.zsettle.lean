theorem cC_le (LE : Nat → Int32) (a b : Nat) : LE a ≤ LE b ↔ cC LE a ≤ cC LE b := Int32.le_iff_toInt_le
theorem lu_spec (LE SE : Nat → Int32) : (m_X6_leastUnsettled LE SE = -1 ∧ ∀ k, k < 64 → SE k = 0 → 1000000 ≤ cC LE k) ∨ ∃ m, m < 64 ∧ m_X6_leastUnsettled LE SE = nI m ∧ SE m = 0 ∧ cC LE m < 1000000 ∧ ∀ k, k < 64 → SE k = 0 → cC LE m ≤ cC LE k := by
  obtain ⟨t, ht, hI⟩ := lpx_all (f := f_X6_leastUnsettled_4 LE SE) (fun n t => n ≤ 64 → (t = -1 ∧ ∀ k, k < n → SE k = 0 → 1000000 ≤ cC LE k) ∨ ∃ m, m < n ∧ t = nI m ∧ SE m = 0 ∧ cC LE m < 1000000 ∧ ∀ k, k < n → SE k = 0 → cC LE m ≤ cC LE k) (fun n t h => by
    by_cases hn : n + 1 ≤ 64
    · have cn := nI_clamp (show n < 2 ^ 31 by omega)
      by_cases c0 : SE n = 0
      · rcases h (by omega) with ⟨e, hk⟩ | ⟨m, hm, e, h1, h2, h3⟩
        · by_cases c1 : (1000000 : Int32) ≤ LE n
          · refine ⟨t, by simp only [f_X6_leastUnsettled_4, cn, if_pos c0, if_pos e, if_pos c1], fun _ => Or.inl ⟨e, fun k hk' hs => ?_⟩⟩
            by_cases w : k = n
            · rw [w]; exact (cC_big LE n).mp c1
            · exact hk k (by omega) hs
          · refine ⟨nI n, by simp only [f_X6_leastUnsettled_4, cn, if_pos c0, if_pos e, if_neg c1], fun _ => Or.inr ⟨n, by omega, rfl, c0, ?_, fun k hk' hs => ?_⟩⟩
            · have : ¬ 1000000 ≤ cC LE n := fun q => c1 ((cC_big LE n).mpr q)
              omega
            · have : ¬ 1000000 ≤ cC LE n := fun q => c1 ((cC_big LE n).mpr q)
              by_cases w : k = n
              · rw [w]; exact Int.le_refl _
              · have := hk k (by omega) hs; omega
        · have ne : ¬ t = -1 := by rw [e]; exact n1_ne (by omega)
          have cm : t.toNatClampNeg = m := by rw [e, nI_clamp (by omega)]
          by_cases c1 : LE m ≤ LE n
          · refine ⟨t, by simp only [f_X6_leastUnsettled_4, cn, if_pos c0, if_neg ne, cm, if_pos c1], fun _ => Or.inr ⟨m, by omega, e, h1, h2, fun k hk' hs => ?_⟩⟩
            by_cases w : k = n
            · rw [w]; exact (cC_le LE m n).mp c1
            · exact h3 k (by omega) hs
          · have c1' : ¬ cC LE m ≤ cC LE n := fun q => c1 ((cC_le LE m n).mpr q)
            refine ⟨nI n, by simp only [f_X6_leastUnsettled_4, cn, if_pos c0, if_neg ne, cm, if_neg c1], fun _ => Or.inr ⟨n, by omega, rfl, c0, by omega, fun k hk' hs => ?_⟩⟩
            by_cases w : k = n
            · rw [w]; exact Int.le_refl _
            · have := h3 k (by omega) hs; omega
      · refine ⟨t, by simp only [f_X6_leastUnsettled_4, cn, if_neg c0], fun _ => ?_⟩
        rcases h (by omega) with ⟨e, hk⟩ | ⟨m, hm, e, h1, h2, h3⟩
        · refine Or.inl ⟨e, fun k hk' hs => ?_⟩
          by_cases w : k = n
          · rw [w] at hs; exact absurd hs c0
          · exact hk k (by omega) hs
        · refine Or.inr ⟨m, by omega, e, h1, h2, fun k hk' hs => ?_⟩
          by_cases w : k = n
          · rw [w] at hs; exact absurd hs c0
          · exact h3 k (by omega) hs
    · rcases lu_step LE SE n t with e | e
      · exact ⟨t, e, fun q => absurd q hn⟩
      · exact ⟨nI n, e, fun q => absurd q hn⟩) 64 0 (-1) (fun _ => Or.inl ⟨rfl, fun k hk => absurd hk (Nat.not_lt_zero _)⟩)
  unfold m_X6_leastUnsettled
  rw [ht]
  exact hI (by omega)
section SET
variable {op : Nat → Bool} {lt : Nat → Int} {PR : Nat → Int32} {s : Nat}
def sInv (op : Nat → Bool) (lt : Nat → Int) (s : Nat) (k : Nat) (t : (Nat → Int32) × (Nat → Int32)) : Prop :=
  dInv (eF op) (wF lt) s (cC t.1) ∧ (∀ u, u < 64 → t.2 u = 0 ∨ t.2 u = 1) ∧ k ≤ cntB (fun u => decide (t.2 u = 1)) 64 ∧ ∀ u, u < 64 → t.2 u = 1 → cC t.1 u < 1000000 ∧ (∀ x, x < 64 → t.2 x = 0 → cC t.1 u ≤ cC t.1 x) ∧ ∀ v, v < 64 → eF op u v → cC t.1 v ≤ cC t.1 u + wF lt u v
theorem s_step (hlt : ∀ v, v < 64 → 0 ≤ lt v ∧ lt v ≤ 216) (hPR : prOK op lt PR) {k m : Nat} {t : (Nat → Int32) × (Nat → Int32)} (h : sInv op lt s k t) (hm : m < 64) (h0 : t.2 m = 0) (hf : cC t.1 m < 1000000) (hmin : ∀ k, k < 64 → t.2 k = 0 → cC t.1 m ≤ cC t.1 k) :
    sInv op lt s (k + 1) ((m_X6_lessenAround PR t.1 (nI m)).2, upd t.2 m 1) := by
  obtain ⟨h1, h2, h3, h4⟩ := h
  obtain ⟨p, q1, q2⟩ := la_cell hlt hPR hm (p_start h1) hf 4 (Nat.le_refl _)
  rw [la_def] at p q1 q2
  generalize (m_X6_lessenAround PR t.1 (nI m)) = r at p q1 q2 ⊢
  have old : ∀ u, u < 64 → (t.2 u = 1 ∨ u = m) → cC r.2 u = cC t.1 u ∧ cC t.1 u ≤ cC t.1 m ∧ cC t.1 u < 1000000 := by
    intro u hu hs
    have a : cC t.1 u ≤ cC t.1 m ∧ cC t.1 u < 1000000 := by
      rcases hs with hs | hs
      · obtain ⟨g1, g2, -⟩ := h4 u hu hs
        exact ⟨g2 m hm h0, g1⟩
      · rw [hs]; exact ⟨Int.le_refl _, hf⟩
    refine ⟨?_, a⟩
    have b := p.2.1 u hu
    rcases q2 u hu with c | c
    · exact c
    · omega
  refine ⟨p.1, fun u hu => ?_, ?_, fun u hu hs => ?_⟩
  · show upd t.2 m 1 u = 0 ∨ upd t.2 m 1 u = 1
    by_cases e : u = m
    · subst e; rw [pk_us]; exact Or.inr rfl
    · rw [pk_un e]; exact h2 u hu
  · show k + 1 ≤ cntB (fun u => decide (upd t.2 m 1 u = 1)) 64
    have := cntB_more (p := fun u => decide (t.2 u = 1)) (q := fun u => decide (upd t.2 m 1 u = 1)) (x := m) (by simp only [h0]; decide) (by simp only [pk_us]; decide) 64 hm (fun v hv hp => by
      have hp := of_decide_eq_true hp
      by_cases e : v = m
      · subst e; simp only [pk_us]; decide
      · simp only [pk_un e]; exact decide_eq_true hp)
    omega
  · have hs : upd t.2 m 1 u = 1 := hs
    have hs' : t.2 u = 1 ∨ u = m := by
      by_cases e : u = m
      · exact Or.inr e
      · rw [pk_un e] at hs; exact Or.inl hs
    obtain ⟨o1, o2, o3⟩ := old u hu hs'
    show cC r.2 u < 1000000 ∧ (∀ x, x < 64 → upd t.2 m 1 x = 0 → cC r.2 u ≤ cC r.2 x) ∧ ∀ v, v < 64 → eF op u v → cC r.2 v ≤ cC r.2 u + wF lt u v
    rw [o1]
    refine ⟨o3, fun x hx hx0 => ?_, fun v hv hE => ?_⟩
    · have nx : x ≠ m := fun e => by rw [e, pk_us] at hx0; exact absurd hx0 (by decide)
      rw [pk_un nx] at hx0
      have := hmin x hx hx0
      rcases q2 x hx with c | c <;> omega
    · by_cases e : u = m
      · have hE' := hE
        obtain ⟨⟨d', hd1, hd2⟩, -⟩ := hE'
        have := p.2.2.1 u v hu hv (Or.inr ⟨e, d', hd1, by rw [← e]; exact hd2⟩) hE o3
        exact this
      · have hs1 : t.2 u = 1 := hs'.resolve_right e
        have := (h4 u hu hs1).2.2 v hv hE
        have := p.2.1 v hv
        omega
theorem settle_spec (hlt : ∀ v, v < 64 → 0 ≤ lt v ∧ lt v ≤ 216) (hPR : prOK op lt PR) {f : Nat} (hf : f < 64) (LE SE : Nat → Int32) : dInv (eF op) (wF lt) f (cC (m_X6_settleFrom PR LE SE (nI f)).1) ∧ dFix (eF op) (wF lt) (cC (m_X6_settleFrom PR LE SE (nI f)).1) := by
  have st : ∀ k t, sInv op lt f k t → (∀ r, f_X6_settleFrom_7 PR k t = .inl r → ∃ t', r = .inl t' ∧ dInv (eF op) (wF lt) f (cC t'.1) ∧ dFix (eF op) (wF lt) (cC t'.1)) ∧ ∀ s', f_X6_settleFrom_7 PR k t = .inr s' → sInv op lt f (k + 1) s' := by
    intro k t h
    rcases lu_spec t.1 t.2 with ⟨e, hk⟩ | ⟨m, hm, e, h0, hfm, hmin⟩
    · have ef : f_X6_settleFrom_7 PR k t = .inl (.inl (t.1, t.2)) := by simp only [f_X6_settleFrom_7]; rw [if_pos e]
      refine ⟨fun r hr => ?_, fun s' hs => ?_⟩
      · rw [ef] at hr
        refine ⟨t, (Sum.inl.inj hr).symm, h.1, fun u v hu hv hE hfu => ?_⟩
        rcases h.2.1 u hu with q | q
        · have := hk u hu q; omega
        · exact (h.2.2.2 u hu q).2.2 v hv hE
      · rw [ef] at hs; cases hs
    · have ef : f_X6_settleFrom_7 PR k t = .inr ((m_X6_lessenAround PR t.1 (nI m)).2, upd t.2 m 1) := by
        simp only [f_X6_settleFrom_7, e]
        rw [if_neg (n1_ne hm), nI_clamp (show m < 2 ^ 31 by omega)]
        rfl
      refine ⟨fun r hr => ?_, fun s' hs => ?_⟩
      · rw [ef] at hr; cases hr
      · rw [ef] at hs
        rw [← Sum.inr.inj hs]
        exact s_step hlt hPR h hm h0 hfm hmin
  have h0 : sInv op lt f 0 ((m_X6_startFrom LE SE (nI f)).1, (m_X6_startFrom LE SE (nI f)).2) :=
    ⟨start_d hf, fun u hu => Or.inl (startFrom_spec hf u hu).2, Nat.zero_le _, fun u hu hs => by
      have : (m_X6_startFrom LE SE (nI f)).2 u = 1 := hs
      rw [(startFrom_spec hf u hu).2] at this; exact absurd this (by decide)⟩
  have e0 : m_X6_settleFrom PR LE SE (nI f) = lpr (lpx (f_X6_settleFrom_7 PR) 64 0 ((m_X6_startFrom LE SE (nI f)).1, (m_X6_startFrom LE SE (nI f)).2)) id (fun t17 => (t17.1, t17.2)) := by simp only [m_X6_settleFrom]
  rw [e0]
  clear e0
  generalize ((m_X6_startFrom LE SE (nI f)).1, (m_X6_startFrom LE SE (nI f)).2) = t0 at h0 ⊢
  cases hx : lpx (f_X6_settleFrom_7 PR) 64 0 t0 with
  | inl r =>
    obtain ⟨t', rfl, g1, g2⟩ := lpx_out _ (fun r => ∃ t', r = .inl t' ∧ dInv (eF op) (wF lt) f (cC t'.1) ∧ dFix (eF op) (wF lt) (cC t'.1)) st 64 0 _ h0 r hx
    exact ⟨g1, g2⟩
  | inr t =>
    have g := lpx_ind _ (fun k s s' h e => (st k s h).2 s' e) 64 0 _ h0 t hx
    refine ⟨g.1, fun u v hu hv hE _ => ?_⟩
    have ca := cntB_all 64 (Nat.le_antisymm (cntB_le _ 64) g.2.2.1) u hu
    exact (g.2.2.2 u hu (of_decide_eq_true ca)).2.2 v hv hE
theorem lessen_spec (hlt : ∀ v, v < 64 → 0 ≤ lt v ∧ lt v ≤ 216) (hPR : prOK op lt PR) {f : Nat} (hf : f < 64) (LE SE : Nat → Int32) : dInv (eF op) (wF lt) f (cC (m_X6_lessenFrom PR LE SE (nI f)).1) ∧ dFix (eF op) (wF lt) (cC (m_X6_lessenFrom PR LE SE (nI f)).1) := by
  have hw := dW_F (op := op) hlt
  obtain ⟨hD, hF⟩ := settle_spec hlt hPR hf LE SE
  generalize cC (m_X6_settleFrom PR LE SE (nI f)).1 = D at hD hF
  have st : ∀ k (t : Bool × (Nat → Int32)), (dInv (eF op) (wF lt) f (cC t.2) ∧ (t.1 = false → dFix (eF op) (wF lt) (cC t.2)) ∧ (k + 1 ≤ cntB (fun v => decide (cC t.2 v = D v)) 64 ∨ ∀ v, v < 64 → cC t.2 v = D v)) → (∀ r, f_X6_lessenFrom_9 PR k t = .inl r → ∃ t' : Bool × (Nat → Int32), r = .inr t' ∧ dInv (eF op) (wF lt) f (cC t'.2) ∧ dFix (eF op) (wF lt) (cC t'.2)) ∧ ∀ s', f_X6_lessenFrom_9 PR k t = .inr s' → (dInv (eF op) (wF lt) f (cC s'.2) ∧ (s'.1 = false → dFix (eF op) (wF lt) (cC s'.2)) ∧ (k + 1 + 1 ≤ cntB (fun v => decide (cC s'.2 v = D v)) 64 ∨ ∀ v, v < 64 → cC s'.2 v = D v)) := by
    intro k t h
    by_cases c : t.1 = false
    · have ef : f_X6_lessenFrom_9 PR k t = .inl (.inr (t.1, t.2)) := by simp only [f_X6_lessenFrom_9]; rw [if_pos c]
      refine ⟨fun r hr => ?_, fun s' hs => ?_⟩
      · rw [ef] at hr
        exact ⟨t, (Sum.inl.inj hr).symm, h.1, h.2.1 c⟩
      · rw [ef] at hs; cases hs
    · have ef : f_X6_lessenFrom_9 PR k t = .inr (itr (f_X6_lessenFrom_24 PR) 64 (false, t.2)) := by simp only [f_X6_lessenFrom_9]; rw [if_neg c]
      refine ⟨fun r hr => ?_, fun s' hs => ?_⟩
      · rw [ef] at hr; cases hr
      · rw [ef] at hs
        rw [← Sum.inr.inj hs]
        have p := p_mono (le_round hlt hPR h.1 64 (Nat.le_refl _)) (fun u v hu _ (_ : True) _ _ => hu)
        generalize itr (f_X6_lessenFrom_24 PR) 64 (false, t.2) = r at p ⊢
        refine ⟨p.1, fun hb => p_fix p hb, ?_⟩
        have low := d_low hw hf p.1 hD hF
        have low0 := d_low hw hf h.1 hD hF
        have keep : ∀ v, v < 64 → cC t.2 v = D v → cC r.2 v = D v := fun v hv e => by
          have := low v hv; have := p.2.1 v hv; omega
        by_cases all : ∀ v, v < 64 → cC t.2 v = D v
        · exact Or.inr (fun v hv => keep v hv (all v hv))
        · refine Or.inl ?_
          have ⟨v, hv⟩ := Classical.not_forall.mp all
          have hv1 : v < 64 := Classical.byContradiction (fun q => hv (fun w => absurd w q))
          have hv2 : cC t.2 v ≠ D v := fun q => hv (fun _ => q)
          obtain ⟨x, hx, g1, g2⟩ := round_more hw hf h.1 p hD hF _ v hv1 (Nat.le_refl _) hv2
          have := cntB_more (p := fun v => decide (cC t.2 v = D v)) (q := fun v => decide (cC r.2 v = D v)) (x := x) (by simp only [decide_eq_true_eq]; exact g1) (by simp only [decide_eq_true_eq]; exact g2) 64 hx (fun v hv hp => decide_eq_true (keep v hv (of_decide_eq_true hp)))
          rcases h.2.2 with q | q
          · omega
          · exact absurd q all
  have h0 : (dInv (eF op) (wF lt) f (cC (m_X6_startFrom LE SE (nI f)).1) ∧ (true = false → dFix (eF op) (wF lt) (cC (m_X6_startFrom LE SE (nI f)).1)) ∧ (0 + 1 ≤ cntB (fun v => decide (cC (m_X6_startFrom LE SE (nI f)).1 v = D v)) 64 ∨ ∀ v, v < 64 → cC (m_X6_startFrom LE SE (nI f)).1 v = D v)) := by
    have i0 : dInv (eF op) (wF lt) f (cC (m_X6_startFrom LE SE (nI f)).1) := start_d hf
    exact ⟨i0, fun q => (by cases q), Or.inl (cntB_pos (x := f) (decide_eq_true (i0.1.trans hD.1.symm)) 64 hf)⟩
  have e0 : m_X6_lessenFrom PR LE SE (nI f) = lpr (lpx (f_X6_lessenFrom_9 PR) 64 0 (true, (m_X6_startFrom LE SE (nI f)).1)) id (fun t47 => (t47.2, (m_X6_startFrom LE SE (nI f)).2)) := by simp only [m_X6_lessenFrom]
  rw [e0]
  clear e0
  have h0 : (dInv (eF op) (wF lt) f (cC (true, (m_X6_startFrom LE SE (nI f)).1).2) ∧ ((true, (m_X6_startFrom LE SE (nI f)).1).1 = false → dFix (eF op) (wF lt) (cC (true, (m_X6_startFrom LE SE (nI f)).1).2)) ∧ (0 + 1 ≤ cntB (fun v => decide (cC (true, (m_X6_startFrom LE SE (nI f)).1).2 v = D v)) 64 ∨ ∀ v, v < 64 → cC (true, (m_X6_startFrom LE SE (nI f)).1).2 v = D v)) := h0
  generalize (true, (m_X6_startFrom LE SE (nI f)).1) = t0 at h0 ⊢
  cases hx : lpx (f_X6_lessenFrom_9 PR) 64 0 t0 with
  | inl r =>
    obtain ⟨t', rfl, g1, g2⟩ := lpx_out _ (fun r => ∃ t' : Bool × (Nat → Int32), r = .inr t' ∧ dInv (eF op) (wF lt) f (cC t'.2) ∧ dFix (eF op) (wF lt) (cC t'.2)) st 64 0 _ h0 r hx
    exact ⟨g1, g2⟩
  | inr t =>
    have g := lpx_ind (f := f_X6_lessenFrom_9 PR) (fun k (t : Bool × (Nat → Int32)) => (dInv (eF op) (wF lt) f (cC t.2) ∧ (t.1 = false → dFix (eF op) (wF lt) (cC t.2)) ∧ (k + 1 ≤ cntB (fun v => decide (cC t.2 v = D v)) 64 ∨ ∀ v, v < 64 → cC t.2 v = D v))) (fun k s s' h e => (st k s h).2 s' e) 64 0 _ h0 t hx
    refine ⟨g.1, ?_⟩
    have e : ∀ v, v < 64 → cC t.2 v = D v := by
      rcases g.2.2 with q | q
      · have := cntB_le (fun v => decide (cC t.2 v = D v)) 64; omega
      · exact q
    intro u v hu hv hE hfu
    show cC t.2 v ≤ cC t.2 u + _
    rw [e u hu, e v hv]
    exact hF u v hu hv hE (by have := e u hu; have : cC t.2 u < 1000000 := hfu; omega)
end SET
/-- the class's costs and the model's -/
theorem least_eq {C LE : Nat → Int32} {E : Nat → Nat → Prop} {w : Nat → Nat → Int} {f : Nat} (hw : dW E w) (hf : f < 64) (hO : mOK C) (h1 : dInv E w f (mC C)) (h2 : dFix E w (mC C)) (h3 : dInv E w f (cC LE)) (h4 : dFix E w (cC LE)) {c : Nat} (hc : c < 64) : m_X6_leastTo LE (nI c) = C c := by
  have e := d_uniq hw hf h1 h2 h3 h4 c hc
  unfold m_X6_leastTo
  rw [nI_clamp (show c < 2 ^ 31 by omega)]
  simp only [cC_big]
  by_cases q : C c = -4
  · have : mC C c = 1000000 := by unfold mC; rw [if_pos q]
    rw [if_pos (by omega), q]
  · obtain ⟨m1, m2⟩ := mC_fin hO hc q
    rw [if_neg (by omega)]
    apply Int32.toInt_inj.mp
    show cC LE c = _
    omega
