theorem oI_of (x : Int32) : x = oI x.toInt := (Int32.ofInt_toInt x).symm
def mC (C : Nat → Int32) (c : Nat) : Int := if C c = -4 then 1000000 else (C c).toInt
def mOK (C : Nat → Int32) : Prop := ∀ v, v < 64 → C v = -4 ∨ (C v).toInt < 1000000
def cC (C : Nat → Int32) (c : Nat) : Int := (C c).toInt
theorem upd_same (C : Nat → Int32) (v : Nat) : upd C v (C v) = C := by
  funext x
  by_cases e : x = v
  · subst e; exact pk_us
  · exact pk_un e
theorem mC_upd (C : Nat → Int32) (v : Nat) {x : Int32} (hx : x ≠ -4) : mC (upd C v x) = updZ (mC C) v x.toInt := by
  funext y
  unfold mC
  by_cases e : y = v
  · subst e; rw [updZ_s, pk_us, if_neg hx]
  · rw [updZ_n _ _ e, pk_un e]
theorem cC_upd (C : Nat → Int32) (v : Nat) (x : Int32) : cC (upd C v x) = updZ (cC C) v x.toInt := by
  funext y
  unfold cC
  by_cases e : y = v
  · subst e; rw [updZ_s, pk_us]
  · rw [updZ_n _ _ e, pk_un e]
theorem mC_fin {C : Nat → Int32} (hO : mOK C) {u : Nat} (hu : u < 64) (hf : ¬ C u = -4) : mC C u = (C u).toInt ∧ mC C u < 1000000 := by
  have : mC C u = (C u).toInt := by unfold mC; rw [if_neg hf]
  exact ⟨this, by rw [this]; exact (hO u hu).resolve_left hf⟩
theorem takes_rel {E : Nat → Nat → Prop} {w : Nat → Nat → Int} {s : Nat} {C : Nat → Int32} (hI : dInv E w s (mC C)) (hO : mOK C) {u v : Nat} (hu : u < 64) (hv : v < 64) (hE : E u v) {l : Int32} (hl : 0 ≤ l.toInt ∧ l.toInt ≤ 216) (hw : w u v = 1 + l.toInt) (hf : ¬ C u = -4) (b : Bool) :
    relS E w u v b (mC C) (if b = false then (if (m_X8_takes C (nI v) ((C u + 1) + l)).1 = false then false else true) else true) (mC (m_X8_takes C (nI v) ((C u + 1) + l)).2) ∧ mOK (m_X8_takes C (nI v) ((C u + 1) + l)).2 := by
  obtain ⟨mu, fu⟩ := mC_fin hO hu hf
  have bu := hI.2.1 u hu
  have bv := hI.2.1 v hv
  have tu := dInv_top hI hu fu
  have eb : (C u + 1) + l = oI ((C u).toInt + 1 + l.toInt) := by
    rw [oI_of (C u), oI_of l, oI_l1, oI_add, oI_add, ← oI_of, ← oI_of]
  have sb : zsm ((C u).toInt + 1 + l.toInt) := zsm_of (by omega) (by omega)
  rw [eb]
  have hne : oI ((C u).toInt + 1 + l.toInt) ≠ -4 := by
    rw [oI_m4]; intro q; have := (oI_eq sb (zsm_of (by decide) (by decide))).mp q; omega
  have hOK' : mOK (upd C v (oI ((C u).toInt + 1 + l.toInt))) := fun x hx => by
    by_cases e : x = v
    · subst e; rw [pk_us, oI_toInt sb]; exact Or.inr (by omega)
    · rw [pk_un e]; exact hO x hx
  have take : (C v = -4 ∨ ¬ C v ≤ oI ((C u).toInt + 1 + l.toInt)) → m_X8_takes C (nI v) (oI ((C u).toInt + 1 + l.toInt)) = (true, upd C v (oI ((C u).toInt + 1 + l.toInt))) := by
    intro h
    unfold m_X8_takes
    simp only [nI_clamp (show v < 2 ^ 31 by omega)]
    rcases h with h | h
    · simp [h]
    · simp [h]
  have leave : ¬ C v = -4 → C v ≤ oI ((C u).toInt + 1 + l.toInt) → m_X8_takes C (nI v) (oI ((C u).toInt + 1 + l.toInt)) = (false, C) := by
    intro h1 h2
    unfold m_X8_takes
    simp only [nI_clamp (show v < 2 ^ 31 by omega)]
    simp [h1, h2, upd_same]
  by_cases c1 : C v = -4
  · rw [take (Or.inl c1)]
    refine ⟨Or.inr ⟨?_, hv, hE, fu, ?_, ?_⟩, hOK'⟩
    · cases b <;> rfl
    · have : mC C v = 1000000 := by unfold mC; rw [if_pos c1]
      rw [this, hw]; omega
    · show mC (upd C v _) = _
      rw [mC_upd C v hne, oI_toInt sb, hw, mu]
      congr 1; omega
  · obtain ⟨mv, fv⟩ := mC_fin hO hv c1
    have cmp : C v ≤ oI ((C u).toInt + 1 + l.toInt) ↔ (C v).toInt ≤ (C u).toInt + 1 + l.toInt := by rw [Int32.le_iff_toInt_le, oI_toInt sb]
    by_cases c2 : C v ≤ oI ((C u).toInt + 1 + l.toInt)
    · rw [leave c1 c2]
      refine ⟨Or.inl ⟨?_, rfl, fun _ _ _ => ?_⟩, hO⟩
      · cases b <;> rfl
      · have := cmp.mp c2; rw [hw]; omega
    · rw [take (Or.inr c2)]
      refine ⟨Or.inr ⟨?_, hv, hE, fu, ?_, ?_⟩, hOK'⟩
      · cases b <;> rfl
      · have : ¬ (C v).toInt ≤ (C u).toInt + 1 + l.toInt := fun q => c2 (cmp.mpr q)
        rw [hw]; omega
      · show mC (upd C v _) = _
        rw [mC_upd C v hne, oI_toInt sb, hw, mu]
        congr 1; omega
def opM (RO : Nat → Int32) (v : Nat) : Bool := !(m_X8_isClosed (RO v))
theorem canGo_nb (RO : Nat → Int32) {c d : Nat} (hc : c < 64) (hd : d < 4) : m_X8_canGo RO (nI c) (nI d) = (decide (nbN c d < 64) && opM RO (nbN c d)) := by
  unfold m_X8_canGo opM
  rcases nbN_tab c hc d hd with ⟨-, h2, h3⟩ | ⟨h1, -, h3, -⟩
  · rw [h2, h3]; rfl
  · rw [h3, if_neg (n4_ne h1), o0 _ h1, decide_eq_true h1, Bool.true_and]
    cases m_X8_isClosed (RO (nbN c d)) <;> rfl
section LKF
variable {RO LG CO : Nat → Int32} {fr : Int32} {s : Nat} {C0 : Nat → Int}
def pM (E : Nat → Nat → Prop) (w : Nat → Nat → Int) (s : Nat) (C0 : Nat → Int) (dn : Nat → Nat → Prop) (t : Bool × (Nat → Int32)) : Prop := pInv E w s C0 dn t.1 (mC t.2) ∧ mOK t.2
theorem pM_mono {E : Nat → Nat → Prop} {w : Nat → Nat → Int} {dn dn' : Nat → Nat → Prop} {t : Bool × (Nat → Int32)} (h : pM E w s C0 dn t) (hd : ∀ u v, u < 64 → v < 64 → dn' u v → E u v → C0 u < 1000000 → dn u v) : pM E w s C0 dn' t := ⟨p_mono h.1 hd, h.2⟩
theorem lf_cell (hL : ∀ c : Nat, c < 64 → 0 ≤ ((m_X8_begin RO LG CO fr).1 c).toInt ∧ ((m_X8_begin RO LG CO fr).1 c).toInt ≤ 216) {k : Nat} (hk : k < 64) : ∀ n d (t : Bool × (Nat → Int32)), d + n = 4 →
    pM (eF (opM RO)) (wF (cC (m_X8_begin RO LG CO fr).1)) s C0 (fun u v => u < k ∨ (u = k ∧ ∃ d', d' < d ∧ nbN k d' = v)) t →
    pM (eF (opM RO)) (wF (cC (m_X8_begin RO LG CO fr).1)) s C0 (fun u _ => u < k + 1) (lpe (lpx (f_X8_lookFrom_24 RO LG CO fr k) n d t)) := by
  intro n
  induction n with
  | zero =>
    intro d t hd h
    refine pM_mono h (fun u v hu hv q hE _ => ?_)
    by_cases e : u = k
    · subst e
      obtain ⟨⟨d', h1, h2⟩, -⟩ := hE
      exact Or.inr ⟨rfl, d', by omega, h2⟩
    · exact Or.inl (by omega)
  | succ n ih =>
    intro d t hd h
    rw [lpx]
    by_cases c0 : t.2 k = -4
    · have e : f_X8_lookFrom_24 RO LG CO fr k d t = .inl (t.1, t.2) := by
        simp only [f_X8_lookFrom_24, nI_clamp (show k < 2 ^ 31 by omega)]; rw [if_pos c0]
      rw [e]
      refine pM_mono (t := t) h (fun u v hu hv q hE hf => ?_)
      by_cases e : u = k
      · subst e
        have := h.1.2.1 u hu
        have m : mC t.2 u = 1000000 := by unfold mC; rw [if_pos c0]
        omega
      · exact Or.inl (by omega)
    · rcases nbN_tab k hk d (by omega) with ⟨-, h2, h3⟩ | ⟨h1, -, h3, -⟩
      · have e : f_X8_lookFrom_24 RO LG CO fr k d t = .inr (t.1, t.2) := by
          simp only [f_X8_lookFrom_24, nI_clamp (show k < 2 ^ 31 by omega), canGo_nb RO hk (show d < 4 by omega), h3]; rw [if_neg c0]; rfl
        rw [e]
        refine ih (d + 1) t (by omega) (pM_mono h (fun u v hu hv q hE hf => ?_))
        rcases q with q | ⟨q1, d', q2, q3⟩
        · exact Or.inl q
        · by_cases w : d' = d
          · rw [w, h3] at q3; omega
          · exact Or.inr ⟨q1, d', by omega, q3⟩
      · by_cases c1 : opM RO (nbN k d) = true
        · have e : f_X8_lookFrom_24 RO LG CO fr k d t = .inr ((if t.1 = false then (if (m_X8_takes t.2 (nI (nbN k d)) ((t.2 k + 1) + (m_X8_begin RO LG CO fr).1 (nbN k d))).1 = false then false else true) else true), (m_X8_takes t.2 (nI (nbN k d)) ((t.2 k + 1) + (m_X8_begin RO LG CO fr).1 (nbN k d))).2) := by
            simp only [f_X8_lookFrom_24, nI_clamp (show k < 2 ^ 31 by omega), canGo_nb RO hk (show d < 4 by omega), h3, c1, decide_eq_true h1, nI_clamp (show nbN k d < 2 ^ 31 by omega)]
            rw [if_neg c0]; rfl
          rw [e]
          obtain ⟨r1, r2⟩ := takes_rel (E := eF (opM RO)) (w := wF (cC (m_X8_begin RO LG CO fr).1)) h.1.1 h.2 hk h1 ⟨⟨d, by omega, rfl⟩, c1⟩ (hL _ h1) rfl c0 t.1
          refine ih (d + 1) _ (by omega) (pM_mono ⟨p_step (dW_F hL) hk h.1 r1, r2⟩ (fun u v hu hv q hE hf => ?_))
          rcases q with q | ⟨q1, d', q2, q3⟩
          · exact Or.inl (Or.inl q)
          · by_cases w : d' = d
            · exact Or.inr ⟨q1, by rw [← q3, w]⟩
            · exact Or.inl (Or.inr ⟨q1, d', by omega, q3⟩)
        · have e : f_X8_lookFrom_24 RO LG CO fr k d t = .inr (t.1, t.2) := by
            have c1' : opM RO (nbN k d) = false := by cases q : opM RO (nbN k d) with
              | false => rfl
              | true => exact absurd q c1
            simp only [f_X8_lookFrom_24, nI_clamp (show k < 2 ^ 31 by omega), canGo_nb RO hk (show d < 4 by omega), c1', Bool.and_false]
            rw [if_neg c0]; rfl
          rw [e]
          refine ih (d + 1) t (by omega) (pM_mono h (fun u v hu hv q hE hf => ?_))
          rcases q with q | ⟨q1, d', q2, q3⟩
          · exact Or.inl q
          · by_cases w : d' = d
            · rw [w] at q3; rw [← q3] at hE; exact absurd hE.2 c1
            · exact Or.inr ⟨q1, d', by omega, q3⟩
theorem lf_round (hL : ∀ c : Nat, c < 64 → 0 ≤ ((m_X8_begin RO LG CO fr).1 c).toInt ∧ ((m_X8_begin RO LG CO fr).1 c).toInt ≤ 216) {C : Nat → Int32} (hI : dInv (eF (opM RO)) (wF (cC (m_X8_begin RO LG CO fr).1)) s (mC C)) (hO : mOK C) : ∀ n, n ≤ 64 → pM (eF (opM RO)) (wF (cC (m_X8_begin RO LG CO fr).1)) s (mC C) (fun u _ => u < n) (itr (f_X8_lookFrom_15 RO LG CO fr) n (false, C)) := by
  intro n
  induction n with
  | zero => intro _; exact ⟨p_mono (p_start hI) (fun u v _ _ q _ _ => absurd q (Nat.not_lt_zero _)), hO⟩
  | succ n ih =>
    intro hn
    have h := ih (by omega)
    exact lf_cell hL (show n < 64 by omega) 4 0 _ rfl (pM_mono h (fun u v _ _ q _ _ => by
      rcases q with q | ⟨-, d', q, -⟩
      · exact q
      · exact absurd q (Nat.not_lt_zero _)))
theorem begin_mC {fr : Nat} (hf : fr < 64) : ∀ v, v < 64 → mC (m_X8_begin RO LG CO (nI fr)).2 v = if v = fr then 0 else 1000000 := by
  intro v hv
  unfold mC
  rw [begin_C RO LG CO (vp_in_nI hf (by decide)) v hv]
  simp only [nI_eq (show v < 2 ^ 31 by omega) (show fr < 2 ^ 31 by omega)]
  by_cases e : v = fr
  · simp [e]
  · simp [e]
theorem begin_OK {fr : Nat} (hf : fr < 64) : mOK (m_X8_begin RO LG CO (nI fr)).2 := by
  intro v hv
  rw [begin_C RO LG CO (vp_in_nI hf (by decide)) v hv]
  by_cases e : nI v = nI fr
  · rw [if_pos e]; exact Or.inr (by decide)
  · rw [if_neg e]; exact Or.inl rfl
end LKF
theorem lookFrom_spec {RO LG CO : Nat → Int32} {fr : Nat} (hf : fr < 64) (hL : ∀ c : Nat, c < 64 → 0 ≤ (m_X8_shine RO LG c).toInt ∧ (m_X8_shine RO LG c).toInt ≤ 216) : ∃ C, m_X8_lookFrom RO LG CO (nI fr) = (m_X8_shine RO LG, C) ∧ mOK C ∧ dInv (eF (opM RO)) (wF (cC (m_X8_shine RO LG))) fr (mC C) ∧ dFix (eF (opM RO)) (wF (cC (m_X8_shine RO LG))) (mC C) := by
  have hB : (m_X8_begin RO LG CO (nI fr)).1 = m_X8_shine RO LG := rfl
  have hL' : ∀ c : Nat, c < 64 → 0 ≤ ((m_X8_begin RO LG CO (nI fr)).1 c).toInt ∧ ((m_X8_begin RO LG CO (nI fr)).1 c).toInt ≤ 216 := hL
  have key := lpx_out (f := f_X8_lookFrom_7 RO LG CO (nI fr)) (fun _ t => (mOK t.2 ∧ dInv (eF (opM RO)) (wF (cC (m_X8_shine RO LG))) fr (mC t.2)) ∧ (t.1 = false → dFix (eF (opM RO)) (wF (cC (m_X8_shine RO LG))) (mC t.2))) (fun r => ∃ t, r = .inr t ∧ (mOK t.2 ∧ dInv (eF (opM RO)) (wF (cC (m_X8_shine RO LG))) fr (mC t.2)) ∧ dFix (eF (opM RO)) (wF (cC (m_X8_shine RO LG))) (mC t.2)) (fun k t h => by
    by_cases c : t.1 = false
    · have e : f_X8_lookFrom_7 RO LG CO (nI fr) k t = .inl (.inr (t.1, t.2)) := by simp only [f_X8_lookFrom_7]; rw [if_pos c]
      refine ⟨fun r hr => ?_, fun s' hs => ?_⟩
      · rw [e] at hr
        have := (Sum.inl.inj hr).symm
        exact ⟨t, this, h.1, h.2 c⟩
      · rw [e] at hs; cases hs
    · have e : f_X8_lookFrom_7 RO LG CO (nI fr) k t = .inr (itr (f_X8_lookFrom_15 RO LG CO (nI fr)) 64 (false, t.2)) := by simp only [f_X8_lookFrom_7]; rw [if_neg c]
      refine ⟨fun r hr => ?_, fun s' hs => ?_⟩
      · rw [e] at hr; cases hr
      · rw [e] at hs
        have hs := Sum.inr.inj hs
        have q := lf_round (CO := CO) (fr := nI fr) (s := fr) hL' (C := t.2) h.1.2 h.1.1 64 (Nat.le_refl _)
        rw [hs] at q
        exact ⟨⟨q.2, q.1.1⟩, fun hb => p_fix (p_mono q.1 (fun u v hu _ _ _ _ => hu)) hb⟩) fuelN 0 (true, (m_X8_begin RO LG CO (nI fr)).2) ⟨⟨begin_OK (RO := RO) (LG := LG) (CO := CO) hf, d_init hf (begin_mC (RO := RO) (LG := LG) (CO := CO) hf)⟩, fun q => (by cases q)⟩
  unfold m_X8_lookFrom
  cases hx : lpx (f_X8_lookFrom_7 RO LG CO (nI fr)) fuelN 0 (true, (m_X8_begin RO LG CO (nI fr)).2) with
  | inr t => exact absurd hx (lookFrom_ends hL (vp_in_nI hf (by decide)) t)
  | inl r =>
    obtain ⟨t, rfl, ⟨h1, h2⟩, h3⟩ := key r hx
    exact ⟨t.2, rfl, h1, h2, h3⟩
section LKT
variable {RO LG CO : Nat → Int32} {fr : Int32} {s : Nat} {C0 : Nat → Int}
theorem lt_cell (hL : ∀ c : Nat, c < 64 → 0 ≤ ((m_X8_begin RO LG CO fr).1 c).toInt ∧ ((m_X8_begin RO LG CO fr).1 c).toInt ≤ 216) {k : Nat} (hk : k < 64) {t : Bool × (Nat → Int32)} (h : pM (eT (opM RO)) (wT (cC (m_X8_begin RO LG CO fr).1)) s C0 (fun _ v => v < k) t) : ∀ d, d ≤ 4 →
    pM (eT (opM RO)) (wT (cC (m_X8_begin RO LG CO fr).1)) s C0 (fun u v => v < k ∨ (v = k ∧ ∃ d', d' < d ∧ nbN k d' = u)) (itr (f_X8_lookTo_24 RO LG CO fr k) d t) := by
  intro d
  induction d with
  | zero =>
    intro _
    refine pM_mono h (fun u v hu hv q hE _ => ?_)
    rcases q with q | ⟨-, d', q, -⟩
    · exact q
    · exact absurd q (Nat.not_lt_zero _)
  | succ d ih =>
    intro hd
    have h := ih (by omega)
    rw [show itr (f_X8_lookTo_24 RO LG CO fr k) (d + 1) t = f_X8_lookTo_24 RO LG CO fr k d (itr (f_X8_lookTo_24 RO LG CO fr k) d t) from rfl]
    generalize itr (f_X8_lookTo_24 RO LG CO fr k) d t = t at h ⊢
    rcases nbN_tab k hk d (by omega) with ⟨-, h2, h3⟩ | ⟨h1, -, h3, -⟩
    · have e : f_X8_lookTo_24 RO LG CO fr k d t = (t.1, t.2) := by
        simp only [f_X8_lookTo_24, canGo_nb RO hk (show d < 4 by omega), h3]; rfl
      rw [e]
      refine pM_mono (t := t) h (fun u v hu hv q hE hf => ?_)
      rcases q with q | ⟨q1, d', q2, q3⟩
      · exact Or.inl q
      · by_cases w : d' = d
        · rw [w, h3] at q3; omega
        · exact Or.inr ⟨q1, d', by omega, q3⟩
    · by_cases c1 : opM RO (nbN k d) = true
      · by_cases c0 : t.2 (nbN k d) = -4
        · have e : f_X8_lookTo_24 RO LG CO fr k d t = (t.1, t.2) := by
            simp only [f_X8_lookTo_24, canGo_nb RO hk (show d < 4 by omega), h3, c1, decide_eq_true h1, nI_clamp (show nbN k d < 2 ^ 31 by omega), c0, if_neg (n4_ne h1)]; rfl
          rw [e]
          refine pM_mono (t := t) h (fun u v hu hv q hE hf => ?_)
          rcases q with q | ⟨q1, d', q2, q3⟩
          · exact Or.inl q
          · by_cases w : d' = d
            · have := h.1.2.1 u hu
              have m : mC t.2 u = 1000000 := by unfold mC; rw [← q3, w, if_pos c0]
              omega
            · exact Or.inr ⟨q1, d', by omega, q3⟩
        · have e : f_X8_lookTo_24 RO LG CO fr k d t = ((if t.1 = false then (if (m_X8_takes t.2 (nI k) ((t.2 (nbN k d) + 1) + (m_X8_begin RO LG CO fr).1 (nbN k d))).1 = false then false else true) else true), (m_X8_takes t.2 (nI k) ((t.2 (nbN k d) + 1) + (m_X8_begin RO LG CO fr).1 (nbN k d))).2) := by
            simp only [f_X8_lookTo_24, canGo_nb RO hk (show d < 4 by omega), h3, c1, decide_eq_true h1, nI_clamp (show nbN k d < 2 ^ 31 by omega), c0, if_neg (n4_ne h1)]; rfl
          rw [e]
          obtain ⟨r1, r2⟩ := takes_rel (E := eT (opM RO)) (w := wT (cC (m_X8_begin RO LG CO fr).1)) h.1.1 h.2 h1 hk ⟨⟨d, by omega, rfl⟩, c1⟩ (hL _ h1) rfl c0 t.1
          refine pM_mono ⟨p_step (dW_T hL) h1 h.1 r1, r2⟩ (fun u v hu hv q hE hf => ?_)
          rcases q with q | ⟨q1, d', q2, q3⟩
          · exact Or.inl (Or.inl q)
          · by_cases w : d' = d
            · exact Or.inr ⟨by rw [← q3, w], q1⟩
            · exact Or.inl (Or.inr ⟨q1, d', by omega, q3⟩)
      · have e : f_X8_lookTo_24 RO LG CO fr k d t = (t.1, t.2) := by
          have c1' : opM RO (nbN k d) = false := by cases q : opM RO (nbN k d) with
            | false => rfl
            | true => exact absurd q c1
          simp only [f_X8_lookTo_24, canGo_nb RO hk (show d < 4 by omega), c1', Bool.and_false]; rfl
        rw [e]
        refine pM_mono (t := t) h (fun u v hu hv q hE hf => ?_)
        rcases q with q | ⟨q1, d', q2, q3⟩
        · exact Or.inl q
        · by_cases w : d' = d
          · rw [w] at q3; rw [← q3] at hE; exact absurd hE.2 c1
          · exact Or.inr ⟨q1, d', by omega, q3⟩
theorem lt_round (hL : ∀ c : Nat, c < 64 → 0 ≤ ((m_X8_begin RO LG CO fr).1 c).toInt ∧ ((m_X8_begin RO LG CO fr).1 c).toInt ≤ 216) {C : Nat → Int32} (hI : dInv (eT (opM RO)) (wT (cC (m_X8_begin RO LG CO fr).1)) s (mC C)) (hO : mOK C) : ∀ n, n ≤ 64 → pM (eT (opM RO)) (wT (cC (m_X8_begin RO LG CO fr).1)) s (mC C) (fun _ v => v < n) (itr (f_X8_lookTo_15 RO LG CO fr) n (false, C)) := by
  intro n
  induction n with
  | zero => intro _; exact ⟨p_mono (p_start hI) (fun u v _ _ q _ _ => absurd q (Nat.not_lt_zero _)), hO⟩
  | succ n ih =>
    intro hn
    have h := lt_cell hL (show n < 64 by omega) (ih (by omega)) 4 (Nat.le_refl _)
    refine pM_mono h (fun u v _ _ q hE _ => ?_)
    by_cases e : v = n
    · subst e
      obtain ⟨⟨d', h1, h2⟩, -⟩ := hE
      exact Or.inr ⟨rfl, d', h1, h2⟩
    · exact Or.inl (by omega)
end LKT
theorem lookTo_spec {RO LG CO : Nat → Int32} {fr : Nat} (hf : fr < 64) (hL : ∀ c : Nat, c < 64 → 0 ≤ (m_X8_shine RO LG c).toInt ∧ (m_X8_shine RO LG c).toInt ≤ 216) : ∃ C, m_X8_lookTo RO LG CO (nI fr) = (m_X8_shine RO LG, C) ∧ mOK C ∧ dInv (eT (opM RO)) (wT (cC (m_X8_shine RO LG))) fr (mC C) ∧ dFix (eT (opM RO)) (wT (cC (m_X8_shine RO LG))) (mC C) := by
  have hL' : ∀ c : Nat, c < 64 → 0 ≤ ((m_X8_begin RO LG CO (nI fr)).1 c).toInt ∧ ((m_X8_begin RO LG CO (nI fr)).1 c).toInt ≤ 216 := hL
  have key := lpx_out (f := f_X8_lookTo_7 RO LG CO (nI fr)) (fun _ t => (mOK t.2 ∧ dInv (eT (opM RO)) (wT (cC (m_X8_shine RO LG))) fr (mC t.2)) ∧ (t.1 = false → dFix (eT (opM RO)) (wT (cC (m_X8_shine RO LG))) (mC t.2))) (fun r => ∃ t, r = .inr t ∧ (mOK t.2 ∧ dInv (eT (opM RO)) (wT (cC (m_X8_shine RO LG))) fr (mC t.2)) ∧ dFix (eT (opM RO)) (wT (cC (m_X8_shine RO LG))) (mC t.2)) (fun k t h => by
    by_cases c : t.1 = false
    · have e : f_X8_lookTo_7 RO LG CO (nI fr) k t = .inl (.inr (t.1, t.2)) := by simp only [f_X8_lookTo_7]; rw [if_pos c]
      refine ⟨fun r hr => ?_, fun s' hs => ?_⟩
      · rw [e] at hr
        have := (Sum.inl.inj hr).symm
        exact ⟨t, this, h.1, h.2 c⟩
      · rw [e] at hs; cases hs
    · have e : f_X8_lookTo_7 RO LG CO (nI fr) k t = .inr (itr (f_X8_lookTo_15 RO LG CO (nI fr)) 64 (false, t.2)) := by simp only [f_X8_lookTo_7]; rw [if_neg c]
      refine ⟨fun r hr => ?_, fun s' hs => ?_⟩
      · rw [e] at hr; cases hr
      · rw [e] at hs
        have hs := Sum.inr.inj hs
        have q := lt_round (CO := CO) (fr := nI fr) (s := fr) hL' (C := t.2) h.1.2 h.1.1 64 (Nat.le_refl _)
        rw [hs] at q
        exact ⟨⟨q.2, q.1.1⟩, fun hb => p_fix (p_mono q.1 (fun u v _ hv _ _ _ => hv)) hb⟩) fuelN 0 (true, (m_X8_begin RO LG CO (nI fr)).2) ⟨⟨begin_OK (RO := RO) (LG := LG) (CO := CO) hf, d_init hf (begin_mC (RO := RO) (LG := LG) (CO := CO) hf)⟩, fun q => (by cases q)⟩
  unfold m_X8_lookTo
  cases hx : lpx (f_X8_lookTo_7 RO LG CO (nI fr)) fuelN 0 (true, (m_X8_begin RO LG CO (nI fr)).2) with
  | inr t => exact absurd hx (lookTo_ends hL (vp_in_nI hf (by decide)) t)
  | inl r =>
    obtain ⟨t, rfl, ⟨h1, h2⟩, h3⟩ := key r hx
    exact ⟨t.2, rfl, h1, h2, h3⟩
