/-! words of my own: booleans as ints, contracts over worlds, joins, loops -/
def bI (b : Bool) : Int32 := bif b then 1 else 0
theorem bI_nar (b : Bool) : narrow .boolean (.int (bI b)) = .int (bI b) := by cases b <;> rfl
theorem bI_0 (b : Bool) : bI b = 0 ↔ b = false := by cases b <;> decide
theorem bI_ite (c : Prop) [Decidable c] (a b : Bool) : bI (if c then a else b) = if c then bI a else bI b := by split <;> rfl
theorem vp_in_cmp {x y : Int32} {n : Nat} (h1 : ¬ x < 0) (h2 : ¬ y ≤ x) (hy : y.toInt = n) : vp_in x n := by
  rw [vp_in_iff]
  rw [Int32.lt_iff_toInt_lt, Int32.toInt_zero] at h1
  rw [Int32.le_iff_toInt_le] at h2
  omega
abbrev vT : Type := ClassId × ClassId × ClassId × ClassId
abbrev tyL (y : vT) : List (ClassId × FieldType) := [(y.1, .int), (y.2.1, .char), (y.2.2.1, .boolean), (y.2.2.2, .object "PillarLight$Scene")]
/-- the links of nest mates' private methods -/
def NW (U : State) : Prop := va_Nw (.methodLinkNest RX3 57 yX7_isWithin RX7) U ∧ va_Nw (.methodLinkNest RX6 69 yX7_bitOf RX7) U
theorem NW.same {u U : State} (h : u.vm = U.vm) (hN : NW u) : NW U := ⟨va_Nw.same rfl h hN.1, va_Nw.same rfl h hN.2⟩
theorem NW.warm {s U : State} (hW : s.WarmedH U.vm) (hN : NW s) : NW U := ⟨va_Nw.warmM hW hN.1, va_Nw.warmM hW hN.2⟩
def PreW (D : va_G) (y : vT) (W : va_W) (sz : Nat) (U : State) : Prop := U.heap.size = sz ∧ va_P D vwCl W U.heap ∧ va_K D vwCl (tyL y) U ∧ va_D (fun _ => True) W ∧ NW U
def PostW (D : va_G) (A : Nat → Prop) (W : va_W) (t : State) : Prop := va_P D vwCl W t.heap ∧ va_D A W
theorem preW_blind {av : List Value} {D : va_G} {y : vT} {W : va_W} {sz : Nat} : FrameBlind (va_Pc av (PreW D y W sz)) := fun a U g mk q => by
  obtain ⟨q0, q1, qP, qK, qD, qN⟩ := q
  exact ⟨q0, q1, qP, va_K.moved (u := U) (U := U.calling g mk a) (Vm.Alike.refl U.vm) qK, qD, NW.same (u := U) (U := U.calling g mk a) rfl qN⟩
theorem preW_at {s : State} {D : va_G} {y : vT} {wc : va_W} {H : Heap} {A : Nat → Prop} {av : List Value} (hP : va_P D vwCl wc H) (hK : va_K D vwCl (tyL y) s) (hD : va_D A wc) (hN : NW s) : ∀ U : State, U.heap = H → s.WarmedH U.vm → va_Pc av (PreW D y wc H.size) av.toArray U :=
  fun U hU hW => ⟨rfl, by rw [hU], by rw [hU]; exact hP, va_K.moved hW.alike hK, hD.weaken (fun _ _ _ _ => trivial), NW.warm hW hN⟩
theorem preS_blind {av : List Value} : FrameBlind (va_Pc av (fun _ => True)) := fun _ _ _ _ q => q
theorem P_keep {D : va_G} {cl : List vw_C} {ws : va_W} {H H1 : Heap} (hP : va_P D cl ws H) (hk : ∀ q : Nat, q < H.size → ¬ False → H1[q]? = H[q]?) : va_P D cl ws H1 := fun k q hq => (hP k q hq).kept (hk q.1 (hP k q hq).lt id)
theorem fm_of {α : Type} {g : Nat → Option α} {is : List Nat} {w : List α} (h : is.map g = w.map some) : is.filterMap g = w := by
  have e : is.filterMap g = (is.map g).filterMap id := by rw [List.filterMap_map]; rfl
  rw [e, h, List.filterMap_map]
  have e2 : (id ∘ some : α → Option α) = some := rfl
  rw [e2, List.filterMap_some]
section CW
variable {p : Program} {l : Launch} {e : Env} {R : Room} {s : State} {m : MethodId} {args : Array Value} {below : List Frame} {meth : Method} {c : Code} {H : Heap} {locs : List Loc} {cells slots : Nat} {Q : State → Prop}
variable {cc : ByteArray} {pc : Nat} {ls : Array Slot} {rest st0 : List Value} {D : va_G} {A0 : Nat → Prop} {H0 : Heap} {a : Array Value}
theorem lb_if_eq (hexec : p.tables.exec = Jvm.exec) (hb : c.code = cc) {z : Bool} {off : Int} {tgt : Nat} (hdg : decode cc pc = .ok (.ifCond .eq off, 3)) (ht : (pc : Int) + off = (tgt : Int))
    (kt : z = false → W p l e R s m args below meth c H locs cells slots Q (F0 m tgt ls rest)) (kf : ¬ z = false → W p l e R s m args below meth c H locs cells slots Q (F0 m (pc + 3) ls rest)) : W p l e R s m args below meth c H locs cells slots Q (F0 m pc ls (.int (bI z) :: rest)) :=
  lv_if_eq hexec hb hdg ht (fun h => kt ((bI_0 z).mp h)) (fun h => kf (fun q => h ((bI_0 z).mpr q)))
theorem lb_if_ne (hexec : p.tables.exec = Jvm.exec) (hb : c.code = cc) {z : Bool} {off : Int} {tgt : Nat} (hdg : decode cc pc = .ok (.ifCond .ne off, 3)) (ht : (pc : Int) + off = (tgt : Int))
    (kt : ¬ z = false → W p l e R s m args below meth c H locs cells slots Q (F0 m tgt ls rest)) (kf : z = false → W p l e R s m args below meth c H locs cells slots Q (F0 m (pc + 3) ls rest)) : W p l e R s m args below meth c H locs cells slots Q (F0 m pc ls (.int (bI z) :: rest)) :=
  lv_if_ne hexec hb hdg ht (fun h => kt (fun q => h ((bI_0 z).mpr q))) (fun h => kf ((bI_0 z).mp h))
/-- a call on a part of the world -/
theorem callW_i {S : Type} {post : Int32 → S → Prop} {wc wr ws : va_W} {w1 wn : S → va_W}
    (hr : va_Run p l e R s m args below meth c H locs cells slots 0 0 (F0 m pc ls st0) rest (va_Qi post (fun u t => PostW D (va_A wc H.size) (w1 u) t) (va_A wc H.size) a) (va_A wc H.size))
    (hP : va_P D vwCl ws H) (hD : va_D A0 ws) (hS : va_S A0 H0 H locs) (hA : ∀ q, H0.size ≤ q → A0 q)
    (isC isR isN : List Nat) (hC : isC.map (fun i => ws[i]?) = wc.map some) (hR : isR.map (fun i => ws[i]?) = wr.map some) (hn : va_nd isR = true) (hdis : ∀ i ∈ isR, i ∉ isC) (hN : ∀ u, isN.map (fun i => (wr ++ w1 u)[i]?) = (wn u).map some) (hnn : va_nd isN = true)
    (kk : ∀ (r : Int32) (u : S) (H1 : Heap) (locs1 : List Loc), post r u → va_P D vwCl (wn u) H1 → va_D A0 (wn u) → va_S A0 H0 H1 locs1 → W p l e R s m args below meth c H1 locs1 cells slots Q (F0 m (pc + 3) ls (.int r :: rest))) : W p l e R s m args below meth c H locs cells slots Q (F0 m pc ls st0) := by
  have hF := va_free hD hS hA isC hC
  refine va_calli hr hS (fun q _ h => hF q h) hF (fun r u t H1 locs1 ht _ hp hB _ hk1 hS1 => ?_)
  obtain ⟨hP1, hD1⟩ := hB
  rw [ht] at hP1
  obtain ⟨gP, gD⟩ := va_join hP hD isC isR hC hR hn hdis hk1 hF hP1 hD1
  exact kk r u H1 locs1 hp (gP.sub isN (fm_of (hN u))) (gD.sub isN hnn (hN u)) hS1
theorem callW_l {S : Type} {post : Int64 → S → Prop} {wc wr ws : va_W} {w1 wn : S → va_W}
    (hr : va_Run p l e R s m args below meth c H locs cells slots 0 0 (F0 m pc ls st0) rest (va_Ql post (fun u t => PostW D (va_A wc H.size) (w1 u) t) (va_A wc H.size) a) (va_A wc H.size))
    (hP : va_P D vwCl ws H) (hD : va_D A0 ws) (hS : va_S A0 H0 H locs) (hA : ∀ q, H0.size ≤ q → A0 q)
    (isC isR isN : List Nat) (hC : isC.map (fun i => ws[i]?) = wc.map some) (hR : isR.map (fun i => ws[i]?) = wr.map some) (hn : va_nd isR = true) (hdis : ∀ i ∈ isR, i ∉ isC) (hN : ∀ u, isN.map (fun i => (wr ++ w1 u)[i]?) = (wn u).map some) (hnn : va_nd isN = true)
    (kk : ∀ (r : Int64) (u : S) (H1 : Heap) (locs1 : List Loc), post r u → va_P D vwCl (wn u) H1 → va_D A0 (wn u) → va_S A0 H0 H1 locs1 → W p l e R s m args below meth c H1 locs1 cells slots Q (F0 m (pc + 3) ls (.long r :: rest))) : W p l e R s m args below meth c H locs cells slots Q (F0 m pc ls st0) := by
  have hF := va_free hD hS hA isC hC
  refine va_calll hr hS (fun q _ h => hF q h) hF (fun r u t H1 locs1 ht _ hp hB _ hk1 hS1 => ?_)
  obtain ⟨hP1, hD1⟩ := hB
  rw [ht] at hP1
  obtain ⟨gP, gD⟩ := va_join hP hD isC isR hC hR hn hdis hk1 hF hP1 hD1
  exact kk r u H1 locs1 hp (gP.sub isN (fm_of (hN u))) (gD.sub isN hnn (hN u)) hS1
theorem callW_d {S : Type} {post : UInt64 → S → Prop} {wc wr ws : va_W} {w1 wn : S → va_W}
    (hr : va_Run p l e R s m args below meth c H locs cells slots 0 0 (F0 m pc ls st0) rest (va_Qd post (fun u t => PostW D (va_A wc H.size) (w1 u) t) (va_A wc H.size) a) (va_A wc H.size))
    (hP : va_P D vwCl ws H) (hD : va_D A0 ws) (hS : va_S A0 H0 H locs) (hA : ∀ q, H0.size ≤ q → A0 q)
    (isC isR isN : List Nat) (hC : isC.map (fun i => ws[i]?) = wc.map some) (hR : isR.map (fun i => ws[i]?) = wr.map some) (hn : va_nd isR = true) (hdis : ∀ i ∈ isR, i ∉ isC) (hN : ∀ u, isN.map (fun i => (wr ++ w1 u)[i]?) = (wn u).map some) (hnn : va_nd isN = true)
    (kk : ∀ (r : UInt64) (u : S) (H1 : Heap) (locs1 : List Loc), post r u → va_P D vwCl (wn u) H1 → va_D A0 (wn u) → va_S A0 H0 H1 locs1 → W p l e R s m args below meth c H1 locs1 cells slots Q (F0 m (pc + 3) ls (.double r :: rest))) : W p l e R s m args below meth c H locs cells slots Q (F0 m pc ls st0) := by
  have hF := va_free hD hS hA isC hC
  refine va_calld hr hS (fun q _ h => hF q h) hF (fun r u t H1 locs1 ht _ hp hB _ hk1 hS1 => ?_)
  obtain ⟨hP1, hD1⟩ := hB
  rw [ht] at hP1
  obtain ⟨gP, gD⟩ := va_join hP hD isC isR hC hR hn hdis hk1 hF hP1 hD1
  exact kk r u H1 locs1 hp (gP.sub isN (fm_of (hN u))) (gD.sub isN hnn (hN u)) hS1
theorem callW_v {S : Type} {post : S → Prop} {wc wr ws : va_W} {w1 wn : S → va_W}
    (hr : va_Run p l e R s m args below meth c H locs cells slots 0 0 (F0 m pc ls st0) rest (va_Qv post (fun u t => PostW D (va_A wc H.size) (w1 u) t) (va_A wc H.size) a) (va_A wc H.size))
    (hP : va_P D vwCl ws H) (hD : va_D A0 ws) (hS : va_S A0 H0 H locs) (hA : ∀ q, H0.size ≤ q → A0 q)
    (isC isR isN : List Nat) (hC : isC.map (fun i => ws[i]?) = wc.map some) (hR : isR.map (fun i => ws[i]?) = wr.map some) (hn : va_nd isR = true) (hdis : ∀ i ∈ isR, i ∉ isC) (hN : ∀ u, isN.map (fun i => (wr ++ w1 u)[i]?) = (wn u).map some) (hnn : va_nd isN = true)
    (kk : ∀ (u : S) (H1 : Heap) (locs1 : List Loc), post u → va_P D vwCl (wn u) H1 → va_D A0 (wn u) → va_S A0 H0 H1 locs1 → W p l e R s m args below meth c H1 locs1 cells slots Q (F0 m (pc + 3) ls rest)) : W p l e R s m args below meth c H locs cells slots Q (F0 m pc ls st0) := by
  have hF := va_free hD hS hA isC hC
  refine va_callv hr hS (fun q _ h => hF q h) hF (fun u t H1 locs1 ht _ hp hB _ hk1 hS1 => ?_)
  obtain ⟨hP1, hD1⟩ := hB
  rw [ht] at hP1
  obtain ⟨gP, gD⟩ := va_join hP hD isC isR hC hR hn hdis hk1 hF hP1 hD1
  exact kk u H1 locs1 hp (gP.sub isN (fm_of (hN u))) (gD.sub isN hnn (hN u)) hS1
/-- a call of a static method that neither reads nor writes the heap -/
theorem callK_i {S : Type} {post : Int32 → S → Prop} {ws : va_W}
    (hr : va_Run p l e R s m args below meth c H locs cells slots 0 0 (F0 m pc ls st0) rest (va_Qi post (fun _ _ => True) (fun _ => False) a) (fun _ => False))
    (hP : va_P D vwCl ws H) (hS : va_S A0 H0 H locs)
    (kk : ∀ (r : Int32) (u : S) (H1 : Heap) (locs1 : List Loc), post r u → va_P D vwCl ws H1 → va_S A0 H0 H1 locs1 → W p l e R s m args below meth c H1 locs1 cells slots Q (F0 m (pc + 3) ls (.int r :: rest))) : W p l e R s m args below meth c H locs cells slots Q (F0 m pc ls st0) :=
  va_calli hr hS (fun _ _ h => h.elim) (fun _ h => h.elim) (fun r u t H1 locs1 _ _ hp _ _ hk1 hS1 => kk r u H1 locs1 hp (P_keep hP hk1) hS1)
theorem callS_i {S : Type} {post : Int32 → S → Prop}
    (hr : va_Run p l e R s m args below meth c H locs cells slots 0 0 (F0 m pc ls st0) rest (va_Qi post (fun _ _ => True) (fun _ => False) a) (fun _ => False))
    (hS : va_S A0 H0 H locs)
    (kk : ∀ (r : Int32) (u : S) (H1 : Heap) (locs1 : List Loc), post r u → va_S A0 H0 H1 locs1 → W p l e R s m args below meth c H1 locs1 cells slots Q (F0 m (pc + 3) ls (.int r :: rest))) : W p l e R s m args below meth c H locs cells slots Q (F0 m pc ls st0) :=
  va_calli hr hS (fun _ _ h => h.elim) (fun _ h => h.elim) (fun r u t H1 locs1 _ _ hp _ _ _ hS1 => kk r u H1 locs1 hp hS1)
/-- where ways come together again -/
theorem cutW {X : Type} {g : JFrame} (pcJ : Nat) (Φ : X → Heap → List Loc → Array Slot → Prop) (st : X → List Value)
    (kK : ∀ x H1 locs1 ls1, Φ x H1 locs1 ls1 → W p l e R s m args below meth c H1 locs1 cells slots Q (F0 m pcJ ls1 (st x)))
    (kk : (∀ x H1 locs1 ls1, Φ x H1 locs1 ls1 → W p l e R s m args below meth c H1 locs1 cells slots Q (F0 m pcJ ls1 (st x))) → W p l e R s m args below meth c H locs cells slots Q g) : W p l e R s m args below meth c H locs cells slots Q g := kk kK
end CW
/-- n rounds, numbered from 0 -/
def itr {σ : Type} (f : Nat → σ → σ) : Nat → σ → σ
  | 0, s => s
  | n + 1, s => f n (itr f n s)
theorem itr_run {σ : Type} {f : Nat → σ → σ} {G : Nat → σ → Prop} (n : Nat) (s0 : σ) (hend : G n (itr f n s0)) (hstep : ∀ k s, k < n → s = itr f k s0 → G (k + 1) (f k s) → G k s) : G 0 s0 := by
  have h : ∀ j k, k + j = n → G k (itr f k s0) := by
    intro j
    induction j with
    | zero => intro k hk; have e : k = n := by omega
              subst e; exact hend
    | succ j ih => intro k hk; exact hstep k _ (by omega) rfl (ih (k + 1) (by omega))
  exact h n 0 (by omega)
/-- at most n rounds from number k on; a round may leave with an answer -/
def lpx {σ ρ : Type} (f : Nat → σ → ρ ⊕ σ) : Nat → Nat → σ → ρ ⊕ σ
  | 0, _, s => .inr s
  | n + 1, k, s => match f k s with
    | .inl r => .inl r
    | .inr s' => lpx f n (k + 1) s'
theorem lpx_run {σ ρ : Type} {f : Nat → σ → ρ ⊕ σ} {G : Nat → σ → Prop} (Inv : Nat → σ → Prop) (n i0 : Nat) (s0 : σ) (h0 : Inv i0 s0)
    (hend : ∀ s, lpx f n i0 s0 = .inr s → Inv (i0 + n) s → G (i0 + n) s)
    (hstep : ∀ k s, i0 ≤ k → k < i0 + n → Inv k s → (∀ r, f k s = .inl r → lpx f n i0 s0 = .inl r) → (∀ s', f k s = .inr s' → Inv (k + 1) s' → G (k + 1) s') → G k s) : G i0 s0 := by
  have h : ∀ j k s, i0 ≤ k → k + j = i0 + n → Inv k s → lpx f n i0 s0 = lpx f j k s → G k s := by
    intro j
    induction j with
    | zero =>
      intro k s h1 h2 h3 h4
      have e : k = i0 + n := by omega
      subst e
      exact hend s h4 h3
    | succ j ih =>
      intro k s h1 h2 h3 h4
      refine hstep k s h1 (by omega) h3 (fun r hr => ?_) (fun s' hs hI => ?_)
      · rw [h4, lpx, hr]
      · exact ih (k + 1) s' (by omega) (by omega) hI (by rw [h4, lpx, hs])
  exact h n i0 s0 (Nat.le_refl _) rfl h0 rfl
section LW
variable {p : Program} {l : Launch} {e : Env} {R : Room} {s : State} {m : MethodId} {args : Array Value} {below : List Frame} {meth : Method} {c : Code} {H : Heap} {locs : List Loc} {cells slots : Nat} {Q : State → Prop} {ls : Array Slot}
theorem loopW {σ : Type} (pcH : Nat) (f : Nat → σ → σ) (n : Nat) (s0 : σ) (Φ : Nat → σ → Heap → List Loc → Array Slot → Prop) (k0 : Φ 0 s0 H locs ls)
    (kend : ∀ t H1 locs1 ls1, t = itr f n s0 → Φ n t H1 locs1 ls1 → W p l e R s m args below meth c H1 locs1 cells slots Q (F0 m pcH ls1 []))
    (kstep : ∀ k t, k < n → t = itr f k s0 → (∀ H1 locs1 ls1, Φ (k + 1) (f k t) H1 locs1 ls1 → W p l e R s m args below meth c H1 locs1 cells slots Q (F0 m pcH ls1 [])) → ∀ H1 locs1 ls1, Φ k t H1 locs1 ls1 → W p l e R s m args below meth c H1 locs1 cells slots Q (F0 m pcH ls1 [])) :
    W p l e R s m args below meth c H locs cells slots Q (F0 m pcH ls []) :=
  itr_run (f := f) (G := fun k t => ∀ H1 locs1 ls1, Φ k t H1 locs1 ls1 → W p l e R s m args below meth c H1 locs1 cells slots Q (F0 m pcH ls1 [])) n s0
    (fun H1 locs1 ls1 h => kend _ H1 locs1 ls1 rfl h) (fun k t hk e ih H1 locs1 ls1 h => kstep k t hk e ih H1 locs1 ls1 h) H locs ls k0
theorem loopX {σ ρ : Type} (pcH : Nat) (f : Nat → σ → ρ ⊕ σ) (Inv : Nat → σ → Prop) (n i0 : Nat) (s0 : σ) (Φ : Nat → σ → Heap → List Loc → Array Slot → Prop) (h0 : Inv i0 s0) (k0 : Φ i0 s0 H locs ls)
    (kend : ∀ t H1 locs1 ls1, lpx f n i0 s0 = .inr t → Inv (i0 + n) t → Φ (i0 + n) t H1 locs1 ls1 → W p l e R s m args below meth c H1 locs1 cells slots Q (F0 m pcH ls1 []))
    (kstep : ∀ k t, i0 ≤ k → k < i0 + n → Inv k t → (∀ r, f k t = .inl r → lpx f n i0 s0 = .inl r) → (∀ t', f k t = .inr t' → Inv (k + 1) t' → ∀ H1 locs1 ls1, Φ (k + 1) t' H1 locs1 ls1 → W p l e R s m args below meth c H1 locs1 cells slots Q (F0 m pcH ls1 [])) → ∀ H1 locs1 ls1, Φ k t H1 locs1 ls1 → W p l e R s m args below meth c H1 locs1 cells slots Q (F0 m pcH ls1 [])) :
    W p l e R s m args below meth c H locs cells slots Q (F0 m pcH ls []) :=
  lpx_run (f := f) (G := fun k t => ∀ H1 locs1 ls1, Φ k t H1 locs1 ls1 → W p l e R s m args below meth c H1 locs1 cells slots Q (F0 m pcH ls1 [])) Inv n i0 s0 h0
    (fun t e1 e2 H1 locs1 ls1 h => kend t H1 locs1 ls1 e1 e2 h) (fun k t h1 h2 h3 h4 h5 H1 locs1 ls1 h => kstep k t h1 h2 h3 h4 h5 H1 locs1 ls1 h) H locs ls k0
end LW
def iabs (x : Int32) : Int32 := if 0 ≤ x then x else 0 - x
def i2c (x : Int32) : Int32 := (x.toUInt32 % 65536).toInt32
def lushr64 (x : Int64) (y : Int32) : Int64 := (x.toUInt64 >>> (y.toInt64.toUInt64 &&& Int64.toUInt64 63)).toInt64
/-- what a loop with leaves comes to: an answer from within, or a state behind it -/
def lpr {R σ T : Type} (x : (R ⊕ σ) ⊕ σ) (j : R → T) (k : σ → T) : T := match x with
  | .inl (.inl r) => j r
  | .inl (.inr t) => k t
  | .inr t => k t
theorem lpr_k {R σ T : Type} {x : (R ⊕ σ) ⊕ σ} {j : R → T} {k : σ → T} {t : σ} (h : x = .inl (.inr t) ∨ x = .inr t) : lpr x j k = k t := by
  rcases h with h | h <;> rw [h] <;> rfl
theorem lpr_j {R σ T : Type} {x : (R ⊕ σ) ⊕ σ} {j : R → T} {k : σ → T} {r : R} (h : x = .inl (.inl r)) : lpr x j k = j r := by rw [h]; rfl
theorem sw_out {x : Int32} (lo hi : Nat) (ks : List Int32) (hk : ∀ j : Nat, j < hi + 1 → lo ≤ j → nI j ∈ ks) (h : ∀ k ∈ ks, ¬ x = k) (hh : hi < 2 ^ 31) : x.toInt < lo ∨ hi < x.toInt := by
  by_cases h1 : x.toInt < lo
  · exact Or.inl h1
  by_cases h2 : (hi : Int) < x.toInt
  · exact Or.inr h2
  exfalso
  have e : x = nI x.toInt.toNat := by
    apply Int32.toInt_inj.mp
    rw [nI_toInt (by omega)]
    omega
  exact h _ (hk x.toInt.toNat (by omega) (by omega)) e
section SW
variable {p : Program} {l : Launch} {e : Env} {R : Room} {s : State} {m : MethodId} {args : Array Value} {below : List Frame} {meth : Method} {c : Code} {H : Heap} {locs : List Loc} {cells slots : Nat} {Q : State → Prop} {g : JFrame}
theorem startW {D : va_G} {cl : List vw_C} {W0 : va_W} {A : Nat → Prop} (kk : ∀ H locs, va_P D cl W0 H → va_S A s.heap H locs → W p l e R s m args below meth c H locs cells slots Q g) (hP : va_P D cl W0 s.heap) (hS : va_S A s.heap s.heap []) : W p l e R s m args below meth c s.heap [] cells slots Q g := kk _ _ hP hS
theorem startS {A : Nat → Prop} (kk : ∀ H locs, va_S A s.heap H locs → W p l e R s m args below meth c H locs cells slots Q g) (hS : va_S A s.heap s.heap []) : W p l e R s m args below meth c s.heap [] cells slots Q g := kk _ _ hS
theorem W.ofeqi {pc : Nat} {ls : Array Slot} {x : Int32} {rest : List Value} (y : Int32) (h : x = y) (kk : W p l e R s m args below meth c H locs cells slots Q (F0 m pc ls (.int y :: rest))) : W p l e R s m args below meth c H locs cells slots Q (F0 m pc ls (.int x :: rest)) := by rw [h]; exact kk
end SW
theorem fb_hi (b : Int32) : b.toInt < 2147483648 := by have := Int32.toInt_lt b; omega
theorem cl_toInt {b : Int32} (h : 0 ≤ b.toInt) : b.toInt = (b.toNatClampNeg : Int) := by
  show b.toInt = ((b.toInt.toNat : Nat) : Int)
  omega
theorem cl_nI {b : Int32} (h : 0 ≤ b.toInt) : b = nI b.toNatClampNeg := by
  apply Int32.toInt_inj.mp
  have := cl_toInt h
  have := fb_hi b
  rw [nI_toInt (by omega)]
  omega
theorem cl_ge {b : Int32} {k N : Nat} (h : 0 ≤ b.toInt ∧ b.toInt ≤ N) (hk : k < b.toNatClampNeg) (hN : N < 2 ^ 31 := by decide) : ¬ b ≤ nI k := by
  have := cl_toInt h.1
  rw [Int32.le_iff_toInt_le, nI_toInt (by omega)]
  omega
theorem cl_le {b : Int32} {k N : Nat} (h : 0 ≤ b.toInt ∧ b.toInt ≤ N) (hk : b.toNatClampNeg ≤ k) (hk2 : k < 2 ^ 31) : b ≤ nI k := by
  have := cl_toInt h.1
  rw [Int32.le_iff_toInt_le, nI_toInt hk2]
  omega
theorem cl_in {b : Int32} {k N : Nat} (h : 0 ≤ b.toInt ∧ b.toInt ≤ N) (hk : k < b.toNatClampNeg) (hN : N < 2 ^ 31 := by decide) : vp_in (nI k) N := by
  have := cl_toInt h.1
  exact vp_in_nI (by omega) hN
theorem vp_in_pred {k N : Nat} (h : 1 ≤ k) (h2 : k ≤ N) (hN : N < 2 ^ 31) : vp_in (nI k - 1) N := by
  obtain ⟨j, rfl⟩ : ∃ j, k = j + 1 := ⟨k - 1, by omega⟩
  rw [nI_pred]
  exact vp_in_nI (by omega) hN
theorem cl_lt {b : Int32} {N : Nat} (h : 0 ≤ b.toInt ∧ b.toInt ≤ N) : b.toNatClampNeg ≤ N := by
  have := cl_toInt h.1
  omega
theorem cl_lt' {b : Int32} {N : Nat} (h : 0 ≤ b.toInt ∧ b.toInt ≤ N) {x : Int32} (hx : x < b) (hx0 : 0 ≤ x.toInt) : vp_in x N := by
  rw [vp_in_iff]
  rw [Int32.lt_iff_toInt_lt] at hx
  omega
theorem lt6_in {lm : Int32} (h : 0 ≤ lm.toInt ∧ lm.toInt ≤ (6 : Nat)) (h2 : lm < 6) : vp_in lm 6 := by
  rw [vp_in_iff]
  rw [Int32.lt_iff_toInt_lt] at h2
  have : (6 : Int32).toInt = 6 := by decide
  omega
