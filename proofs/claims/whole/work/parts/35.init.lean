def lsN (l : List Nat) (k : Nat) : Nat := l.getD k 0
def lsI (l : List Int32) (k : Nat) : Int32 := l.getD k 0
/-- what the constructors' calls of private constructors need of the tables -/
def NI (U : State) : Prop := va_Nw (.methodLinkNest RX7 9 yX5_init RX7) U ∧ va_Nw (.methodLinkNest RX7 12 yX2_init RX7) U ∧ va_Nw (.methodLinkNest RX7 46 yX4_init RX7) U ∧ va_Nw (.methodLinkNest RX7 53 yX6_init RX7) U ∧ va_Nw (.methodLinkNest RX1 17 yX5_init RX7) U ∧ va_Nw (.methodLinkNest RX2 11 yX3_init RX7) U ∧ va_AO "PillarLight$Scene" U
theorem NI.same {u U : State} (h : u.vm = U.vm) (hN : NI u) : NI U := ⟨va_Nw.same rfl h hN.1, va_Nw.same rfl h hN.2.1, va_Nw.same rfl h hN.2.2.1, va_Nw.same rfl h hN.2.2.2.1, va_Nw.same rfl h hN.2.2.2.2.1, va_Nw.same rfl h hN.2.2.2.2.2.1, va_AO.moved (by rw [← h]; exact Vm.Alike.refl _) hN.2.2.2.2.2.2⟩
theorem NI.warm {s U : State} (hW : s.WarmedH U.vm) (hN : NI s) : NI U := ⟨va_Nw.warmM hW hN.1, va_Nw.warmM hW hN.2.1, va_Nw.warmM hW hN.2.2.1, va_Nw.warmM hW hN.2.2.2.1, va_Nw.warmM hW hN.2.2.2.2.1, va_Nw.warmM hW hN.2.2.2.2.2.1, va_AO.moved hW.alike hN.2.2.2.2.2.2⟩
def PreWI (D : va_G) (y : vT) (W : va_W) (sz : Nat) (U : State) : Prop := U.heap.size = sz ∧ va_P D vwCl W U.heap ∧ va_K D vwCl (tyL y) U ∧ va_D (fun _ => True) W ∧ NW U ∧ NI U
theorem preWI_blind {av : List Value} {D : va_G} {y : vT} {W : va_W} {sz : Nat} : FrameBlind (va_Pc av (PreWI D y W sz)) := fun a U g mk q => by
  obtain ⟨q0, q1, qP, qK, qD, qN, qI⟩ := q
  exact ⟨q0, q1, qP, va_K.moved (u := U) (U := U.calling g mk a) (Vm.Alike.refl U.vm) qK, qD, NW.same (u := U) (U := U.calling g mk a) rfl qN, NI.same (u := U) (U := U.calling g mk a) rfl qI⟩
theorem preWI_at {s : State} {D : va_G} {y : vT} {wc : va_W} {H : Heap} {A : Nat → Prop} {av : List Value} (hP : va_P D vwCl wc H) (hK : va_K D vwCl (tyL y) s) (hD : va_D A wc) (hN : NW s) (hI : NI s) : ∀ U : State, U.heap = H → s.WarmedH U.vm → va_Pc av (PreWI D y wc H.size) av.toArray U :=
  fun U hU hW => ⟨rfl, by rw [hU], by rw [hU]; exact hP, va_K.moved hW.alike hK, hD.weaken (fun _ _ _ _ => trivial), NW.warm hW hN, NI.warm hW hI⟩
theorem RA_inj {U : State} {c1 c2 : ClassId} {ty : FieldType} (h1 : va_RA U c1 ty) (h2 : va_RA U c2 ty) : c1 = c2 := by
  cases ty with
  | object C =>
    obtain ⟨_, _, -, -, -, h⟩ := h1
    obtain ⟨_, _, -, -, -, h'⟩ := h2
    exact Option.some.inj (h.symm.trans h')
  | _ => exact Option.some.inj (Eq.trans (Eq.symm h1) h2)
section CI
variable {p : Program} {l : Launch} {e : Env} {R : Room} {s : State} {m : MethodId} {args : Array Value} {below : List Frame} {meth : Method} {c : Code} {H : Heap} {locs : List Loc} {cells slots : Nat} {Q : State → Prop}
variable {cc : ByteArray} {pc : Nat} {ls : Array Slot} {rest st0 : List Value} {D : va_G} {cl : List vw_C} {A A0 : Nat → Prop} {tys : List (ClassId × FieldType)} {ws : va_W} {H0 : Heap} {a : Array Value}
theorem newY {atype : ArrayType} {ty : FieldType} {a0 : vp_A} (k0 : Nat) (hexec : p.tables.exec = Jvm.exec) (hb : c.code = cc) (harr : (Cond.arrayClass (newarray.typeOf atype)).before args s = true) (hty : newarray.typeOf atype = ty) (hK : va_K D cl tys s) (hP : va_P D cl ws H) (hD : va_D A ws) (hS : va_S A H0 H locs) (hA : ∀ q, H0.size ≤ q → A q)
    {cY : ClassId} (hY : tys[k0]? = some (cY, ty)) {n : Int32} {N' : Nat} (ha : ∀ cA : ClassId, vp_cell cA a0 = arrV cA N' (fun _ => defaultValue ty)) (hn : ¬ n < 0) (hN : n.toNatClampNeg = N') (hbytes : N' * componentBytes ty ≤ 536870912) (hcells : cells + 1 ≤ R.cells) (hslots : slots + N' ≤ R.slots) (hdg : decode cc pc = .ok (.newarray atype, 2))
    (kk : ∀ (q : Nat) (H1 : Heap), va_P D cl (ws ++ [(q, .inl (cY, a0))]) H1 → va_D A (ws ++ [(q, .inl (cY, a0))]) → va_S A H0 H1 locs →
      W p l e R s m args below meth c H1 locs (cells + 1) (slots + N') Q (F0 m (pc + 2) ls (.ref q :: rest))) : W p l e R s m args below meth c H locs cells slots Q (F0 m pc ls (.int n :: rest)) := by
  refine va_newa hexec hb harr hty hK hP hD hS hA ha hn hN hbytes hcells hslots hdg fun q cA H1 hK1 hP1 hD1 hS1 => ?_
  have e1 := (hK1.2 tys.length (cA, ty) (by simp)).2
  have e2 := (hK.2 k0 _ hY).2
  have e3 : cA = cY := RA_inj e1 e2
  subst e3
  exact kk q H1 hP1 hD1 hS1
theorem newQY (k0 : Nat) (hexec : p.tables.exec = Jvm.exec) (hb : c.code = cc) {own C : String} {index : Nat} (hown : s.vm.findClass own = some m.cls) (hclink : (Cond.classLink own index C).before args s = true) (hover : va_AO C s) (hK : va_K D cl tys s) (hP : va_P D cl ws H) (hD : va_D A ws) (hS : va_S A H0 H locs) (hA : ∀ q, H0.size ≤ q → A q)
    {cY : ClassId} (hY : tys[k0]? = some (cY, .object C)) {n : Int32} {N' : Nat} (hn : ¬ n < 0) (hN : n.toNatClampNeg = N') (hbytes : N' * 4 ≤ 536870912) (hcells : cells + 1 ≤ R.cells) (hslots : slots + N' ≤ R.slots) (hdg : decode cc pc = .ok (.anewarray index, 3))
    (kk : ∀ (q : Nat) (H1 : Heap), va_P D cl (ws ++ [(q, .inl (cY, N', .inr (.inr (.inr (.inr (fun _ => none))))))]) H1 → va_D A (ws ++ [(q, .inl (cY, N', .inr (.inr (.inr (.inr (fun _ => none))))))]) → va_S A H0 H1 locs →
      W p l e R s m args below meth c H1 locs (cells + 1) (slots + N') Q (F0 m (pc + 3) ls (.ref q :: rest))) : W p l e R s m args below meth c H locs cells slots Q (F0 m pc ls (.int n :: rest)) := by
  refine va_newq hexec hb hown hclink hover hK hP hD hS hA hn hN hbytes hcells hslots hdg fun q cA H1 hK1 hP1 hD1 hS1 => ?_
  have e1 := (hK1.2 tys.length (cA, .object C) (by simp)).2
  have e2 := (hK.2 k0 _ hY).2
  have e3 : cA = cY := RA_inj e1 e2
  subst e3
  exact kk q H1 hP1 hD1 hS1
theorem callW_vI {S : Type} {post : S → Prop} {wc wr : va_W} {ws : va_W} {w1 wn : S → va_W} {mc ms : Nat}
    (hr : va_Run p l e R s m args below meth c H locs cells slots mc ms (F0 m pc ls st0) rest (va_Qv post (fun u t => PostW D (va_A wc H.size) (w1 u) t) (va_A wc H.size) a) (va_A wc H.size))
    (hP : va_P D vwCl ws H) (hD : va_D A0 ws) (hS : va_S A0 H0 H locs) (hA : ∀ q, H0.size ≤ q → A0 q)
    (isC isR isN : List Nat) (hC : isC.map (fun i => ws[i]?) = wc.map some) (hR : isR.map (fun i => ws[i]?) = wr.map some) (hn : va_nd isR = true) (hdis : ∀ i ∈ isR, i ∉ isC) (hN : ∀ u, isN.map (fun i => (wr ++ w1 u)[i]?) = (wn u).map some) (hnn : va_nd isN = true)
    (kk : ∀ (u : S) (H1 : Heap) (locs1 : List Loc), post u → va_P D vwCl (wn u) H1 → va_D A0 (wn u) → va_S A0 H0 H1 locs1 → W p l e R s m args below meth c H1 locs1 (cells + mc) (slots + ms) Q (F0 m (pc + 3) ls rest)) : W p l e R s m args below meth c H locs cells slots Q (F0 m pc ls st0) := by
  have hF := va_free hD hS hA isC hC
  refine va_callv hr hS (fun q _ h => hF q h) hF (fun u t H1 locs1 ht _ hp hB _ hk1 hS1 => ?_)
  obtain ⟨hP1, hD1⟩ := hB
  rw [ht] at hP1
  obtain ⟨gP, gD⟩ := va_join hP hD isC isR hC hR hn hdis hk1 hF hP1 hD1
  exact kk u H1 locs1 hp (gP.sub isN (fm_of (hN u))) (gD.sub isN hnn (hN u)) hS1
end CI

set_option maxHeartbeats 4000000 in
set_option maxRecDepth 100000 in
theorem met_X5_init (l : Launch) (D : va_G) (y4 : vT) (a : Nat) (sz : Nat) : Met l yX5_init wsX5_init ({ frames := 1, cells := 4, slots := 82, locals := 33 }) (va_Pc [.ref a] (PreW D y4 [(a, .inr (4, [.null, .null, .null, .null, .int 0, .int 0, .int 0, .int 0, .int 0, .long 0]))] sz)) (va_Qv (fun (_ : Nat → Nat) => True) (fun u t => PostW D (va_A [(a, .inr (4, [.null, .null, .null, .null, .int 0, .int 0, .int 0, .int 0, .int 0, .long 0]))] sz) [(a, .inr (4, [.ref (u 0), .ref (u 1), .ref (u 2), .ref (u 3), .int 0, .int 0, .int 0, .int 3, .int 1, .long 0])), (u 0, .inl (y4.1, 64, .inl (fun _ => 0))), (u 1, .inl (y4.1, 6, .inl (fun _ => 0))), (u 2, .inl (y4.1, 6, .inl (fun _ => 0))), (u 3, .inl (y4.1, 6, .inl (fun _ => 0)))] t) (va_A [(a, .inr (4, [.null, .null, .null, .null, .int 0, .int 0, .int 0, .int 0, .int 0, .long 0]))] sz)) 4 82 (va_A [(a, .inr (4, [.null, .null, .null, .null, .int 0, .int 0, .int 0, .int 0, .int 0, .long 0]))] sz) := by
  refine Met.ofW (cc := cX5_init) (maxL := 1) (ret := none) (by decide) rfl ?_
  intro p e s m args below meth c s₁ B hml hv
  obtain ⟨rfl, hsz, hP, hK, hD0, hNW⟩ := hv
  have hx := B.exec
  have hb := B.bytes
  have hr := B.returns
  have hts := atoms_spec (ws := wsX5_init) B.pre
  have hown : s.vm.findClass RX5 = some m.cls := findClass_of_methodNamed B.named
  have hlocks := B.notSynchronized
  subst hsz
  have hD := hD0.self (sz := s.heap.size)
  generalize hAe : va_A [(a, .inr (4, [.null, .null, .null, .null, .int 0, .int 0, .int 0, .int 0, .int 0, .long 0]))] s.heap.size = A at hD ⊢
  have hA : ∀ q : Nat, s.heap.size ≤ q → A q := fun q h => by rw [← hAe]; exact Or.inr h
  have hS : va_S A s.heap s.heap [] := va_S.rf
  have hin : meth.name = "<init>" := (name_of_methodNamed B.named B.method).1
  have hl := lv_entry ([.ref a]) (n := 1) (Nat.le_of_ble_eq_true rfl)
  rw [lg_entry_eq]
  generalize (lg_sl ([.ref a]) ++ List.replicate (1 - (lg_sl ([.ref a])).length) Slot.unset).toArray = ls at hl ⊢
  have hl : lv_has ls 1 [(0, .ref a)] := hl
  have foin := hts (.instanceMethod objectInit) (List.mem_of_getElem? (i := 2) rfl)
  have foco := hts (.code objectInit ⟨#[0xb1]⟩ 1 none) (List.mem_of_getElem? (i := 3) rfl)
  have foli := hts (.methodLink RX5 3 objectInit) (List.mem_of_getElem? (i := 1) rfl)
  have facint := hts (.arrayClass .int) (List.mem_of_getElem? (i := 4) rfl)
  have f9 := hts (.fieldLink RX5 9 "PillarLight$Scene" "kinds" "[I") (List.mem_of_getElem? (i := 5) rfl)
  have iX5 : ∀ w ∈ wsX50, w ∈ wsX5_init := fun _ h => List.mem_cons_of_mem _ (List.mem_append_right _ h)
  have f15 := hts (.fieldLink RX5 15 "PillarLight$Scene" "lampCell" "[I") (List.mem_of_getElem? (i := 6) rfl)
  have f18 := hts (.fieldLink RX5 18 "PillarLight$Scene" "lampStrength" "[I") (List.mem_of_getElem? (i := 7) rfl)
  have f21 := hts (.fieldLink RX5 21 "PillarLight$Scene" "lampFuel" "[I") (List.mem_of_getElem? (i := 8) rfl)
  have f24 := hts (.fieldLink RX5 24 "PillarLight$Scene" "dim" "I") (List.mem_of_getElem? (i := 9) rfl)
  have f28 := hts (.fieldLink RX5 28 "PillarLight$Scene" "torch" "I") (List.mem_of_getElem? (i := 10) rfl)
  refine startW (fun H locs hP hS => ?_) hP hS
  refine lv_aload_n hx hb dX5_init_0 rfl (lv_at hl 0 rfl) ?_
  refine W.objInit hx hb hown foli foin foco rfl (by rw [hml]; exact hl.1) rfl dX5_init_1 (Nat.le_of_ble_eq_true rfl) (Nat.le_of_ble_eq_true rfl) ?_
  refine W.eq (g2 := F0 m 4 ls []) rfl ?_
  refine lv_aload_n hx hb dX5_init_4 rfl (lv_at hl 0 rfl) ?_
  refine lv_bipush (v := 64) hx hb dX5_init_5 (by decide) ?_
  refine newY (atype := .int) (ty := .int) (a0 := (64, .inl (fun _ => 0))) 0 hx hb facint rfl hK hP hD hS hA rfl (fun _ => rfl) (by decide) (by decide) (Nat.le_of_ble_eq_true rfl) (Nat.le_of_ble_eq_true rfl) (Nat.le_of_ble_eq_true rfl) dX5_init_7 (fun n1 H hP hD hS => ?_)
  have hP : va_P D vwCl [(a, .inr (4, [.null, .null, .null, .null, .int 0, .int 0, .int 0, .int 0, .int 0, .long 0])), (n1, .inl (y4.1, 64, .inl (fun _ => 0)))] H := hP
  have hD : va_D A [(a, .inr (4, [.null, .null, .null, .null, .int 0, .int 0, .int 0, .int 0, .int 0, .long 0])), (n1, .inl (y4.1, 64, .inl (fun _ => 0)))] := hD
  refine va_putF (ci := 4) (v := .ref n1) (ty := .array .int) (C := RX5) (T := TX5) (N := 10) hx hb hts iX5 tyX5 tyX5_ok nmX5 hown hK hP hD hS 0 rfl rfl 0 (by decide) f9 (fun _ h9 => h9) rfl hin rfl (by decide +kernel) rfl rfl (Nat.le_of_ble_eq_true rfl) dX5_init_9 (fun H locs hP hD hS => ?_)
  have hP : va_P D vwCl [(a, .inr (4, [.ref n1, .null, .null, .null, .int 0, .int 0, .int 0, .int 0, .int 0, .long 0])), (n1, .inl (y4.1, 64, .inl (fun _ => 0)))] H := hP
  have hD : va_D A [(a, .inr (4, [.ref n1, .null, .null, .null, .int 0, .int 0, .int 0, .int 0, .int 0, .long 0])), (n1, .inl (y4.1, 64, .inl (fun _ => 0)))] := hD
  refine lv_aload_n hx hb dX5_init_12 rfl (lv_at hl 0 rfl) ?_
  refine lv_bipush (v := 6) hx hb dX5_init_13 (by decide) ?_
  refine newY (atype := .int) (ty := .int) (a0 := (6, .inl (fun _ => 0))) 0 hx hb facint rfl hK hP hD hS hA rfl (fun _ => rfl) (by decide) (by decide) (Nat.le_of_ble_eq_true rfl) (Nat.le_of_ble_eq_true rfl) (Nat.le_of_ble_eq_true rfl) dX5_init_15 (fun n2 H hP hD hS => ?_)
  have hP : va_P D vwCl [(a, .inr (4, [.ref n1, .null, .null, .null, .int 0, .int 0, .int 0, .int 0, .int 0, .long 0])), (n1, .inl (y4.1, 64, .inl (fun _ => 0))), (n2, .inl (y4.1, 6, .inl (fun _ => 0)))] H := hP
  have hD : va_D A [(a, .inr (4, [.ref n1, .null, .null, .null, .int 0, .int 0, .int 0, .int 0, .int 0, .long 0])), (n1, .inl (y4.1, 64, .inl (fun _ => 0))), (n2, .inl (y4.1, 6, .inl (fun _ => 0)))] := hD
  refine va_putF (ci := 4) (v := .ref n2) (ty := .array .int) (C := RX5) (T := TX5) (N := 10) hx hb hts iX5 tyX5 tyX5_ok nmX5 hown hK hP hD hS 0 rfl rfl 1 (by decide) f15 (fun _ h9 => h9) rfl hin rfl (by decide +kernel) rfl rfl (Nat.le_of_ble_eq_true rfl) dX5_init_17 (fun H locs hP hD hS => ?_)
  have hP : va_P D vwCl [(a, .inr (4, [.ref n1, .ref n2, .null, .null, .int 0, .int 0, .int 0, .int 0, .int 0, .long 0])), (n1, .inl (y4.1, 64, .inl (fun _ => 0))), (n2, .inl (y4.1, 6, .inl (fun _ => 0)))] H := hP
  have hD : va_D A [(a, .inr (4, [.ref n1, .ref n2, .null, .null, .int 0, .int 0, .int 0, .int 0, .int 0, .long 0])), (n1, .inl (y4.1, 64, .inl (fun _ => 0))), (n2, .inl (y4.1, 6, .inl (fun _ => 0)))] := hD
  refine lv_aload_n hx hb dX5_init_20 rfl (lv_at hl 0 rfl) ?_
  refine lv_bipush (v := 6) hx hb dX5_init_21 (by decide) ?_
  refine newY (atype := .int) (ty := .int) (a0 := (6, .inl (fun _ => 0))) 0 hx hb facint rfl hK hP hD hS hA rfl (fun _ => rfl) (by decide) (by decide) (Nat.le_of_ble_eq_true rfl) (Nat.le_of_ble_eq_true rfl) (Nat.le_of_ble_eq_true rfl) dX5_init_23 (fun n3 H hP hD hS => ?_)
  have hP : va_P D vwCl [(a, .inr (4, [.ref n1, .ref n2, .null, .null, .int 0, .int 0, .int 0, .int 0, .int 0, .long 0])), (n1, .inl (y4.1, 64, .inl (fun _ => 0))), (n2, .inl (y4.1, 6, .inl (fun _ => 0))), (n3, .inl (y4.1, 6, .inl (fun _ => 0)))] H := hP
  have hD : va_D A [(a, .inr (4, [.ref n1, .ref n2, .null, .null, .int 0, .int 0, .int 0, .int 0, .int 0, .long 0])), (n1, .inl (y4.1, 64, .inl (fun _ => 0))), (n2, .inl (y4.1, 6, .inl (fun _ => 0))), (n3, .inl (y4.1, 6, .inl (fun _ => 0)))] := hD
  refine va_putF (ci := 4) (v := .ref n3) (ty := .array .int) (C := RX5) (T := TX5) (N := 10) hx hb hts iX5 tyX5 tyX5_ok nmX5 hown hK hP hD hS 0 rfl rfl 2 (by decide) f18 (fun _ h9 => h9) rfl hin rfl (by decide +kernel) rfl rfl (Nat.le_of_ble_eq_true rfl) dX5_init_25 (fun H locs hP hD hS => ?_)
  have hP : va_P D vwCl [(a, .inr (4, [.ref n1, .ref n2, .ref n3, .null, .int 0, .int 0, .int 0, .int 0, .int 0, .long 0])), (n1, .inl (y4.1, 64, .inl (fun _ => 0))), (n2, .inl (y4.1, 6, .inl (fun _ => 0))), (n3, .inl (y4.1, 6, .inl (fun _ => 0)))] H := hP
  have hD : va_D A [(a, .inr (4, [.ref n1, .ref n2, .ref n3, .null, .int 0, .int 0, .int 0, .int 0, .int 0, .long 0])), (n1, .inl (y4.1, 64, .inl (fun _ => 0))), (n2, .inl (y4.1, 6, .inl (fun _ => 0))), (n3, .inl (y4.1, 6, .inl (fun _ => 0)))] := hD
  refine lv_aload_n hx hb dX5_init_28 rfl (lv_at hl 0 rfl) ?_
  refine lv_bipush (v := 6) hx hb dX5_init_29 (by decide) ?_
  refine newY (atype := .int) (ty := .int) (a0 := (6, .inl (fun _ => 0))) 0 hx hb facint rfl hK hP hD hS hA rfl (fun _ => rfl) (by decide) (by decide) (Nat.le_of_ble_eq_true rfl) (Nat.le_of_ble_eq_true rfl) (Nat.le_of_ble_eq_true rfl) dX5_init_31 (fun n4 H hP hD hS => ?_)
  have hP : va_P D vwCl [(a, .inr (4, [.ref n1, .ref n2, .ref n3, .null, .int 0, .int 0, .int 0, .int 0, .int 0, .long 0])), (n1, .inl (y4.1, 64, .inl (fun _ => 0))), (n2, .inl (y4.1, 6, .inl (fun _ => 0))), (n3, .inl (y4.1, 6, .inl (fun _ => 0))), (n4, .inl (y4.1, 6, .inl (fun _ => 0)))] H := hP
  have hD : va_D A [(a, .inr (4, [.ref n1, .ref n2, .ref n3, .null, .int 0, .int 0, .int 0, .int 0, .int 0, .long 0])), (n1, .inl (y4.1, 64, .inl (fun _ => 0))), (n2, .inl (y4.1, 6, .inl (fun _ => 0))), (n3, .inl (y4.1, 6, .inl (fun _ => 0))), (n4, .inl (y4.1, 6, .inl (fun _ => 0)))] := hD
  refine va_putF (ci := 4) (v := .ref n4) (ty := .array .int) (C := RX5) (T := TX5) (N := 10) hx hb hts iX5 tyX5 tyX5_ok nmX5 hown hK hP hD hS 0 rfl rfl 3 (by decide) f21 (fun _ h9 => h9) rfl hin rfl (by decide +kernel) rfl rfl (Nat.le_of_ble_eq_true rfl) dX5_init_33 (fun H locs hP hD hS => ?_)
  have hP : va_P D vwCl [(a, .inr (4, [.ref n1, .ref n2, .ref n3, .ref n4, .int 0, .int 0, .int 0, .int 0, .int 0, .long 0])), (n1, .inl (y4.1, 64, .inl (fun _ => 0))), (n2, .inl (y4.1, 6, .inl (fun _ => 0))), (n3, .inl (y4.1, 6, .inl (fun _ => 0))), (n4, .inl (y4.1, 6, .inl (fun _ => 0)))] H := hP
  have hD : va_D A [(a, .inr (4, [.ref n1, .ref n2, .ref n3, .ref n4, .int 0, .int 0, .int 0, .int 0, .int 0, .long 0])), (n1, .inl (y4.1, 64, .inl (fun _ => 0))), (n2, .inl (y4.1, 6, .inl (fun _ => 0))), (n3, .inl (y4.1, 6, .inl (fun _ => 0))), (n4, .inl (y4.1, 6, .inl (fun _ => 0)))] := hD
  refine lv_aload_n hx hb dX5_init_36 rfl (lv_at hl 0 rfl) ?_
  refine lv_iconst (v := 3) hx hb dX5_init_37 (by decide) ?_
  refine va_put (ci := 4) (v := .int 3) (ty := .int) (C := RX5) (T := TX5) (N := 10) hx hb hts iX5 tyX5 tyX5_ok nmX5 hown hK hP hD hS 0 rfl rfl 7 (by decide) f24 (fun _ h9 => h9) rfl (by decide +kernel) rfl rfl (Nat.le_of_ble_eq_true rfl) dX5_init_38 (fun H locs hP hD hS => ?_)
  have hP : va_P D vwCl [(a, .inr (4, [.ref n1, .ref n2, .ref n3, .ref n4, .int 0, .int 0, .int 0, .int 3, .int 0, .long 0])), (n1, .inl (y4.1, 64, .inl (fun _ => 0))), (n2, .inl (y4.1, 6, .inl (fun _ => 0))), (n3, .inl (y4.1, 6, .inl (fun _ => 0))), (n4, .inl (y4.1, 6, .inl (fun _ => 0)))] H := hP
  have hD : va_D A [(a, .inr (4, [.ref n1, .ref n2, .ref n3, .ref n4, .int 0, .int 0, .int 0, .int 3, .int 0, .long 0])), (n1, .inl (y4.1, 64, .inl (fun _ => 0))), (n2, .inl (y4.1, 6, .inl (fun _ => 0))), (n3, .inl (y4.1, 6, .inl (fun _ => 0))), (n4, .inl (y4.1, 6, .inl (fun _ => 0)))] := hD
  refine lv_aload_n hx hb dX5_init_41 rfl (lv_at hl 0 rfl) ?_
  refine lv_iconst (v := 1) hx hb dX5_init_42 (by decide) ?_
  refine va_put (ci := 4) (v := .int 1) (ty := .int) (C := RX5) (T := TX5) (N := 10) hx hb hts iX5 tyX5 tyX5_ok nmX5 hown hK hP hD hS 0 rfl rfl 8 (by decide) f28 (fun _ h9 => h9) rfl (by decide +kernel) rfl rfl (Nat.le_of_ble_eq_true rfl) dX5_init_43 (fun H locs hP hD hS => ?_)
  have hP : va_P D vwCl [(a, .inr (4, [.ref n1, .ref n2, .ref n3, .ref n4, .int 0, .int 0, .int 0, .int 3, .int 1, .long 0])), (n1, .inl (y4.1, 64, .inl (fun _ => 0))), (n2, .inl (y4.1, 6, .inl (fun _ => 0))), (n3, .inl (y4.1, 6, .inl (fun _ => 0))), (n4, .inl (y4.1, 6, .inl (fun _ => 0)))] H := hP
  have hD : va_D A [(a, .inr (4, [.ref n1, .ref n2, .ref n3, .ref n4, .int 0, .int 0, .int 0, .int 3, .int 1, .long 0])), (n1, .inl (y4.1, 64, .inl (fun _ => 0))), (n2, .inl (y4.1, 6, .inl (fun _ => 0))), (n3, .inl (y4.1, 6, .inl (fun _ => 0))), (n4, .inl (y4.1, 6, .inl (fun _ => 0)))] := hD
  exact W.vret hx hb hr (fun t ht hW => ⟨⟨lsN [n1, n2, n3, n4], rfl, trivial, ⟨by rw [ht]; exact hP, by exact hD⟩⟩, hS.F ht⟩) hS.2.2 dX5_init_46
set_option maxHeartbeats 4000000 in
set_option maxRecDepth 100000 in
theorem met_X3_init (l : Launch) (D : va_G) (y4 : vT) (a : Nat) (sz : Nat) : Met l yX3_init wsX3_init ({ frames := 1, cells := 0, slots := 0, locals := 33 }) (va_Pc [.ref a] (PreW D y4 [(a, .inr (2, [.int 0, .int 0, .int 0, .int 0, .int 0, .int 0, .int 0]))] sz)) (va_Qv (fun (_ : Nat → Nat) => True) (fun u t => PostW D (va_A [(a, .inr (2, [.int 0, .int 0, .int 0, .int 0, .int 0, .int 0, .int 0]))] sz) [(a, .inr (2, [.int 0, .int 0, .int 0, .int 0, .int 0, .int 0, .int 0]))] t) (va_A [(a, .inr (2, [.int 0, .int 0, .int 0, .int 0, .int 0, .int 0, .int 0]))] sz)) 0 0 (va_A [(a, .inr (2, [.int 0, .int 0, .int 0, .int 0, .int 0, .int 0, .int 0]))] sz) := by
  refine Met.ofW (cc := cX3_init) (maxL := 1) (ret := none) (by decide) rfl ?_
  intro p e s m args below meth c s₁ B hml hv
  obtain ⟨rfl, hsz, hP, hK, hD0, hNW⟩ := hv
  have hx := B.exec
  have hb := B.bytes
  have hr := B.returns
  have hts := atoms_spec (ws := wsX3_init) B.pre
  have hown : s.vm.findClass RX3 = some m.cls := findClass_of_methodNamed B.named
  have hlocks := B.notSynchronized
  subst hsz
  have hD := hD0.self (sz := s.heap.size)
  generalize hAe : va_A [(a, .inr (2, [.int 0, .int 0, .int 0, .int 0, .int 0, .int 0, .int 0]))] s.heap.size = A at hD ⊢
  have hA : ∀ q : Nat, s.heap.size ≤ q → A q := fun q h => by rw [← hAe]; exact Or.inr h
  have hS : va_S A s.heap s.heap [] := va_S.rf
  have hin : meth.name = "<init>" := (name_of_methodNamed B.named B.method).1
  have hl := lv_entry ([.ref a]) (n := 1) (Nat.le_of_ble_eq_true rfl)
  rw [lg_entry_eq]
  generalize (lg_sl ([.ref a]) ++ List.replicate (1 - (lg_sl ([.ref a])).length) Slot.unset).toArray = ls at hl ⊢
  have hl : lv_has ls 1 [(0, .ref a)] := hl
  have foin := hts (.instanceMethod objectInit) (List.mem_of_getElem? (i := 2) rfl)
  have foco := hts (.code objectInit ⟨#[0xb1]⟩ 1 none) (List.mem_of_getElem? (i := 3) rfl)
  have foli := hts (.methodLink RX3 3 objectInit) (List.mem_of_getElem? (i := 1) rfl)
  refine startW (fun H locs hP hS => ?_) hP hS
  refine lv_aload_n hx hb dX3_init_0 rfl (lv_at hl 0 rfl) ?_
  refine W.objInit hx hb hown foli foin foco rfl (by rw [hml]; exact hl.1) rfl dX3_init_1 (Nat.le_of_ble_eq_true rfl) (Nat.le_of_ble_eq_true rfl) ?_
  refine W.eq (g2 := F0 m 4 ls []) rfl ?_
  exact W.vret hx hb hr (fun t ht hW => ⟨⟨lsN [], rfl, trivial, ⟨by rw [ht]; exact hP, by exact hD⟩⟩, hS.F ht⟩) hS.2.2 dX3_init_4
set_option maxHeartbeats 4000000 in
set_option maxRecDepth 100000 in
theorem met_X4_init (l : Launch) (D : va_G) (y4 : vT) (a : Nat) (sz : Nat) : Met l yX4_init wsX4_init ({ frames := 1, cells := 1, slots := 80, locals := 33 }) (va_Pc [.ref a] (PreW D y4 [(a, .inr (3, [.null, .int 0]))] sz)) (va_Qv (fun (_ : Nat → Nat) => True) (fun u t => PostW D (va_A [(a, .inr (3, [.null, .int 0]))] sz) [(a, .inr (3, [.ref (u 0), .int 0])), (u 0, .inl (y4.2.1, 80, .inl (fun _ => 0)))] t) (va_A [(a, .inr (3, [.null, .int 0]))] sz)) 1 80 (va_A [(a, .inr (3, [.null, .int 0]))] sz) := by
  refine Met.ofW (cc := cX4_init) (maxL := 1) (ret := none) (by decide) rfl ?_
  intro p e s m args below meth c s₁ B hml hv
  obtain ⟨rfl, hsz, hP, hK, hD0, hNW⟩ := hv
  have hx := B.exec
  have hb := B.bytes
  have hr := B.returns
  have hts := atoms_spec (ws := wsX4_init) B.pre
  have hown : s.vm.findClass RX4 = some m.cls := findClass_of_methodNamed B.named
  have hlocks := B.notSynchronized
  subst hsz
  have hD := hD0.self (sz := s.heap.size)
  generalize hAe : va_A [(a, .inr (3, [.null, .int 0]))] s.heap.size = A at hD ⊢
  have hA : ∀ q : Nat, s.heap.size ≤ q → A q := fun q h => by rw [← hAe]; exact Or.inr h
  have hS : va_S A s.heap s.heap [] := va_S.rf
  have hin : meth.name = "<init>" := (name_of_methodNamed B.named B.method).1
  have hl := lv_entry ([.ref a]) (n := 1) (Nat.le_of_ble_eq_true rfl)
  rw [lg_entry_eq]
  generalize (lg_sl ([.ref a]) ++ List.replicate (1 - (lg_sl ([.ref a])).length) Slot.unset).toArray = ls at hl ⊢
  have hl : lv_has ls 1 [(0, .ref a)] := hl
  have foin := hts (.instanceMethod objectInit) (List.mem_of_getElem? (i := 2) rfl)
  have foco := hts (.code objectInit ⟨#[0xb1]⟩ 1 none) (List.mem_of_getElem? (i := 3) rfl)
  have foli := hts (.methodLink RX4 5 objectInit) (List.mem_of_getElem? (i := 1) rfl)
  have facchar := hts (.arrayClass .char) (List.mem_of_getElem? (i := 4) rfl)
  have f11 := hts (.fieldLink RX4 11 "PillarLight$Pad" "signs" "[C") (List.mem_of_getElem? (i := 5) rfl)
  have iX4 : ∀ w ∈ wsX40, w ∈ wsX4_init := fun _ h => List.mem_cons_of_mem _ (List.mem_append_right _ h)
  refine startW (fun H locs hP hS => ?_) hP hS
  refine lv_aload_n hx hb dX4_init_0 rfl (lv_at hl 0 rfl) ?_
  refine W.objInit hx hb hown foli foin foco rfl (by rw [hml]; exact hl.1) rfl dX4_init_1 (Nat.le_of_ble_eq_true rfl) (Nat.le_of_ble_eq_true rfl) ?_
  refine W.eq (g2 := F0 m 4 ls []) rfl ?_
  refine lv_aload_n hx hb dX4_init_4 rfl (lv_at hl 0 rfl) ?_
  refine lv_bipush (v := 80) hx hb dX4_init_5 (by decide) ?_
  refine newY (atype := .char) (ty := .char) (a0 := (80, .inl (fun _ => 0))) 1 hx hb facchar rfl hK hP hD hS hA rfl (fun _ => rfl) (by decide) (by decide) (Nat.le_of_ble_eq_true rfl) (Nat.le_of_ble_eq_true rfl) (Nat.le_of_ble_eq_true rfl) dX4_init_7 (fun n1 H hP hD hS => ?_)
  have hP : va_P D vwCl [(a, .inr (3, [.null, .int 0])), (n1, .inl (y4.2.1, 80, .inl (fun _ => 0)))] H := hP
  have hD : va_D A [(a, .inr (3, [.null, .int 0])), (n1, .inl (y4.2.1, 80, .inl (fun _ => 0)))] := hD
  refine va_putF (ci := 3) (v := .ref n1) (ty := .array .char) (C := RX4) (T := TX4) (N := 2) hx hb hts iX4 tyX4 tyX4_ok nmX4 hown hK hP hD hS 0 rfl rfl 0 (by decide) f11 (fun _ h9 => h9) rfl hin rfl (by decide +kernel) rfl rfl (Nat.le_of_ble_eq_true rfl) dX4_init_9 (fun H locs hP hD hS => ?_)
  have hP : va_P D vwCl [(a, .inr (3, [.ref n1, .int 0])), (n1, .inl (y4.2.1, 80, .inl (fun _ => 0)))] H := hP
  have hD : va_D A [(a, .inr (3, [.ref n1, .int 0])), (n1, .inl (y4.2.1, 80, .inl (fun _ => 0)))] := hD
  exact W.vret hx hb hr (fun t ht hW => ⟨⟨lsN [n1], rfl, trivial, ⟨by rw [ht]; exact hP, by exact hD⟩⟩, hS.F ht⟩) hS.2.2 dX4_init_12
set_option maxHeartbeats 4000000 in
set_option maxRecDepth 100000 in
theorem met_X6_init (l : Launch) (D : va_G) (y4 : vT) (a : Nat) (sz : Nat) : Met l yX6_init wsX6_init ({ frames := 1, cells := 4, slots := 256, locals := 33 }) (va_Pc [.ref a] (PreW D y4 [(a, .inr (5, [.null, .null, .null, .null]))] sz)) (va_Qv (fun (_ : Nat → Nat) => True) (fun u t => PostW D (va_A [(a, .inr (5, [.null, .null, .null, .null]))] sz) [(a, .inr (5, [.ref (u 0), .ref (u 1), .ref (u 2), .ref (u 3)])), (u 0, .inl (y4.1, 64, .inl (fun _ => 0))), (u 1, .inl (y4.1, 64, .inl (fun _ => 0))), (u 2, .inl (y4.2.2.1, 64, .inl (fun _ => 0))), (u 3, .inl (y4.1, 64, .inl (fun _ => 0)))] t) (va_A [(a, .inr (5, [.null, .null, .null, .null]))] sz)) 4 256 (va_A [(a, .inr (5, [.null, .null, .null, .null]))] sz) := by
  refine Met.ofW (cc := cX6_init) (maxL := 1) (ret := none) (by decide) rfl ?_
  intro p e s m args below meth c s₁ B hml hv
  obtain ⟨rfl, hsz, hP, hK, hD0, hNW⟩ := hv
  have hx := B.exec
  have hb := B.bytes
  have hr := B.returns
  have hts := atoms_spec (ws := wsX6_init) B.pre
  have hown : s.vm.findClass RX6 = some m.cls := findClass_of_methodNamed B.named
  have hlocks := B.notSynchronized
  subst hsz
  have hD := hD0.self (sz := s.heap.size)
  generalize hAe : va_A [(a, .inr (5, [.null, .null, .null, .null]))] s.heap.size = A at hD ⊢
  have hA : ∀ q : Nat, s.heap.size ≤ q → A q := fun q h => by rw [← hAe]; exact Or.inr h
  have hS : va_S A s.heap s.heap [] := va_S.rf
  have hin : meth.name = "<init>" := (name_of_methodNamed B.named B.method).1
  have hl := lv_entry ([.ref a]) (n := 1) (Nat.le_of_ble_eq_true rfl)
  rw [lg_entry_eq]
  generalize (lg_sl ([.ref a]) ++ List.replicate (1 - (lg_sl ([.ref a])).length) Slot.unset).toArray = ls at hl ⊢
  have hl : lv_has ls 1 [(0, .ref a)] := hl
  have foin := hts (.instanceMethod objectInit) (List.mem_of_getElem? (i := 2) rfl)
  have foco := hts (.code objectInit ⟨#[0xb1]⟩ 1 none) (List.mem_of_getElem? (i := 3) rfl)
  have foli := hts (.methodLink RX6 3 objectInit) (List.mem_of_getElem? (i := 1) rfl)
  have facint := hts (.arrayClass .int) (List.mem_of_getElem? (i := 4) rfl)
  have f9 := hts (.fieldLink RX6 9 "PillarLight$Ways" "price" "[I") (List.mem_of_getElem? (i := 5) rfl)
  have iX6 : ∀ w ∈ wsX60, w ∈ wsX6_init := fun _ h => List.mem_cons_of_mem _ (List.mem_append_right _ h)
  have f15 := hts (.fieldLink RX6 15 "PillarLight$Ways" "least" "[I") (List.mem_of_getElem? (i := 6) rfl)
  have facboolean := hts (.arrayClass .boolean) (List.mem_of_getElem? (i := 7) rfl)
  have f18 := hts (.fieldLink RX6 18 "PillarLight$Ways" "settled" "[Z") (List.mem_of_getElem? (i := 8) rfl)
  have f22 := hts (.fieldLink RX6 22 "PillarLight$Ways" "reached" "[I") (List.mem_of_getElem? (i := 9) rfl)
  refine startW (fun H locs hP hS => ?_) hP hS
  refine lv_aload_n hx hb dX6_init_0 rfl (lv_at hl 0 rfl) ?_
  refine W.objInit hx hb hown foli foin foco rfl (by rw [hml]; exact hl.1) rfl dX6_init_1 (Nat.le_of_ble_eq_true rfl) (Nat.le_of_ble_eq_true rfl) ?_
  refine W.eq (g2 := F0 m 4 ls []) rfl ?_
  refine lv_aload_n hx hb dX6_init_4 rfl (lv_at hl 0 rfl) ?_
  refine lv_bipush (v := 64) hx hb dX6_init_5 (by decide) ?_
  refine newY (atype := .int) (ty := .int) (a0 := (64, .inl (fun _ => 0))) 0 hx hb facint rfl hK hP hD hS hA rfl (fun _ => rfl) (by decide) (by decide) (Nat.le_of_ble_eq_true rfl) (Nat.le_of_ble_eq_true rfl) (Nat.le_of_ble_eq_true rfl) dX6_init_7 (fun n1 H hP hD hS => ?_)
  have hP : va_P D vwCl [(a, .inr (5, [.null, .null, .null, .null])), (n1, .inl (y4.1, 64, .inl (fun _ => 0)))] H := hP
  have hD : va_D A [(a, .inr (5, [.null, .null, .null, .null])), (n1, .inl (y4.1, 64, .inl (fun _ => 0)))] := hD
  refine va_putF (ci := 5) (v := .ref n1) (ty := .array .int) (C := RX6) (T := TX6) (N := 4) hx hb hts iX6 tyX6 tyX6_ok nmX6 hown hK hP hD hS 0 rfl rfl 0 (by decide) f9 (fun _ h9 => h9) rfl hin rfl (by decide +kernel) rfl rfl (Nat.le_of_ble_eq_true rfl) dX6_init_9 (fun H locs hP hD hS => ?_)
  have hP : va_P D vwCl [(a, .inr (5, [.ref n1, .null, .null, .null])), (n1, .inl (y4.1, 64, .inl (fun _ => 0)))] H := hP
  have hD : va_D A [(a, .inr (5, [.ref n1, .null, .null, .null])), (n1, .inl (y4.1, 64, .inl (fun _ => 0)))] := hD
  refine lv_aload_n hx hb dX6_init_12 rfl (lv_at hl 0 rfl) ?_
  refine lv_bipush (v := 64) hx hb dX6_init_13 (by decide) ?_
  refine newY (atype := .int) (ty := .int) (a0 := (64, .inl (fun _ => 0))) 0 hx hb facint rfl hK hP hD hS hA rfl (fun _ => rfl) (by decide) (by decide) (Nat.le_of_ble_eq_true rfl) (Nat.le_of_ble_eq_true rfl) (Nat.le_of_ble_eq_true rfl) dX6_init_15 (fun n2 H hP hD hS => ?_)
  have hP : va_P D vwCl [(a, .inr (5, [.ref n1, .null, .null, .null])), (n1, .inl (y4.1, 64, .inl (fun _ => 0))), (n2, .inl (y4.1, 64, .inl (fun _ => 0)))] H := hP
  have hD : va_D A [(a, .inr (5, [.ref n1, .null, .null, .null])), (n1, .inl (y4.1, 64, .inl (fun _ => 0))), (n2, .inl (y4.1, 64, .inl (fun _ => 0)))] := hD
  refine va_putF (ci := 5) (v := .ref n2) (ty := .array .int) (C := RX6) (T := TX6) (N := 4) hx hb hts iX6 tyX6 tyX6_ok nmX6 hown hK hP hD hS 0 rfl rfl 1 (by decide) f15 (fun _ h9 => h9) rfl hin rfl (by decide +kernel) rfl rfl (Nat.le_of_ble_eq_true rfl) dX6_init_17 (fun H locs hP hD hS => ?_)
  have hP : va_P D vwCl [(a, .inr (5, [.ref n1, .ref n2, .null, .null])), (n1, .inl (y4.1, 64, .inl (fun _ => 0))), (n2, .inl (y4.1, 64, .inl (fun _ => 0)))] H := hP
  have hD : va_D A [(a, .inr (5, [.ref n1, .ref n2, .null, .null])), (n1, .inl (y4.1, 64, .inl (fun _ => 0))), (n2, .inl (y4.1, 64, .inl (fun _ => 0)))] := hD
  refine lv_aload_n hx hb dX6_init_20 rfl (lv_at hl 0 rfl) ?_
  refine lv_bipush (v := 64) hx hb dX6_init_21 (by decide) ?_
  refine newY (atype := .boolean) (ty := .boolean) (a0 := (64, .inl (fun _ => 0))) 2 hx hb facboolean rfl hK hP hD hS hA rfl (fun _ => rfl) (by decide) (by decide) (Nat.le_of_ble_eq_true rfl) (Nat.le_of_ble_eq_true rfl) (Nat.le_of_ble_eq_true rfl) dX6_init_23 (fun n3 H hP hD hS => ?_)
  have hP : va_P D vwCl [(a, .inr (5, [.ref n1, .ref n2, .null, .null])), (n1, .inl (y4.1, 64, .inl (fun _ => 0))), (n2, .inl (y4.1, 64, .inl (fun _ => 0))), (n3, .inl (y4.2.2.1, 64, .inl (fun _ => 0)))] H := hP
  have hD : va_D A [(a, .inr (5, [.ref n1, .ref n2, .null, .null])), (n1, .inl (y4.1, 64, .inl (fun _ => 0))), (n2, .inl (y4.1, 64, .inl (fun _ => 0))), (n3, .inl (y4.2.2.1, 64, .inl (fun _ => 0)))] := hD
  refine va_putF (ci := 5) (v := .ref n3) (ty := .array .boolean) (C := RX6) (T := TX6) (N := 4) hx hb hts iX6 tyX6 tyX6_ok nmX6 hown hK hP hD hS 0 rfl rfl 2 (by decide) f18 (fun _ h9 => h9) rfl hin rfl (by decide +kernel) rfl rfl (Nat.le_of_ble_eq_true rfl) dX6_init_25 (fun H locs hP hD hS => ?_)
  have hP : va_P D vwCl [(a, .inr (5, [.ref n1, .ref n2, .ref n3, .null])), (n1, .inl (y4.1, 64, .inl (fun _ => 0))), (n2, .inl (y4.1, 64, .inl (fun _ => 0))), (n3, .inl (y4.2.2.1, 64, .inl (fun _ => 0)))] H := hP
  have hD : va_D A [(a, .inr (5, [.ref n1, .ref n2, .ref n3, .null])), (n1, .inl (y4.1, 64, .inl (fun _ => 0))), (n2, .inl (y4.1, 64, .inl (fun _ => 0))), (n3, .inl (y4.2.2.1, 64, .inl (fun _ => 0)))] := hD
  refine lv_aload_n hx hb dX6_init_28 rfl (lv_at hl 0 rfl) ?_
  refine lv_bipush (v := 64) hx hb dX6_init_29 (by decide) ?_
  refine newY (atype := .int) (ty := .int) (a0 := (64, .inl (fun _ => 0))) 0 hx hb facint rfl hK hP hD hS hA rfl (fun _ => rfl) (by decide) (by decide) (Nat.le_of_ble_eq_true rfl) (Nat.le_of_ble_eq_true rfl) (Nat.le_of_ble_eq_true rfl) dX6_init_31 (fun n4 H hP hD hS => ?_)
  have hP : va_P D vwCl [(a, .inr (5, [.ref n1, .ref n2, .ref n3, .null])), (n1, .inl (y4.1, 64, .inl (fun _ => 0))), (n2, .inl (y4.1, 64, .inl (fun _ => 0))), (n3, .inl (y4.2.2.1, 64, .inl (fun _ => 0))), (n4, .inl (y4.1, 64, .inl (fun _ => 0)))] H := hP
  have hD : va_D A [(a, .inr (5, [.ref n1, .ref n2, .ref n3, .null])), (n1, .inl (y4.1, 64, .inl (fun _ => 0))), (n2, .inl (y4.1, 64, .inl (fun _ => 0))), (n3, .inl (y4.2.2.1, 64, .inl (fun _ => 0))), (n4, .inl (y4.1, 64, .inl (fun _ => 0)))] := hD
  refine va_putF (ci := 5) (v := .ref n4) (ty := .array .int) (C := RX6) (T := TX6) (N := 4) hx hb hts iX6 tyX6 tyX6_ok nmX6 hown hK hP hD hS 0 rfl rfl 3 (by decide) f22 (fun _ h9 => h9) rfl hin rfl (by decide +kernel) rfl rfl (Nat.le_of_ble_eq_true rfl) dX6_init_33 (fun H locs hP hD hS => ?_)
  have hP : va_P D vwCl [(a, .inr (5, [.ref n1, .ref n2, .ref n3, .ref n4])), (n1, .inl (y4.1, 64, .inl (fun _ => 0))), (n2, .inl (y4.1, 64, .inl (fun _ => 0))), (n3, .inl (y4.2.2.1, 64, .inl (fun _ => 0))), (n4, .inl (y4.1, 64, .inl (fun _ => 0)))] H := hP
  have hD : va_D A [(a, .inr (5, [.ref n1, .ref n2, .ref n3, .ref n4])), (n1, .inl (y4.1, 64, .inl (fun _ => 0))), (n2, .inl (y4.1, 64, .inl (fun _ => 0))), (n3, .inl (y4.2.2.1, 64, .inl (fun _ => 0))), (n4, .inl (y4.1, 64, .inl (fun _ => 0)))] := hD
  exact W.vret hx hb hr (fun t ht hW => ⟨⟨lsN [n1, n2, n3, n4], rfl, trivial, ⟨by rw [ht]; exact hP, by exact hD⟩⟩, hS.F ht⟩) hS.2.2 dX6_init_36
set_option maxHeartbeats 4000000 in
set_option maxRecDepth 100000 in
theorem met_X2_init (l : Launch) (D : va_G) (y4 : vT) (a : Nat) (sz : Nat) : Met l yX2_init wsX2_init ({ frames := 2, cells := 2, slots := 71, locals := 53 }) (va_Pc [.ref a] (PreWI D y4 [(a, .inr (1, [.null, .null]))] sz)) (va_Qv (fun (_ : Nat → Nat) => True) (fun u t => PostW D (va_A [(a, .inr (1, [.null, .null]))] sz) [(a, .inr (1, [.ref (u 0), .ref (u 1)])), (u 0, .inr (2, [.int 0, .int 0, .int 0, .int 0, .int 0, .int 0, .int 0])), (u 1, .inl (y4.1, 64, .inl (fun _ => 0)))] t) (va_A [(a, .inr (1, [.null, .null]))] sz)) 2 71 (va_A [(a, .inr (1, [.null, .null]))] sz) := by
  refine Met.ofW (cc := cX2_init) (maxL := 1) (ret := none) (by decide) rfl ?_
  intro p e s m args below meth c s₁ B hml hv
  obtain ⟨rfl, hsz, hP, hK, hD0, hNW, hNI⟩ := hv
  have hx := B.exec
  have hb := B.bytes
  have hr := B.returns
  have hts := atoms_spec (ws := wsX2_init) B.pre
  have hown : s.vm.findClass RX2 = some m.cls := findClass_of_methodNamed B.named
  have hlocks := B.notSynchronized
  subst hsz
  have hD := hD0.self (sz := s.heap.size)
  generalize hAe : va_A [(a, .inr (1, [.null, .null]))] s.heap.size = A at hD ⊢
  have hA : ∀ q : Nat, s.heap.size ≤ q → A q := fun q h => by rw [← hAe]; exact Or.inr h
  have hS : va_S A s.heap s.heap [] := va_S.rf
  have hin : meth.name = "<init>" := (name_of_methodNamed B.named B.method).1
  have hl := lv_entry ([.ref a]) (n := 1) (Nat.le_of_ble_eq_true rfl)
  rw [lg_entry_eq]
  generalize (lg_sl ([.ref a]) ++ List.replicate (1 - (lg_sl ([.ref a])).length) Slot.unset).toArray = ls at hl ⊢
  have hl : lv_has ls 1 [(0, .ref a)] := hl
  have foin := hts (.instanceMethod objectInit) (List.mem_of_getElem? (i := 2) rfl)
  have foco := hts (.code objectInit ⟨#[0xb1]⟩ 1 none) (List.mem_of_getElem? (i := 3) rfl)
  have foli := hts (.methodLink RX2 3 objectInit) (List.mem_of_getElem? (i := 1) rfl)
  have f9 := hts (.classLink RX2 9 RX3) (List.mem_of_getElem? (i := 4) rfl)
  have iX3 : ∀ w ∈ wsX30, w ∈ wsX2_init := fun _ h => List.mem_cons_of_mem _ (List.mem_append_left _ (List.mem_append_right _ h))
  have finstX3 := hts (.instantiable RX3 7) (List.mem_of_getElem? (i := 5) rfl)
  have finiX3 := hts (.initialized RX3) (List.mem_of_getElem? (i := 6) rfl)
  have fini_X3_init := hts (.initialized RX3) (List.mem_of_getElem? (i := 6) rfl)
  have finm_X3_init := hts (.instanceMethod yX3_init) (List.mem_of_getElem? (i := 10) rfl)
  have f12 := hts (.fieldLink RX2 12 "PillarLight$Light" "line" "LPillarLight$Line;") (List.mem_of_getElem? (i := 7) rfl)
  have iX2 : ∀ w ∈ wsX20, w ∈ wsX2_init := fun _ h => List.mem_cons_of_mem _ (List.mem_append_right _ h)
  have facint := hts (.arrayClass .int) (List.mem_of_getElem? (i := 8) rfl)
  have f18 := hts (.fieldLink RX2 18 "PillarLight$Light" "all" "[I") (List.mem_of_getElem? (i := 9) rfl)
  refine startW (fun H locs hP hS => ?_) hP hS
  refine lv_aload_n hx hb dX2_init_0 rfl (lv_at hl 0 rfl) ?_
  refine W.objInit hx hb hown foli foin foco rfl (by rw [hml]; exact hl.1) rfl dX2_init_1 (Nat.le_of_ble_eq_true rfl) (Nat.le_of_ble_eq_true rfl) ?_
  refine W.eq (g2 := F0 m 4 ls []) rfl ?_
  refine lv_aload_n hx hb dX2_init_4 rfl (lv_at hl 0 rfl) ?_
  refine va_new (ci := 2) (fs := [.int 0, .int 0, .int 0, .int 0, .int 0, .int 0, .int 0]) (C := RX3) (T := TX3) (N := 7) hx hb hts iX3 tyX3 tyX3_ok hown f9 finstX3 finiX3 hK hP hD hS hA rfl (fun j hj => by rcases (show j = 0 ∨ j = 1 ∨ j = 2 ∨ j = 3 ∨ j = 4 ∨ j = 5 ∨ j = 6 by omega) with rfl | rfl | rfl | rfl | rfl | rfl | rfl <;> rfl) (Nat.le_of_ble_eq_true rfl) (Nat.le_of_ble_eq_true rfl) dX2_init_5 (fun n1 H hP hD hS => ?_)
  have hP : va_P D vwCl [(a, .inr (1, [.null, .null])), (n1, .inr (2, [.int 0, .int 0, .int 0, .int 0, .int 0, .int 0, .int 0]))] H := hP
  have hD : va_D A [(a, .inr (1, [.null, .null])), (n1, .inr (2, [.int 0, .int 0, .int 0, .int 0, .int 0, .int 0, .int 0]))] := hD
  refine lv_dup hx hb dX2_init_8 rfl ?_
  refine callW_vI (wr := [(a, .inr (1, [.null, .null]))]) (wn := fun u => [(a, .inr (1, [.null, .null])), (n1, .inr (2, [.int 0, .int 0, .int 0, .int 0, .int 0, .int 0, .int 0]))]) (va_runIN (As := []) (rest := [.ref n1, .ref a]) ⟨hx, hb, hml, hown, hts⟩ (met_X3_init l D y4 n1 H.size) ⟨va_cnB 0 hts gX2_init_X3_init_n11 rfl rfl rfl hNI.2.2.2.2.2.1 fini_X3_init (by decide +kernel) ⟨Nat.le_of_ble_eq_true rfl, Nat.le_of_ble_eq_true rfl⟩, rfl, finm_X3_init⟩ ⟨preW_blind, preW_at (hP.sub (ws' := [(n1, .inr (2, [.int 0, .int 0, .int 0, .int 0, .int 0, .int 0, .int 0]))]) [1] rfl) hK (hD.sub (ws' := [(n1, .inr (2, [.int 0, .int 0, .int 0, .int 0, .int 0, .int 0, .int 0]))]) [1] (by decide) rfl) hNW⟩ rfl rfl hl.1 rfl (lv_room (Nat.le_of_ble_eq_true rfl)) dX2_init_9 ⟨Nat.le_of_ble_eq_true rfl, Nat.le_of_ble_eq_true rfl⟩) hP hD hS hA [1] [0] [0, 1] rfl rfl (by decide) (by decide) (fun _ => rfl) (by decide) (fun u2 H locs hw hP hD hS => ?_)
  have hP : va_P D vwCl [(a, .inr (1, [.null, .null])), (n1, .inr (2, [.int 0, .int 0, .int 0, .int 0, .int 0, .int 0, .int 0]))] H := hP
  have hD : va_D A [(a, .inr (1, [.null, .null])), (n1, .inr (2, [.int 0, .int 0, .int 0, .int 0, .int 0, .int 0, .int 0]))] := hD
  refine va_putF (ci := 1) (v := .ref n1) (ty := .object "PillarLight$Line") (C := RX2) (T := TX2) (N := 2) hx hb hts iX2 tyX2 tyX2_ok nmX2 hown hK hP hD hS 0 rfl rfl 0 (by decide) f12 (fun _ h9 => h9) rfl hin rfl (by decide +kernel) rfl rfl (Nat.le_of_ble_eq_true rfl) dX2_init_12 (fun H locs hP hD hS => ?_)
  have hP : va_P D vwCl [(a, .inr (1, [.ref n1, .null])), (n1, .inr (2, [.int 0, .int 0, .int 0, .int 0, .int 0, .int 0, .int 0]))] H := hP
  have hD : va_D A [(a, .inr (1, [.ref n1, .null])), (n1, .inr (2, [.int 0, .int 0, .int 0, .int 0, .int 0, .int 0, .int 0]))] := hD
  refine lv_aload_n hx hb dX2_init_15 rfl (lv_at hl 0 rfl) ?_
  refine lv_bipush (v := 64) hx hb dX2_init_16 (by decide) ?_
  refine newY (atype := .int) (ty := .int) (a0 := (64, .inl (fun _ => 0))) 0 hx hb facint rfl hK hP hD hS hA rfl (fun _ => rfl) (by decide) (by decide) (Nat.le_of_ble_eq_true rfl) (Nat.le_of_ble_eq_true rfl) (Nat.le_of_ble_eq_true rfl) dX2_init_18 (fun n3 H hP hD hS => ?_)
  have hP : va_P D vwCl [(a, .inr (1, [.ref n1, .null])), (n1, .inr (2, [.int 0, .int 0, .int 0, .int 0, .int 0, .int 0, .int 0])), (n3, .inl (y4.1, 64, .inl (fun _ => 0)))] H := hP
  have hD : va_D A [(a, .inr (1, [.ref n1, .null])), (n1, .inr (2, [.int 0, .int 0, .int 0, .int 0, .int 0, .int 0, .int 0])), (n3, .inl (y4.1, 64, .inl (fun _ => 0)))] := hD
  refine va_putF (ci := 1) (v := .ref n3) (ty := .array .int) (C := RX2) (T := TX2) (N := 2) hx hb hts iX2 tyX2 tyX2_ok nmX2 hown hK hP hD hS 0 rfl rfl 1 (by decide) f18 (fun _ h9 => h9) rfl hin rfl (by decide +kernel) rfl rfl (Nat.le_of_ble_eq_true rfl) dX2_init_20 (fun H locs hP hD hS => ?_)
  have hP : va_P D vwCl [(a, .inr (1, [.ref n1, .ref n3])), (n1, .inr (2, [.int 0, .int 0, .int 0, .int 0, .int 0, .int 0, .int 0])), (n3, .inl (y4.1, 64, .inl (fun _ => 0)))] H := hP
  have hD : va_D A [(a, .inr (1, [.ref n1, .ref n3])), (n1, .inr (2, [.int 0, .int 0, .int 0, .int 0, .int 0, .int 0, .int 0])), (n3, .inl (y4.1, 64, .inl (fun _ => 0)))] := hD
  exact W.vret hx hb hr (fun t ht hW => ⟨⟨lsN [n1, n3], rfl, trivial, ⟨by rw [ht]; exact hP, by exact hD⟩⟩, hS.F ht⟩) hS.2.2 dX2_init_23
