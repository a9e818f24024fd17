def zrg (d : Int) : List Int := if 0 ≤ d then (List.range (d.toNat + 1)).map (fun k : Nat => (k : Int)) else (List.range ((0 - d).toNat + 1)).map (fun k : Nat => 0 - (k : Int))
theorem zrg_mem {a d : Int} : a ∈ zrg d ↔ (0 ≤ a ∧ a ≤ d) ∨ (d ≤ a ∧ a ≤ 0 ∧ d < 0) := by
  unfold zrg
  by_cases h : 0 ≤ d
  · rw [if_pos h]
    simp only [List.mem_map, List.mem_range]
    constructor
    · rintro ⟨k, hk, rfl⟩; omega
    · intro q; exact ⟨a.toNat, by omega, by omega⟩
  · rw [if_neg h]
    simp only [List.mem_map, List.mem_range]
    constructor
    · rintro ⟨k, hk, rfl⟩; omega
    · intro q; exact ⟨(0 - a).toNat, by omega, by omega⟩
def chkA (dr dc : Int) : Bool := (zrg dr).all fun x => (zrg dc).all fun y => (!gT dr dc x y || (evD dr dc).contains (8 * x + y, 8 * x + y)) && (!sqZ dr dc x y || ((evD dr dc).contains (sqPr dr dc x y) || (evD dr dc).contains ((sqPr dr dc x y).2, (sqPr dr dc x y).1)))
def chkB (dr dc : Int) : Bool := (evD dr dc).all fun e => (zrg dr).any fun x => (zrg dc).any fun y => (gT dr dc x y && (e == (8 * x + y, 8 * x + y))) || (sqZ dr dc x y && (e == sqPr dr dc x y || e == ((sqPr dr dc x y).2, (sqPr dr dc x y).1)))
theorem chkAB : ∀ a : Nat, a < 15 → ∀ b : Nat, b < 15 → chkA ((a : Int) - 7) ((b : Int) - 7) = true ∧ chkB ((a : Int) - 7) ((b : Int) - 7) = true := by decide +kernel
theorem of15 {P : Int → Int → Prop} (h : ∀ a : Nat, a < 15 → ∀ b : Nat, b < 15 → P ((a : Int) - 7) ((b : Int) - 7)) {dr dc : Int} (h1 : -7 ≤ dr ∧ dr ≤ 7) (h2 : -7 ≤ dc ∧ dc ≤ 7) : P dr dc := by
  have := h (dr + 7).toNat (by omega) (dc + 7).toNat (by omega)
  rwa [show (((dr + 7).toNat : Nat) : Int) - 7 = dr by omega, show (((dc + 7).toNat : Nat) : Int) - 7 = dc by omega] at this
theorem gT_box {dr dc x y : Int} (h : gT dr dc x y = true) : zbtw x dr = true ∧ zbtw y dc = true := by
  unfold gT at h
  cases h1 : zbtw x dr <;> cases h2 : zbtw y dc <;> simp [h1, h2] at h <;> exact ⟨rfl, rfl⟩
theorem zrg_of {a d : Int} (h : zbtw a d = true) : a ∈ zrg d := by
  rw [zrg_mem]; rcases (zbtw_iff a d).mp h with h | h <;> omega
theorem sqZ_box {dr dc x y : Int} (h : sqZ dr dc x y = true) : x ∈ zrg dr ∧ y ∈ zrg dc := by
  unfold sqZ at h
  simp only [Bool.and_eq_true, decide_eq_true_eq] at h
  obtain ⟨⟨⟨⟨h1, h2⟩, h3⟩, h4⟩, -⟩ := h
  rw [zrg_mem, zrg_mem]
  constructor
  · split at h1 <;> split at h2 <;> omega
  · split at h3 <;> split at h4 <;> omega
theorem isSt_nI (K : Nat → Int32) {c : Nat} (hc : c < 64) : m_X3_isStopped K (nI c) = m_X8_isDark (K c) := by
  unfold m_X3_isStopped m_X8_isDark
  rw [if_neg (nI_pos (by omega)), if_neg (show ¬ (64 : Int32) ≤ nI c from nI_ge hc (by decide)), nI_clamp (by omega)]
theorem zS_c (K : Nat → Int32) {f c : Nat} (hc : c < 64) {p : Int} (h : (f : Int) + p = c) : zS K f p = m_X8_isDark (K c) := by
  unfold zS; rw [h, ← nI_oI, isSt_nI K hc]
theorem zD_c {RO K : Nat → Int32} (hK : ∀ i : Nat, i < 64 → RO i = K i) {f c : Nat} (hc : c < 64) {p : Int} (h : (f : Int) + p = c) : zD RO (f + p) = zS K f p := by
  rw [zS_c K hc h]; unfold zD; rw [h, show ((c : Int)).toNat = c from rfl, hK c hc]
/-- the corner's two cells lie on the map -/
theorem sqPr_cell {f t : Nat} (hf : f < 64) (ht : t < 64) {x y : Int} (h : sqZ (zRw t - zRw f) (zCl t - zCl f) x y = true) : (∃ c : Nat, c < 64 ∧ (f : Int) + (sqPr (zRw t - zRw f) (zCl t - zCl f) x y).1 = c) ∧ (∃ c : Nat, c < 64 ∧ (f : Int) + (sqPr (zRw t - zRw f) (zCl t - zCl f) x y).2 = c) := by
  have bf := zRw_b hf; have bt := zRw_b ht
  have df := zCl_b f; have dt := zCl_b t
  have rf := zRC f
  unfold sqZ at h
  simp only [Bool.and_eq_true, decide_eq_true_eq] at h
  obtain ⟨⟨⟨⟨h1, h2⟩, h3⟩, h4⟩, -⟩ := h
  have w1 : 1 ≤ zRw f + x ∧ zRw f + x ≤ 7 := by split at h1 <;> split at h2 <;> omega
  have w2 : 1 ≤ zCl f + y ∧ zCl f + y ≤ 7 := by split at h3 <;> split at h4 <;> omega
  unfold sqPr
  split
  · exact ⟨⟨((f : Int) + (8 * x + y - 8)).toNat, by omega, by dsimp only; omega⟩, ⟨((f : Int) + (8 * x + y - 1)).toNat, by omega, by dsimp only; omega⟩⟩
  · exact ⟨⟨((f : Int) + (8 * x + y - 9)).toNat, by omega, by dsimp only; omega⟩, ⟨((f : Int) + (8 * x + y)).toNat, by omega, by dsimp only; omega⟩⟩
theorem zbox {f t : Nat} (hf : f < 64) (ht : t < 64) {x y : Int} (hx : x ∈ zrg (zRw t - zRw f)) (hy : y ∈ zrg (zCl t - zCl f)) : ∃ c : Nat, c < 64 ∧ zRw c - zRw f = x ∧ zCl c - zCl f = y ∧ (f : Int) + (8 * x + y) = c := by
  have bf := zRw_b hf; have bt := zRw_b ht
  have df := zCl_b f; have dt := zCl_b t
  rw [zrg_mem] at hx hy
  obtain ⟨c, hc, h1, h2, h3⟩ := zcell (r := zRw f + x) (s := zCl f + y) (by omega) (by omega)
  exact ⟨c, hc, by omega, by omega, by have := zRC f; omega⟩
theorem dr_b {f t : Nat} (hf : f < 64) (ht : t < 64) : -7 ≤ zRw t - zRw f ∧ zRw t - zRw f ≤ 7 := by
  have := zRw_b hf; have := zRw_b ht; omega
theorem dc_b (f t : Nat) : -7 ≤ zCl t - zCl f ∧ zCl t - zCl f ≤ 7 := by
  have := zCl_b f; have := zCl_b t; omega
/-- the model's line and the class's line -/
theorem free_eq {RO K : Nat → Int32} (hK : ∀ i : Nat, i < 64 → RO i = K i) {f t : Nat} (hf : f < 64) (ht : t < 64) : m_X8_isFree RO (nI f) (nI t) = m_X3_isFreeAlong K (nI f) (nI t) := by
  rw [Bool.eq_iff_iff, free_m RO hf ht, free_c K hf ht]
  obtain ⟨cA, cB⟩ := of15 (P := fun dr dc => chkA dr dc = true ∧ chkB dr dc = true) chkAB (dr_b hf ht) (dc_b f t)
  constructor
  · intro h e he
    have := List.all_eq_true.mp cB e he
    obtain ⟨x, hx, hq⟩ := List.any_eq_true.mp this
    obtain ⟨y, hy, hq⟩ := List.any_eq_true.mp hq
    obtain ⟨c, hc, e1, e2, e3⟩ := zbox hf ht hx hy
    obtain ⟨g1, g2⟩ := h c hc
    rw [e1, e2] at g1 g2
    rcases (Bool.or_eq_true _ _).mp hq with hq | hq
    · obtain ⟨q1, q2⟩ := (Bool.and_eq_true _ _).mp hq
      have q2 := eq_of_beq q2
      rw [q2]
      intro w
      apply g1
      refine ⟨?_, q1⟩
      have := w.1
      rw [zS_c K hc e3] at this
      rw [hK c hc]; exact this
    · obtain ⟨q1, q2⟩ := (Bool.and_eq_true _ _).mp hq
      obtain ⟨⟨c1, hc1, w1⟩, ⟨c2, hc2, w2⟩⟩ := sqPr_cell hf ht q1
      rcases (Bool.or_eq_true _ _).mp q2 with q2 | q2
      · have q2 := eq_of_beq q2
        rw [q2]
        intro w
        exact g2 ⟨q1, (zD_c hK hc1 w1).trans w.1, (zD_c hK hc2 w2).trans w.2⟩
      · have q2 := eq_of_beq q2
        rw [q2]
        intro w
        exact g2 ⟨q1, (zD_c hK hc1 w1).trans w.2, (zD_c hK hc2 w2).trans w.1⟩
  · intro h c hc
    have e3 : (f : Int) + (8 * (zRw c - zRw f) + (zCl c - zCl f)) = c := by have := zRC f; have := zRC c; omega
    constructor
    · rintro ⟨q1, q2⟩
      obtain ⟨x1, y1⟩ := gT_box q2
      have := List.all_eq_true.mp (List.all_eq_true.mp cA _ (zrg_of x1)) _ (zrg_of y1)
      have := ((Bool.and_eq_true _ _).mp this).1
      rw [q2] at this
      have := List.contains_iff_mem.mp this
      have g := h _ this
      apply g
      rw [zS_c K hc e3, ← hK c hc]
      exact ⟨q1, q1⟩
    · rintro ⟨q1, q2, q3⟩
      obtain ⟨x1, y1⟩ := sqZ_box q1
      have := List.all_eq_true.mp (List.all_eq_true.mp cA _ x1) _ y1
      have := ((Bool.and_eq_true _ _).mp this).2
      rw [q1] at this
      obtain ⟨⟨c1, hc1, w1⟩, ⟨c2, hc2, w2⟩⟩ := sqPr_cell hf ht q1
      rw [zD_c hK hc1 w1] at q2
      rw [zD_c hK hc2 w2] at q3
      rcases (Bool.or_eq_true _ _).mp this with this | this
      · exact absurd this (by decide)
      · rcases (Bool.or_eq_true _ _).mp this with this | this
        · exact h _ (List.contains_iff_mem.mp this) ⟨q2, q3⟩
        · exact h _ (List.contains_iff_mem.mp this) ⟨q3, q2⟩
/-! each cell by itself -/
def zatY (s8 sc RR CC x y dn al : Int) : Option Int :=
  if dn < 0 then none else (if RR < dn then none else (if al < 0 then none else (if CC < al then none else
    (if zab (2 * (dn * CC - al * RR)) = RR + CC then some (if 2 * (dn * CC - al * RR) ≤ 0 then (8 * x + y + s8) - sc else (8 * x + y - s8) + sc)
    else (if RR + CC ≤ zab (2 * (dn * CC - al * RR)) then none else some (8 * x + y))))))
def atZ (dr dc x y : Int) : Option Int := zatY (z8 dr) (z1 dc) (zab dr) (zab dc) x y (x * (if z8 dr ≤ 0 then -1 else 1)) (y * z1 dc)
theorem zab_sm {z : Int} (h : zsm z) : zsm (zab z) := by
  obtain ⟨h1, h2⟩ := h
  unfold zab; split <;> exact ⟨by omega, by omega⟩
theorem sa_y (K : Nat → Int32) {f : Int} {c : Nat} {s8 sc RR CC x y dn al : Int} (hf : 0 ≤ f ∧ f ≤ 63) (h8 : -8 ≤ s8 ∧ s8 ≤ 8) (h1 : -1 ≤ sc ∧ sc ≤ 1) (hR : 0 ≤ RR ∧ RR ≤ 7) (hC : 0 ≤ CC ∧ CC ≤ 7) (m1 : -7 ≤ dn ∧ dn ≤ 7) (m2 : -7 ≤ al ∧ al ≤ 7) (e3 : f + (8 * x + y) = c) :
    (zS K f (8 * x + y) && (if ((if oI dn < 0 then false else (if oI RR < oI dn then false else true)) : Bool) = false then false else (if ((if oI al < 0 then false else (if oI CC < oI al then false else true)) : Bool) = false then false else (if iabs (oI (2 * (dn * CC - al * RR))) = oI (RR + CC) then m_X3_isStopped K (if oI (2 * (dn * CC - al * RR)) ≤ 0 then (nI c + oI s8) - oI sc else (nI c - oI s8) + oI sc) else (if oI (RR + CC) ≤ iabs (oI (2 * (dn * CC - al * RR))) then false else true))))) = match zatY s8 sc RR CC x y dn al with
      | none => false
      | some q => zS K f (8 * x + y) && zS K f q := by
  have m3 := mulb (a := dn) (b := CC) m1 (by omega)
  have m4 := mulb (a := al) (b := RR) m2 (by omega)
  have mo : zsm (2 * (dn * CC - al * RR)) := zsm_of (by omega) (by omega)
  have so := zab_sm mo
  unfold zatY
  generalize 2 * (dn * CC - al * RR) = off at mo so ⊢
  have za : iabs (oI off) = oI (zab off) := iabs_z mo
  have a1 : (nI c + oI s8) - oI sc = oI (f + ((8 * x + y + s8) - sc)) := by rw [nI_oI, ← e3, oI_add, oI_sub]; congr 1; omega
  have a2 : (nI c - oI s8) + oI sc = oI (f + ((8 * x + y - s8) + sc)) := by rw [nI_oI, ← e3, oI_sub, oI_add]; congr 1; omega
  have sR : zsm RR := zsm_of (by omega) (by omega)
  have sC : zsm CC := zsm_of (by omega) (by omega)
  have sRC : zsm (RR + CC) := zsm_of (by omega) (by omega)
  have sd : zsm dn := zsm_of (by omega) (by omega)
  have sa : zsm al := zsm_of (by omega) (by omega)
  rw [za, a1, a2]
  simp only [oI_lt0 sd, oI_lt sR sd, oI_lt0 sa, oI_lt sC sa, oI_eq so sRC, oI_le0 mo, oI_le sRC so]
  by_cases c1 : dn < 0
  · simp [c1]
  by_cases c2 : RR < dn
  · simp [c1, c2]
  by_cases c3 : al < 0
  · simp [c1, c2, c3]
  by_cases c4 : CC < al
  · simp [c1, c2, c3, c4]
  by_cases c5 : zab off = RR + CC
  · by_cases c6 : off ≤ 0
    · simp [c1, c2, c3, c4, c5, c6, zS]
    · simp [c1, c2, c3, c4, c5, c6, zS]
  · by_cases c7 : RR + CC ≤ zab off
    · simp [c1, c2, c3, c4, c5, c7]
    · simp [c1, c2, c3, c4, c5, c7]
theorem sa_z (K : Nat → Int32) {f t c : Nat} (hf : f < 64) (ht : t < 64) (hc : c < 64) :
    (m_X8_isDark (K c) && m_X3_isStoppedAt (oI (z8 (zRw t - zRw f))) (oI (z1 (zCl t - zCl f))) (oI (zab (zRw t - zRw f))) (oI (zab (zCl t - zCl f))) K (nI f) (nI c)) = match atZ (zRw t - zRw f) (zCl t - zCl f) (zRw c - zRw f) (zCl c - zCl f) with
      | none => false
      | some q => zS K f (8 * (zRw c - zRw f) + (zCl c - zCl f)) && zS K f q := by
  have bf := zRw_b hf; have bt := zRw_b ht; have bc := zRw_b hc
  have df := zCl_b f; have dt := zCl_b t; have dc := zCl_b c
  have rf := zRC f; have rc := zRC c
  have e3 : (f : Int) + (8 * (zRw c - zRw f) + (zCl c - zCl f)) = c := by omega
  have b8 := z8_b (zRw t - zRw f); have b1 := z1_b (zCl t - zCl f)
  have ba := zab_b (d := zRw t - zRw f) (by omega); have bb := zab_b (d := zCl t - zCl f) (by omega)
  have m1 : -7 ≤ (zRw c - zRw f) * (if z8 (zRw t - zRw f) ≤ 0 then (-1 : Int) else 1) ∧ (zRw c - zRw f) * (if z8 (zRw t - zRw f) ≤ 0 then (-1 : Int) else 1) ≤ 7 := by split <;> omega
  have m2 : -7 ≤ (zCl c - zCl f) * z1 (zCl t - zCl f) ∧ (zCl c - zCl f) * z1 (zCl t - zCl f) ≤ 7 := by
    rcases (by omega : z1 (zCl t - zCl f) = -1 ∨ z1 (zCl t - zCl f) = 0 ∨ z1 (zCl t - zCl f) = 1) with h | h | h <;> rw [h] <;> omega
  rw [← zS_c K hc e3]
  have e0 : (if oI (z8 (zRw t - zRw f)) ≤ 0 then (-1 : Int32) else (1 : Int32)) = oI (if z8 (zRw t - zRw f) ≤ 0 then -1 else 1) := by
    simp only [oI_le0 (zsm_of (z := z8 (zRw t - zRw f)) (by omega) (by omega)), oI_l1, oI_m1]
    split <;> rfl
  have key := sa_y K (f := f) (c := c) (by omega) b8 b1 ba bb m1 m2 e3
  unfold atZ
  rw [← key]
  congr 1
  unfold m_X3_isStoppedAt m_X0_row m_X0_column m_X7_isWithin
  rw [zcl hf, zcl hc, zrw hf, zrw hc, e0, oI_l2]
  simp only [oI_sub, oI_mul, oI_add]
def chkC (dr dc : Int) : Bool := (zrg dr).all fun x => (zrg dc).all fun y => (decide (x = 0 ∧ y = 0) || decide (x = dr ∧ y = dc)) || (match atZ dr dc x y with
  | none => true
  | some q => (evD dr dc).contains (8 * x + y, q) || (evD dr dc).contains (q, 8 * x + y))
def chkD (dr dc : Int) : Bool := (evD dr dc).all fun e => (zrg dr).any fun x => (zrg dc).any fun y => !(decide (x = 0 ∧ y = 0) || decide (x = dr ∧ y = dc)) && (match atZ dr dc x y with
  | none => false
  | some q => e == (8 * x + y, q) || e == (q, 8 * x + y))
theorem chkCD : ∀ a : Nat, a < 15 → ∀ b : Nat, b < 15 → chkC ((a : Int) - 7) ((b : Int) - 7) = true ∧ chkD ((a : Int) - 7) ((b : Int) - 7) = true := by decide +kernel
theorem atZ_box {dr dc x y q : Int} (h1 : -7 ≤ dr ∧ dr ≤ 7) (h2 : -7 ≤ dc ∧ dc ≤ 7) (h : atZ dr dc x y = some q) : x ∈ zrg dr ∧ y ∈ zrg dc := by
  unfold atZ zatY at h
  by_cases c1 : x * (if z8 dr ≤ 0 then -1 else 1) < 0
  · simp [c1] at h
  by_cases c2 : zab dr < x * (if z8 dr ≤ 0 then -1 else 1)
  · simp [c1, c2] at h
  by_cases c3 : y * z1 dc < 0
  · simp [c1, c2, c3] at h
  by_cases c4 : zab dc < y * z1 dc
  · simp [c1, c2, c3, c4] at h
  rw [zrg_mem, zrg_mem]
  unfold z8 at c1 c2
  unfold zab at c2
  unfold z1 at c3 c4
  unfold zab at c4
  constructor
  · by_cases d : 0 ≤ dr
    · simp only [d, if_true, if_false, (show ((8 : Int) ≤ 0) ↔ False by decide), (show ((-8 : Int) ≤ 0) ↔ True by decide)] at c1 c2; omega
    · simp only [d, if_true, if_false, (show ((8 : Int) ≤ 0) ↔ False by decide), (show ((-8 : Int) ≤ 0) ↔ True by decide)] at c1 c2; omega
  · by_cases d : 0 ≤ dc
    · simp only [d, if_true, if_false] at c3 c4; omega
    · simp only [d, if_true, if_false] at c3 c4; omega
/-- a loop that leaves with false at the first that is not well -/
theorem outLoop {bad : Nat → Bool} {f : Nat → Unit → (Bool ⊕ Unit) ⊕ Unit} (N : Nat) (h1 : ∀ k, k < N → f k () = if bad k = true then .inl (.inl false) else .inr ()) : ∀ n i0, i0 + n ≤ N → (lpr (lpx f n i0 ()) id (fun _ => true) = true ↔ ∀ k, i0 ≤ k → k < i0 + n → bad k = false) := by
  intro n
  induction n with
  | zero => intro i0 _; exact ⟨fun _ k h1 h2 => by omega, fun _ => rfl⟩
  | succ n ih =>
    intro i0 hN
    rw [lpx, h1 i0 (by omega)]
    cases ho : bad i0 with
    | false =>
      refine (ih (i0 + 1) (by omega)).trans ⟨fun h k q1 q2 => ?_, fun h k q1 q2 => h k (by omega) (by omega)⟩
      by_cases e : k = i0
      · rw [e]; exact ho
      · exact h k (by omega) (by omega)
    | true =>
      constructor
      · intro h; exact absurd (show (false : Bool) = true from h) (by decide)
      · intro h
        have := h i0 (Nat.le_refl _) (by omega)
        rw [ho] at this; exact absurd this (by decide)
theorem each_c (K : Nat → Int32) {f t : Nat} (hf : f < 64) (ht : t < 64) : m_X3_isFreeOfEach K (nI f) (nI t) = true ↔ ∀ c : Nat, c < 64 → c ≠ f → c ≠ t → ∀ q, atZ (zRw t - zRw f) (zCl t - zCl f) (zRw c - zRw f) (zCl c - zCl f) = some q → ¬ (zS K f (8 * (zRw c - zRw f) + (zCl c - zCl f)) = true ∧ zS K f q = true) := by
  unfold m_X3_isFreeOfEach
  rw [start_z hf ht]
  refine (outLoop (bad := fun c => !(decide (c = f) || decide (c = t)) && (match atZ (zRw t - zRw f) (zCl t - zCl f) (zRw c - zRw f) (zCl c - zCl f) with
      | none => false
      | some q => zS K f (8 * (zRw c - zRw f) + (zCl c - zCl f)) && zS K f q)) 64 (fun c hc => ?_) 64 0 (Nat.le_refl _)).trans ?_
  · simp only [f_X3_isFreeOfEach_9, nI_eq (show c < 2 ^ 31 by omega) (show f < 2 ^ 31 by omega), nI_eq (show c < 2 ^ 31 by omega) (show t < 2 ^ 31 by omega), isSt_nI K hc]
    rw [← sa_z K hf ht hc]
    by_cases c1 : c = f
    · simp [c1]
    by_cases c2 : c = t
    · simp [c1, c2]
    generalize m_X3_isStoppedAt (oI (z8 (zRw t - zRw f))) (oI (z1 (zCl t - zCl f))) (oI (zab (zRw t - zRw f))) (oI (zab (zCl t - zCl f))) K (nI f) (nI c) = B
    cases m_X8_isDark (K c) <;> cases B <;> simp [c1, c2]
  · constructor
    · intro h c hc n1 n2 q hq w
      have := h c (Nat.zero_le _) (by omega)
      simp only [hq, w.1, w.2, n1, n2] at this
      exact absurd this (by decide)
    · intro h c _ hc
      by_cases c1 : c = f
      · simp [c1]
      by_cases c2 : c = t
      · simp [c2]
      have := h c (by omega) c1 c2
      cases hq : atZ (zRw t - zRw f) (zCl t - zCl f) (zRw c - zRw f) (zCl c - zCl f) with
      | none => simp
      | some q =>
        have := this q hq
        cases h1 : zS K f (8 * (zRw c - zRw f) + (zCl c - zCl f)) <;> cases h2 : zS K f q <;> simp [h1, h2] at this ⊢
theorem zends {f t c : Nat} : (c = f ↔ (zRw c - zRw f = 0 ∧ zCl c - zCl f = 0)) ∧ (c = t ↔ (zRw c - zRw f = zRw t - zRw f ∧ zCl c - zCl f = zCl t - zCl f)) := by
  have := zRC f; have := zRC c; have := zRC t
  constructor
  · constructor
    · intro h; subst h; omega
    · intro h; omega
  · constructor
    · intro h; subst h; omega
    · intro h; omega
theorem each_eq (K : Nat → Int32) {f t : Nat} (hf : f < 64) (ht : t < 64) : m_X3_isFreeOfEach K (nI f) (nI t) = m_X3_isFreeAlong K (nI f) (nI t) := by
  rw [Bool.eq_iff_iff, each_c K hf ht, free_c K hf ht]
  obtain ⟨cC, cD⟩ := of15 (P := fun dr dc => chkC dr dc = true ∧ chkD dr dc = true) chkCD (dr_b hf ht) (dc_b f t)
  constructor
  · intro h e he
    have := List.all_eq_true.mp cD e he
    obtain ⟨x, hx, hq⟩ := List.any_eq_true.mp this
    obtain ⟨y, hy, hq⟩ := List.any_eq_true.mp hq
    obtain ⟨c, hc, e1, e2, e3⟩ := zbox hf ht hx hy
    obtain ⟨q1, q2⟩ := (Bool.and_eq_true _ _).mp hq
    simp only [Bool.not_eq_true', Bool.or_eq_false_iff, decide_eq_false_iff_not] at q1
    have n1 : c ≠ f := fun w => q1.1 (by have := (zends (t := t)).1.mp w; rwa [e1, e2] at this)
    have n2 : c ≠ t := fun w => q1.2 (by have := (zends (f := f)).2.mp w; rwa [e1, e2] at this)
    have hh := h c hc n1 n2
    rw [e1, e2] at hh
    cases ha : atZ (zRw t - zRw f) (zCl t - zCl f) x y with
    | none => rw [ha] at q2; exact absurd (show (false : Bool) = true from q2) (by decide)
    | some q =>
      rw [ha] at q2
      have g := hh q ha
      rcases (Bool.or_eq_true _ _).mp q2 with q2 | q2
      · have q2 := eq_of_beq q2
        rw [q2]; exact g
      · have q2 := eq_of_beq q2
        rw [q2]; exact fun w => g ⟨w.2, w.1⟩
  · intro h c hc n1 n2 q hq w
    obtain ⟨x1, y1⟩ := atZ_box (dr_b hf ht) (dc_b f t) hq
    have := List.all_eq_true.mp (List.all_eq_true.mp cC _ x1) _ y1
    rw [hq] at this
    rcases (Bool.or_eq_true _ _).mp this with this | this
    · rcases (Bool.or_eq_true _ _).mp this with this | this
      · exact n1 ((zends (t := t)).1.mpr (of_decide_eq_true this))
      · exact n2 ((zends (f := f)).2.mpr (of_decide_eq_true this))
    · rcases (Bool.or_eq_true _ _).mp this with this | this
      · exact h _ (List.contains_iff_mem.mp this) w
      · exact h _ (List.contains_iff_mem.mp this) ⟨w.2, w.1⟩
