/-! whole numbers behind the machine's -/
def oI (z : Int) : Int32 := Int32.ofInt z
def zsm (z : Int) : Prop := -1000000000 ≤ z ∧ z ≤ 1000000000
theorem oI_toInt {z : Int} (h : zsm z) : (oI z).toInt = z := Int32.toInt_ofInt_of_le (by have := h.1; omega) (by have := h.2; omega)
theorem oI_cl {z : Int} (h : zsm z) : (oI z).toNatClampNeg = z.toNat := Int32.toNatClampNeg_ofInt_of_le (by have := h.1; omega) (by have := h.2; omega)
theorem oI_lt {a b : Int} (ha : zsm a) (hb : zsm b) : oI a < oI b ↔ a < b := by rw [Int32.lt_iff_toInt_lt, oI_toInt ha, oI_toInt hb]
theorem oI_le {a b : Int} (ha : zsm a) (hb : zsm b) : oI a ≤ oI b ↔ a ≤ b := by rw [Int32.le_iff_toInt_le, oI_toInt ha, oI_toInt hb]
theorem oI_eq {a b : Int} (ha : zsm a) (hb : zsm b) : oI a = oI b ↔ a = b :=
  ⟨fun h => by have := congrArg Int32.toInt h; rwa [oI_toInt ha, oI_toInt hb] at this, fun h => by rw [h]⟩
theorem nI_oI (n : Nat) : nI n = oI (n : Int) := Int32.ofInt_eq_ofNat.symm
theorem oI_add (a b : Int) : oI a + oI b = oI (a + b) := (Int32.ofInt_add a b).symm
theorem oI_sub (a b : Int) : oI a - oI b = oI (a - b) := (Int32.ofInt_sub a b).symm
theorem oI_mul (a b : Int) : oI a * oI b = oI (a * b) := (Int32.ofInt_mul a b).symm
theorem oI_l0 : (0 : Int32) = oI 0 := by decide
theorem oI_l1 : (1 : Int32) = oI 1 := by decide
theorem oI_l2 : (2 : Int32) = oI 2 := by decide
theorem oI_l8 : (8 : Int32) = oI 8 := by decide
theorem oI_m1 : (-1 : Int32) = oI (-1) := by decide
theorem oI_m8 : (-8 : Int32) = oI (-8) := by decide
theorem oI_m4 : (-4 : Int32) = oI (-4) := by decide
theorem zsm_0 : zsm 0 := ⟨by decide, by decide⟩
theorem zsm_of {z : Int} (h : -1000000 ≤ z) (h2 : z ≤ 1000000) : zsm z := ⟨by omega, by omega⟩
theorem oI_0lt {z : Int} (h : zsm z) : (0 : Int32) < oI z ↔ 0 < z := by rw [oI_l0]; exact oI_lt zsm_0 h
theorem oI_lt0 {z : Int} (h : zsm z) : oI z < (0 : Int32) ↔ z < 0 := by rw [oI_l0]; exact oI_lt h zsm_0
theorem oI_le0 {z : Int} (h : zsm z) : oI z ≤ (0 : Int32) ↔ z ≤ 0 := by rw [oI_l0]; exact oI_le h zsm_0
theorem oI_0le {z : Int} (h : zsm z) : (0 : Int32) ≤ oI z ↔ 0 ≤ z := by rw [oI_l0]; exact oI_le zsm_0 h
theorem oI_eq0 {z : Int} (h : zsm z) : oI z = (0 : Int32) ↔ z = 0 := by rw [oI_l0]; exact oI_eq h zsm_0
theorem iabs_z {z : Int} (h : zsm z) : iabs (oI z) = oI (if 0 ≤ z then z else 0 - z) := by
  unfold iabs
  by_cases q : 0 ≤ z
  · rw [if_pos ((oI_0le h).mpr q), if_pos q]
  · rw [if_neg (fun w => q ((oI_0le h).mp w)), if_neg q, oI_l0, oI_sub]
def zRw (c : Nat) : Int := ((c / 8 : Nat) : Int)
def zCl (c : Nat) : Int := ((c % 8 : Nat) : Int)
theorem zrw {c : Nat} (h : c < 64) : nI c / 8 = oI (zRw c) := (pk_div (d := 8) (by omega) (by decide) (by decide)).trans (nI_oI _)
theorem zcl {c : Nat} (h : c < 64) : nI c - nI c / 8 * 8 = oI (zCl c) := (pk_rem (d := 8) (by omega) (by decide) (by decide)).trans (nI_oI _)
theorem zRw_b {c : Nat} (h : c < 64) : 0 ≤ zRw c ∧ zRw c ≤ 7 := by unfold zRw; omega
theorem zCl_b (c : Nat) : 0 ≤ zCl c ∧ zCl c ≤ 7 := by unfold zCl; omega
theorem zRC (c : Nat) : (c : Int) = 8 * zRw c + zCl c := by unfold zRw zCl; omega
theorem zcell {r s : Int} (h1 : 0 ≤ r ∧ r ≤ 7) (h2 : 0 ≤ s ∧ s ≤ 7) : ∃ c : Nat, c < 64 ∧ zRw c = r ∧ zCl c = s ∧ (c : Int) = 8 * r + s := by
  refine ⟨(8 * r + s).toNat, by omega, ?_, ?_, by omega⟩
  · unfold zRw; omega
  · unfold zCl; omega
theorem mulb {a b : Int} (ha : -7 ≤ a ∧ a ≤ 7) (hb : -1000 ≤ b ∧ b ≤ 1000) : -7000 ≤ a * b ∧ a * b ≤ 7000 := by
  obtain ⟨h1, h2⟩ := ha
  have : a = -7 ∨ a = -6 ∨ a = -5 ∨ a = -4 ∨ a = -3 ∨ a = -2 ∨ a = -1 ∨ a = 0 ∨ a = 1 ∨ a = 2 ∨ a = 3 ∨ a = 4 ∨ a = 5 ∨ a = 6 ∨ a = 7 := by omega
  rcases this with h | h | h | h | h | h | h | h | h | h | h | h | h | h | h <;> subst h <;> omega
/-! the line, in whole numbers relative to its first cell -/
def zside (dr dc x y : Int) : Int := dr * (2 * y - 1) - dc * (2 * x - 1)
theorem zside_sm {dr dc x y : Int} (h1 : -7 ≤ dr ∧ dr ≤ 7) (h2 : -7 ≤ dc ∧ dc ≤ 7) (h3 : -10 ≤ x ∧ x ≤ 10) (h4 : -10 ≤ y ∧ y ≤ 10) : zsm (zside dr dc x y) := by
  have a := mulb (b := 2 * y - 1) h1 (by omega)
  have b := mulb (b := 2 * x - 1) h2 (by omega)
  unfold zside
  exact zsm_of (by omega) (by omega)
theorem side_z {f t : Nat} (hf : f < 64) (ht : t < 64) (x y : Int) : m_X8_side (nI f) (nI t) (oI (2 * (zRw f + x))) (oI (2 * (zCl f + y))) = oI (zside (zRw t - zRw f) (zCl t - zCl f) x y) := by
  unfold m_X8_side
  rw [zcl hf, zcl ht, zrw hf, zrw ht, oI_l2, oI_l1]
  simp only [oI_add, oI_sub, oI_mul]
  have e1 : 2 * (zCl f + y) - 2 * zCl f - 1 = 2 * y - 1 := by omega
  have e2 : 2 * (zRw f + x) - 2 * zRw f - 1 = 2 * x - 1 := by omega
  rw [e1, e2]
  rfl
def zbtw (a b : Int) : Bool := if b ≤ 0 then (if a < b then false else (if 0 < a then false else true)) else (if a < 0 then false else (if b < a then false else true))
theorem zbtw_iff (a b : Int) : zbtw a b = true ↔ (0 ≤ a ∧ a ≤ b) ∨ (b ≤ a ∧ a ≤ 0) := by
  unfold zbtw
  repeat' split
  all_goals simp
  all_goals omega
theorem btw_z {a b z : Int} (ha : 0 ≤ a ∧ a ≤ 7) (hb : 0 ≤ b ∧ b ≤ 7) (hz : 0 ≤ z ∧ z ≤ 7) : m_X8_isBetween (oI a) (oI b) (oI z) = zbtw (a - b) (z - b) := by
  have sa : zsm a := zsm_of (by omega) (by omega)
  have sb : zsm b := zsm_of (by omega) (by omega)
  have sz : zsm z := zsm_of (by omega) (by omega)
  unfold m_X8_isBetween m_X8_in zbtw
  simp only [oI_le sz sb, oI_lt sa sz, oI_lt sb sa, oI_lt sa sb, oI_lt sz sa]
  repeat' split
  all_goals first | rfl | omega
def gT (dr dc x y : Int) : Bool := if ((if x = 0 ∧ y = 0 then false else (if x = dr ∧ y = dc then false else true)) : Bool) = false then false else (if zbtw x dr = false then false else (if zbtw y dc = false then false else (if ((if 0 < zside dr dc x y then true else (if 0 < zside dr dc (x + 1) y then true else (if 0 < zside dr dc x (y + 1) then true else (if zside dr dc (x + 1) (y + 1) ≤ 0 then false else true)))) : Bool) = false then false else (if zside dr dc x y < 0 then true else (if zside dr dc (x + 1) y < 0 then true else (if zside dr dc x (y + 1) < 0 then true else (if 0 ≤ zside dr dc (x + 1) (y + 1) then false else true)))))))
theorem gT_z {f t c : Nat} (hf : f < 64) (ht : t < 64) (hc : c < 64) : m_X8_goesThrough (nI f) (nI t) (nI c) = gT (zRw t - zRw f) (zCl t - zCl f) (zRw c - zRw f) (zCl c - zCl f) := by
  have bf := zRw_b hf; have bt := zRw_b ht; have bc := zRw_b hc
  have df := zCl_b f; have dt := zCl_b t; have dc := zCl_b c
  have e1 : nI c = nI f ↔ (zRw c - zRw f = 0 ∧ zCl c - zCl f = 0) := by
    rw [nI_eq (by omega) (by omega)]; unfold zRw zCl; omega
  have e2 : nI c = nI t ↔ (zRw c - zRw f = zRw t - zRw f ∧ zCl c - zCl f = zCl t - zCl f) := by
    rw [nI_eq (by omega) (by omega)]; unfold zRw zCl; omega
  have sd := fun x y (h3 : -10 ≤ x ∧ x ≤ 10) (h4 : -10 ≤ y ∧ y ≤ 10) => zside_sm (dr := zRw t - zRw f) (dc := zCl t - zCl f) (x := x) (y := y) (by omega) (by omega) h3 h4
  have s1 : m_X8_side (nI f) (nI t) (2 * (nI c / 8)) (2 * (nI c - nI c / 8 * 8)) = oI (zside (zRw t - zRw f) (zCl t - zCl f) (zRw c - zRw f) (zCl c - zCl f)) := by
    rw [← side_z hf ht, zcl hc, zrw hc, oI_l2, oI_mul, oI_mul]
    congr 2 <;> omega
  have s2 : m_X8_side (nI f) (nI t) ((2 * (nI c / 8)) + 2) (2 * (nI c - nI c / 8 * 8)) = oI (zside (zRw t - zRw f) (zCl t - zCl f) (zRw c - zRw f + 1) (zCl c - zCl f)) := by
    rw [← side_z hf ht, zcl hc, zrw hc, oI_l2, oI_mul, oI_mul, oI_add]
    congr 2 <;> omega
  have s3 : m_X8_side (nI f) (nI t) (2 * (nI c / 8)) ((2 * (nI c - nI c / 8 * 8)) + 2) = oI (zside (zRw t - zRw f) (zCl t - zCl f) (zRw c - zRw f) (zCl c - zCl f + 1)) := by
    rw [← side_z hf ht, zcl hc, zrw hc, oI_l2, oI_mul, oI_mul, oI_add]
    congr 2 <;> omega
  have s4 : m_X8_side (nI f) (nI t) ((2 * (nI c / 8)) + 2) ((2 * (nI c - nI c / 8 * 8)) + 2) = oI (zside (zRw t - zRw f) (zCl t - zCl f) (zRw c - zRw f + 1) (zCl c - zCl f + 1)) := by
    rw [← side_z hf ht, zcl hc, zrw hc, oI_l2, oI_mul, oI_mul, oI_add, oI_add]
    congr 2 <;> omega
  have b1 : m_X8_isBetween (nI c / 8) (nI f / 8) (nI t / 8) = zbtw (zRw c - zRw f) (zRw t - zRw f) := by
    rw [zrw hc, zrw hf, zrw ht]; exact btw_z bc bf bt
  have b2 : m_X8_isBetween (nI c - nI c / 8 * 8) (nI f - nI f / 8 * 8) (nI t - nI t / 8 * 8) = zbtw (zCl c - zCl f) (zCl t - zCl f) := by
    rw [zcl hc, zcl hf, zcl ht]; exact btw_z dc df dt
  have t1 := sd (zRw c - zRw f) (zCl c - zCl f) (by omega) (by omega)
  have t2 := sd (zRw c - zRw f + 1) (zCl c - zCl f) (by omega) (by omega)
  have t3 := sd (zRw c - zRw f) (zCl c - zCl f + 1) (by omega) (by omega)
  have t4 := sd (zRw c - zRw f + 1) (zCl c - zCl f + 1) (by omega) (by omega)
  unfold m_X8_goesThrough gT
  simp only [e1, e2, b1, b2, s1, s2, s3, s4, oI_0lt t1, oI_0lt t2, oI_0lt t3, oI_le0 t4, oI_lt0 t1, oI_lt0 t2, oI_lt0 t3, oI_0le t4]
def sqZ (dr dc i j : Int) : Bool := decide ((if dr ≤ 0 then dr else 0) + 1 ≤ i) && decide (i ≤ (if dr ≤ 0 then 0 else dr)) && decide ((if dc ≤ 0 then dc else 0) + 1 ≤ j) && decide (j ≤ (if dc ≤ 0 then 0 else dc)) && decide (zside dr dc i j = 0)
def zfall (dr dc : Int) : Bool := ((if dr ≤ 0 then false else true) : Bool) == (if dc ≤ 0 then false else true)
def sqPr (dr dc i j : Int) : Int × Int := if zfall dr dc then (8 * i + j - 8, 8 * i + j - 1) else (8 * i + j - 9, 8 * i + j)
