/-! numbers of 64 bits (the first rows are pasted from the kit: BITS, lN n to 2^64) -/
theorem wb_tb (n : Nat) : (lN n).toBitVec = BitVec.ofNat 64 n := rfl
theorem wb_inj {a b : Int64} (h : a.toBitVec = b.toBitVec) : a = b := Int64.toBitVec_inj.mp h
theorem wb_tn {n : Nat} (h : n < 2 ^ 64) : (lN n).toBitVec.toNat = n := by rw [wb_tb, BitVec.toNat_ofNat, Nat.mod_eq_of_lt h]
theorem wb_of (x : Int64) : ∃ n, n < 2 ^ 64 ∧ x = lN n := ⟨x.toBitVec.toNat, x.toBitVec.isLt, wb_inj (by rw [wb_tb]; simp)⟩
theorem wb_of32 (x : Int32) : ∃ n, n < 2 ^ 32 ∧ x = nI n := ⟨x.toBitVec.toNat, x.toBitVec.isLt, Int32.toBitVec_inj.mp (by show _ = BitVec.ofNat 32 _; simp)⟩
theorem wb_c : ∀ k, k < 64 → ((nI k).toInt64 &&& 63) = lN k := by decide +kernel
theorem wb_cu : ∀ k, k < 64 → ((nI k).toInt64.toUInt64 &&& Int64.toUInt64 63) = UInt64.ofNat k := by decide +kernel
theorem wb_sm : ∀ k, k < 64 → (BitVec.ofNat 64 k).smod 64 = BitVec.ofNat 64 k := by decide +kernel
theorem wb_pw {a b : Nat} (h : a ≤ b) : 2 ^ b = 2 ^ a * 2 ^ (b - a) := by rw [← Nat.pow_add]; congr 1; omega
theorem wb_lt2 {a b : Nat} (h : a < b) : 2 ^ a < 2 ^ b := Nat.pow_lt_pow_right (by decide) h
theorem wb_mod (n : Nat) : lN n = lN (n % 2 ^ 64) := wb_inj (by rw [wb_tb, wb_tb]; apply BitVec.eq_of_toNat_eq; rw [BitVec.toNat_ofNat, BitVec.toNat_ofNat, Nat.mod_mod])
theorem wb_shr {n k : Nat} (hn : n < 2 ^ 64) (hk : k < 64) : ((lN n).toUInt64 >>> ((nI k).toInt64.toUInt64 &&& Int64.toUInt64 63)).toInt64 = lN (n / 2 ^ k) := by
  rw [wb_cu k hk]
  apply wb_inj
  apply BitVec.eq_of_toNat_eq
  show ((lN n).toUInt64 >>> UInt64.ofNat k).toNat = (BitVec.ofNat 64 _).toNat
  have h1 : (UInt64.ofNat k).toNat = k := by
    show (BitVec.ofNat 64 k).toNat = k
    rw [BitVec.toNat_ofNat, Nat.mod_eq_of_lt (by omega)]
  have h2 : (lN n).toUInt64.toNat = n := wb_tn hn
  rw [UInt64.toNat_shiftRight, h1, h2, Nat.mod_eq_of_lt hk, Nat.shiftRight_eq_div_pow, BitVec.toNat_ofNat, Nat.mod_eq_of_lt (Nat.lt_of_le_of_lt (Nat.div_le_self _ _) hn)]
theorem wb_shl (n : Nat) {k : Nat} (hk : k < 64) : lN n <<< ((nI k).toInt64 &&& 63) = lN (n * 2 ^ k) := by
  rw [wb_c k hk]
  apply wb_inj
  rw [Int64.toBitVec_shiftLeft, wb_tb, wb_tb, wb_tb, wb_sm k hk]
  apply BitVec.eq_of_toNat_eq
  rw [BitVec.shiftLeft_eq', BitVec.toNat_shiftLeft, BitVec.toNat_ofNat, BitVec.toNat_ofNat, BitVec.toNat_ofNat, Nat.mod_eq_of_lt (show k < 2 ^ 64 by omega), Nat.shiftLeft_eq, Nat.mul_mod, Nat.mod_mod, ← Nat.mul_mod]
theorem wb_and {a b : Nat} (ha : a < 2 ^ 64) (hb : b < 2 ^ 64) : lN a &&& lN b = lN (a &&& b) := by
  apply wb_inj
  rw [Int64.toBitVec_and, wb_tb, wb_tb, wb_tb]
  apply BitVec.eq_of_toNat_eq
  rw [BitVec.toNat_and, BitVec.toNat_ofNat, BitVec.toNat_ofNat, BitVec.toNat_ofNat, Nat.mod_eq_of_lt ha, Nat.mod_eq_of_lt hb, Nat.mod_eq_of_lt (Nat.and_lt_two_pow _ hb)]
theorem wb_or {a b : Nat} (ha : a < 2 ^ 64) (hb : b < 2 ^ 64) : lN a ||| lN b = lN (a ||| b) := by
  apply wb_inj
  rw [Int64.toBitVec_or, wb_tb, wb_tb, wb_tb]
  apply BitVec.eq_of_toNat_eq
  rw [BitVec.toNat_or, BitVec.toNat_ofNat, BitVec.toNat_ofNat, BitVec.toNat_ofNat, Nat.mod_eq_of_lt ha, Nat.mod_eq_of_lt hb, Nat.mod_eq_of_lt (Nat.or_lt_two_pow ha hb)]
theorem wb_mask {n k : Nat} (hn : n < 2 ^ 64) (hk : k < 64) : lN n &&& lN (2 ^ k - 1) = lN (n % 2 ^ k) := by
  rw [wb_and hn (by have := wb_lt2 hk; omega), Nat.and_two_pow_sub_one_eq_mod]
theorem wb_a1 {n : Nat} (hn : n < 2 ^ 64) : lN n &&& 1 = lN (n % 2) := wb_mask (k := 1) hn (by decide)
theorem wb_bit {n k : Nat} (hn : n < 2 ^ 64) (hk : k < 64) : ((lN n).toUInt64 >>> ((nI k).toInt64.toUInt64 &&& Int64.toUInt64 63)).toInt64 &&& 1 = lN (n / 2 ^ k % 2) := by
  rw [wb_shr hn hk, wb_a1 (Nat.lt_of_le_of_lt (Nat.div_le_self _ _) hn)]
def bitN (x : Int64) (k : Nat) : Bool := x.toBitVec.getLsbD k
theorem bitN_lN (n k : Nat) : bitN (lN n) k = (decide (k < 64) && n.testBit k) := by
  unfold bitN; rw [wb_tb, BitVec.getLsbD_ofNat]
theorem bit_of (x : Int64) {k : Nat} (hk : k < 64) : m_X7_bitOf x (nI k) = bI (bitN x k) := by
  obtain ⟨n, hn, rfl⟩ := wb_of x
  unfold m_X7_bitOf lushr64
  rw [wb_bit hn hk, lN_i, bitN_lN, decide_eq_true hk, Bool.true_and, Nat.testBit_eq_decide_div_mod_eq]
  rcases (by omega : n / 2 ^ k % 2 = 0 ∨ n / 2 ^ k % 2 = 1) with h | h <;> rw [h] <;> decide
theorem bit_or (x y : Int64) (j : Nat) : bitN (x ||| y) j = (bitN x j || bitN y j) := by
  unfold bitN; rw [Int64.toBitVec_or, BitVec.getLsbD_or]
theorem bit_1 {k j : Nat} (hk : k < 64) (hj : j < 64) : bitN (1 <<< (Int32.toInt64 (nI k) &&& 63)) j = decide (j = k) := by
  rw [show ((1 : Int64) <<< (Int32.toInt64 (nI k) &&& 63)) = lN (1 * 2 ^ k) from wb_shl 1 hk, bitN_lN, decide_eq_true hj, Bool.true_and, Nat.one_mul, Nat.testBit_two_pow]
  by_cases h : j = k
  · rw [h]
  · rw [decide_eq_false h, decide_eq_false (fun q => h q.symm)]
theorem bit_set (x : Int64) {k j : Nat} (hk : k < 64) (hj : j < 64) : bitN (x ||| (1 <<< (Int32.toInt64 (nI k) &&& 63))) j = (bitN x j || decide (j = k)) := by
  rw [bit_or, bit_1 hk hj]
theorem bit_0 (j : Nat) : bitN 0 j = false := by
  rw [show (0 : Int64) = lN 0 from rfl, bitN_lN]; simp
theorem bits_itr {f : Nat → Int64 → Int64} {p : Nat → Bool} (hf : ∀ k t, k < 64 → f k t = if p k = true then t ||| (1 <<< (Int32.toInt64 (nI k) &&& 63)) else t) : ∀ n, n ≤ 64 → ∀ j, j < 64 → bitN (itr f n 0) j = (decide (j < n) && p j) := by
  intro n
  induction n with
  | zero => intro _ j _; show bitN 0 j = _; rw [bit_0]; simp
  | succ n ih =>
    intro hn j hj
    show bitN (f n (itr f n 0)) j = _
    rw [hf n _ (by omega)]
    have e := ih (by omega) j hj
    by_cases hp : p n = true
    · rw [if_pos hp, bit_set _ (by omega) hj, e]
      by_cases q : j = n
      · subst q; simp [hp]
      · have : (j < n + 1) ↔ j < n := by omega
        simp [q, this]
    · rw [if_neg hp, e]
      by_cases q : j = n
      · subst q; simp [hp]
      · have : (j < n + 1) ↔ j < n := by omega
        simp [this]
/-! how many bits are set -/
def cntB (p : Nat → Bool) : Nat → Nat
  | 0 => 0
  | n + 1 => cntB p n + (if p n = true then 1 else 0)
def zsumN (f : Nat → Nat) : Nat → Nat
  | 0 => 0
  | n + 1 => zsumN f n + f n
theorem cntB_sum (p : Nat → Bool) : ∀ n, cntB p n = zsumN (fun j => if p j = true then 1 else 0) n
  | 0 => rfl
  | n + 1 => by rw [cntB, zsumN, cntB_sum p n]
theorem zsumN_pair (f : Nat → Nat) : ∀ m, zsumN f (2 * m) = zsumN (fun j => f (2 * j) + f (2 * j + 1)) m
  | 0 => rfl
  | m + 1 => by
    rw [show 2 * (m + 1) = 2 * m + 1 + 1 by omega, zsumN, zsumN, zsumN, zsumN_pair f m]; omega
theorem zsumN_ext {f g : Nat → Nat} : ∀ m, (∀ j, j < m → f j = g j) → zsumN f m = zsumN g m
  | 0, _ => rfl
  | m + 1, h => by rw [zsumN, zsumN, zsumN_ext m (fun j hj => h j (by omega)), h m (by omega)]
def dgS (b : Nat) (f : Nat → Nat) : Nat → Nat
  | 0 => 0
  | m + 1 => dgS b f m + f m * 2 ^ (b * m)
theorem dgS_lt {b : Nat} {f : Nat → Nat} (h : ∀ j, f j < 2 ^ b) : ∀ m, dgS b f m < 2 ^ (b * m)
  | 0 => by show 0 < 2 ^ (b * 0); exact Nat.pow_pos (by decide)
  | m + 1 => by
    have h1 := dgS_lt h m
    have h2 : f m + 1 ≤ 2 ^ b := h m
    have h3 := Nat.mul_le_mul_right (2 ^ (b * m)) h2
    rw [dgS, Nat.mul_add, Nat.mul_one, Nat.pow_add, Nat.mul_comm (2 ^ (b * m)) (2 ^ b)]
    rw [Nat.add_mul, Nat.one_mul] at h3
    omega
theorem dgS_add (b : Nat) (f g : Nat → Nat) : ∀ m, dgS b f m + dgS b g m = dgS b (fun j => f j + g j) m
  | 0 => rfl
  | m + 1 => by
    have := dgS_add b f g m
    rw [dgS, dgS, dgS, Nat.add_mul]; omega
theorem dgS_ext {b : Nat} {f g : Nat → Nat} : ∀ m, (∀ j, j < m → f j = g j) → dgS b f m = dgS b g m
  | 0, _ => rfl
  | m + 1, h => by rw [dgS, dgS, dgS_ext m (fun j hj => h j (by omega)), h m (by omega)]
theorem dgS_pair (b : Nat) (f : Nat → Nat) : ∀ m, dgS b f (2 * m) = dgS (2 * b) (fun j => f (2 * j) + f (2 * j + 1) * 2 ^ b) m
  | 0 => rfl
  | m + 1 => by
    rw [show 2 * (m + 1) = 2 * m + 1 + 1 by omega, dgS, dgS, dgS, dgS_pair b f m, Nat.add_mul, Nat.mul_assoc (f (2 * m + 1)), ← Nat.pow_add, show b * (2 * m) = 2 * b * m by rw [← Nat.mul_assoc, Nat.mul_comm b 2], show b * (2 * m + 1) = b + 2 * b * m by rw [Nat.mul_add, Nat.mul_one, ← Nat.mul_assoc, Nat.mul_comm b 2]; omega]
    omega
theorem land_split {k x y a d : Nat} (hx : x < 2 ^ k) (hy : y < 2 ^ k) : (x + a * 2 ^ k) &&& (y + d * 2 ^ k) = (x &&& y) + (a &&& d) * 2 ^ k := by
  have hxy : x &&& y < 2 ^ k := Nat.lt_of_le_of_lt Nat.and_le_left hx
  apply Nat.eq_of_testBit_eq
  intro i
  rw [Nat.testBit_and, Nat.add_comm x, Nat.add_comm y, Nat.add_comm (x &&& y), Nat.mul_comm a, Nat.mul_comm d, Nat.mul_comm (a &&& d), Nat.testBit_two_pow_mul_add _ hx, Nat.testBit_two_pow_mul_add _ hy, Nat.testBit_two_pow_mul_add _ hxy]
  split
  · rw [Nat.testBit_and]
  · rw [Nat.testBit_and]
theorem dgS_mask {c b : Nat} (hbc : b ≤ c) {f : Nat → Nat} (hf : ∀ j, f j < 2 ^ c) : ∀ m, dgS c f m &&& dgS c (fun _ => 2 ^ b - 1) m = dgS c (fun j => f j % 2 ^ b) m
  | 0 => by show (0 : Nat) &&& 0 = 0; decide
  | m + 1 => by
    have hp : 2 ^ b ≤ 2 ^ c := Nat.pow_le_pow_right (by decide) hbc
    have h0 : 0 < 2 ^ b := Nat.pow_pos (by decide)
    rw [dgS, dgS, dgS, land_split (dgS_lt hf m) (dgS_lt (fun _ => by omega) m), dgS_mask hbc hf m, Nat.and_two_pow_sub_one_eq_mod]
theorem dgS_cons (b : Nat) (f : Nat → Nat) : ∀ m, dgS b f (m + 1) = f 0 + 2 ^ b * dgS b (fun j => f (j + 1)) m
  | 0 => by rw [dgS, dgS, dgS, Nat.mul_zero, Nat.mul_zero, Nat.pow_zero]; omega
  | m + 1 => by
    rw [dgS, dgS_cons b f m, dgS, Nat.mul_add (2 ^ b), Nat.mul_left_comm (2 ^ b), ← Nat.pow_add, show b * (m + 1) = b + b * m by rw [Nat.mul_add, Nat.mul_one]; omega]
    omega
theorem dgS_shr1 {b : Nat} {f : Nat → Nat} (hf : ∀ j, f j < 2 ^ b) {m : Nat} (hz : f m = 0) : dgS b f m / 2 ^ b = dgS b (fun j => f (j + 1)) m := by
  have e : dgS b f (m + 1) = dgS b f m := by rw [dgS, hz]; omega
  rw [← e, dgS_cons, Nat.add_mul_div_left _ _ (Nat.pow_pos (by decide)), Nat.div_eq_of_lt (hf 0), Nat.zero_add]
theorem dgS_shr {b : Nat} {f : Nat → Nat} (hf : ∀ j, f j < 2 ^ b) {m : Nat} (hz : ∀ j, m ≤ j → f j = 0) : ∀ s, dgS b f m / 2 ^ (b * s) = dgS b (fun j => f (j + s)) m
  | 0 => by rw [Nat.mul_zero, Nat.pow_zero, Nat.div_one]; rfl
  | s + 1 => by
    rw [Nat.mul_add, Nat.mul_one, Nat.pow_add, ← Nat.div_div_eq_div_mul, dgS_shr hf hz s, dgS_shr1 (fun j => hf (j + s)) (hz _ (by omega))]
    exact dgS_ext m (fun j _ => by show f (j + 1 + s) = f (j + (s + 1)); congr 1; omega)
def btN (n j : Nat) : Nat := if n.testBit j = true then 1 else 0
theorem btN_dg : ∀ m n, n < 2 ^ m → n = dgS 1 (btN n) m
  | 0, n, h => by rw [dgS]; omega
  | m + 1, n, h => by
    have h2 : n / 2 < 2 ^ m := by rw [Nat.pow_succ] at h; omega
    have ih := btN_dg m (n / 2) h2
    rw [dgS_cons, dgS_ext (g := btN (n / 2)) m (fun j _ => by show btN n (j + 1) = btN (n / 2) j; unfold btN; rw [Nat.testBit_succ]), ← ih]
    have : btN n 0 = n % 2 := by
      unfold btN; rw [Nat.testBit_zero]
      rcases (by omega : n % 2 = 0 ∨ n % 2 = 1) with q | q <;> rw [q] <;> rfl
    omega
theorem btN_le (n j : Nat) : btN n j ≤ 1 := by unfold btN; split <;> omega
theorem btN_z {n : Nat} (hn : n < 2 ^ 64) (j : Nat) (h : 64 ≤ j) : btN n j = 0 := by
  unfold btN; rw [Nat.testBit_lt_two_pow (Nat.lt_of_lt_of_le hn (Nat.pow_le_pow_right (by decide) h))]; rfl
theorem pop_1 {n : Nat} (hn : n < 2 ^ 64) : (n / 2) &&& 6148914691236517205 ≤ n ∧ n - ((n / 2) &&& 6148914691236517205) = dgS 2 (fun j => btN n (2 * j) + btN n (2 * j + 1)) 32 := by
  have b1 := btN_le n
  have e0 := btN_dg 64 n hn
  have e1 : n / 2 = dgS 2 (fun j => btN n (2 * j + 1) + btN n (2 * j + 2) * 2) 32 := by
    have := dgS_shr (b := 1) (f := btN n) (fun j => by have := b1 j; omega) (btN_z hn) 1
    rw [← e0] at this
    rw [show n / 2 = n / 2 ^ (1 * 1) from rfl, this, show (64 : Nat) = 2 * 32 from rfl, dgS_pair]
  have e2 : (n / 2) &&& 6148914691236517205 = dgS 2 (fun j => btN n (2 * j + 1)) 32 := by
    rw [show (6148914691236517205 : Nat) = dgS 2 (fun _ => 2 ^ 1 - 1) 32 by decide +kernel, e1, dgS_mask (by decide) (fun j => by have := b1 (2 * j + 1); have := b1 (2 * j + 2); omega)]
    exact dgS_ext 32 (fun j _ => by have := b1 (2 * j + 1); omega)
  have e3 : n = dgS 2 (fun j => btN n (2 * j) + btN n (2 * j + 1)) 32 + dgS 2 (fun j => btN n (2 * j + 1)) 32 := by
    rw [dgS_add]
    refine e0.trans ?_
    rw [show (64 : Nat) = 2 * 32 from rfl, dgS_pair]
    exact dgS_ext 32 (fun j _ => by show _ = btN n (2 * j) + btN n (2 * j + 1) + btN n (2 * j + 1); omega)
  rw [e2]
  omega
theorem pop_2 {g : Nat → Nat} (hg : ∀ j, g j ≤ 2) (hz : ∀ j, 32 ≤ j → g j = 0) : (dgS 2 g 32 &&& 3689348814741910323) + (dgS 2 g 32 / 4 &&& 3689348814741910323) = dgS 4 (fun j => g (2 * j) + g (2 * j + 1)) 16 := by
  have c : (3689348814741910323 : Nat) = dgS 4 (fun _ => 2 ^ 2 - 1) 16 := by decide +kernel
  have e1 : dgS 2 g 32 &&& 3689348814741910323 = dgS 4 (fun j => g (2 * j)) 16 := by
    rw [c, show (32 : Nat) = 2 * 16 from rfl, dgS_pair, dgS_mask (by decide) (fun j => by have := hg (2 * j); have := hg (2 * j + 1); omega)]
    exact dgS_ext 16 (fun j _ => by have := hg (2 * j); omega)
  have e2 : dgS 2 g 32 / 4 &&& 3689348814741910323 = dgS 4 (fun j => g (2 * j + 1)) 16 := by
    have := dgS_shr (b := 2) (f := g) (m := 32) (fun j => by have := hg j; omega) hz 1
    rw [show dgS 2 g 32 / 4 = dgS 2 g 32 / 2 ^ (2 * 1) from rfl, this, c, show (32 : Nat) = 2 * 16 from rfl, dgS_pair, dgS_mask (by decide) (fun j => by have := hg (2 * j + 1); have := hg (2 * j + 1 + 1); omega)]
    exact dgS_ext 16 (fun j _ => by have := hg (2 * j + 1); omega)
  rw [e1, e2, dgS_add]
theorem pop_3 {g : Nat → Nat} (hg : ∀ j, g j ≤ 4) (hz : ∀ j, 16 ≤ j → g j = 0) : ((dgS 4 g 16 + dgS 4 g 16 / 16) &&& 1085102592571150095) = dgS 8 (fun j => g (2 * j) + g (2 * j + 1)) 8 := by
  have c : (1085102592571150095 : Nat) = dgS 8 (fun _ => 2 ^ 4 - 1) 8 := by decide +kernel
  have := dgS_shr (b := 4) (f := g) (m := 16) (fun j => by have := hg j; omega) hz 1
  rw [show dgS 4 g 16 / 16 = dgS 4 g 16 / 2 ^ (4 * 1) from rfl, this, dgS_add, c, show (16 : Nat) = 2 * 8 from rfl, dgS_pair, dgS_mask (by decide) (fun j => by have := hg (2 * j); have := hg (2 * j + 1); have := hg (2 * j + 1 + 1); omega)]
  exact dgS_ext 8 (fun j _ => by have := hg (2 * j); have := hg (2 * j + 1); omega)
theorem pop_4 {g : Nat → Nat} {B : Nat} (hB : 2 * B < 2 ^ 8) (hg : ∀ j, g j ≤ B) (hz : ∀ j, 8 ≤ j → g j = 0) (s : Nat) : dgS 8 g 8 + dgS 8 g 8 / 2 ^ (8 * s) = dgS 8 (fun j => g j + g (j + s)) 8 := by
  rw [dgS_shr (fun j => by have := hg j; omega) hz, dgS_add]
theorem land127 (n : Nat) : nI n &&& 127 = nI (n % 128) := by
  rw [pk_and (nI n) (m := 127) 7 (by decide), show (nI n).toBitVec.toNat = n % 2 ^ 32 from BitVec.toNat_ofNat ..]
  congr 1
  show n % 4294967296 % 128 = n % 128
  omega
theorem popc (x : Int64) : m_J13_bitCount_95d88 x = nI (cntB (bitN x) 64) := by
  obtain ⟨n, hn, rfl⟩ := wb_of x
  obtain ⟨l1, e1⟩ := pop_1 hn
  have b0 := btN_le n
  have z0 := btN_z hn
  have hc : cntB (bitN (lN n)) 64 = zsumN (btN n) 64 := by
    rw [cntB_sum]
    exact zsumN_ext 64 (fun j hj => by rw [bitN_lN, decide_eq_true hj, Bool.true_and]; rfl)
  -- the digits' sums
  obtain ⟨g1, hg1⟩ : ∃ g, g = fun j => btN n (2 * j) + btN n (2 * j + 1) := ⟨_, rfl⟩
  obtain ⟨g2, hg2⟩ : ∃ g, g = fun j => g1 (2 * j) + g1 (2 * j + 1) := ⟨_, rfl⟩
  obtain ⟨g3, hg3⟩ : ∃ g, g = fun j => g2 (2 * j) + g2 (2 * j + 1) := ⟨_, rfl⟩
  have s1 : zsumN (btN n) 64 = zsumN g3 8 := by
    rw [show (64 : Nat) = 2 * 32 from rfl, zsumN_pair, ← hg1, show (32 : Nat) = 2 * 16 from rfl, zsumN_pair, ← hg2, show (16 : Nat) = 2 * 8 from rfl, zsumN_pair, ← hg3]
  have b1 : ∀ j, g1 j ≤ 2 := fun j => by rw [hg1]; have := b0 (2 * j); have := b0 (2 * j + 1); show btN n (2 * j) + btN n (2 * j + 1) ≤ 2; omega
  have z1 : ∀ j, 32 ≤ j → g1 j = 0 := fun j h => by rw [hg1]; have := z0 (2 * j) (by omega); have := z0 (2 * j + 1) (by omega); show btN n (2 * j) + btN n (2 * j + 1) = 0; omega
  have b2 : ∀ j, g2 j ≤ 4 := fun j => by rw [hg2]; have := b1 (2 * j); have := b1 (2 * j + 1); show g1 (2 * j) + g1 (2 * j + 1) ≤ 4; omega
  have z2 : ∀ j, 16 ≤ j → g2 j = 0 := fun j h => by rw [hg2]; have := z1 (2 * j) (by omega); have := z1 (2 * j + 1) (by omega); show g1 (2 * j) + g1 (2 * j + 1) = 0; omega
  have b3 : ∀ j, g3 j ≤ 8 := fun j => by rw [hg3]; have := b2 (2 * j); have := b2 (2 * j + 1); show g2 (2 * j) + g2 (2 * j + 1) ≤ 8; omega
  have z3 : ∀ j, 8 ≤ j → g3 j = 0 := fun j h => by rw [hg3]; have := z2 (2 * j) (by omega); have := z2 (2 * j + 1) (by omega); show g2 (2 * j) + g2 (2 * j + 1) = 0; omega
  rw [← hg1] at e1
  have e2 := pop_2 b1 z1
  rw [← hg2] at e2
  have e3 := pop_3 b2 z2
  rw [← hg3] at e3
  have e4 := pop_4 (B := 8) (by decide) b3 z3 1
  have e5 := pop_4 (g := fun j => g3 j + g3 (j + 1)) (B := 16) (by decide) (fun j => by have := b3 j; have := b3 (j + 1); show g3 j + g3 (j + 1) ≤ 16; omega) (fun j h => by have := z3 j h; have := z3 (j + 1) (by omega); show g3 j + g3 (j + 1) = 0; omega) 2
  have e6 := pop_4 (g := fun j => g3 j + g3 (j + 1) + (g3 (j + 2) + g3 (j + 2 + 1))) (B := 32) (by decide) (fun j => by have := b3 j; have := b3 (j + 1); have := b3 (j + 2); have := b3 (j + 2 + 1); show g3 j + g3 (j + 1) + (g3 (j + 2) + g3 (j + 2 + 1)) ≤ 32; omega) (fun j h => by have := z3 j h; have := z3 (j + 1) (by omega); have := z3 (j + 2) (by omega); have := z3 (j + 2 + 1) (by omega); show g3 j + g3 (j + 1) + (g3 (j + 2) + g3 (j + 2 + 1)) = 0; omega) 4
  have d1 : dgS 2 g1 32 < 2 ^ 64 := dgS_lt (b := 2) (fun j => by have := b1 j; omega) 32
  have d2 : dgS 4 g2 16 < 2 ^ 64 := dgS_lt (b := 4) (fun j => by have := b2 j; omega) 16
  have d3 : dgS 8 g3 8 < 2 ^ 64 := dgS_lt (b := 8) (fun j => by have := b3 j; omega) 8
  have d4 : dgS 8 (fun j => g3 j + g3 (j + 1)) 8 < 2 ^ 64 := dgS_lt (b := 8) (fun j => by have := b3 j; have := b3 (j + 1); show g3 j + g3 (j + 1) < 2 ^ 8; omega) 8
  have d5 : dgS 8 (fun j => g3 j + g3 (j + 1) + (g3 (j + 2) + g3 (j + 2 + 1))) 8 < 2 ^ 64 := dgS_lt (b := 8) (fun j => by have := b3 j; have := b3 (j + 1); have := b3 (j + 2); have := b3 (j + 2 + 1); show g3 j + g3 (j + 1) + (g3 (j + 2) + g3 (j + 2 + 1)) < 2 ^ 8; omega) 8
  have d2' : dgS 4 g2 16 + dgS 4 g2 16 / 16 < 2 ^ 64 := by
    have := dgS_shr (b := 4) (f := g2) (m := 16) (fun j => by have := b2 j; omega) z2 1
    rw [show dgS 4 g2 16 / 16 = dgS 4 g2 16 / 2 ^ (4 * 1) from rfl, this, dgS_add]
    exact dgS_lt (b := 4) (fun j => by have := b2 j; have := b2 (j + 1); show g2 j + g2 (j + 1) < 2 ^ 4; omega) 16
  have r1 : lN n - ((lushr64 (lN n) 1) &&& 6148914691236517205) = lN (dgS 2 g1 32) := by
    rw [show lushr64 (lN n) 1 = lN (n / 2 ^ 1) from wb_shr hn (k := 1) (by decide), show (6148914691236517205 : Int64) = lN 6148914691236517205 from rfl, wb_and (by omega) (by decide), show n / 2 ^ 1 = n / 2 from rfl, lN_sub l1, e1]
  have r2 : (lN (dgS 2 g1 32) &&& 3689348814741910323) + ((lushr64 (lN (dgS 2 g1 32)) 2) &&& 3689348814741910323) = lN (dgS 4 g2 16) := by
    rw [show lushr64 (lN (dgS 2 g1 32)) 2 = lN (dgS 2 g1 32 / 2 ^ 2) from wb_shr d1 (k := 2) (by decide), show (3689348814741910323 : Int64) = lN 3689348814741910323 from rfl, wb_and d1 (by decide), wb_and (Nat.lt_of_le_of_lt (Nat.div_le_self _ _) d1) (by decide), show dgS 2 g1 32 / 2 ^ 2 = dgS 2 g1 32 / 4 from rfl, lN_add, e2]
  have r3 : (lN (dgS 4 g2 16) + (lushr64 (lN (dgS 4 g2 16)) 4)) &&& 1085102592571150095 = lN (dgS 8 g3 8) := by
    rw [show lushr64 (lN (dgS 4 g2 16)) 4 = lN (dgS 4 g2 16 / 2 ^ 4) from wb_shr d2 (k := 4) (by decide), show (1085102592571150095 : Int64) = lN 1085102592571150095 from rfl, show dgS 4 g2 16 / 2 ^ 4 = dgS 4 g2 16 / 16 from rfl, lN_add, wb_and d2' (by decide), e3]
  have r4 : lN (dgS 8 g3 8) + lushr64 (lN (dgS 8 g3 8)) 8 = lN (dgS 8 (fun j => g3 j + g3 (j + 1)) 8) := by
    rw [show lushr64 (lN (dgS 8 g3 8)) 8 = lN (dgS 8 g3 8 / 2 ^ 8) from wb_shr d3 (k := 8) (by decide), lN_add, show dgS 8 g3 8 / 2 ^ 8 = dgS 8 g3 8 / 2 ^ (8 * 1) from rfl, e4]
  have r5 : lN (dgS 8 (fun j => g3 j + g3 (j + 1)) 8) + lushr64 (lN (dgS 8 (fun j => g3 j + g3 (j + 1)) 8)) 16 = lN (dgS 8 (fun j => g3 j + g3 (j + 1) + (g3 (j + 2) + g3 (j + 2 + 1))) 8) := by
    rw [show lushr64 (lN (dgS 8 (fun j => g3 j + g3 (j + 1)) 8)) 16 = lN (dgS 8 (fun j => g3 j + g3 (j + 1)) 8 / 2 ^ 16) from wb_shr d4 (k := 16) (by decide), lN_add, show dgS 8 (fun j => g3 j + g3 (j + 1)) 8 / 2 ^ 16 = dgS 8 (fun j => g3 j + g3 (j + 1)) 8 / 2 ^ (8 * 2) from rfl, e5]
  have r6 : lN (dgS 8 (fun j => g3 j + g3 (j + 1) + (g3 (j + 2) + g3 (j + 2 + 1))) 8) + lushr64 (lN (dgS 8 (fun j => g3 j + g3 (j + 1) + (g3 (j + 2) + g3 (j + 2 + 1))) 8)) 32 = lN (dgS 8 (fun j => g3 j + g3 (j + 1) + (g3 (j + 2) + g3 (j + 2 + 1)) + (g3 (j + 4) + g3 (j + 4 + 1) + (g3 (j + 4 + 2) + g3 (j + 4 + 2 + 1)))) 8) := by
    rw [show lushr64 (lN (dgS 8 (fun j => g3 j + g3 (j + 1) + (g3 (j + 2) + g3 (j + 2 + 1))) 8)) 32 = lN (dgS 8 (fun j => g3 j + g3 (j + 1) + (g3 (j + 2) + g3 (j + 2 + 1))) 8 / 2 ^ 32) from wb_shr d5 (k := 32) (by decide), lN_add, show dgS 8 (fun j => g3 j + g3 (j + 1) + (g3 (j + 2) + g3 (j + 2 + 1))) 8 / 2 ^ 32 = dgS 8 (fun j => g3 j + g3 (j + 1) + (g3 (j + 2) + g3 (j + 2 + 1))) 8 / 2 ^ (8 * 4) from rfl, e6]
  unfold m_J13_bitCount_95d88
  simp only [r1, r2, r3, r4, r5, r6, lN_i, land127]
  rw [hc, s1, dgS_cons]
  congr 1
  have q0 := b3 0; have q1 := b3 1; have q2 := b3 2; have q3 := b3 3; have q4 := b3 4; have q5 := b3 5; have q6 := b3 6; have q7 := b3 7
  simp only [zsumN, Nat.zero_add, Nat.reduceAdd]
  omega
