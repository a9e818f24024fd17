section CNT
variable {n w d t p : Nat} {K LC LS LF RO SG PD : Nat → Int32}
theorem count_eq (h : zRT n w d t K LC LS LF RO) {rm : Int64} (hm : ∀ i, i < 64 → RO (64 + i) = bI (bitN rm i)) {st hz ml : Int32} (hst : RO 148 = st) (RE LG CO : Nat → Int32) (wh : Int32) : m_X7_count (nI n) (nI w) st (nI d) (nI t) rm K LC LS LF RE ml hz wh = m_X8_count hz ml RO LG CO wh := by
  have hRT := h
  obtain ⟨hK, hL, h1, ⟨hw, h2, -⟩, ⟨-, hd, h3⟩, ⟨ht, h4⟩⟩ := h
  have a0 : m_X8_count hz ml RO LG CO 0 = m_X8_kinds RO 0 := by
    unfold m_X8_count; rw [if_pos (show (0 : Int32) = 0 from rfl)]
  have b0 : m_X7_count (nI n) (nI w) st (nI d) (nI t) rm K LC LS LF RE ml hz 0 = m_X5_cellsOfKind K 0 := by
    unfold m_X7_count; rw [if_neg (show ¬ m_X0_isKind 0 = false by decide)]
  have a1 : m_X8_count hz ml RO LG CO 1 = m_X8_kinds RO 1 := by
    unfold m_X8_count; rw [if_neg (show ¬ (1 : Int32) = 0 by decide), if_pos (show (1 : Int32) = 1 from rfl)]
  have b1 : m_X7_count (nI n) (nI w) st (nI d) (nI t) rm K LC LS LF RE ml hz 1 = m_X5_cellsOfKind K 1 := by
    unfold m_X7_count; rw [if_neg (show ¬ m_X0_isKind 1 = false by decide)]
  have a2 : m_X8_count hz ml RO LG CO 2 = m_X8_kinds RO 2 := by
    unfold m_X8_count; rw [if_neg (show ¬ (2 : Int32) = 0 by decide), if_neg (show ¬ (2 : Int32) = 1 by decide), if_pos (show (2 : Int32) = 2 from rfl)]
  have b2 : m_X7_count (nI n) (nI w) st (nI d) (nI t) rm K LC LS LF RE ml hz 2 = m_X5_cellsOfKind K 2 := by
    unfold m_X7_count; rw [if_neg (show ¬ m_X0_isKind 2 = false by decide)]
  have a3 : m_X8_count hz ml RO LG CO 3 = m_X8_kinds RO 3 := by
    unfold m_X8_count; rw [if_neg (show ¬ (3 : Int32) = 0 by decide), if_neg (show ¬ (3 : Int32) = 1 by decide), if_neg (show ¬ (3 : Int32) = 2 by decide), if_pos (show (3 : Int32) = 3 from rfl)]
  have b3 : m_X7_count (nI n) (nI w) st (nI d) (nI t) rm K LC LS LF RE ml hz 3 = m_X5_cellsOfKind K 3 := by
    unfold m_X7_count; rw [if_neg (show ¬ m_X0_isKind 3 = false by decide)]
  have a4 : m_X8_count hz ml RO LG CO 4 = m_X8_litCells RO LG := by
    unfold m_X8_count; rw [if_neg (show ¬ (4 : Int32) = 0 by decide), if_neg (show ¬ (4 : Int32) = 1 by decide), if_neg (show ¬ (4 : Int32) = 2 by decide), if_neg (show ¬ (4 : Int32) = 3 by decide), if_pos (show (4 : Int32) = 4 from rfl)]
  have b4 : m_X7_count (nI n) (nI w) st (nI d) (nI t) rm K LC LS LF RE ml hz 4 = m_X2_litCells (nI n) (nI d) K LC LS LF al0 0 := by
    unfold m_X7_count; rw [if_pos (show m_X0_isKind 4 = false by decide), if_neg (show ¬ m_X7_isWithin 4 4 10 = false by decide)]; unfold m_X7_countOfScene; dsimp only; rw [if_pos (show (4 : Int32) = 4 from rfl)]
  have a5 : m_X8_count hz ml RO LG CO 5 = m_X8_seenCells RO := by
    unfold m_X8_count; rw [if_neg (show ¬ (5 : Int32) = 0 by decide), if_neg (show ¬ (5 : Int32) = 1 by decide), if_neg (show ¬ (5 : Int32) = 2 by decide), if_neg (show ¬ (5 : Int32) = 3 by decide), if_neg (show ¬ (5 : Int32) = 4 by decide), if_pos (show (5 : Int32) = 5 from rfl)]
  have b5 : m_X7_count (nI n) (nI w) st (nI d) (nI t) rm K LC LS LF RE ml hz 5 = m_J13_bitCount_95d88 (m_X2_seenCells (nI n) (nI w) (nI d) (nI t) K LC LS LF al0) := by
    unfold m_X7_count; rw [if_pos (show m_X0_isKind 5 = false by decide), if_neg (show ¬ m_X7_isWithin 5 4 10 = false by decide)]; unfold m_X7_countOfScene; dsimp only; rw [if_neg (show ¬ (5 : Int32) = 4 by decide), if_pos (show (5 : Int32) = 5 from rfl)]
  have a6 : m_X8_count hz ml RO LG CO 6 = m_X8_knownCells RO := by
    unfold m_X8_count; rw [if_neg (show ¬ (6 : Int32) = 0 by decide), if_neg (show ¬ (6 : Int32) = 1 by decide), if_neg (show ¬ (6 : Int32) = 2 by decide), if_neg (show ¬ (6 : Int32) = 3 by decide), if_neg (show ¬ (6 : Int32) = 4 by decide), if_neg (show ¬ (6 : Int32) = 5 by decide), if_pos (show (6 : Int32) = 6 from rfl)]
  have b6 : m_X7_count (nI n) (nI w) st (nI d) (nI t) rm K LC LS LF RE ml hz 6 = m_J13_bitCount_95d88 rm := by
    unfold m_X7_count; rw [if_pos (show m_X0_isKind 6 = false by decide), if_neg (show ¬ m_X7_isWithin 6 4 10 = false by decide)]; unfold m_X7_countOfScene; dsimp only; rw [if_neg (show ¬ (6 : Int32) = 4 by decide), if_neg (show ¬ (6 : Int32) = 5 by decide), if_pos (show (6 : Int32) = 6 from rfl)]
  have a7 : m_X8_count hz ml RO LG CO 7 = m_X8_reached RO LG CO := by
    unfold m_X8_count; rw [if_neg (show ¬ (7 : Int32) = 0 by decide), if_neg (show ¬ (7 : Int32) = 1 by decide), if_neg (show ¬ (7 : Int32) = 2 by decide), if_neg (show ¬ (7 : Int32) = 3 by decide), if_neg (show ¬ (7 : Int32) = 4 by decide), if_neg (show ¬ (7 : Int32) = 5 by decide), if_neg (show ¬ (7 : Int32) = 6 by decide), if_pos (show (7 : Int32) = 7 from rfl)]
  have b7 : m_X7_count (nI n) (nI w) st (nI d) (nI t) rm K LC LS LF RE ml hz 7 = m_X6_reachedCells RE (nI w) K := by
    unfold m_X7_count; rw [if_pos (show m_X0_isKind 7 = false by decide), if_neg (show ¬ m_X7_isWithin 7 4 10 = false by decide)]; unfold m_X7_countOfScene; dsimp only; rw [if_neg (show ¬ (7 : Int32) = 4 by decide), if_neg (show ¬ (7 : Int32) = 5 by decide), if_neg (show ¬ (7 : Int32) = 6 by decide), if_pos (show (7 : Int32) = 7 from rfl)]
  have a8 : m_X8_count hz ml RO LG CO 8 = RO 128 := by
    unfold m_X8_count; rw [if_neg (show ¬ (8 : Int32) = 0 by decide), if_neg (show ¬ (8 : Int32) = 1 by decide), if_neg (show ¬ (8 : Int32) = 2 by decide), if_neg (show ¬ (8 : Int32) = 3 by decide), if_neg (show ¬ (8 : Int32) = 4 by decide), if_neg (show ¬ (8 : Int32) = 5 by decide), if_neg (show ¬ (8 : Int32) = 6 by decide), if_neg (show ¬ (8 : Int32) = 7 by decide), if_pos (show (8 : Int32) = 8 from rfl)]
  have b8 : m_X7_count (nI n) (nI w) st (nI d) (nI t) rm K LC LS LF RE ml hz 8 = nI n := by
    unfold m_X7_count; rw [if_pos (show m_X0_isKind 8 = false by decide), if_neg (show ¬ m_X7_isWithin 8 4 10 = false by decide)]; unfold m_X7_countOfScene; dsimp only; rw [if_neg (show ¬ (8 : Int32) = 4 by decide), if_neg (show ¬ (8 : Int32) = 5 by decide), if_neg (show ¬ (8 : Int32) = 6 by decide), if_neg (show ¬ (8 : Int32) = 7 by decide), if_pos (show (8 : Int32) = 8 from rfl)]
  have a9 : m_X8_count hz ml RO LG CO 9 = RO 147 := by
    unfold m_X8_count; rw [if_neg (show ¬ (9 : Int32) = 0 by decide), if_neg (show ¬ (9 : Int32) = 1 by decide), if_neg (show ¬ (9 : Int32) = 2 by decide), if_neg (show ¬ (9 : Int32) = 3 by decide), if_neg (show ¬ (9 : Int32) = 4 by decide), if_neg (show ¬ (9 : Int32) = 5 by decide), if_neg (show ¬ (9 : Int32) = 6 by decide), if_neg (show ¬ (9 : Int32) = 7 by decide), if_neg (show ¬ (9 : Int32) = 8 by decide), if_pos (show (9 : Int32) = 9 from rfl)]
  have b9 : m_X7_count (nI n) (nI w) st (nI d) (nI t) rm K LC LS LF RE ml hz 9 = nI w := by
    unfold m_X7_count; rw [if_pos (show m_X0_isKind 9 = false by decide), if_neg (show ¬ m_X7_isWithin 9 4 10 = false by decide)]; unfold m_X7_countOfScene; dsimp only; rw [if_neg (show ¬ (9 : Int32) = 4 by decide), if_neg (show ¬ (9 : Int32) = 5 by decide), if_neg (show ¬ (9 : Int32) = 6 by decide), if_neg (show ¬ (9 : Int32) = 7 by decide), if_neg (show ¬ (9 : Int32) = 8 by decide), if_pos (show (9 : Int32) = 9 from rfl)]
  have a10 : m_X8_count hz ml RO LG CO 10 = RO 148 := by
    unfold m_X8_count; rw [if_neg (show ¬ (10 : Int32) = 0 by decide), if_neg (show ¬ (10 : Int32) = 1 by decide), if_neg (show ¬ (10 : Int32) = 2 by decide), if_neg (show ¬ (10 : Int32) = 3 by decide), if_neg (show ¬ (10 : Int32) = 4 by decide), if_neg (show ¬ (10 : Int32) = 5 by decide), if_neg (show ¬ (10 : Int32) = 6 by decide), if_neg (show ¬ (10 : Int32) = 7 by decide), if_neg (show ¬ (10 : Int32) = 8 by decide), if_neg (show ¬ (10 : Int32) = 9 by decide), if_pos (show (10 : Int32) = 10 from rfl)]
  have b10 : m_X7_count (nI n) (nI w) st (nI d) (nI t) rm K LC LS LF RE ml hz 10 = st := by
    unfold m_X7_count; rw [if_pos (show m_X0_isKind 10 = false by decide), if_neg (show ¬ m_X7_isWithin 10 4 10 = false by decide)]; unfold m_X7_countOfScene; dsimp only; rw [if_neg (show ¬ (10 : Int32) = 4 by decide), if_neg (show ¬ (10 : Int32) = 5 by decide), if_neg (show ¬ (10 : Int32) = 6 by decide), if_neg (show ¬ (10 : Int32) = 7 by decide), if_neg (show ¬ (10 : Int32) = 8 by decide), if_neg (show ¬ (10 : Int32) = 9 by decide)]
  have a11 : m_X8_count hz ml RO LG CO 11 = m_X8_allLight RO LG := by
    unfold m_X8_count; rw [if_neg (show ¬ (11 : Int32) = 0 by decide), if_neg (show ¬ (11 : Int32) = 1 by decide), if_neg (show ¬ (11 : Int32) = 2 by decide), if_neg (show ¬ (11 : Int32) = 3 by decide), if_neg (show ¬ (11 : Int32) = 4 by decide), if_neg (show ¬ (11 : Int32) = 5 by decide), if_neg (show ¬ (11 : Int32) = 6 by decide), if_neg (show ¬ (11 : Int32) = 7 by decide), if_neg (show ¬ (11 : Int32) = 8 by decide), if_neg (show ¬ (11 : Int32) = 9 by decide), if_neg (show ¬ (11 : Int32) = 10 by decide), if_pos (show (11 : Int32) = 11 from rfl)]
  have b11 : m_X7_count (nI n) (nI w) st (nI d) (nI t) rm K LC LS LF RE ml hz 11 = m_X2_sum (nI n) K LC LS LF al0 := by
    unfold m_X7_count; rw [if_pos (show m_X0_isKind 11 = false by decide), if_pos (show m_X7_isWithin 11 4 10 = false by decide)]; unfold m_X7_countOfRest; rw [if_pos (show (11 : Int32) = 11 from rfl)]
  have a12 : m_X8_count hz ml RO LG CO 12 = m_X8_lightAt RO (m_X8_brightest RO LG) := by
    unfold m_X8_count; rw [if_neg (show ¬ (12 : Int32) = 0 by decide), if_neg (show ¬ (12 : Int32) = 1 by decide), if_neg (show ¬ (12 : Int32) = 2 by decide), if_neg (show ¬ (12 : Int32) = 3 by decide), if_neg (show ¬ (12 : Int32) = 4 by decide), if_neg (show ¬ (12 : Int32) = 5 by decide), if_neg (show ¬ (12 : Int32) = 6 by decide), if_neg (show ¬ (12 : Int32) = 7 by decide), if_neg (show ¬ (12 : Int32) = 8 by decide), if_neg (show ¬ (12 : Int32) = 9 by decide), if_neg (show ¬ (12 : Int32) = 10 by decide), if_neg (show ¬ (12 : Int32) = 11 by decide), if_pos (show (12 : Int32) = 12 from rfl)]
  have b12 : m_X7_count (nI n) (nI w) st (nI d) (nI t) rm K LC LS LF RE ml hz 12 = m_X2_at (nI n) K LC LS LF (m_X2_brightest (nI n) K LC LS LF al0) := by
    unfold m_X7_count; rw [if_pos (show m_X0_isKind 12 = false by decide), if_pos (show m_X7_isWithin 12 4 10 = false by decide)]; unfold m_X7_countOfRest; rw [if_neg (show ¬ (12 : Int32) = 11 by decide), if_pos (show (12 : Int32) = 12 from rfl)]
  have a13 : m_X8_count hz ml RO LG CO 13 = m_X8_brightest RO LG := by
    unfold m_X8_count; rw [if_neg (show ¬ (13 : Int32) = 0 by decide), if_neg (show ¬ (13 : Int32) = 1 by decide), if_neg (show ¬ (13 : Int32) = 2 by decide), if_neg (show ¬ (13 : Int32) = 3 by decide), if_neg (show ¬ (13 : Int32) = 4 by decide), if_neg (show ¬ (13 : Int32) = 5 by decide), if_neg (show ¬ (13 : Int32) = 6 by decide), if_neg (show ¬ (13 : Int32) = 7 by decide), if_neg (show ¬ (13 : Int32) = 8 by decide), if_neg (show ¬ (13 : Int32) = 9 by decide), if_neg (show ¬ (13 : Int32) = 10 by decide), if_neg (show ¬ (13 : Int32) = 11 by decide), if_neg (show ¬ (13 : Int32) = 12 by decide), if_pos (show (13 : Int32) = 13 from rfl)]
  have b13 : m_X7_count (nI n) (nI w) st (nI d) (nI t) rm K LC LS LF RE ml hz 13 = m_X2_brightest (nI n) K LC LS LF al0 := by
    unfold m_X7_count; rw [if_pos (show m_X0_isKind 13 = false by decide), if_pos (show m_X7_isWithin 13 4 10 = false by decide)]; unfold m_X7_countOfRest; rw [if_neg (show ¬ (13 : Int32) = 11 by decide), if_neg (show ¬ (13 : Int32) = 12 by decide), if_pos (show (13 : Int32) = 13 from rfl)]
  have a14 : m_X8_count hz ml RO LG CO 14 = RO ((149 + (14 : Int32)) - 14).toNatClampNeg := by
    unfold m_X8_count; rw [if_neg (show ¬ (14 : Int32) = 0 by decide), if_neg (show ¬ (14 : Int32) = 1 by decide), if_neg (show ¬ (14 : Int32) = 2 by decide), if_neg (show ¬ (14 : Int32) = 3 by decide), if_neg (show ¬ (14 : Int32) = 4 by decide), if_neg (show ¬ (14 : Int32) = 5 by decide), if_neg (show ¬ (14 : Int32) = 6 by decide), if_neg (show ¬ (14 : Int32) = 7 by decide), if_neg (show ¬ (14 : Int32) = 8 by decide), if_neg (show ¬ (14 : Int32) = 9 by decide), if_neg (show ¬ (14 : Int32) = 10 by decide), if_neg (show ¬ (14 : Int32) = 11 by decide), if_neg (show ¬ (14 : Int32) = 12 by decide), if_neg (show ¬ (14 : Int32) = 13 by decide), if_pos (show (14 : Int32) = 14 from rfl)]
  have b14 : m_X7_count (nI n) (nI w) st (nI d) (nI t) rm K LC LS LF RE ml hz 14 = nI d := by
    unfold m_X7_count; rw [if_pos (show m_X0_isKind 14 = false by decide), if_pos (show m_X7_isWithin 14 4 10 = false by decide)]; unfold m_X7_countOfRest; rw [if_neg (show ¬ (14 : Int32) = 11 by decide), if_neg (show ¬ (14 : Int32) = 12 by decide), if_neg (show ¬ (14 : Int32) = 13 by decide), if_pos (show (14 : Int32) = 14 from rfl)]
  have a15 : m_X8_count hz ml RO LG CO 15 = RO ((149 + (15 : Int32)) - 14).toNatClampNeg := by
    unfold m_X8_count; rw [if_neg (show ¬ (15 : Int32) = 0 by decide), if_neg (show ¬ (15 : Int32) = 1 by decide), if_neg (show ¬ (15 : Int32) = 2 by decide), if_neg (show ¬ (15 : Int32) = 3 by decide), if_neg (show ¬ (15 : Int32) = 4 by decide), if_neg (show ¬ (15 : Int32) = 5 by decide), if_neg (show ¬ (15 : Int32) = 6 by decide), if_neg (show ¬ (15 : Int32) = 7 by decide), if_neg (show ¬ (15 : Int32) = 8 by decide), if_neg (show ¬ (15 : Int32) = 9 by decide), if_neg (show ¬ (15 : Int32) = 10 by decide), if_neg (show ¬ (15 : Int32) = 11 by decide), if_neg (show ¬ (15 : Int32) = 12 by decide), if_neg (show ¬ (15 : Int32) = 13 by decide), if_neg (show ¬ (15 : Int32) = 14 by decide), if_pos (show (15 : Int32) = 15 from rfl)]
  have b15 : m_X7_count (nI n) (nI w) st (nI d) (nI t) rm K LC LS LF RE ml hz 15 = nI t := by
    unfold m_X7_count; rw [if_pos (show m_X0_isKind 15 = false by decide), if_pos (show m_X7_isWithin 15 4 10 = false by decide)]; unfold m_X7_countOfRest; rw [if_neg (show ¬ (15 : Int32) = 11 by decide), if_neg (show ¬ (15 : Int32) = 12 by decide), if_neg (show ¬ (15 : Int32) = 13 by decide), if_neg (show ¬ (15 : Int32) = 14 by decide), if_pos (show (15 : Int32) = 15 from rfl)]
  have a16 : m_X8_count hz ml RO LG CO 16 = ml := by
    unfold m_X8_count; rw [if_neg (show ¬ (16 : Int32) = 0 by decide), if_neg (show ¬ (16 : Int32) = 1 by decide), if_neg (show ¬ (16 : Int32) = 2 by decide), if_neg (show ¬ (16 : Int32) = 3 by decide), if_neg (show ¬ (16 : Int32) = 4 by decide), if_neg (show ¬ (16 : Int32) = 5 by decide), if_neg (show ¬ (16 : Int32) = 6 by decide), if_neg (show ¬ (16 : Int32) = 7 by decide), if_neg (show ¬ (16 : Int32) = 8 by decide), if_neg (show ¬ (16 : Int32) = 9 by decide), if_neg (show ¬ (16 : Int32) = 10 by decide), if_neg (show ¬ (16 : Int32) = 11 by decide), if_neg (show ¬ (16 : Int32) = 12 by decide), if_neg (show ¬ (16 : Int32) = 13 by decide), if_neg (show ¬ (16 : Int32) = 14 by decide), if_neg (show ¬ (16 : Int32) = 15 by decide), if_pos (show (16 : Int32) = 16 from rfl)]
  have b16 : m_X7_count (nI n) (nI w) st (nI d) (nI t) rm K LC LS LF RE ml hz 16 = ml := by
    unfold m_X7_count; rw [if_pos (show m_X0_isKind 16 = false by decide), if_pos (show m_X7_isWithin 16 4 10 = false by decide)]; unfold m_X7_countOfRest; rw [if_neg (show ¬ (16 : Int32) = 11 by decide), if_neg (show ¬ (16 : Int32) = 12 by decide), if_neg (show ¬ (16 : Int32) = 13 by decide), if_neg (show ¬ (16 : Int32) = 14 by decide), if_neg (show ¬ (16 : Int32) = 15 by decide), if_pos (show (16 : Int32) = 16 from rfl)]
  have a17 : m_X8_count hz ml RO LG CO 17 = hz := by
    unfold m_X8_count; rw [if_neg (show ¬ (17 : Int32) = 0 by decide), if_neg (show ¬ (17 : Int32) = 1 by decide), if_neg (show ¬ (17 : Int32) = 2 by decide), if_neg (show ¬ (17 : Int32) = 3 by decide), if_neg (show ¬ (17 : Int32) = 4 by decide), if_neg (show ¬ (17 : Int32) = 5 by decide), if_neg (show ¬ (17 : Int32) = 6 by decide), if_neg (show ¬ (17 : Int32) = 7 by decide), if_neg (show ¬ (17 : Int32) = 8 by decide), if_neg (show ¬ (17 : Int32) = 9 by decide), if_neg (show ¬ (17 : Int32) = 10 by decide), if_neg (show ¬ (17 : Int32) = 11 by decide), if_neg (show ¬ (17 : Int32) = 12 by decide), if_neg (show ¬ (17 : Int32) = 13 by decide), if_neg (show ¬ (17 : Int32) = 14 by decide), if_neg (show ¬ (17 : Int32) = 15 by decide), if_neg (show ¬ (17 : Int32) = 16 by decide), if_pos (show (17 : Int32) = 17 from rfl)]
  have b17 : m_X7_count (nI n) (nI w) st (nI d) (nI t) rm K LC LS LF RE ml hz 17 = hz := by
    unfold m_X7_count; rw [if_pos (show m_X0_isKind 17 = false by decide), if_pos (show m_X7_isWithin 17 4 10 = false by decide)]; unfold m_X7_countOfRest; rw [if_neg (show ¬ (17 : Int32) = 11 by decide), if_neg (show ¬ (17 : Int32) = 12 by decide), if_neg (show ¬ (17 : Int32) = 13 by decide), if_neg (show ¬ (17 : Int32) = 14 by decide), if_neg (show ¬ (17 : Int32) = 15 by decide), if_neg (show ¬ (17 : Int32) = 16 by decide), if_pos (show (17 : Int32) = 17 from rfl)]
  by_cases e0 : wh = 0
  · subst e0; exact b0.trans (Eq.trans (kinds_eq hK 0).symm a0.symm)
  by_cases e1 : wh = 1
  · subst e1; exact b1.trans (Eq.trans (kinds_eq hK 1).symm a1.symm)
  by_cases e2 : wh = 2
  · subst e2; exact b2.trans (Eq.trans (kinds_eq hK 2).symm a2.symm)
  by_cases e3 : wh = 3
  · subst e3; exact b3.trans (Eq.trans (kinds_eq hK 3).symm a3.symm)
  by_cases e4 : wh = 4
  · subst e4; exact b4.trans (Eq.trans (litA_eq hRT LG).symm a4.symm)
  by_cases e5 : wh = 5
  · subst e5; exact b5.trans (Eq.trans (seenC_eq hRT).symm a5.symm)
  by_cases e6 : wh = 6
  · subst e6; exact b6.trans (Eq.trans (known_eq hm).symm a6.symm)
  by_cases e7 : wh = 7
  · subst e7; exact b7.trans (Eq.trans (reachA_eq hRT RE LG CO) a7.symm)
  by_cases e8 : wh = 8
  · subst e8; exact b8.trans (Eq.trans h1.symm a8.symm)
  by_cases e9 : wh = 9
  · subst e9; exact b9.trans (Eq.trans h2.symm a9.symm)
  by_cases e10 : wh = 10
  · subst e10; exact b10.trans (Eq.trans hst.symm a10.symm)
  by_cases e11 : wh = 11
  · subst e11; exact b11.trans (Eq.trans (all_eq hK hL h1 LG).symm a11.symm)
  by_cases e12 : wh = 12
  · subst e12; exact b12.trans (Eq.trans (by rw [bright_eq hK hL h1 LG]; obtain ⟨c, hc, e⟩ := vp_in_of (br2_in (nI n) K LC LS LF al0) (by decide); rw [e]; exact (at_eq hK hL h1 hc).symm) a12.symm)
  by_cases e13 : wh = 13
  · subst e13; exact b13.trans (Eq.trans (bright_eq hK hL h1 LG).symm a13.symm)
  by_cases e14 : wh = 14
  · subst e14; exact b14.trans (Eq.trans (by rw [show ((149 + (14 : Int32)) - 14).toNatClampNeg = 149 by decide]; exact h3.symm) a14.symm)
  by_cases e15 : wh = 15
  · subst e15; exact b15.trans (Eq.trans (by rw [show ((149 + (15 : Int32)) - 14).toNatClampNeg = 150 by decide]; exact h4.symm) a15.symm)
  by_cases e16 : wh = 16
  · subst e16; exact b16.trans (Eq.trans rfl a16.symm)
  by_cases e17 : wh = 17
  · subst e17; exact b17.trans (Eq.trans rfl a17.symm)
  have nk : m_X0_isKind wh = false := by
    cases q : m_X0_isKind wh with
    | false => rfl
    | true =>
      obtain ⟨c, -, hc, rfl⟩ := zwithin_of (a := wh) (lo := 0) (hi := 3) (by decide) (by decide) (by rw [← in_eq7]; rw [show m_X8_in wh (nI 0) (nI 3) = m_X0_isKind wh from rfl, q]; decide)
      rcases (by omega : c = 0 ∨ c = 1 ∨ c = 2 ∨ c = 3) with h | h | h | h <;> subst h
      · exact absurd rfl e0
      · exact absurd rfl e1
      · exact absurd rfl e2
      · exact absurd rfl e3
  have nw : m_X7_isWithin wh 4 10 = false := by
    cases q : m_X7_isWithin wh 4 10 with
    | false => rfl
    | true =>
      obtain ⟨c, h5, hc, rfl⟩ := zwithin_of (a := wh) (lo := 4) (hi := 10) (by decide) (by decide) (by rw [show m_X7_isWithin wh (nI 4) (nI 10) = m_X7_isWithin wh 4 10 from rfl, q]; decide)
      rcases (by omega : c = 4 ∨ c = 5 ∨ c = 6 ∨ c = 7 ∨ c = 8 ∨ c = 9 ∨ c = 10) with h | h | h | h | h | h | h <;> subst h
      · exact absurd rfl e4
      · exact absurd rfl e5
      · exact absurd rfl e6
      · exact absurd rfl e7
      · exact absurd rfl e8
      · exact absurd rfl e9
      · exact absurd rfl e10
  unfold m_X7_count m_X8_count m_X7_countOfRest
  rw [if_pos nk, if_pos nw, if_neg e11, if_neg e12, if_neg e13, if_neg e14, if_neg e15, if_neg e16, if_neg e17]
  rw [if_neg e0, if_neg e1, if_neg e2, if_neg e3, if_neg e4, if_neg e5, if_neg e6, if_neg e7, if_neg e8, if_neg e9, if_neg e10, if_neg e11, if_neg e12, if_neg e13, if_neg e14, if_neg e15]
end CNT
