/-! bits of an int (bt, b_, s_ rows as the kit gives them for pasting), for spread -/
def bt (x : Int32) (i : Nat) : Bool := x.toBitVec.getLsbD i
theorem b_ext {x y : Int32} (h : ∀ i, i < 32 → bt x i = bt y i) : x = y := Int32.toBitVec_inj.mp (BitVec.eq_of_getLsbD_eq (fun i hi => h i hi))
theorem b_or (x y : Int32) (i : Nat) : bt (x ||| y) i = (bt x i || bt y i) := by unfold bt; rw [Int32.toBitVec_or, BitVec.getLsbD_or]
theorem b_and (x y : Int32) (i : Nat) : bt (x &&& y) i = (bt x i && bt y i) := by unfold bt; rw [Int32.toBitVec_and, BitVec.getLsbD_and]
theorem b_0 (i : Nat) : bt 0 i = false := BitVec.getLsbD_zero
theorem s_l : ∀ n, n < 32 → ((nI n &&& 31).toBitVec.smod 32).toNat = n := by decide +kernel
theorem b_shl (n : Nat) (hn : n < 32) (x : Int32) {i : Nat} (hi : i < 32) : bt (x <<< (nI n &&& 31)) i = (decide (n ≤ i) && bt x (i - n)) := by
  unfold bt
  rw [Int32.toBitVec_shiftLeft]
  show (x.toBitVec <<< ((nI n &&& 31).toBitVec.smod 32).toNat).getLsbD i = _
  rw [s_l n hn, BitVec.getLsbD_shiftLeft]
  rcases Nat.lt_or_ge i n with h | h
  · simp [h, Nat.not_le.mpr h]
  · simp [hi, h, Nat.not_lt.mpr h]
theorem b_sshr (n : Nat) (hn : n < 32) (x : Int32) {i : Nat} (hi : i < 32) : bt (x >>> (nI n &&& 31)) i = if n + i < 32 then bt x (n + i) else bt x 31 := by
  unfold bt
  rw [Int32.toBitVec_shiftRight]
  show (x.toBitVec.sshiftRight ((nI n &&& 31).toBitVec.smod 32).toNat).getLsbD i = _
  rw [s_l n hn, BitVec.getLsbD_sshiftRight, BitVec.msb_eq_getLsbD_last]
  simp [hi]
theorem zd_bt1 : ∀ i, i < 32 → bt 1 i = decide (i = 0) := by decide +kernel
theorem zd_bt1l {l i : Nat} (hl : l < 32) (hi : i < 32) : bt ((1 : Int32) <<< (nI l &&& 31)) i = decide (i = l) := by
  rw [b_shl l hl 1 hi, zd_bt1 (i - l) (by omega)]
  by_cases h : i = l
  · rw [decide_eq_true (show l ≤ i by omega), decide_eq_true (show i - l = 0 by omega), decide_eq_true h]
    rfl
  · by_cases h2 : l ≤ i
    · rw [decide_eq_false (show ¬ i - l = 0 by omega), decide_eq_false h, Bool.and_false]
    · rw [decide_eq_false h2, decide_eq_false h, Bool.false_and]
theorem zd_btor {s : Int32} {l i : Nat} (hl : l < 32) (hi : i < 32) : bt (s ||| ((1 : Int32) <<< (nI l &&& 31))) i = true ↔ bt s i = true ∨ i = l := by
  rw [b_or, zd_bt1l hl hi, Bool.or_eq_true, decide_eq_true_eq]
theorem zd_bit {s : Int32} {i : Nat} (hi : i < 32) : (s >>> (nI i &&& 31)) &&& 1 = if bt s i = true then 1 else 0 := by
  apply b_ext
  intro j hj
  rw [b_and, b_sshr i hi s hj, zd_bt1 j hj]
  by_cases h : j = 0
  · subst h
    rw [if_pos (by omega), decide_eq_true rfl, Bool.and_true]
    show bt s i = _
    by_cases hb : bt s i = true
    · rw [if_pos hb, hb]
      decide +kernel
    · rw [if_neg hb, b_0]
      exact Bool.eq_false_iff.mpr hb
  · rw [decide_eq_false h, Bool.and_false]
    split
    · rw [zd_bt1 j hj, decide_eq_false h]
    · rw [b_0]
/-- the marks of the bits -/
def zd_bm (s : Int32) (d : Nat) : Int32 := if bt s d = true then 1 else 0
