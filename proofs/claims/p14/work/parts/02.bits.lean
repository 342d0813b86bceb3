/-! bits of the bound variables (an int) and of the marks (a long); stores; small numbers -/
theorem bd_one : ∀ i, i < 32 → bt 1 i = decide (i = 0) := by decide +kernel
theorem bd_iff {w : Int32} {x : Nat} (hx : x < 32) : ((w >>> (nI x &&& 31)) &&& 1) = 0 ↔ bt w x = false := by
  constructor
  · intro h
    have t : bt ((w >>> (nI x &&& 31)) &&& 1) 0 = bt 0 0 := by rw [h]
    rw [b_and, b_sshr x hx w (by omega), b_0, bd_one 0 (by omega)] at t
    simpa [hx] using t
  · intro h
    apply b_ext
    intro i hi
    rw [b_and, b_0, bd_one i hi]
    by_cases e : i = 0
    · subst e
      rw [b_sshr x hx w (by omega)]
      simp [hx, h]
    · simp [e]
theorem bd_or {w : Int32} {x y : Nat} (hx : x < 32) (hy : y < 32) : bt (w ||| ((1 : Int32) <<< (nI y &&& 31))) x = (bt w x || decide (x = y)) := by
  rw [b_or, b_shl y hy 1 hx]
  by_cases e : x = y
  · subst e
    rw [Nat.sub_self, bd_one 0 (by omega)]
    simp
  · by_cases h : y ≤ x
    · rw [bd_one (x - y) (by omega)]
      have z : ¬ x - y = 0 := by omega
      simp [e, z]
    · simp [e, h]
def bl (x : Int64) (i : Nat) : Bool := x.toBitVec.getLsbD i
theorem bl_ext {x y : Int64} (h : ∀ i, i < 64 → bl x i = bl y i) : x = y := by
  apply Int64.toBitVec_inj.mp
  apply BitVec.eq_of_getLsbD_eq
  intro i hi
  exact h i hi
theorem bl_orr (x y : Int64) (i : Nat) : bl (x ||| y) i = (bl x i || bl y i) := by
  unfold bl
  rw [Int64.toBitVec_or, BitVec.getLsbD_or]
theorem bl_and (x y : Int64) (i : Nat) : bl (x &&& y) i = (bl x i && bl y i) := by
  unfold bl
  rw [Int64.toBitVec_and, BitVec.getLsbD_and]
theorem bl_0 (i : Nat) : bl 0 i = false := by
  unfold bl
  show (0#64).getLsbD i = false
  simp
theorem bl_one : ∀ i, i < 64 → bl 1 i = decide (i = 0) := by decide +kernel
theorem bl_sl : ∀ n, n < 64 → (((nI n).toInt64 &&& 63).toBitVec.smod 64).toNat = n := by decide +kernel
theorem bl_shl (n : Nat) (hn : n < 64) (x : Int64) {i : Nat} (hi : i < 64) : bl (x <<< ((nI n).toInt64 &&& 63)) i = (decide (n ≤ i) && bl x (i - n)) := by
  unfold bl
  rw [Int64.toBitVec_shiftLeft]
  show (x.toBitVec <<< (((nI n).toInt64 &&& 63).toBitVec.smod 64).toNat).getLsbD i = _
  rw [bl_sl n hn, BitVec.getLsbD_shiftLeft]
  rcases Nat.lt_or_ge i n with h | h
  · simp [h, Nat.not_le.mpr h]
  · simp [hi, h, Nat.not_lt.mpr h]
theorem bl_sshr (n : Nat) (hn : n < 64) (x : Int64) {i : Nat} (hi : i < 64) : bl (x >>> ((nI n).toInt64 &&& 63)) i = if n + i < 64 then bl x (n + i) else bl x 63 := by
  unfold bl
  rw [Int64.toBitVec_shiftRight]
  show (x.toBitVec.sshiftRight (((nI n).toInt64 &&& 63).toBitVec.smod 64).toNat).getLsbD i = _
  rw [bl_sl n hn, BitVec.getLsbD_sshiftRight, BitVec.msb_eq_getLsbD_last]
  simp [hi]
theorem bl_iff {w : Int64} {x : Nat} (hx : x < 64) : ((w >>> ((nI x).toInt64 &&& 63)) &&& 1) = 0 ↔ bl w x = false := by
  constructor
  · intro h
    have t : bl ((w >>> ((nI x).toInt64 &&& 63)) &&& 1) 0 = bl 0 0 := by rw [h]
    rw [bl_and, bl_sshr x hx w (by omega), bl_0, bl_one 0 (by omega)] at t
    simpa [hx] using t
  · intro h
    apply bl_ext
    intro i hi
    rw [bl_and, bl_0, bl_one i hi]
    by_cases e : i = 0
    · subst e
      rw [bl_sshr x hx w (by omega)]
      simp [hx, h]
    · simp [e]
theorem bl_or {w : Int64} {x y : Nat} (hx : x < 64) (hy : y < 64) : bl (w ||| ((1 : Int64) <<< ((nI y).toInt64 &&& 63))) x = (bl w x || decide (x = y)) := by
  rw [bl_orr, bl_shl y hy 1 hx]
  by_cases e : x = y
  · subst e
    rw [Nat.sub_self, bl_one 0 (by omega)]
    simp
  · by_cases h : y ≤ x
    · rw [bl_one (x - y) (by omega)]
      have z : ¬ x - y = 0 := by omega
      simp [e, z]
    · simp [e, h]
/-- a store of what is there already -/
theorem ud_same {f : Nat → Int32} {k : Nat} {v : Int32} (h : f k = v) : upd f k v = f := by
  funext j
  unfold upd
  by_cases e : j = k
  · rw [if_pos e, e, h]
  · rw [if_neg e]
theorem ud_if (f : Nat → Int32) (k j : Nat) (v : Int32) : upd f k v j = if j = k then v else f j := rfl
theorem ud_or {f : Nat → Int32} {k : Nat} {v : Int32} (j : Nat) : (j = k ∧ upd f k v j = v) ∨ (j ≠ k ∧ upd f k v j = f j) := by
  by_cases e : j = k
  · exact Or.inl ⟨e, by rw [ud_if, if_pos e]⟩
  · exact Or.inr ⟨e, by rw [ud_if, if_neg e]⟩
