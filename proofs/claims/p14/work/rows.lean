section
theorem ts_nf {x : Bool} (h : ¬ x = false) : x = true := by cases x <;> first | rfl | exact absurd rfl h
theorem ts_nt {x : Bool} (h : ¬ x = true) : x = false := by cases x <;> first | rfl | exact absurd rfl h
def bt (x : Int32) (i : Nat) : Bool := x.toBitVec.getLsbD i
theorem b_ext {x y : Int32} (h : ∀ i, i < 32 → bt x i = bt y i) : x = y := Int32.toBitVec_inj.mp (BitVec.eq_of_getLsbD_eq (fun i hi => h i hi))
theorem b_or (x y : Int32) (i : Nat) : bt (x ||| y) i = (bt x i || bt y i) := by unfold bt; rw [Int32.toBitVec_or, BitVec.getLsbD_or]
theorem b_and (x y : Int32) (i : Nat) : bt (x &&& y) i = (bt x i && bt y i) := by unfold bt; rw [Int32.toBitVec_and, BitVec.getLsbD_and]
theorem b_big {x : Int32} {i : Nat} (h : 32 ≤ i) : bt x i = false := BitVec.getLsbD_of_ge _ _ h
theorem b_0 (i : Nat) : bt 0 i = false := BitVec.getLsbD_zero
theorem s_l : ∀ n, n < 32 → ((nI n &&& 31).toBitVec.smod 32).toNat = n := by decide +kernel
theorem b_shl (n : Nat) (hn : n < 32) (x : Int32) {i : Nat} (hi : i < 32) : bt (x <<< (nI n &&& 31)) i = (decide (n ≤ i) && bt x (i - n)) := by
  unfold bt
  rw [Int32.toBitVec_shiftLeft]
  show (x.toBitVec <<< ((nI n &&& 31).toBitVec.smod 32).toNat).getLsbD i = _
  rw [s_l n hn, BitVec.getLsbD_shiftLeft]
  rcases Nat.lt_or_ge i n with h | h
  · simp [h, Nat.not_le.mpr h]
  · simp [hi, h, Nat.not_lt.mpr h]
theorem b_sshr (n : Nat) (hn : n < 32) (x : Int32) {i : Nat} (hi : i < 32) : bt (x >>> (nI n &&& 31)) i = if n + i < 32 then bt x (n + i) else bt x 31 := by
  unfold bt
  rw [Int32.toBitVec_shiftRight]
  show (x.toBitVec.sshiftRight ((nI n &&& 31).toBitVec.smod 32).toNat).getLsbD i = _
  rw [s_l n hn, BitVec.getLsbD_sshiftRight, BitVec.msb_eq_getLsbD_last]
  simp [hi]
end
section
/-! bits of the bound variables (an int) and of the marks (a long); stores; small numbers -/
theorem bd_one : ∀ i, i < 32 → bt 1 i = decide (i = 0) := by decide +kernel
theorem bd_iff {w : Int32} {x : Nat} (hx : x < 32) : ((w >>> (nI x &&& 31)) &&& 1) = 0 ↔ bt w x = false := by
  constructor
  · intro h
    have t : bt ((w >>> (nI x &&& 31)) &&& 1) 0 = bt 0 0 := by rw [h]
    rw [b_and, b_sshr x hx w (by omega), b_0, bd_one 0 (by omega)] at t
    simpa [hx] using t
  · intro h
    apply b_ext
    intro i hi
    rw [b_and, b_0, bd_one i hi]
    by_cases e : i = 0
    · subst e
      rw [b_sshr x hx w (by omega)]
      simp [hx, h]
    · simp [e]
theorem bd_or {w : Int32} {x y : Nat} (hx : x < 32) (hy : y < 32) : bt (w ||| ((1 : Int32) <<< (nI y &&& 31))) x = (bt w x || decide (x = y)) := by
  rw [b_or, b_shl y hy 1 hx]
  by_cases e : x = y
  · subst e
    rw [Nat.sub_self, bd_one 0 (by omega)]
    simp
  · by_cases h : y ≤ x
    · rw [bd_one (x - y) (by omega)]
      have z : ¬ x - y = 0 := by omega
      simp [e, z]
    · simp [e, h]
def bl (x : Int64) (i : Nat) : Bool := x.toBitVec.getLsbD i
theorem bl_ext {x y : Int64} (h : ∀ i, i < 64 → bl x i = bl y i) : x = y := by
  apply Int64.toBitVec_inj.mp
  apply BitVec.eq_of_getLsbD_eq
  intro i hi
  exact h i hi
theorem bl_orr (x y : Int64) (i : Nat) : bl (x ||| y) i = (bl x i || bl y i) := by
  unfold bl
  rw [Int64.toBitVec_or, BitVec.getLsbD_or]
theorem bl_and (x y : Int64) (i : Nat) : bl (x &&& y) i = (bl x i && bl y i) := by
  unfold bl
  rw [Int64.toBitVec_and, BitVec.getLsbD_and]
theorem bl_0 (i : Nat) : bl 0 i = false := by
  unfold bl
  show (0#64).getLsbD i = false
  simp
theorem bl_one : ∀ i, i < 64 → bl 1 i = decide (i = 0) := by decide +kernel
theorem bl_sl : ∀ n, n < 64 → (((nI n).toInt64 &&& 63).toBitVec.smod 64).toNat = n := by decide +kernel
theorem bl_shl (n : Nat) (hn : n < 64) (x : Int64) {i : Nat} (hi : i < 64) : bl (x <<< ((nI n).toInt64 &&& 63)) i = (decide (n ≤ i) && bl x (i - n)) := by
  unfold bl
  rw [Int64.toBitVec_shiftLeft]
  show (x.toBitVec <<< (((nI n).toInt64 &&& 63).toBitVec.smod 64).toNat).getLsbD i = _
  rw [bl_sl n hn, BitVec.getLsbD_shiftLeft]
  rcases Nat.lt_or_ge i n with h | h
  · simp [h, Nat.not_le.mpr h]
  · simp [hi, h, Nat.not_lt.mpr h]
theorem bl_sshr (n : Nat) (hn : n < 64) (x : Int64) {i : Nat} (hi : i < 64) : bl (x >>> ((nI n).toInt64 &&& 63)) i = if n + i < 64 then bl x (n + i) else bl x 63 := by
  unfold bl
  rw [Int64.toBitVec_shiftRight]
  show (x.toBitVec.sshiftRight (((nI n).toInt64 &&& 63).toBitVec.smod 64).toNat).getLsbD i = _
  rw [bl_sl n hn, BitVec.getLsbD_sshiftRight, BitVec.msb_eq_getLsbD_last]
  simp [hi]
theorem bl_iff {w : Int64} {x : Nat} (hx : x < 64) : ((w >>> ((nI x).toInt64 &&& 63)) &&& 1) = 0 ↔ bl w x = false := by
  constructor
  · intro h
    have t : bl ((w >>> ((nI x).toInt64 &&& 63)) &&& 1) 0 = bl 0 0 := by rw [h]
    rw [bl_and, bl_sshr x hx w (by omega), bl_0, bl_one 0 (by omega)] at t
    simpa [hx] using t
  · intro h
    apply bl_ext
    intro i hi
    rw [bl_and, bl_0, bl_one i hi]
    by_cases e : i = 0
    · subst e
      rw [bl_sshr x hx w (by omega)]
      simp [hx, h]
    · simp [e]
theorem bl_or {w : Int64} {x y : Nat} (hx : x < 64) (hy : y < 64) : bl (w ||| ((1 : Int64) <<< ((nI y).toInt64 &&& 63))) x = (bl w x || decide (x = y)) := by
  rw [bl_orr, bl_shl y hy 1 hx]
  by_cases e : x = y
  · subst e
    rw [Nat.sub_self, bl_one 0 (by omega)]
    simp
  · by_cases h : y ≤ x
    · rw [bl_one (x - y) (by omega)]
      have z : ¬ x - y = 0 := by omega
      simp [e, z]
    · simp [e, h]
/-- a store of what is there already -/
theorem ud_same {f : Nat → Int32} {k : Nat} {v : Int32} (h : f k = v) : upd f k v = f := by
  funext j
  unfold upd
  by_cases e : j = k
  · rw [if_pos e, e, h]
  · rw [if_neg e]
theorem ud_if (f : Nat → Int32) (k j : Nat) (v : Int32) : upd f k v j = if j = k then v else f j := rfl
theorem ud_or {f : Nat → Int32} {k : Nat} {v : Int32} (j : Nat) : (j = k ∧ upd f k v j = v) ∨ (j ≠ k ∧ upd f k v j = f j) := by
  by_cases e : j = k
  · exact Or.inl ⟨e, by rw [ud_if, if_pos e]⟩
  · exact Or.inr ⟨e, by rw [ud_if, if_neg e]⟩
end
section
/-! heights of tokens in prefix order, ends of patterns, the stack of pending patterns -/
/-- s q: the number of subpatterns of token q; the height at q: pending patterns before q, against the first token -/
def ht_h (s : Nat → Nat) : Nat → Int
  | 0 => 0
  | q + 1 => ht_h s q + (s q : Int) - 1
theorem ht_s (s : Nat → Nat) (q : Nat) : ht_h s (q + 1) = ht_h s q + (s q : Int) - 1 := rfl
/-- the pattern that starts at i ends before e: e is the first place lower than i -/
def ht_E (s : Nat → Nat) (i e : Nat) : Prop := i < e ∧ ht_h s e < ht_h s i ∧ ∀ j, i < j → j < e → ht_h s i ≤ ht_h s j
theorem ht_le {s : Nat → Nat} {i e : Nat} (h : ht_E s i e) {j : Nat} (h1 : i ≤ j) (h2 : j < e) : ht_h s i ≤ ht_h s j := by
  rcases Nat.lt_or_ge i j with z | z
  · exact h.2.2 j z h2
  · have e : i = j := by omega
    subst e; exact Int.le_refl _
theorem ht_val {s : Nat → Nat} {i e : Nat} (h : ht_E s i e) : ht_h s e = ht_h s i - 1 := by
  obtain ⟨d, rfl⟩ : ∃ d, e = d + 1 := ⟨e - 1, by have := h.1; omega⟩
  have a := ht_le h (j := d) (by have := h.1; omega) (by omega)
  have b := h.2.1
  rw [ht_s] at b ⊢
  omega
theorem ht_uniq {s : Nat → Nat} {i e e' : Nat} (h : ht_E s i e) (h' : ht_E s i e') : e = e' := by
  rcases Nat.lt_trichotomy e e' with z | z | z
  · have a := ht_le h' (j := e) (by have := h.1; omega) z
    have b := h.2.1
    omega
  · exact z
  · have a := ht_le h (j := e') (by have := h'.1; omega) z
    have b := h'.2.1
    omega
theorem ht_ex {s : Nat → Nat} {i n : Nat} (h1 : i < n) (h2 : ht_h s n < ht_h s i) : ∃ e, e ≤ n ∧ ht_E s i e := by
  obtain ⟨e, ⟨he1, he2⟩, hm⟩ := pk_least (fun e => i < e ∧ ht_h s e < ht_h s i) ⟨n, h1, h2⟩
  refine ⟨e, ?_, he1, he2, fun j hj1 hj2 => ?_⟩
  · rcases Nat.lt_or_ge n e with z | z
    · exact absurd ⟨h1, h2⟩ (hm n z)
    · exact z
  · by_cases z : ht_h s j < ht_h s i
    · exact absurd ⟨hj1, z⟩ (hm j hj2)
    · omega
theorem ht_nest {s : Nat → Nat} {i e j f : Nat} (h : ht_E s i e) (h1 : i ≤ j) (h2 : j < e) (hf : ht_E s j f) : f ≤ e := by
  rcases Nat.lt_or_ge e f with z | z
  · have a := ht_le hf (j := e) (by omega) z
    have b := ht_le h h1 h2
    have c := h.2.1
    omega
  · exact z
theorem ht_0 {s : Nat → Nat} {i : Nat} (h : s i = 0) : ht_E s i (i + 1) := by
  refine ⟨by omega, ?_, fun j h1 h2 => by omega⟩
  rw [ht_s, h]; omega
theorem ht_1 {s : Nat → Nat} {i e : Nat} (h : s i = 1) (he : ht_E s i e) : i + 1 < e ∧ ht_E s (i + 1) e := by
  have a : ht_h s (i + 1) = ht_h s i := by rw [ht_s, h]; omega
  have h1 := he.1
  have b := he.2.1
  have z : i + 1 < e := by
    rcases Nat.lt_or_ge (i + 1) e with z | z
    · exact z
    · have : e = i + 1 := by omega
      subst this; omega
  exact ⟨z, z, by omega, fun j h3 h4 => by rw [a]; exact he.2.2 j (by omega) h4⟩
/-- the two subpatterns of a token that has two -/
theorem ht_2 {s : Nat → Nat} {i e f : Nat} (h : s i = 2) (he : ht_E s i e) (hf : ht_E s (i + 1) f) : i + 1 < f ∧ f < e ∧ ht_E s f e ∧ ht_h s f = ht_h s i := by
  have a : ht_h s (i + 1) = ht_h s i + 1 := by rw [ht_s, h]; omega
  have b := ht_val hf
  have c := ht_val he
  have h1 := he.1
  have h2 := hf.1
  have g : f < e := by
    rcases Nat.lt_trichotomy f e with z | z | z
    · exact z
    · subst z; omega
    · have t := ht_le hf (j := e) (by
        rcases Nat.lt_or_ge i (e - 1) with y | y
        · omega
        · have : e = i + 1 := by omega
          subst this; omega) z
      omega
  refine ⟨h2, g, ⟨g, by omega, fun j h3 h4 => ?_⟩, by omega⟩
  have := he.2.2 j (by omega) h4
  omega
/-- heights look only below -/
theorem ht_cong {s s' : Nat → Nat} : ∀ {n : Nat}, (∀ q, q < n → s q = s' q) → ht_h s n = ht_h s' n
  | 0, _ => rfl
  | n + 1, h => by rw [ht_s, ht_s, ht_cong (n := n) (fun q hq => h q (by omega)), h n (by omega)]
theorem ht_up {s : Nat → Nat} (hs : ∀ q, s q ≤ 2) (p : Nat) : ∀ d, ht_h s (p + d) ≤ ht_h s p + d
  | 0 => by simp
  | d + 1 => by
    have a := ht_up hs p d
    have b := hs (p + d)
    rw [← Nat.add_assoc, ht_s]
    omega
/-- linking: a is where the t-th subpattern of i starts -/
def ln_A (s : Nat → Nat) (i t a : Nat) : Prop := i < a ∧ ht_h s a = ht_h s i + (s i : Int) - 1 - t ∧ ∀ r, i < r → r < a → ht_h s a < ht_h s r
theorem ln_0 (s : Nat → Nat) (i : Nat) : ln_A s i 0 (i + 1) := ⟨by omega, by rw [ht_s]; omega, fun r h1 h2 => by omega⟩
theorem ln_s {s : Nat → Nat} {i t a b : Nat} (h : ln_A s i t a) (hb : ht_E s a b) : ln_A s i (t + 1) b := by
  have v := ht_val hb
  have h1 := h.1
  have h2 := hb.1
  have h3 := h.2.1
  refine ⟨by omega, by omega, fun r hr1 hr2 => ?_⟩
  rcases Nat.lt_or_ge r a with z | z
  · have := h.2.2 r hr1 z; omega
  · have := ht_le hb z hr2; omega
theorem ln_e {s : Nat → Nat} {i a : Nat} (h : ln_A s i (s i) a) : ht_E s i a := by
  have h2 := h.2.1
  exact ⟨h.1, by omega, fun r h3 h4 => by have := h.2.2 r h3 h4; omega⟩
theorem ln_lt {s : Nat → Nat} {i t a e : Nat} (h : ln_A s i t a) (ht : t < s i) (he : ht_E s i e) : a < e := by
  have h2 := h.2.1
  have h3 := he.1
  have h4 := he.2.1
  rcases Nat.lt_trichotomy a e with z | z | z
  · exact z
  · subst z; omega
  · have := h.2.2 e h3 z; omega
/-- the stack of pending patterns while the pattern at p is matched and i is next: place j holds the first place from i of height h p + j -/
def mk_S (s : Nat → Nat) (n p i k : Nat) (sP sV tc : Nat → Int32) : Prop :=
  (k : Int) = ht_h s i - ht_h s p + 1 ∧ ∀ j, j < k → ∃ q, sP j = nI q ∧ sV j = tc q ∧ (∃ c, c < n ∧ tc q = nI c) ∧ i ≤ q ∧ ht_h s q = ht_h s p + j ∧ ∀ r, i ≤ r → r < q → ht_h s p + j < ht_h s r
theorem mk_0 {s : Nat → Nat} {n p c : Nat} {sP sV tc : Nat → Int32} (hc : c < n) : mk_S s n p p 1 (upd sP 0 (nI p)) (upd sV 0 (nI c)) (upd tc p (nI c)) := by
  refine ⟨by omega, fun j hj => ?_⟩
  have : j = 0 := by omega
  subst this
  exact ⟨p, pk_us, by rw [pk_us, pk_us], ⟨c, hc, pk_us⟩, Nat.le_refl _, by omega, fun r h1 h2 => by omega⟩
theorem mk_top {s : Nat → Nat} {n p i k : Nat} {sP sV tc : Nat → Int32} (h : mk_S s n p i (k + 1) sP sV tc) : sP k = nI i ∧ sV k = tc i ∧ ∃ c, c < n ∧ tc i = nI c := by
  obtain ⟨q, h1, h2, h3, h4, h5, h6⟩ := h.2 k (by omega)
  have e : q = i := by
    rcases Nat.lt_or_ge i q with z | z
    · have := h6 i (Nat.le_refl _) z
      have := h.1
      omega
    · omega
  subst e
  exact ⟨h1, h2, h3⟩
theorem mk_pos {s : Nat → Nat} {n p i e k : Nat} {sP sV tc : Nat → Int32} (h : mk_S s n p i k sP sV tc) (he : ht_E s p e) (h1 : p ≤ i) (h2 : i < e) : ∃ k', k = k' + 1 := by
  have a := ht_le he h1 h2
  have b := h.1
  exact ⟨k - 1, by omega⟩
theorem mk_end {s : Nat → Nat} {n p e k : Nat} {sP sV tc : Nat → Int32} (h : mk_S s n p e k sP sV tc) (he : ht_E s p e) : k = 0 := by
  have a := ht_val he
  have b := h.1
  omega
theorem mk_pop {s : Nat → Nat} {n p i i' k : Nat} {sP sV tc : Nat → Int32} (h : mk_S s n p i (k + 1) sP sV tc) (he : ht_E s i i') : mk_S s n p i' k sP sV tc := by
  have v := ht_val he
  have b := h.1
  refine ⟨by omega, fun j hj => ?_⟩
  obtain ⟨q, h1, h2, h3, h4, h5, h6⟩ := h.2 j (by omega)
  refine ⟨q, h1, h2, h3, ?_, h5, fun r hr1 hr2 => h6 r (by have := he.1; omega) hr2⟩
  rcases Nat.lt_or_ge q i' with z | z
  · have := ht_le he h4 z; omega
  · exact z
theorem mk_1 {s : Nat → Nat} {n p i k c : Nat} {sP sV tc : Nat → Int32} (h : mk_S s n p i (k + 1) sP sV tc) (hs : s i = 1) (hc : c < n) : mk_S s n p (i + 1) (k + 1) (upd sP k (nI (i + 1))) (upd sV k (nI c)) (upd tc (i + 1) (nI c)) := by
  have a : ht_h s (i + 1) = ht_h s i := by rw [ht_s, hs]; omega
  have b := h.1
  refine ⟨by omega, fun j hj => ?_⟩
  by_cases e : j = k
  · subst e
    exact ⟨i + 1, pk_us, by rw [pk_us, pk_us], ⟨c, hc, pk_us⟩, Nat.le_refl _, by omega, fun r h1 h2 => by omega⟩
  · obtain ⟨q, h1, h2, h3, h4, h5, h6⟩ := h.2 j (by omega)
    have n1 : q ≠ i := fun z => by subst z; omega
    have n2 : q ≠ i + 1 := fun z => by subst z; omega
    rw [pk_un e, pk_un e]
    exact ⟨q, h1, by rw [pk_un n2]; exact h2, by rw [pk_un n2]; exact h3, by omega, h5, fun r hr1 hr2 => h6 r (by omega) hr2⟩
theorem mk_2 {s : Nat → Nat} {n p i k c d f : Nat} {sP sV tc : Nat → Int32} (h : mk_S s n p i (k + 1) sP sV tc) (hs : s i = 2) (hf : ht_E s (i + 1) f) (hc : c < n) (hd : d < n) :
    mk_S s n p (i + 1) (k + 2) (upd (upd sP k (nI f)) (k + 1) (nI (i + 1))) (upd (upd sV k (nI d)) (k + 1) (nI c)) (upd (upd tc (i + 1) (nI c)) f (nI d)) := by
  have a : ht_h s (i + 1) = ht_h s i + 1 := by rw [ht_s, hs]; omega
  have b := h.1
  have v := ht_val hf
  have f1 := hf.1
  refine ⟨by omega, fun j hj => ?_⟩
  by_cases e1 : j = k + 1
  · subst e1
    have n1 : i + 1 ≠ f := by omega
    exact ⟨i + 1, pk_us, by rw [pk_us, pk_un n1, pk_us], ⟨c, hc, by rw [pk_un n1, pk_us]⟩, Nat.le_refl _, by omega, fun r h1 h2 => by omega⟩
  · rw [pk_un e1, pk_un e1]
    by_cases e : j = k
    · subst e
      exact ⟨f, pk_us, by rw [pk_us, pk_us], ⟨d, hd, pk_us⟩, by omega, by omega, fun r h1 h2 => by have := ht_le hf h1 h2; omega⟩
    · obtain ⟨q, h1, h2, h3, h4, h5, h6⟩ := h.2 j (by omega)
      have n1 : q ≠ i := fun z => by subst z; omega
      have n2 : q ≠ i + 1 := fun z => by subst z; omega
      have n3 : q ≠ f := fun z => by subst z; omega
      rw [pk_un e, pk_un e]
      exact ⟨q, h1, by rw [pk_un n3, pk_un n2]; exact h2, by rw [pk_un n3, pk_un n2]; exact h3, by omega, h5, fun r hr1 hr2 => h6 r (by omega) hr2⟩
theorem mk_room {s : Nat → Nat} (hs : ∀ q, s q ≤ 2) {n p i k : Nat} {sP sV tc : Nat → Int32} (h : mk_S s n p i k sP sV tc) (h1 : p ≤ i) : k ≤ i - p + 1 := by
  have a := ht_up hs p (i - p)
  have b := h.1
  rw [show p + (i - p) = i by omega] at a
  omega
end
section
/-! the heap, counts, what a FORCE writes -/
/-- counting below n -/
def cu_n (p : Nat → Bool) : Nat → Nat
  | 0 => 0
  | k + 1 => cu_n p k + (if p k = true then 1 else 0)
theorem cu_le (p : Nat → Bool) : ∀ n, cu_n p n ≤ n
  | 0 => Nat.le_refl _
  | n + 1 => by
    have := cu_le p n
    simp only [cu_n]
    split <;> omega
theorem cu_mono {p q : Nat → Bool} : ∀ {n : Nat}, (∀ k, k < n → p k = true → q k = true) → cu_n p n ≤ cu_n q n
  | 0, _ => Nat.le_refl _
  | n + 1, h => by
    have a := cu_mono (n := n) (fun k hk => h k (by omega))
    have b := h n (by omega)
    simp only [cu_n]
    by_cases e : p n = true
    · rw [if_pos e, if_pos (b e)]; omega
    · rw [if_neg e]; omega
/-- one that was counted is counted no more, and none is new -/
theorem cu_drop {p q : Nat → Bool} {a : Nat} (hp : p a = true) (hq : q a = false) : ∀ {n : Nat}, a < n → (∀ k, k < n → q k = true → p k = true) → cu_n q n + 1 ≤ cu_n p n
  | 0, h, _ => by omega
  | n + 1, h, hk => by
    simp only [cu_n]
    rcases Nat.lt_or_ge a n with z | z
    · have := cu_drop hp hq (n := n) z (fun k h1 h2 => hk k (by omega) h2)
      have b := hk n (by omega)
      by_cases e : q n = true
      · rw [if_pos e, if_pos (b e)]; omega
      · rw [if_neg e]; omega
    · have e : a = n := by omega
      subst e
      have := cu_mono (p := q) (q := p) (n := a) (fun k h1 => hk k (by omega))
      rw [hp, hq]
      simp
      exact this
theorem cu_pos {p : Nat → Bool} {a n : Nat} (h : a < n) (hp : p a = true) : 0 < cu_n p n := by
  have := cu_drop (p := p) (q := fun _ => false) hp rfl h (fun k _ hk => by simp at hk)
  omega
/-- the cells that are no VALUE and have no mark -/
def hp_u (st mk : Nat → Int32) (k : Nat) : Bool := decide (st k ≠ 0 ∧ mk k = 0)
/-- what the heap keeps: every cell below n has a state, and the fields that its state and tag ask for lie below n -/
def hp_ok (n : Nat) (st tg f0 f1 : Nat → Int32) : Prop := ∀ c, c < n → (∃ s, s ≤ 3 ∧ st c = nI s) ∧ ((st c = 0 ∨ st c = 1) → (¬ tg c < 4 → ∃ a, a < n ∧ f0 c = nI a) ∧ (¬ tg c < 6 → ∃ a, a < n ∧ f1 c = nI a)) ∧ (st c = 2 → ∃ a, a < n ∧ f0 c = nI a)
/-- v written at the places g 0 .. g (m - 1) -/
def fw_a (g : Nat → Int32) (v : Int32) (a : Nat → Int32) : Nat → Nat → Int32
  | 0 => a
  | m + 1 => upd (fw_a g v a m) (g m).toNatClampNeg v
theorem fw_s (g : Nat → Int32) (v : Int32) (a : Nat → Int32) (m : Nat) : fw_a g v a (m + 1) = upd (fw_a g v a m) (g m).toNatClampNeg v := rfl
theorem fw_in {g : Nat → Int32} {v : Int32} {a : Nat → Int32} : ∀ {m i : Nat}, i < m → fw_a g v a m (g i).toNatClampNeg = v
  | 0, i, h => by omega
  | m + 1, i, h => by
    rw [fw_s]
    rcases ud_or (f := fw_a g v a m) (k := (g m).toNatClampNeg) (v := v) (g i).toNatClampNeg with ⟨_, z⟩ | ⟨e, z⟩
    · exact z
    · rw [z]
      refine fw_in ?_
      rcases Nat.lt_or_ge i m with y | y
      · exact y
      · have : i = m := by omega
        subst this; exact absurd rfl e
theorem fw_out {g : Nat → Int32} {v : Int32} {a : Nat → Int32} {j : Nat} : ∀ {m : Nat}, (∀ i, i < m → (g i).toNatClampNeg ≠ j) → fw_a g v a m j = a j
  | 0, _ => rfl
  | m + 1, h => by
    rw [fw_s, pk_un (fun z => h m (by omega) z.symm)]
    exact fw_out (fun i hi => h i (by omega))
theorem fw_dec (g : Nat → Int32) (j : Nat) : ∀ m, (∃ i, i < m ∧ (g i).toNatClampNeg = j) ∨ (∀ i, i < m → (g i).toNatClampNeg ≠ j) := fun m => by
  by_cases e : ∃ i, i < m ∧ (g i).toNatClampNeg = j
  · exact Or.inl e
  · exact Or.inr fun i hi z => e ⟨i, hi, z⟩
theorem fw_cong {g g' : Nat → Int32} {v : Int32} {a : Nat → Int32} : ∀ {m : Nat}, (∀ i, i < m → g i = g' i) → fw_a g v a m = fw_a g' v a m
  | 0, _ => rfl
  | m + 1, h => by rw [fw_s, fw_s, fw_cong (fun i hi => h i (by omega)), h m (by omega)]
/-- the cell whose values are written keeps them -/
theorem fw_self {g : Nat → Int32} {a : Nat → Int32} {d : Nat} (m : Nat) : fw_a g (a d) a m d = a d := by
  rcases fw_dec g d m with ⟨i, hi, z⟩ | h
  · have := fw_in (g := g) (v := a d) (a := a) hi
    rw [z] at this; exact this
  · exact fw_out h
/-- after a FORCE that went through -/
theorem fw_ok {n d m : Nat} {g st tg f0 f1 : Nat → Int32} (h : hp_ok n st tg f0 f1) (hd : d < n) (hv : st d = 0) :
    hp_ok n (fw_a g 0 st m) (fw_a g (tg d) tg m) (fw_a g (f0 d) f0 m) (fw_a g (f1 d) f1 m) := by
  intro c hc
  rcases fw_dec g c m with ⟨i, hi, z⟩ | k
  · have e1 := fw_in (g := g) (v := 0) (a := st) hi
    have e2 := fw_in (g := g) (v := tg d) (a := tg) hi
    have e3 := fw_in (g := g) (v := f0 d) (a := f0) hi
    have e4 := fw_in (g := g) (v := f1 d) (a := f1) hi
    rw [z] at e1 e2 e3 e4
    rw [e1, e2, e3, e4]
    exact ⟨⟨0, by omega, rfl⟩, fun _ => (h d hd).2.1 (Or.inl hv), fun y => absurd y (by decide)⟩
  · rw [fw_out k, fw_out k, fw_out k, fw_out k]
    exact h c hc
theorem fw_cnt {n m : Nat} {g st mk : Nat → Int32} (hk : ∀ j, j < n → mk j ≠ 0 → ∃ i, i < m ∧ (g i).toNatClampNeg = j) :
    cu_n (hp_u (fw_a g 0 st m) (fun _ => 0)) n ≤ cu_n (hp_u st mk) n := by
  refine cu_mono fun j hj h => ?_
  unfold hp_u at h ⊢
  have h := of_decide_eq_true h
  apply decide_eq_true
  rcases fw_dec g j m with ⟨i, hi, z⟩ | k
  · have e1 := fw_in (g := g) (v := 0) (a := st) hi
    rw [z] at e1
    exact absurd e1 h.1
  · refine ⟨by have := h.1; rw [fw_out k] at this; exact this, ?_⟩
    by_cases e : mk j = 0
    · exact e
    · obtain ⟨i, hi, z⟩ := hk j hj e
      exact absurd z (k i hi)
end
section
/-! tokens: subpatterns, the static facts of a clause, which tokens a match has visited, where the two sides agree on cells -/
def tk_a (x : Int32) : Nat := if x < 4 then 0 else if x < 6 then 1 else 2
def tk_s (k x : Int32) : Nat := if k = 2 then tk_a x else if k = 3 then 1 else if k = 4 then 1 else 0
def tk_f (kd tx : Nat → Int32) (q : Nat) : Nat := tk_s (kd q) (tx q)
theorem tk_a2 (x : Int32) : tk_a x ≤ 2 := by
  unfold tk_a
  split
  · omega
  · split <;> omega
theorem tk_s2 (k x : Int32) : tk_s k x ≤ 2 := by
  unfold tk_s
  have := tk_a2 x
  split
  · exact this
  · split
    · omega
    · split <;> omega
theorem tk_f2 (kd tx : Nat → Int32) (q : Nat) : tk_f kd tx q ≤ 2 := tk_s2 _ _
/-- what is fixed of the clause whose tokens are b .. e - 1: E q is the end of the pattern at q -/
def cx_ok (nT b e : Nat) (kd tx ts ta : Nat → Int32) (E : Nat → Nat) : Prop :=
  nT ≤ 64 ∧ e ≤ nT ∧ ∀ q, b ≤ q → q < e → ht_E (tk_f kd tx) q (E q) ∧ E q ≤ e ∧ ta q = nI (E q) ∧ ts q = nI (tk_f kd tx q) ∧ (∃ k, k ≤ 4 ∧ kd q = nI k) ∧ ((kd q = 1 ∨ kd q = 2) → ∃ x, x < 8 ∧ tx q = nI x) ∧ (kd q = 1 → ∀ q', b ≤ q' → q' < e → kd q' = 1 → tx q' = tx q → q' = q)
/-- the two sides agree on token q's cell -/
def sy_q (n : Nat) (kd tx tc dn si : Nat → Int32) (q : Nat) : Prop := (kd q = 4 → si q = tc q) ∧ (kd q = 1 → dn (tx q).toNatClampNeg = tc q) ∧ ∃ c, c < n ∧ tc q = nI c
/-- token q has been visited by the match of the pattern at p that is about to look at i -/
def vs_q (kd : Nat → Int32) (E : Nat → Nat) (p i q : Nat) : Prop := p ≤ q ∧ q < i ∧ ∀ r, p ≤ r → r < q → kd r = 4 → E r ≤ q
/-- token q is pending then -/
def pd_q (s : Nat → Nat) (ep i q : Nat) : Prop := i ≤ q ∧ q < ep ∧ ∀ r, i ≤ r → r < q → ht_h s q < ht_h s r
def mi_I (n b e : Nat) (kd tx : Nat → Int32) (E : Nat → Nat) (p i : Nat) (tc0 dn0 si0 tc dn si : Nat → Int32) : Prop :=
  (∀ r, p ≤ r → r < i → kd r = 4 → E r ≤ i) ∧ (∀ q, vs_q kd E p i q → sy_q n kd tx tc dn si q) ∧
  (∀ q, b ≤ q → q < e → ¬ vs_q kd E p i q → si q = si0 q ∧ (kd q = 1 → dn (tx q).toNatClampNeg = dn0 (tx q).toNatClampNeg)) ∧
  (∀ q, b ≤ q → q < e → ¬ vs_q kd E p i q → ¬ pd_q (tk_f kd tx) (E p) i q → tc q = tc0 q)
theorem mi_0 {n b e p : Nat} {kd tx : Nat → Int32} {E : Nat → Nat} {tc0 dn0 si0 : Nat → Int32} (v : Int32) (hp : p < E p) : mi_I n b e kd tx E p p tc0 dn0 si0 (upd tc0 p v) dn0 si0 := by
  refine ⟨fun r h1 h2 => by omega, fun q h => ?_, fun q _ _ _ => ⟨rfl, fun _ => rfl⟩, fun q _ _ _ h => ?_⟩
  · have := h.1; have := h.2.1; omega
  · refine pk_un fun z => h ?_
    subst z
    exact ⟨Nat.le_refl _, hp, fun r h1 h2 => by omega⟩
theorem vs_s {kd : Nat → Int32} {E : Nat → Nat} {p i i' q : Nat} (hJ : ∀ r, p ≤ r → r < i → kd r = 4 → E r ≤ i) (hp : p ≤ i) (hi : i < i') (hz : ∀ q, i < q → q < i' → kd i = 4 ∧ i' ≤ E i) : vs_q kd E p i' q ↔ (vs_q kd E p i q ∨ q = i) := by
  constructor
  · intro h
    rcases Nat.lt_trichotomy q i with z | z | z
    · exact Or.inl ⟨h.1, z, h.2.2⟩
    · exact Or.inr z
    · have a := hz q z h.2.1
      have b := h.2.2 i hp z a.1
      have c := h.2.1
      omega
  · rintro (h | h)
    · exact ⟨h.1, by have := h.2.1; omega, h.2.2⟩
    · subst h
      exact ⟨hp, hi, hJ⟩
theorem mi_s {n b e p i i' : Nat} {kd tx : Nat → Int32} {E : Nat → Nat} {tc0 dn0 si0 tc dn si tc' dn' si' : Nat → Int32}
    (h : mi_I n b e kd tx E p i tc0 dn0 si0 tc dn si) (hb : b ≤ p) (hp : p ≤ i) (hi : i < i') (hie : i < e)
    (hz : ∀ q, i < q → q < i' → kd i = 4 ∧ i' ≤ E i) (hE : ∀ q, i < q → q < i' → ht_h (tk_f kd tx) i ≤ ht_h (tk_f kd tx) q)
    (hJ' : ∀ r, i ≤ r → r < i' → kd r = 4 → E r ≤ i')
    (hY : sy_q n kd tx tc' dn' si' i)
    (hS : ∀ q, b ≤ q → q < e → q ≠ i → si' q = si q ∧ (kd q = 1 → dn' (tx q).toNatClampNeg = dn (tx q).toNatClampNeg))
    (hT : ∀ q, ¬ pd_q (tk_f kd tx) (E p) i' q → tc' q = tc q) : mi_I n b e kd tx E p i' tc0 dn0 si0 tc' dn' si' := by
  obtain ⟨J, A, B, C⟩ := h
  have V : ∀ q, vs_q kd E p i' q ↔ (vs_q kd E p i q ∨ q = i) := fun q => vs_s J hp hi hz
  refine ⟨fun r h1 h2 h3 => ?_, fun q hq => ?_, fun q h1 h2 h3 => ?_, fun q h1 h2 h3 h4 => ?_⟩
  · rcases Nat.lt_or_ge r i with z | z
    · have := J r h1 z h3; omega
    · exact hJ' r z h2 h3
  · rcases (V q).mp hq with z | z
    · have z1 := z.1
      have z2 := z.2.1
      have a := A q z
      have s := hS q (by omega) (by omega) (by omega)
      have t := hT q (fun y => by have := y.1; omega)
      exact ⟨fun k => by rw [s.1, t]; exact a.1 k, fun k => by rw [s.2 k, t]; exact a.2.1 k, by rw [t]; exact a.2.2⟩
    · subst z; exact hY
  · have n1 : ¬ vs_q kd E p i q := fun y => h3 ((V q).mpr (Or.inl y))
    have n2 : q ≠ i := fun y => h3 ((V q).mpr (Or.inr y))
    have s := hS q h1 h2 n2
    have o := B q h1 h2 n1
    exact ⟨s.1.trans o.1, fun k => (s.2 k).trans (o.2 k)⟩
  · have n1 : ¬ vs_q kd E p i q := fun y => h3 ((V q).mpr (Or.inl y))
    have n2 : q ≠ i := fun y => h3 ((V q).mpr (Or.inr y))
    refine (hT q h4).trans (C q h1 h2 n1 fun y => ?_)
    have y1 := y.1
    rcases Nat.lt_or_ge q i' with z | z
    · have a := hE q (by omega) z
      have c := y.2.2 i (Nat.le_refl _) (by omega)
      omega
    · exact h4 ⟨z, y.2.1, fun r r1 r2 => y.2.2 r (by omega) r2⟩
theorem mi_e {n b e p : Nat} {kd tx : Nat → Int32} {E : Nat → Nat} {tc0 dn0 si0 tc dn si : Nat → Int32} (h : mi_I n b e kd tx E p (E p) tc0 dn0 si0 tc dn si) :
    (∀ q, b ≤ q → q < e → sy_q n kd tx tc0 dn0 si0 q → sy_q n kd tx tc dn si q) ∧ (∀ q, vs_q kd E p (E p) q → sy_q n kd tx tc dn si q) := by
  obtain ⟨J, A, B, C⟩ := h
  refine ⟨fun q h1 h2 h3 => ?_, A⟩
  by_cases z : vs_q kd E p (E p) q
  · exact A q z
  · have s := B q h1 h2 z
    have t := C q h1 h2 z (fun y => by have := y.1; have := y.2.1; omega)
    exact ⟨fun k => by rw [s.1, t]; exact h3.1 k, fun k => by rw [s.2 k, t]; exact h3.2.1 k, by rw [t]; exact h3.2.2⟩
/-- before a demand: tokens under no lazy token agree -/
def bs_I (n b e : Nat) (kd tx : Nat → Int32) (E : Nat → Nat) (tc dn si : Nat → Int32) : Prop := ∀ q, b ≤ q → q < e → (∀ r, b ≤ r → r < q → kd r = 4 → E r ≤ q) → sy_q n kd tx tc dn si q
/-- in a demand of the token w, about to look at i -/
def dm_I (n b e : Nat) (kd tx : Nat → Int32) (E : Nat → Nat) (w i : Nat) (tc dn si : Nat → Int32) : Prop := ∀ q, b ≤ q → q < e → (∀ r, b ≤ r → r < q → kd r = 4 → q < E r → r < i ∧ r < w ∧ w < E r) → sy_q n kd tx tc dn si q
theorem dm_0 {n b e w : Nat} {kd tx : Nat → Int32} {E : Nat → Nat} {tc dn si : Nat → Int32} (h : bs_I n b e kd tx E tc dn si) : dm_I n b e kd tx E w b tc dn si := by
  intro q h1 h2 h3
  refine h q h1 h2 fun r r1 r2 r3 => ?_
  rcases Nat.lt_or_ge q (E r) with z | z
  · have := (h3 r r1 r2 r3 z).1; omega
  · exact z
theorem dm_at {nT n b e w i : Nat} {kd tx ts ta : Nat → Int32} {E : Nat → Nat} {tc dn si : Nat → Int32} (cx : cx_ok nT b e kd tx ts ta E) (h : dm_I n b e kd tx E w i tc dn si)
    (h1 : b ≤ i) (h2 : i < w) (hw : w < e) (h4 : w < E i) : sy_q n kd tx tc dn si i := by
  refine h i h1 (by omega) fun r r1 r2 r3 r4 => ?_
  have a := cx.2.2 r r1 (by omega)
  have c := cx.2.2 i h1 (by omega)
  have d := ht_nest a.1 (by omega) r4 c.1
  exact ⟨r2, by omega, by omega⟩
theorem dm_s {n b e w i : Nat} {kd tx : Nat → Int32} {E : Nat → Nat} {tc dn si : Nat → Int32} (h : dm_I n b e kd tx E w i tc dn si) (hn : ¬ (kd i = 4 ∧ w < E i)) : dm_I n b e kd tx E w (i + 1) tc dn si := by
  intro q h1 h2 h3
  refine h q h1 h2 fun r r1 r2 r3 r4 => ?_
  have a := h3 r r1 r2 r3 r4
  have c : r ≠ i := fun z => by subst z; exact hn ⟨r3, a.2.2⟩
  exact ⟨by omega, a.2⟩
theorem dm_m {n b e w i : Nat} {kd tx : Nat → Int32} {E : Nat → Nat} {tc dn si tc' dn' si' : Nat → Int32} (h : dm_I n b e kd tx E w i tc dn si) (hbi : b ≤ i) (he : E (i + 1) = E i)
    (hp : ∀ q, b ≤ q → q < e → sy_q n kd tx tc dn si q → sy_q n kd tx tc' dn' si' q) (hv : ∀ q, vs_q kd E (i + 1) (E (i + 1)) q → sy_q n kd tx tc' dn' si' q) : dm_I n b e kd tx E w (i + 1) tc' dn' si' := by
  intro q h1 h2 h3
  by_cases z : i < q ∧ q < E i
  · refine hv q ⟨by omega, by omega, fun r r1 r2 r3 => ?_⟩
    rcases Nat.lt_or_ge q (E r) with y | y
    · have := h3 r (by omega) r2 r3 y
      omega
    · exact y
  · refine hp q h1 h2 (h q h1 h2 fun r r1 r2 r3 r4 => ?_)
    have a := h3 r r1 r2 r3 r4
    have c : r ≠ i := fun y => by subst y; exact z ⟨r2, r4⟩
    exact ⟨by omega, a.2⟩
theorem dm_e {n b e w : Nat} {kd tx : Nat → Int32} {E : Nat → Nat} {tc dn si : Nat → Int32} (h : dm_I n b e kd tx E w w tc dn si) (h1 : b ≤ w) (h2 : w < e) : sy_q n kd tx tc dn si w :=
  h w h1 h2 fun r _ r2 _ r4 => ⟨r2, r2, r4⟩
theorem bs_p {n b e : Nat} {kd tx : Nat → Int32} {E : Nat → Nat} {tc dn si tc' dn' si' : Nat → Int32} (h : bs_I n b e kd tx E tc dn si)
    (hp : ∀ q, b ≤ q → q < e → sy_q n kd tx tc dn si q → sy_q n kd tx tc' dn' si' q) : bs_I n b e kd tx E tc' dn' si' := fun q h1 h2 h3 => hp q h1 h2 (h q h1 h2 h3)
/-- while the arguments are matched, about to match the pattern at p -/
def ag_I (n b : Nat) (kd tx : Nat → Int32) (E : Nat → Nat) (p : Nat) (tc dn si : Nat → Int32) : Prop := ∀ q, b ≤ q → q < p → (∀ r, b ≤ r → r < q → kd r = 4 → E r ≤ q) → sy_q n kd tx tc dn si q
theorem ag_s {n b e p : Nat} {kd tx : Nat → Int32} {E : Nat → Nat} {tc dn si tc' dn' si' : Nat → Int32} (h : ag_I n b kd tx E p tc dn si) (hb : b ≤ p) (hpe : p ≤ e)
    (hp : ∀ q, b ≤ q → q < e → sy_q n kd tx tc dn si q → sy_q n kd tx tc' dn' si' q) (hv : ∀ q, vs_q kd E p (E p) q → sy_q n kd tx tc' dn' si' q) : ag_I n b kd tx E (E p) tc' dn' si' := by
  intro q h1 h2 h3
  rcases Nat.lt_or_ge q p with z | z
  · exact hp q h1 (by omega) (h q h1 z h3)
  · exact hv q ⟨z, h2, fun r r1 r2 r3 => h3 r (by omega) r2 r3⟩
end
section
/-! the program: what the relation keeps of it, and how each call of the builder keeps it -/
def vr_in (kd tx : Nat → Int32) (b e x : Nat) : Prop := ∃ q, b ≤ q ∧ q < e ∧ kd q = 1 ∧ tx q = nI x
/-- of clause c: its tokens are T c .. T (c + 1) - 1, its alternatives A c .. A (c + 1) - 1 -/
def pg_c (ar nT nA : Nat) (kd tx vt ft fa ca gv rh : Nat → Int32) (c t t' a a' : Nat) : Prop :=
  t ≤ t' ∧ t' ≤ nT ∧ a ≤ a' ∧ a' ≤ nA ∧ ft c = nI t ∧ fa c = nI a ∧ ca c = nI (a' - a) ∧ ht_h (tk_f kd tx) t = -((ar * c : Nat) : Int) ∧
  (∀ q, t ≤ q → q < t' → -((ar * (c + 1) : Nat) : Int) < ht_h (tk_f kd tx) q ∧ (kd q = 1 → vt (8 * c + (tx q).toNatClampNeg) = nI q)) ∧
  (∀ j, a ≤ j → j < a' → (gv j = -1 ∨ ∃ x, x < 8 ∧ gv j = nI x ∧ vr_in kd tx t t' x) ∧ ∃ r, r ≤ 11 ∧ rh j = nI r ∧ (r < 8 → vr_in kd tx t t' r))
def pg_t (kd tx ts : Nat → Int32) (q : Nat) : Prop := (∃ k, k ≤ 4 ∧ kd q = nI k) ∧ ((kd q = 1 ∨ kd q = 2) → ∃ x, x < 8 ∧ tx q = nI x) ∧ ts q = nI (tk_f kd tx q)
def pg_ok (ar nC nT nA : Nat) (kd tx ts vt ft fa ca gv rh : Nat → Int32) (T A : Nat → Nat) : Prop :=
  nC ≤ 8 ∧ nT ≤ 64 ∧ nA ≤ 16 ∧ T 0 = 0 ∧ A 0 = 0 ∧ T nC = nT ∧ A nC = nA ∧ (∀ q, q < nT → pg_t kd tx ts q) ∧
  ∀ c, c < nC → pg_c ar nT nA kd tx vt ft fa ca gv rh c (T c) (T (c + 1)) (A c) (A (c + 1))
/-- of the clause that is being written, begun at token t -/
def pb_ok (ar c t nT dn op : Nat) (bd : Int32) (kd tx : Nat → Int32) : Prop :=
  dn ≤ ar ∧ (op = 0 ∨ dn < ar) ∧ op ≤ nT + 1 ∧ ht_h (tk_f kd tx) nT = -((ar * c : Nat) : Int) - dn + (if op = 0 then 0 else (op : Int) - 1) ∧ ∀ x, x < 8 → (bt bd x = true ↔ vr_in kd tx t nT x)
theorem pg_h {kd tx : Nat → Int32} {nT q : Nat} {k x : Int32} (hq : q ≤ nT) : ht_h (tk_f (upd kd nT k) (upd tx nT x)) q = ht_h (tk_f kd tx) q :=
  ht_cong (fun r hr => by unfold tk_f; rw [pk_un (by omega), pk_un (by omega)])
theorem pg_hn {kd tx : Nat → Int32} {nT : Nat} {k x : Int32} : ht_h (tk_f (upd kd nT k) (upd tx nT x)) (nT + 1) = ht_h (tk_f kd tx) nT + (tk_s k x : Int) - 1 := by
  rw [ht_s, pg_h (Nat.le_refl _)]
  unfold tk_f
  rw [pk_us, pk_us]
theorem vr_k {kd tx : Nat → Int32} {nT b e x : Nat} {k v : Int32} (he : e ≤ nT) : vr_in (upd kd nT k) (upd tx nT v) b e x ↔ vr_in kd tx b e x := by
  constructor
  · rintro ⟨q, h1, h2, h3, h4⟩
    rw [pk_un (by omega)] at h3 h4
    exact ⟨q, h1, h2, h3, h4⟩
  · rintro ⟨q, h1, h2, h3, h4⟩
    exact ⟨q, h1, h2, by rw [pk_un (by omega)]; exact h3, by rw [pk_un (by omega)]; exact h4⟩
theorem vr_n {kd tx : Nat → Int32} {nT b x : Nat} {k v : Int32} (hb : b ≤ nT) : vr_in (upd kd nT k) (upd tx nT v) b (nT + 1) x ↔ (vr_in kd tx b nT x ∨ (k = 1 ∧ v = nI x)) := by
  constructor
  · rintro ⟨q, h1, h2, h3, h4⟩
    by_cases e : q = nT
    · subst e
      rw [pk_us] at h3 h4
      exact Or.inr ⟨h3, h4⟩
    · rw [pk_un e] at h3 h4
      exact Or.inl ⟨q, h1, by omega, h3, h4⟩
  · rintro (⟨q, h1, h2, h3, h4⟩ | ⟨h3, h4⟩)
    · exact ⟨q, h1, by omega, by rw [pk_un (by omega)]; exact h3, by rw [pk_un (by omega)]; exact h4⟩
    · exact ⟨nT, hb, by omega, by rw [pk_us]; exact h3, by rw [pk_us]; exact h4⟩
def pg_u (f : Nat → Nat) (k v j : Nat) : Nat := if j = k then v else f j
theorem pg_us {f : Nat → Nat} {k v : Nat} : pg_u f k v k = v := if_pos rfl
theorem pg_un {f : Nat → Nat} {k v j : Nat} (h : j ≠ k) : pg_u f k v j = f j := if_neg h
theorem pg_0 {ar : Nat} {kd tx ts vt ft fa ca gv rh : Nat → Int32} : pg_ok ar 0 0 0 kd tx ts vt ft fa ca gv rh (fun _ => 0) (fun _ => 0) :=
  ⟨by omega, by omega, by omega, rfl, rfl, rfl, rfl, fun q h => by omega, fun c h => by omega⟩
theorem pg_up {ar nT nT' nA nA' c t t' a a' : Nat} {kd tx vt ft fa ca gv rh : Nat → Int32} (h : pg_c ar nT nA kd tx vt ft fa ca gv rh c t t' a a') (h1 : nT ≤ nT') (h2 : nA ≤ nA') : pg_c ar nT' nA' kd tx vt ft fa ca gv rh c t t' a a' := by
  obtain ⟨a1, a2, a3, a4, r⟩ := h
  exact ⟨a1, by omega, a3, by omega, r⟩
/-- clause() -/
theorem pg_cl {ar nC nT nA : Nat} {kd tx ts vt ft fa ca gv rh : Nat → Int32} {T A : Nat → Nat} (h : pg_ok ar nC nT nA kd tx ts vt ft fa ca gv rh T A) (hC : nC < 8) (hh : ht_h (tk_f kd tx) nT = -((ar * nC : Nat) : Int)) :
    pg_ok ar (nC + 1) nT nA kd tx ts vt (upd ft nC (nI nT)) (upd fa nC (nI nA)) (upd ca nC 0) gv rh (pg_u T (nC + 1) nT) (pg_u A (nC + 1) nA) := by
  obtain ⟨h1, h2, h3, h4, h5, h6, h7, h8, h9⟩ := h
  refine ⟨by omega, h2, h3, by rw [pg_un (by omega)]; exact h4, by rw [pg_un (by omega)]; exact h5, pg_us, pg_us, h8, fun c hc => ?_⟩
  rw [pg_un (show c ≠ nC + 1 by omega), pg_un (show c ≠ nC + 1 by omega)]
  by_cases e : c = nC
  · subst e
    rw [pg_us, pg_us, h6, h7]
    refine ⟨Nat.le_refl _, Nat.le_refl _, Nat.le_refl _, Nat.le_refl _, pk_us, pk_us, ?_, hh, fun q q1 q2 => by omega, fun j j1 j2 => by omega⟩
    rw [pk_us, Nat.sub_self]; rfl
  · rw [pg_un (show c + 1 ≠ nC + 1 by omega), pg_un (show c + 1 ≠ nC + 1 by omega)]
    obtain ⟨a1, a2, a3, a4, a5, a6, a7, r⟩ := h9 c (by omega)
    exact ⟨a1, a2, a3, a4, by rw [pk_un e]; exact a5, by rw [pk_un e]; exact a6, by rw [pk_un e]; exact a7, r⟩
/-- pat(k, x) -/
theorem pg_pat {ar c nT nA : Nat} {kd tx ts vt vt' ft fa ca gv rh : Nat → Int32} {T A : Nat → Nat} {k x : Int32} (h : pg_ok ar (c + 1) nT nA kd tx ts vt ft fa ca gv rh T A) (hT : nT < 64)
    (hk : ∃ j, j ≤ 4 ∧ k = nI j) (hx : (k = 1 ∨ k = 2) → ∃ y, y < 8 ∧ x = nI y) (hh : -((ar * (c + 1) : Nat) : Int) < ht_h (tk_f kd tx) nT)
    (hv : (k ≠ 1 ∧ vt' = vt) ∨ (k = 1 ∧ vt' = upd vt (8 * c + x.toNatClampNeg) (nI nT) ∧ ∀ y, y < 8 → x = nI y → ¬ vr_in kd tx (T c) nT y)) :
    pg_ok ar (c + 1) (nT + 1) nA (upd kd nT k) (upd tx nT x) (upd ts nT (nI (tk_s k x))) vt' ft fa ca gv rh (pg_u T (c + 1) (nT + 1)) A := by
  obtain ⟨h1, h2, h3, h4, h5, h6, h7, h8, h9⟩ := h
  refine ⟨h1, by omega, h3, by rw [pg_un (by omega)]; exact h4, h5, pg_us, h7, fun q hq => ?_, fun d hd => ?_⟩
  · by_cases e : q = nT
    · subst e
      unfold pg_t tk_f
      rw [pk_us, pk_us, pk_us]
      exact ⟨hk, hx, rfl⟩
    · have o := h8 q (by omega)
      unfold pg_t tk_f at o ⊢
      rw [pk_un e, pk_un e, pk_un e]
      exact o
  · have o := h9 d hd
    rw [pg_un (show d ≠ c + 1 by omega)]
    -- the variable places of the elder tokens stay
    have V : ∀ q, T d ≤ q → q < T (d + 1) → kd q = 1 → vt' (8 * d + (tx q).toNatClampNeg) = nI q := by
      intro q q1 q2 q3
      have p := (o.2.2.2.2.2.2.2.2.1 q q1 q2).2 q3
      rcases hv with ⟨_, e⟩ | ⟨e1, e2, e3⟩
      · rw [e]; exact p
      · obtain ⟨z, z1, z2⟩ := (h8 q (by have := o.2.1; omega)).2.1 (Or.inl q3)
        obtain ⟨y, y1, y2⟩ := hx (Or.inl e1)
        rw [e2, pk_un]
        · exact p
        · rw [z2, y2, nI_clamp (by omega), nI_clamp (by omega)]
          intro w
          by_cases f : d = c
          · subst f
            have : z = y := by omega
            subst this
            exact e3 z z1 y2 ⟨q, q1, by have := o.2.1; omega, q3, z2⟩
          · omega
    obtain ⟨a1, a2, a3, a4, a5, a6, a7, a8, a9, a10⟩ := o
    by_cases e : d = c
    · subst e
      rw [pg_us]
      rw [h6] at a1 V a9 a10
      refine ⟨by omega, by omega, a3, a4, a5, a6, a7, by rw [pg_h a1]; exact a8, fun q q1 q2 => ?_, fun j j1 j2 => ?_⟩
      · by_cases f : q = nT
        · subst f
          rw [pg_h (Nat.le_refl _), pk_us, pk_us]
          refine ⟨hh, fun g => ?_⟩
          rcases hv with ⟨e1, _⟩ | ⟨_, e2, _⟩
          · exact absurd g e1
          · rw [e2, pk_us]
        · rw [pg_h (by omega), pk_un f, pk_un f]
          exact ⟨(a9 q q1 (by omega)).1, V q q1 (by omega)⟩
      · obtain ⟨b1, r, r1, r2, r3⟩ := a10 j j1 j2
        refine ⟨?_, r, r1, r2, fun g => (vr_n a1).mpr (Or.inl (r3 g))⟩
        rcases b1 with b1 | ⟨y, y1, y2, y3⟩
        · exact Or.inl b1
        · exact Or.inr ⟨y, y1, y2, (vr_n a1).mpr (Or.inl y3)⟩
    · rw [pg_un (show d + 1 ≠ c + 1 by omega)]
      refine ⟨a1, by omega, a3, a4, a5, a6, a7, by rw [pg_h (by omega)]; exact a8, fun q q1 q2 => ?_, fun j j1 j2 => ?_⟩
      · rw [pg_h (by omega), pk_un (by omega), pk_un (by omega)]
        exact ⟨(a9 q q1 q2).1, V q q1 q2⟩
      · obtain ⟨b1, r, r1, r2, r3⟩ := a10 j j1 j2
        refine ⟨?_, r, r1, r2, fun g => (vr_k a2).mpr (r3 g)⟩
        rcases b1 with b1 | ⟨y, y1, y2, y3⟩
        · exact Or.inl b1
        · exact Or.inr ⟨y, y1, y2, (vr_k a2).mpr y3⟩
/-- the clause that is being written, after pat(k, x) -/
theorem pb_pat {ar c t nT dn op : Nat} {bd bd' : Int32} {kd tx : Nat → Int32} {k x : Int32} (h : pb_ok ar c t nT dn op bd kd tx) (ht : t ≤ nT) (hd : dn < ar)
    (hb : ∀ y, y < 8 → (bt bd' y = true ↔ (bt bd y = true ∨ (k = 1 ∧ x = nI y)))) :
    pb_ok ar c t (nT + 1) (if (if op = 0 then 1 else op) - 1 + tk_s k x = 0 then dn + 1 else dn) ((if op = 0 then 1 else op) - 1 + tk_s k x) bd' (upd kd nT k) (upd tx nT x) ∧ -((ar * (c + 1) : Nat) : Int) < ht_h (tk_f kd tx) nT := by
  obtain ⟨h1, h2, h3, h4, h5⟩ := h
  have s2 := tk_s2 k x
  have m : ar * (c + 1) = ar * c + ar := Nat.mul_succ ar c
  have hb' : ∀ y, y < 8 → (bt bd' y = true ↔ vr_in (upd kd nT k) (upd tx nT x) t (nT + 1) y) := fun y hy => by
    rw [vr_n ht, hb y hy, h5 y hy]
  generalize hs : tk_s k x = s at *
  refine ⟨⟨?_, ?_, ?_, ?_, hb'⟩, ?_⟩
  · by_cases e : op = 0
    · rw [if_pos e]
      split <;> omega
    · rw [if_neg e]
      split <;> omega
  · by_cases e : op = 0
    · rw [if_pos e]
      split <;> omega
    · rw [if_neg e]
      split <;> omega
  · by_cases e : op = 0
    · rw [if_pos e]; omega
    · rw [if_neg e]; omega
  · rw [pg_hn, h4, hs]
    by_cases e : op = 0
    · rw [if_pos e, if_pos e]
      by_cases z : s = 0
      · rw [if_pos (by omega), if_pos (by omega)]; omega
      · rw [if_neg (by omega), if_neg (by omega)]; omega
    · rw [if_neg e, if_neg e]
      by_cases z : op - 1 + s = 0
      · rw [if_pos z, if_pos z]; omega
      · rw [if_neg z, if_neg z]; omega
  · rw [m, h4]
    split <;> omega
/-- alt(g, w, r) -/
theorem pg_alt {ar c nT nA : Nat} {kd tx ts vt ft fa ca gv rh : Nat → Int32} {T A : Nat → Nat} {g r : Int32} (h : pg_ok ar (c + 1) nT nA kd tx ts vt ft fa ca gv rh T A) (hA : nA < 16)
    (hg : g = -1 ∨ ∃ x, x < 8 ∧ g = nI x ∧ vr_in kd tx (T c) nT x) (hr : ∃ y, y ≤ 11 ∧ r = nI y ∧ (y < 8 → vr_in kd tx (T c) nT y)) :
    pg_ok ar (c + 1) nT (nA + 1) kd tx ts vt ft fa (upd ca c (ca c + 1)) (upd gv nA g) (upd rh nA r) T (pg_u A (c + 1) (nA + 1)) := by
  obtain ⟨h1, h2, h3, h4, h5, h6, h7, h8, h9⟩ := h
  refine ⟨h1, h2, by omega, h4, by rw [pg_un (by omega)]; exact h5, h6, pg_us, h8, fun d hd => ?_⟩
  obtain ⟨a1, a2, a3, a4, a5, a6, a7, a8, a9, a10⟩ := h9 d hd
  rw [pg_un (show d ≠ c + 1 by omega)]
  by_cases e : d = c
  · subst e
    rw [pg_us]
    rw [h7] at a3 a4 a7 a10
    refine ⟨a1, a2, by omega, by omega, a5, a6, ?_, a8, a9, fun j j1 j2 => ?_⟩
    · rw [pk_us, a7, nI_1]
      exact congrArg nI (by omega)
    · by_cases f : j = nA
      · subst f
        rw [pk_us, pk_us, h6]
        exact ⟨hg, hr⟩
      · rw [pk_un f, pk_un f]
        exact a10 j j1 (by omega)
  · rw [pg_un (show d + 1 ≠ c + 1 by omega)]
    refine ⟨a1, a2, a3, by omega, a5, a6, by rw [pk_un e]; exact a7, a8, a9, fun j j1 j2 => ?_⟩
    rw [pk_un (by omega), pk_un (by omega)]
    exact a10 j j1 j2
/-- the program is whole: every clause ends where its heights say, and every token's pattern has its end there -/
def pe_ok (ar nC : Nat) (kd tx : Nat → Int32) (T : Nat → Nat) : Prop := ∀ c, c ≤ nC → ht_h (tk_f kd tx) (T c) = -((ar * c : Nat) : Int)
theorem pe_mk {ar c nT nA dn op : Nat} {bd : Int32} {kd tx ts vt ft fa ca gv rh : Nat → Int32} {T A : Nat → Nat} (h : pg_ok ar (c + 1) nT nA kd tx ts vt ft fa ca gv rh T A) (hb : pb_ok ar c (T c) nT dn op bd kd tx) (h1 : dn = ar) (h2 : op = 0) : pe_ok ar (c + 1) kd tx T := by
  intro d hd
  by_cases e : d = c + 1
  · subst e
    rw [h.2.2.2.2.2.1, hb.2.2.2.1, if_pos h2, h1, Nat.mul_succ]
    omega
  · exact (h.2.2.2.2.2.2.2.2 d (by omega)).2.2.2.2.2.2.2.1
/-- which clause a token is of -/
theorem pg_of {nC nT : Nat} {T : Nat → Nat} (h0 : T 0 = 0) (hn : T nC = nT) {q : Nat} (hq : q < nT) : ∃ c, c < nC ∧ T c ≤ q ∧ q < T (c + 1) := by
  subst hn
  induction nC with
  | zero => omega
  | succ n ih =>
    rcases Nat.lt_or_ge q (T n) with z | z
    · obtain ⟨c, h1, h2⟩ := ih z
      exact ⟨c, by omega, h2⟩
    · exact ⟨n, by omega, z, hq⟩
theorem pe_end {ar nC nT nA : Nat} {kd tx ts vt ft fa ca gv rh : Nat → Int32} {T A : Nat → Nat} (h : pg_ok ar nC nT nA kd tx ts vt ft fa ca gv rh T A) (he : pe_ok ar nC kd tx T) {c q : Nat} (hc : c < nC) (h1 : T c ≤ q) (h2 : q < T (c + 1)) :
    ∃ e, e ≤ T (c + 1) ∧ ht_E (tk_f kd tx) q e := by
  have o := h.2.2.2.2.2.2.2.2 c hc
  have a := (o.2.2.2.2.2.2.2.2.1 q h1 h2).1
  have b := he (c + 1) (by omega)
  exact ht_ex h2 (by omega)
theorem pe_any {ar nC nT nA : Nat} {kd tx ts vt ft fa ca gv rh : Nat → Int32} {T A : Nat → Nat} (h : pg_ok ar nC nT nA kd tx ts vt ft fa ca gv rh T A) (he : pe_ok ar nC kd tx T) {q : Nat} (hq : q < nT) :
    ∃ e, e ≤ nT ∧ ht_E (tk_f kd tx) q e := by
  obtain ⟨c, c1, c2, c3⟩ := pg_of h.2.2.2.1 h.2.2.2.2.2.1 hq
  obtain ⟨e, e1, e2⟩ := pe_end h he c1 c2 c3
  exact ⟨e, by have := (h.2.2.2.2.2.2.2.2 c c1).2.1; omega, e2⟩
/-- the static facts of a clause of a compiled program -/
theorem pg_cx {ar nC nT nA : Nat} {kd tx ts ta vt ft fa ca gv rh : Nat → Int32} {T A E : Nat → Nat} (h : pg_ok ar nC nT nA kd tx ts vt ft fa ca gv rh T A) (he : pe_ok ar nC kd tx T)
    (hE : ∀ q, q < nT → ta q = nI (E q) ∧ ht_E (tk_f kd tx) q (E q)) {c : Nat} (hc : c < nC) : cx_ok nT (T c) (T (c + 1)) kd tx ts ta E := by
  have o := h.2.2.2.2.2.2.2.2 c hc
  have o2 := o.2.1
  refine ⟨h.2.1, o2, fun q q1 q2 => ?_⟩
  have t := h.2.2.2.2.2.2.2.1 q (by omega)
  obtain ⟨e, e1, e2⟩ := pe_end h he hc q1 q2
  have f := hE q (by omega)
  have g := ht_uniq e2 f.2
  refine ⟨f.2, by omega, f.1, t.2.2, t.1, t.2.1, fun k q' r1 r2 r3 r4 => ?_⟩
  have a := (o.2.2.2.2.2.2.2.2.1 q q1 q2).2 k
  have b := (o.2.2.2.2.2.2.2.2.1 q' r1 r2).2 r3
  rw [r4, a] at b
  have h64 := h.2.1
  exact ((nI_eq (by omega) (by omega)).mp b).symm
/-- the arguments' patterns: the i-th starts at p -/
theorem pa_lt {ar nC nT nA : Nat} {kd tx ts vt ft fa ca gv rh : Nat → Int32} {T A : Nat → Nat} (h : pg_ok ar nC nT nA kd tx ts vt ft fa ca gv rh T A) (he : pe_ok ar nC kd tx T) {c p i : Nat} (hc : c < nC) (h2 : p ≤ T (c + 1))
    (hp : ht_h (tk_f kd tx) p = -((ar * c : Nat) : Int) - i) (hi : i < ar) : p < T (c + 1) := by
  have b := he (c + 1) (by omega)
  rcases Nat.lt_or_ge p (T (c + 1)) with z | z
  · exact z
  · have : p = T (c + 1) := by omega
    subst this
    rw [Nat.mul_succ] at b
    omega
theorem pa_end {ar nC nT nA : Nat} {kd tx ts vt ft fa ca gv rh : Nat → Int32} {T A : Nat → Nat} (h : pg_ok ar nC nT nA kd tx ts vt ft fa ca gv rh T A) {c p : Nat} (hc : c < nC) (h1 : T c ≤ p) (h2 : p ≤ T (c + 1))
    (hp : ht_h (tk_f kd tx) p = -((ar * c : Nat) : Int) - ar) : p = T (c + 1) := by
  rcases Nat.lt_or_ge p (T (c + 1)) with z | z
  · have a := ((h.2.2.2.2.2.2.2.2 c hc).2.2.2.2.2.2.2.2.1 p h1 z).1
    rw [Nat.mul_succ] at a
    omega
  · omega
end
section
/-! FORCE in lockstep -/
theorem nb_0 : vp_nar .boolean 0 = 0 := rfl
theorem nb_1 : vp_nar .boolean 1 = 1 := rfl
section
variable {ar cap n nT nA nC cp dn op : Nat} {bd lk lc la lt le : Int32} {kd tx ts ta gv gt rh ft fa ca vt ag : Nat → Int32}
/-- the component's second loop: the log's entries from l0 take d's value -/
theorem fx_2 {post : Int32 → St2 → Prop} {l0 l d : Nat} {st tg f0 f1 tc lg : Nat → Int32} (hd : d < 32) (hl : l ≤ 32) (hg : ∀ j, l0 + j < l → ∃ e, e < 32 ∧ lg (l0 + j) = nI e) :
    ∀ (k m N : Nat), l0 + m + k = l → k < N →
      post 1 ((nI ar), (nI cap), (nI n), (nI nT), (nI nA), (nI nC), (nI cp), (nI dn), (nI op), bd, (nI l), lk, lc, la, lt, le, (fw_a (fun j => lg (l0 + j)) 0 st (m + k)), (fw_a (fun j => lg (l0 + j)) (tg d) tg (m + k)), (fw_a (fun j => lg (l0 + j)) (f0 d) f0 (m + k)), (fw_a (fun j => lg (l0 + j)) (f1 d) f1 (m + k)), kd, tx, ts, ta, gv, gt, rh, ft, fa, ca, vt, ag, tc, lg) →
      wX_force_134 post (nI d) (nI ar) (nI cap) (nI n) (nI nT) (nI nA) (nI nC) (nI cp) (nI dn) (nI op) bd (nI l) lk lc la lt le N (nI (l0 + m)) (fw_a (fun j => lg (l0 + j)) 0 st m) (fw_a (fun j => lg (l0 + j)) (tg d) tg m) (fw_a (fun j => lg (l0 + j)) (f0 d) f0 m) (fw_a (fun j => lg (l0 + j)) (f1 d) f1 m) kd tx ts ta gv gt rh ft fa ca vt ag tc lg := by
  intro k
  induction k with
  | zero =>
    intro m N h1 h2 hp
    obtain ⟨N, rfl⟩ : ∃ N', N = N' + 1 := ⟨N - 1, by omega⟩
    rw [wX_force_134]
    exact br_t (nI_le (by omega) (by omega)) hp
  | succ k ih =>
    intro m N h1 h2 hp
    obtain ⟨N, rfl⟩ : ∃ N', N = N' + 1 := ⟨N - 1, by omega⟩
    obtain ⟨e, he, hge⟩ := hg m (by omega)
    have c1 : (nI (l0 + m)).toNatClampNeg = l0 + m := nI_clamp (by omega)
    have c2 : (nI d).toNatClampNeg = d := nI_clamp (by omega)
    have v1 : vp_in (nI (l0 + m)) 32 := vp_in_nI (by omega) (by omega)
    have v2 : vp_in (nI d) 32 := vp_in_nI hd (by omega)
    have v3 : vp_in (nI e) 32 := vp_in_nI he (by omega)
    have s1 : ∀ (v : Int32) (a : Nat → Int32), upd (fw_a (fun j => lg (l0 + j)) v a m) (nI e).toNatClampNeg v = fw_a (fun j => lg (l0 + j)) v a (m + 1) := fun v a => by
      rw [fw_s]
      show _ = upd _ (lg (l0 + m)).toNatClampNeg v
      rw [hge]
    have s2 : ∀ a : Nat → Int32, upd (fw_a (fun j => lg (l0 + j)) (a d) a m) (nI e).toNatClampNeg ((fw_a (fun j => lg (l0 + j)) (a d) a m) (nI d).toNatClampNeg) = fw_a (fun j => lg (l0 + j)) (a d) a (m + 1) := fun a => by
      rw [c2, fw_self, s1]
    rw [wX_force_134]
    refine br_f (nI_ge (by omega) (by omega)) ⟨v1, nm_r (e' := nI e) (by rw [c1]; exact hge) ⟨v3, nm_r (s1 0 st) ⟨v2, v3, nm_r (s2 tg) ⟨v2, v3, nm_r (s2 f0) ⟨v2, v3, nm_r (s2 f1) (nm_r (nI_1 (l0 + m)) ?_)⟩⟩⟩⟩⟩
    exact ih (m + 1) N (by omega) (by omega) (by rw [show m + 1 + k = m + (k + 1) by omega]; exact hp)
end
end
section
/-! FORCE in lockstep: the walk along the indirections -/
def fi_I (n c l0 m d : Nat) (w : Int64) (st mk ch lg : Nat → Int32) : Prop :=
  d < n ∧ l0 + m + cu_n (hp_u st mk) n ≤ 32 ∧ (∀ i, i < m → ch i = lg (l0 + i) ∧ ∃ e, e < n ∧ ch i = nI e) ∧ (∀ j, mk j ≠ 0 → ∃ i, i < m ∧ ch i = nI j ∧ j < n) ∧ (c = d ∨ ∃ i, i < m ∧ ch i = nI c) ∧ (∀ j, j < 32 → (bl w j = false ↔ mk j = 0))
def fo_ok (n c e l : Nat) (st tg f0 f1 : Nat → Int32) : Prop := hp_ok n st tg f0 f1 ∧ l ≤ 32 ∧ (e = 0 ∨ e = 2 ∨ e = 3) ∧ (e = 0 → st c = 0 ∧ l + cu_n (hp_u st (fun _ => 0)) n ≤ 32)
def fo_k (e : Nat) (lk : Int32) : Int32 := if e = 0 then lk else nI e
def fo_r (e : Nat) : Int32 := if e = 0 then 1 else 0
theorem fi_mk {n m : Nat} {mk ch : Nat → Int32} (hn : n ≤ 32) (h : ∀ j, mk j ≠ 0 → ∃ i, i < m ∧ ch i = nI j ∧ j < n) : fw_a ch 0 mk m = fun _ => 0 := by
  funext j
  rcases fw_dec ch j m with ⟨i, hi, z⟩ | k
  · have e1 := fw_in (g := ch) (v := 0) (a := mk) hi
    rw [z] at e1; exact e1
  · rw [fw_out k]
    by_cases e : mk j = 0
    · exact e
    · obtain ⟨i, h1, h2, h3⟩ := h j e
      exact absurd (by rw [h2]; exact nI_clamp (by omega)) (k i h1)
theorem fi_st {n c m d : Nat} {st ch : Nat → Int32} (hn : n ≤ 32) (hc : c < n) (h : c = d ∨ ∃ i, i < m ∧ ch i = nI c) (h0 : st d = 0) : fw_a ch 0 st m c = 0 := by
  rcases h with h | ⟨i, h1, h2⟩
  · subst h
    have := fw_self (g := ch) (a := st) (d := c) m
    rw [h0] at this; exact this
  · have e1 := fw_in (g := ch) (v := 0) (a := st) h1
    rw [h2, nI_clamp (by omega)] at e1; exact e1
section
variable {ar cap n nT nA nC cp dn op : Nat} {bd lk lc la lt le : Int32} {kd tx ts ta gv gt rh ft fa ca vt ag : Nat → Int32}
/-- what both sides do from here on: one outcome -/
def fc_P (ar cap n nT nA nC cp dn op : Nat) (bd lk lc la lt le : Int32) (kd tx ts ta gv gt rh ft fa ca vt ag st tg f0 f1 tc de si sP sV : Nat → Int32) (c l0 m d : Nat) (w : Int64) (mk ch lg : Nat → Int32) (F : Nat) : Prop :=
  ∃ (e l' : Nat) (st' tg' f0' f1' lg' ch' : Nat → Int32), fo_ok n c e l' st' tg' f0' f1' ∧
   (∀ (post : Int32 → St2 → Prop) (N : Nat), F ≤ N → post (fo_r e) ((nI ar), (nI cap), (nI n), (nI nT), (nI nA), (nI nC), (nI cp), (nI dn), (nI op), bd, (nI l'), (fo_k e lk), lc, la, lt, le, st', tg', f0', f1', kd, tx, ts, ta, gv, gt, rh, ft, fa, ca, vt, ag, tc, lg') → wX_force_13 post (nI l0) (nI ar) (nI cap) (nI n) (nI nT) (nI nA) (nI nC) (nI cp) (nI dn) (nI op) bd lk lc la lt le N w (nI d) (nI m) (nI (l0 + m)) st tg f0 f1 kd tx ts ta gv gt rh ft fa ca vt ag tc lg)
theorem fc_base {st tg f0 f1 tc de si sP sV mk ch lg : Nat → Int32} {c l0 m d : Nat} {w : Int64} (hn : n ≤ 32) (hok : hp_ok n st tg f0 f1) (hcn : c < n) (h : fi_I n c l0 m d w st mk ch lg) (hb : ¬ (st d = 2 ∧ mk d = 0)) :
    fc_P ar cap n nT nA nC cp dn op bd lk lc la lt le kd tx ts ta gv gt rh ft fa ca vt ag st tg f0 f1 tc de si sP sV c l0 m d w mk ch lg 3 := by
  obtain ⟨hd, hl, hch, hmk, hcd, hbw⟩ := h
  obtain ⟨s, hs, es⟩ := (hok d hd).1
  have c1 : (nI d).toNatClampNeg = d := nI_clamp (by omega)
  have c2 : (nI (l0 + m)).toNatClampNeg = l0 + m := nI_clamp (by omega)
  have v1 : vp_in (nI d) 32 := vp_in_nI (by omega) (by omega)
  have x6 : ¬ (32 : Int32) < nI m := nI_nlt (a := 32) (b := m) (by omega) (by omega)
  have p0 : ¬ nI d < 0 := nI_pos (by omega)
  have pn : nI d < nI n := nI_lt hd (by omega)
  have hg : ∀ j, j < m → ∃ e, e < n ∧ ch j = nI e := fun j hj => (hch j hj).2
  by_cases h0 : st d = 0
  · -- a VALUE
    have gc : ∀ (v : Int32) (a : Nat → Int32), fw_a (fun j => lg (l0 + j)) v a m = fw_a ch v a m := fun v a => fw_cong (fun i hi => (hch i hi).1.symm)
    have e0 : st (nI d).toNatClampNeg = 0 := by rw [c1]; exact h0
    refine ⟨0, l0 + m, fw_a ch 0 st m, fw_a ch (tg d) tg m, fw_a ch (f0 d) f0 m, fw_a ch (f1 d) f1 m, lg, ch, ⟨fw_ok hok hd h0, by omega, Or.inl rfl, fun _ => ⟨fi_st hn hcn hcd h0, ?_⟩⟩, fun post N hN hp => ?_⟩
    · have := fw_cnt (n := n) (m := m) (g := ch) (st := st) (mk := mk) (fun j hj h => by
        obtain ⟨i, i1, i2, i3⟩ := hmk j h
        exact ⟨i, i1, by rw [i2]; exact nI_clamp (by omega)⟩)
      omega
    · obtain ⟨N, rfl⟩ : ∃ N', N = N' + 1 := ⟨N - 1, by omega⟩
      rw [wX_force_13]
      refine br_f x6 ⟨v1, br_t e0 ⟨m + 1, fx_2 (by omega) (by omega) (fun j hj => ?_) m 0 (m + 1) (by omega) (by omega) ?_⟩⟩
      · obtain ⟨e, e1, e2⟩ := hg j (by omega)
        exact ⟨e, by omega, by rw [← (hch j (by omega)).1]; exact e2⟩
      · rw [Nat.zero_add, gc, gc, gc, gc]
        exact hp
  · have n0 : ¬ st (nI d).toNatClampNeg = 0 := by rw [c1]; exact h0
    by_cases hm : mk d = 0
    · have cp := cu_pos (p := hp_u st mk) hd (decide_eq_true ⟨h0, hm⟩)
      have b0 : ((w >>> ((nI d).toInt64 &&& 63)) &&& 1) = 0 := (bl_iff (by omega)).mpr ((hbw d (by omega)).mpr hm)
      have m0 : mk (nI d).toNatClampNeg = 0 := by rw [c1]; exact hm
      have vL : vp_in (nI (l0 + m)) 32 := vp_in_nI (by omega) (by omega)
      have nL : ¬ (32 : Int32) ≤ nI (l0 + m) := nI_ge (b := 32) (by omega) (by omega)
      have eL : upd lg (nI (l0 + m)).toNatClampNeg (nI d) = upd lg (l0 + m) (nI d) := by rw [c2]
      by_cases h3 : st d = 3
      · -- a BOTTOM
        have e3 : st (nI d).toNatClampNeg = 3 := by rw [c1]; exact h3
        have n1 : ¬ st (nI d).toNatClampNeg = 1 := by rw [e3]; decide
        refine ⟨2, l0 + m + 1, st, tg, f0, f1, upd lg (l0 + m) (nI d), ch, ⟨hok, by omega, Or.inr (Or.inl rfl), fun z => absurd z (by decide)⟩, fun post N hN hp => ?_⟩
        · obtain ⟨N, rfl⟩ : ∃ N', N = N' + 1 := ⟨N - 1, by omega⟩
          rw [wX_force_13]
          exact br_f x6 ⟨v1, br_f n0 (br_t b0 ⟨vL, nm_r eL (nm_r (nI_1 (l0 + m)) ⟨v1, br_t e3 hp⟩)⟩)⟩
      · have h1 : st d = 1 := by
          have : s = 0 ∨ s = 1 ∨ s = 2 ∨ s = 3 := by omega
          rcases this with z | z | z | z
          · subst z; exact absurd es h0
          · subst z; exact es
          · subst z; exact absurd ⟨es, hm⟩ hb
          · subst z; exact absurd es h3
        -- a THUNK
        have e1 : st (nI d).toNatClampNeg = 1 := by rw [c1]; exact h1
        have n3 : ¬ st (nI d).toNatClampNeg = 3 := by rw [e1]; decide
        have eS : upd st (nI d).toNatClampNeg 0 = upd st d 0 := by rw [c1]
        have hok1 : hp_ok n (upd st d 0) tg f0 f1 := by
          intro c' hc'
          rcases ud_or (f := st) (k := d) (v := 0) c' with ⟨z, y⟩ | ⟨z, y⟩
          · subst z
            rw [y]
            exact ⟨⟨0, by omega, rfl⟩, fun _ => (hok c' hc').2.1 (Or.inr h1), fun q => absurd q (by decide)⟩
          · rw [y]; exact hok c' hc'
        have gc : ∀ (v : Int32) (a : Nat → Int32), a d = v → fw_a (fun j => upd lg (l0 + m) (nI d) (l0 + j)) v a (m + 1) = fw_a ch v a m := fun v a hv => by
          rw [fw_s]
          show upd _ (upd lg (l0 + m) (nI d) (l0 + m)).toNatClampNeg v = _
          rw [pk_us, c1, fw_cong (g' := ch) (fun i hi => by show upd lg (l0 + m) (nI d) (l0 + i) = _; rw [pk_un (by omega)]; exact (hch i hi).1.symm)]
          refine ud_same ?_
          have := fw_self (g := ch) (a := a) (d := d) m
          rw [hv] at this; exact this
        refine ⟨0, l0 + m + 1, fw_a ch 0 (upd st d 0) m, fw_a ch (tg d) tg m, fw_a ch (f0 d) f0 m, fw_a ch (f1 d) f1 m, upd lg (l0 + m) (nI d), ch, ⟨fw_ok hok1 hd pk_us, by omega, Or.inl rfl, fun _ => ⟨fi_st hn hcn hcd pk_us, ?_⟩⟩, fun post N hN hp => ?_⟩
        · have a1 := fw_cnt (n := n) (m := m) (g := ch) (st := upd st d 0) (mk := mk) (fun j hj h => by
            obtain ⟨i, i1, i2, i3⟩ := hmk j h
            exact ⟨i, i1, by rw [i2]; exact nI_clamp (by omega)⟩)
          have a2 := cu_drop (p := hp_u st mk) (q := hp_u (upd st d 0) mk) (a := d) (decide_eq_true ⟨h0, hm⟩) (decide_eq_false (fun z => z.1 pk_us)) hd (fun k hk z => by
            have z := of_decide_eq_true z
            rcases ud_or (f := st) (k := d) (v := 0) k with ⟨_, y⟩ | ⟨_, y⟩
            · exact absurd y z.1
            · exact decide_eq_true ⟨by rw [← y]; exact z.1, z.2⟩)
          omega
        · obtain ⟨N, rfl⟩ : ∃ N', N = N' + 2 := ⟨N - 2, by omega⟩
          have x7 : ¬ (32 : Int32) < nI (m + 1) := nI_nlt (a := 32) (b := m + 1) (by omega) (by omega)
          rw [wX_force_13]
          refine br_f x6 ⟨v1, br_f n0 (br_t b0 ⟨vL, nm_r eL (nm_r (nI_1 (l0 + m)) ⟨v1, br_f n3 ⟨v1, br_t e1 ⟨v1, nm_r eS (nm_r (nI_1 m) ?_)⟩⟩⟩)⟩)⟩
          rw [wX_force_13]
          refine br_f x7 ⟨v1, br_t (by rw [c1]; exact pk_us) ⟨m + 2, fx_2 (l := l0 + m + 1) (st := upd st d 0) (by omega) (by omega) (fun j hj => ?_) (m + 1) 0 (m + 2) (by omega) (by omega) ?_⟩⟩
          · rcases Nat.lt_or_ge j m with z | z
            · obtain ⟨e, e1, e2⟩ := hg j z
              exact ⟨e, by omega, by rw [pk_un (by omega), ← (hch j z).1]; exact e2⟩
            · have : j = m := by omega
              subst this
              exact ⟨d, by omega, pk_us⟩
          · rw [Nat.zero_add, gc _ _ pk_us, gc _ _ rfl, gc _ _ rfl, gc _ _ rfl]
            exact hp
    · -- marked
      have b1 : ¬ ((w >>> ((nI d).toInt64 &&& 63)) &&& 1) = 0 := fun z => hm ((hbw d (by omega)).mp ((bl_iff (by omega)).mp z))
      have m1 : ¬ mk (nI d).toNatClampNeg = 0 := by rw [c1]; exact hm
      refine ⟨3, l0 + m, st, tg, f0, f1, lg, ch, ⟨hok, by omega, Or.inr (Or.inr rfl), fun z => absurd z (by decide)⟩, fun post N hN hp => ?_⟩
      · obtain ⟨N, rfl⟩ : ∃ N', N = N' + 1 := ⟨N - 1, by omega⟩
        rw [wX_force_13]
        exact br_f x6 ⟨v1, br_f n0 (br_f b1 hp)⟩
theorem fc_1 {st tg f0 f1 tc de si sP sV : Nat → Int32} {c l0 : Nat} (hn : n ≤ 32) (hok : hp_ok n st tg f0 f1) (hcn : c < n) : ∀ (u m d : Nat) (w : Int64) (mk ch lg : Nat → Int32), cu_n (hp_u st mk) n ≤ u → fi_I n c l0 m d w st mk ch lg →
    fc_P ar cap n nT nA nC cp dn op bd lk lc la lt le kd tx ts ta gv gt rh ft fa ca vt ag st tg f0 f1 tc de si sP sV c l0 m d w mk ch lg (u + 3) := by
  intro u
  induction u with
  | zero =>
    intro m d w mk ch lg hu h
    refine fc_base hn hok hcn h (fun z => ?_)
    have := cu_pos (p := hp_u st mk) h.1 (decide_eq_true ⟨by rw [z.1]; decide, z.2⟩)
    omega
  | succ u ih =>
    intro m d w mk ch lg hu h
    by_cases hb : st d = 2 ∧ mk d = 0
    · obtain ⟨hd, hl, hch, hmk, hcd, hbw⟩ := h
      obtain ⟨h2, hm⟩ := hb
      obtain ⟨d', hd', ed⟩ := (hok d hd).2.2 h2
      have h0 : st d ≠ 0 := by rw [h2]; decide
      have cpo := cu_pos (p := hp_u st mk) hd (decide_eq_true ⟨h0, hm⟩)
      have cd := cu_drop (p := hp_u st mk) (q := hp_u st (upd mk d 1)) (a := d) (decide_eq_true ⟨h0, hm⟩) (decide_eq_false (fun z => absurd z.2 (by rw [pk_us]; decide))) hd (fun k hk z => by
            have z := of_decide_eq_true z
            rcases ud_or (f := mk) (k := d) (v := 1) k with ⟨_, y⟩ | ⟨_, y⟩
            · exact absurd z.2 (by rw [y]; decide)
            · exact decide_eq_true ⟨z.1, by rw [← y]; exact z.2⟩)
      have c1 : (nI d).toNatClampNeg = d := nI_clamp (by omega)
      have c2 : (nI (l0 + m)).toNatClampNeg = l0 + m := nI_clamp (by omega)
      have c3 : (nI m).toNatClampNeg = m := nI_clamp (by omega)
      have v1 : vp_in (nI d) 32 := vp_in_nI (by omega) (by omega)
      have vm : vp_in (nI m) 32 := vp_in_nI (by omega) (by omega)
      have x6 : ¬ (32 : Int32) < nI m := nI_nlt (a := 32) (b := m) (by omega) (by omega)
      have p0 : ¬ nI d < 0 := nI_pos (by omega)
      have pn : nI d < nI n := nI_lt hd (by omega)
      have n0 : ¬ st (nI d).toNatClampNeg = 0 := by rw [c1]; exact h0
      have n1 : ¬ st (nI d).toNatClampNeg = 1 := by rw [c1, h2]; decide
      have n3 : ¬ st (nI d).toNatClampNeg = 3 := by rw [c1, h2]; decide
      have b0 : ((w >>> ((nI d).toInt64 &&& 63)) &&& 1) = 0 := (bl_iff (by omega)).mpr ((hbw d (by omega)).mpr hm)
      have m0 : mk (nI d).toNatClampNeg = 0 := by rw [c1]; exact hm
      have vL : vp_in (nI (l0 + m)) 32 := vp_in_nI (by omega) (by omega)
      have nL : ¬ (32 : Int32) ≤ nI (l0 + m) := nI_ge (b := 32) (by omega) (by omega)
      have nM : ¬ (32 : Int32) ≤ nI m := nI_ge (b := 32) (by omega) (by omega)
      have eL : upd lg (nI (l0 + m)).toNatClampNeg (nI d) = upd lg (l0 + m) (nI d) := by rw [c2]
      have eM : upd mk (nI d).toNatClampNeg (vp_nar .boolean 1) = upd mk d 1 := by rw [c1, nb_1]
      have eC : upd ch (nI m).toNatClampNeg (nI d) = upd ch m (nI d) := by rw [c3]
      have eD : f0 (nI d).toNatClampNeg = nI d' := by rw [c1]; exact ed
      have I' : fi_I n c l0 (m + 1) d' (w ||| ((1 : Int64) <<< ((nI d).toInt64 &&& 63))) st (upd mk d 1) (upd ch m (nI d)) (upd lg (l0 + m) (nI d)) := by
        refine ⟨hd', by omega, fun i hi => ?_, fun j hj => ?_, ?_, fun j hj => ?_⟩
        · by_cases e : i = m
          · subst e
            rw [pk_us, pk_us]
            exact ⟨rfl, d, hd, rfl⟩
          · rw [pk_un e, pk_un (by omega)]
            exact hch i (by omega)
        · rcases ud_or (f := mk) (k := d) (v := 1) j with ⟨z, y⟩ | ⟨z, y⟩
          · subst z
            exact ⟨m, by omega, pk_us, hd⟩
          · rw [y] at hj
            obtain ⟨i, i1, i2, i3⟩ := hmk j hj
            exact ⟨i, by omega, by rw [pk_un (by omega)]; exact i2, i3⟩
        · rcases hcd with z | ⟨i, i1, i2⟩
          · subst z
            exact Or.inr ⟨m, by omega, pk_us⟩
          · exact Or.inr ⟨i, by omega, by rw [pk_un (by omega)]; exact i2⟩
        · rw [bl_or (by omega) (by omega)]
          have := hbw j hj
          rcases ud_or (f := mk) (k := d) (v := 1) j with ⟨z, y⟩ | ⟨z, y⟩
          · rw [y]
            simp [z]
          · rw [y, ← this]
            simp [z]
      obtain ⟨e, l', st', tg', f0', f1', lg', ch', ho, hX⟩ := ih (m + 1) d' _ _ _ _ (by omega) I'
      refine ⟨e, l', st', tg', f0', f1', lg', ch', ho, fun post N hN hp => ?_⟩
      · obtain ⟨N, rfl⟩ : ∃ N', N = N' + 1 := ⟨N - 1, by omega⟩
        rw [wX_force_13]
        exact br_f x6 ⟨v1, br_f n0 (br_t b0 ⟨vL, nm_r eL (nm_r (nI_1 (l0 + m)) ⟨v1, br_f n3 ⟨v1, br_f n1 (nm_e ⟨v1, nm_r eD (nm_r (nI_1 m) (hX post N (by omega) hp))⟩)⟩⟩)⟩)⟩
    · obtain ⟨e, l', st', tg', f0', f1', lg', ch', ho, hX⟩ := fc_base (ar := ar) (cap := cap) (nT := nT) (nA := nA) (nC := nC) (cp := cp) (dn := dn) (op := op) (bd := bd) (lk := lk) (lc := lc) (la := la) (lt := lt) (le := le) (kd := kd) (tx := tx) (ts := ts) (ta := ta) (gv := gv) (gt := gt) (rh := rh) (ft := ft) (fa := fa) (ca := ca) (vt := vt) (ag := ag) (tc := tc) (de := de) (si := si) (sP := sP) (sV := sV) hn hok hcn h hb
      exact ⟨e, l', st', tg', f0', f1', lg', ch', ho, fun post N hN hp => hX post N (by omega) hp⟩
/-- FORCE(c): one outcome for both -/
theorem fc_go (hn : n ≤ 32) {c l : Nat} {st tg f0 f1 tc lg ch de si sP sV : Nat → Int32} (hok : hp_ok n st tg f0 f1) (hcn : c < n) (hl : l + cu_n (hp_u st (fun _ => 0)) n ≤ 32) :
    ∃ (e l' : Nat) (st' tg' f0' f1' lg' ch' : Nat → Int32), fo_ok n c e l' st' tg' f0' f1' ∧
     (∀ (post : Int32 → St2 → Prop), post (fo_r e) ((nI ar), (nI cap), (nI n), (nI nT), (nI nA), (nI nC), (nI cp), (nI dn), (nI op), bd, (nI l'), (fo_k e lk), lc, la, lt, le, st', tg', f0', f1', kd, tx, ts, ta, gv, gt, rh, ft, fa, ca, vt, ag, tc, lg') → wpX_force post ((nI ar), (nI cap), (nI n), (nI nT), (nI nA), (nI nC), (nI cp), (nI dn), (nI op), bd, (nI l), lk, lc, la, lt, le, st, tg, f0, f1, kd, tx, ts, ta, gv, gt, rh, ft, fa, ca, vt, ag, tc, lg) (nI c)) := by
  have I : fi_I n c l 0 c 0 st (fun _ => 0) ch lg :=
    ⟨hcn, by rw [Nat.add_zero]; exact hl, fun i hi => by omega, fun j hj => absurd rfl hj, Or.inl rfl, fun j _ => ⟨fun _ => rfl, fun _ => bl_0 j⟩⟩
  obtain ⟨e, l', st', tg', f0', f1', lg', ch', ho, hX⟩ := fc_1 (ar := ar) (cap := cap) (nT := nT) (nA := nA) (nC := nC) (cp := cp) (dn := dn) (op := op) (bd := bd) (lk := lk) (lc := lc) (la := la) (lt := lt) (le := le) (kd := kd) (tx := tx) (ts := ts) (ta := ta) (gv := gv) (gt := gt) (rh := rh) (ft := ft) (fa := fa) (ca := ca) (vt := vt) (ag := ag) (tc := tc) (de := de) (si := si) (sP := sP) (sV := sV) hn hok hcn _ 0 c 0 _ ch lg (Nat.le_refl _) I
  exact ⟨e, l', st', tg', f0', f1', lg', ch', ho, fun post hp => ⟨_, hX post _ (Nat.le_refl _) hp⟩⟩
end
end
section
/-! small methods, and the end of a pattern on the reference's side -/
theorem tk_c (x : Int32) : (tk_a x = 0 ∧ x < 4) ∨ (tk_a x = 1 ∧ ¬ x < 4 ∧ x < 6) ∨ (tk_a x = 2 ∧ ¬ x < 4 ∧ ¬ x < 6) := by
  unfold tk_a
  by_cases h : x < 4
  · rw [if_pos h]; exact Or.inl ⟨rfl, h⟩
  · rw [if_neg h]
    by_cases k : x < 6
    · rw [if_pos k]; exact Or.inr (Or.inl ⟨rfl, h, k⟩)
    · rw [if_neg k]; exact Or.inr (Or.inr ⟨rfl, h, k⟩)
theorem sm_fx {post : Int32 → Prop} {x : Int32} (h : post (nI (tk_a x))) : wpX_fieldsOf post () x := by
  unfold wpX_fieldsOf
  rcases tk_c x with ⟨e, a⟩ | ⟨e, a, b⟩ | ⟨e, a, b⟩
  · rw [e] at h; exact br_f (fun z => absurd a (Int32.not_lt.mpr z)) h
  · rw [e] at h; exact br_t (Int32.not_lt.mp a) (br_f (fun z => absurd b (Int32.not_lt.mpr z)) h)
  · rw [e] at h; exact br_t (Int32.not_lt.mp a) (br_t (Int32.not_lt.mp b) h)
theorem sm_sx {post : Int32 → Prop} {k x : Int32} (h : post (nI (tk_s k x))) : wpX_subpatternsOf post () k x := by
  unfold wpX_subpatternsOf
  unfold tk_s at h
  by_cases h2 : k = 2
  · rw [if_pos h2] at h; exact br_t h2 (sm_fx h)
  · rw [if_neg h2] at h
    by_cases h3 : k = 3
    · rw [if_pos h3] at h; exact br_f h2 (br_t h3 h)
    · rw [if_neg h3] at h
      by_cases h4 : k = 4
      · rw [if_pos h4] at h; exact br_f h2 (br_f h3 (br_t h4 h))
      · rw [if_neg h4] at h; exact br_f h2 (br_f h3 (br_f h4 h))
section
variable {ar cap n nT nA nC cp dn op : Nat} {bd lk lc la lt le : Int32} {kd tx ts ta gv gt rh ft fa ca vt ag : Nat → Int32}
end
end
section
/-! the steps of a match, on either side -/
section
variable {ar cap n nT nA nC cp dn op : Nat} {bd lk lc la lt le : Int32} {kd tx ts ta gv gt rh ft fa ca vt ag : Nat → Int32}
/-- component: the end -/
theorem xm_end {post : Int32 → St2 → Prop} {p e i l sk N : Nat} {st tg f0 f1 tc lg : Nat → Int32} (hp : p < 64) (he : ta p = nI e) (hi : e ≤ i) (h64 : i ≤ 64) (h : post 1 ((nI ar), (nI cap), (nI n), (nI nT), (nI nA), (nI nC), (nI cp), (nI dn), (nI op), bd, (nI l), lk, lc, la, lt, le, st, tg, f0, f1, kd, tx, ts, ta, gv, gt, rh, ft, fa, ca, vt, ag, tc, lg)) :
    wX_matchPattern_12 post (nI p) (N + 1) (nI sk) (nI i) (nI ar) (nI cap) (nI n) (nI nT) (nI nA) (nI nC) (nI cp) (nI dn) (nI op) bd (nI l) lk lc la lt le st tg f0 f1 kd tx ts ta gv gt rh ft fa ca vt ag tc lg := by
  have c1 : (nI p).toNatClampNeg = p := nI_clamp (by omega)
  rw [wX_matchPattern_12]
  exact ⟨vp_in_nI hp (by omega), br_t (by rw [c1, he]; exact nI_le hi (by omega)) h⟩
theorem xm_skip {post : Int32 → St2 → Prop} {p e i l sk N : Nat} {st tg f0 f1 tc lg : Nat → Int32} (hp : p < 64) (he : ta p = nI e) (h64 : e ≤ 64) (hi : i < e) (hs : i < sk) (hs64 : sk ≤ 64)
    (h : wX_matchPattern_12 post (nI p) N (nI sk) (nI (i + 1)) (nI ar) (nI cap) (nI n) (nI nT) (nI nA) (nI nC) (nI cp) (nI dn) (nI op) bd (nI l) lk lc la lt le st tg f0 f1 kd tx ts ta gv gt rh ft fa ca vt ag tc lg) : wX_matchPattern_12 post (nI p) (N + 1) (nI sk) (nI i) (nI ar) (nI cap) (nI n) (nI nT) (nI nA) (nI nC) (nI cp) (nI dn) (nI op) bd (nI l) lk lc la lt le st tg f0 f1 kd tx ts ta gv gt rh ft fa ca vt ag tc lg := by
  have c1 : (nI p).toNatClampNeg = p := nI_clamp (by omega)
  rw [wX_matchPattern_12]
  exact ⟨vp_in_nI hp (by omega), br_f (by rw [c1, he]; exact nI_ge hi (by omega)) (br_f (nI_ge hs (by omega)) (nm_r (nI_1 i) h))⟩
theorem xm_skips {post : Int32 → St2 → Prop} {p e l sk N : Nat} {st tg f0 f1 tc lg : Nat → Int32} (hp : p < 64) (he : ta p = nI e) (h64 : e ≤ 64) (hs : sk ≤ e)
    (h : wX_matchPattern_12 post (nI p) N (nI sk) (nI sk) (nI ar) (nI cap) (nI n) (nI nT) (nI nA) (nI nC) (nI cp) (nI dn) (nI op) bd (nI l) lk lc la lt le st tg f0 f1 kd tx ts ta gv gt rh ft fa ca vt ag tc lg) : ∀ t i : Nat, i + t = sk → wX_matchPattern_12 post (nI p) (N + t) (nI sk) (nI i) (nI ar) (nI cap) (nI n) (nI nT) (nI nA) (nI nC) (nI cp) (nI dn) (nI op) bd (nI l) lk lc la lt le st tg f0 f1 kd tx ts ta gv gt rh ft fa ca vt ag tc lg := by
  intro t
  induction t with
  | zero => intro i hi; rw [show i = sk by omega]; exact h
  | succ t ih => intro i hi; exact xm_skip hp he h64 (by omega) (by omega) (by omega) (ih (i + 1) (by omega))
theorem xm_leaf {post : Int32 → St2 → Prop} {p e i l sk N : Nat} {st tg f0 f1 tc lg : Nat → Int32} (hp : p < 64) (he : ta p = nI e) (h64 : e ≤ 64) (hi : i < e) (hs : sk ≤ i) (hk : kd i = 0 ∨ kd i = 1)
    (h : wX_matchPattern_12 post (nI p) N (nI sk) (nI (i + 1)) (nI ar) (nI cap) (nI n) (nI nT) (nI nA) (nI nC) (nI cp) (nI dn) (nI op) bd (nI l) lk lc la lt le st tg f0 f1 kd tx ts ta gv gt rh ft fa ca vt ag tc lg) : wX_matchPattern_12 post (nI p) (N + 1) (nI sk) (nI i) (nI ar) (nI cap) (nI n) (nI nT) (nI nA) (nI nC) (nI cp) (nI dn) (nI op) bd (nI l) lk lc la lt le st tg f0 f1 kd tx ts ta gv gt rh ft fa ca vt ag tc lg := by
  have c1 : (nI p).toNatClampNeg = p := nI_clamp (by omega)
  have c2 : (nI i).toNatClampNeg = i := nI_clamp (by omega)
  have v2 : vp_in (nI i) 64 := vp_in_nI (by omega) (by omega)
  rw [wX_matchPattern_12]
  refine ⟨vp_in_nI hp (by omega), br_f (by rw [c1, he]; exact nI_ge hi (by omega)) (br_t (nI_le hs (by omega)) ⟨v2, ?_⟩)⟩
  rcases hk with hk | hk
  · exact nm_r (e' := 0) (by rw [c2]; exact hk) ⟨v2, nm_e (br_f (by decide) (br_f (by decide) (br_f (by decide) (br_f (by decide) (br_f (by decide) (nm_r (nI_1 i) h))))))⟩
  · exact nm_r (e' := 1) (by rw [c2]; exact hk) ⟨v2, nm_e (br_f (by decide) (br_f (by decide) (br_f (by decide) (br_f (by decide) (br_f (by decide) (nm_r (nI_1 i) h))))))⟩
theorem xm_lazy {post : Int32 → St2 → Prop} {p e i f l sk N : Nat} {st tg f0 f1 tc lg : Nat → Int32} (hp : p < 64) (he : ta p = nI e) (h64 : e ≤ 64) (hi : i < e) (hs : sk ≤ i) (hk : kd i = 4) (hf : ta i = nI f)
    (h : wX_matchPattern_12 post (nI p) N (nI f) (nI (i + 1)) (nI ar) (nI cap) (nI n) (nI nT) (nI nA) (nI nC) (nI cp) (nI dn) (nI op) bd (nI l) lk lc la lt le st tg f0 f1 kd tx ts ta gv gt rh ft fa ca vt ag tc lg) : wX_matchPattern_12 post (nI p) (N + 1) (nI sk) (nI i) (nI ar) (nI cap) (nI n) (nI nT) (nI nA) (nI nC) (nI cp) (nI dn) (nI op) bd (nI l) lk lc la lt le st tg f0 f1 kd tx ts ta gv gt rh ft fa ca vt ag tc lg := by
  have c1 : (nI p).toNatClampNeg = p := nI_clamp (by omega)
  have c2 : (nI i).toNatClampNeg = i := nI_clamp (by omega)
  have v2 : vp_in (nI i) 64 := vp_in_nI (by omega) (by omega)
  rw [wX_matchPattern_12]
  exact ⟨vp_in_nI hp (by omega), br_f (by rw [c1, he]; exact nI_ge hi (by omega)) (br_t (nI_le hs (by omega)) ⟨v2, nm_r (by rw [c2]; exact hk) ⟨v2, nm_e (br_t rfl ⟨v2, nm_r (by rw [c2]; exact hf) (br_f (by decide) (br_f (by decide) (br_f (by decide) (br_f (by decide) (nm_r (nI_1 i) h)))))⟩)⟩⟩)⟩
/-- a token that forces: what comes behind the FORCE -/
theorem xm_force {post : Int32 → St2 → Prop} {p e i c l l' sk N : Nat} {r : Int32} {st tg f0 f1 tc lg st' tg' f0' f1' lg' : Nat → Int32} {lk' : Int32} (hp : p < 64) (he : ta p = nI e) (h64 : e ≤ 64) (hi : i < e) (hs : sk ≤ i) (hk : kd i = 3 ∨ kd i = 2) (hc : tc i = nI c)
    (hF : ∀ post' : Int32 → St2 → Prop, post' r ((nI ar), (nI cap), (nI n), (nI nT), (nI nA), (nI nC), (nI cp), (nI dn), (nI op), bd, (nI l'), lk', lc, la, lt, le, st', tg', f0', f1', kd, tx, ts, ta, gv, gt, rh, ft, fa, ca, vt, ag, tc, lg') → wpX_force post' ((nI ar), (nI cap), (nI n), (nI nT), (nI nA), (nI nC), (nI cp), (nI dn), (nI op), bd, (nI l), lk, lc, la, lt, le, st, tg, f0, f1, kd, tx, ts, ta, gv, gt, rh, ft, fa, ca, vt, ag, tc, lg) (nI c))
    (h0 : r = 0 → post 0 ((nI ar), (nI cap), (nI n), (nI nT), (nI nA), (nI nC), (nI cp), (nI dn), (nI op), bd, (nI l'), lk', lc, la, lt, le, st', tg', f0', f1', kd, tx, ts, ta, gv, gt, rh, ft, fa, ca, vt, ag, tc, lg'))
    (h1 : ¬ r = 0 → wX_matchPattern_87 post (wX_matchPattern_12 post (nI p) N) (nI p) (nI sk) (nI i) (kd i) (nI c) (nI ar) (nI cap) (nI n) (nI nT) (nI nA) (nI nC) (nI cp) (nI dn) (nI op) bd (nI l') lk' lc la lt le st' tg' f0' f1' kd tx ts ta gv gt rh ft fa ca vt ag tc lg') :
    wX_matchPattern_12 post (nI p) (N + 1) (nI sk) (nI i) (nI ar) (nI cap) (nI n) (nI nT) (nI nA) (nI nC) (nI cp) (nI dn) (nI op) bd (nI l) lk lc la lt le st tg f0 f1 kd tx ts ta gv gt rh ft fa ca vt ag tc lg := by
  have c1 : (nI p).toNatClampNeg = p := nI_clamp (by omega)
  have c2 : (nI i).toNatClampNeg = i := nI_clamp (by omega)
  have v2 : vp_in (nI i) 64 := vp_in_nI (by omega) (by omega)
  have K : wX_matchPattern_76 post (wX_matchPattern_12 post (nI p) N) (nI p) (nI sk) (nI i) (kd i) (nI c) (nI ar) (nI cap) (nI n) (nI nT) (nI nA) (nI nC) (nI cp) (nI dn) (nI op) bd (nI l) lk lc la lt le st tg f0 f1 kd tx ts ta gv gt rh ft fa ca vt ag tc lg := by
    unfold wX_matchPattern_76
    refine hF _ ?_
    exact br_c h0 h1
  rw [wX_matchPattern_12]
  refine ⟨vp_in_nI hp (by omega), br_f (by rw [c1, he]; exact nI_ge hi (by omega)) (br_t (nI_le hs (by omega)) ⟨v2, nm_r (e' := kd i) (by rw [c2]) ⟨v2, nm_r (e' := nI c) (by rw [c2]; exact hc) ?_⟩⟩)⟩
  rcases hk with hk | hk
  · exact br_f (by rw [hk]; decide) (br_t hk K)
  · exact br_f (by rw [hk]; decide) (br_f (by rw [hk]; decide) (br_t hk K))
theorem xm_bang {post : Int32 → St2 → Prop} {J : Int32 → Int32 → Int32 → Int32 → Int32 → Int32 → Int32 → Int32 → Int32 → Int32 → Int32 → Int32 → Int32 → Int32 → Int32 → Int32 → Int32 → Int32 → (Nat → Int32) → (Nat → Int32) → (Nat → Int32) → (Nat → Int32) → (Nat → Int32) → (Nat → Int32) → (Nat → Int32) → (Nat → Int32) → (Nat → Int32) → (Nat → Int32) → (Nat → Int32) → (Nat → Int32) → (Nat → Int32) → (Nat → Int32) → (Nat → Int32) → (Nat → Int32) → (Nat → Int32) → (Nat → Int32) → Prop} {p i c l sk : Nat} {x1 : Int32} {st tg f0 f1 tc lg : Nat → Int32} (hi : i + 1 < 64) (h : J (nI sk) (nI (i + 1)) (nI ar) (nI cap) (nI n) (nI nT) (nI nA) (nI nC) (nI cp) (nI dn) (nI op) bd (nI l) lk lc la lt le st tg f0 f1 kd tx ts ta gv gt rh ft fa ca vt ag (upd tc (i + 1) (nI c)) lg) :
    wX_matchPattern_87 post J x1 (nI sk) (nI i) 3 (nI c) (nI ar) (nI cap) (nI n) (nI nT) (nI nA) (nI nC) (nI cp) (nI dn) (nI op) bd (nI l) lk lc la lt le st tg f0 f1 kd tx ts ta gv gt rh ft fa ca vt ag tc lg := by
  have e1 : nI i + 1 = nI (i + 1) := nI_1 i
  have c2 : (nI i + 1).toNatClampNeg = i + 1 := by rw [e1]; exact nI_clamp (by omega)
  have v2 : vp_in (nI i + 1) 64 := by rw [e1]; exact vp_in_nI hi (by omega)
  exact br_t rfl ⟨v2, nm_r (e' := upd tc (i + 1) (nI c)) (by rw [c2]) (br_f (by decide) (nm_r e1 h))⟩
theorem xm_ne {post : Int32 → St2 → Prop} {J : Int32 → Int32 → Int32 → Int32 → Int32 → Int32 → Int32 → Int32 → Int32 → Int32 → Int32 → Int32 → Int32 → Int32 → Int32 → Int32 → Int32 → Int32 → (Nat → Int32) → (Nat → Int32) → (Nat → Int32) → (Nat → Int32) → (Nat → Int32) → (Nat → Int32) → (Nat → Int32) → (Nat → Int32) → (Nat → Int32) → (Nat → Int32) → (Nat → Int32) → (Nat → Int32) → (Nat → Int32) → (Nat → Int32) → (Nat → Int32) → (Nat → Int32) → (Nat → Int32) → (Nat → Int32) → Prop} {p i c l sk : Nat} {x1 : Int32} {st tg f0 f1 tc lg : Nat → Int32} (hc : c < 32) (hi : i < 64) (hne : ¬ tg c = tx i) (h : post 0 ((nI ar), (nI cap), (nI n), (nI nT), (nI nA), (nI nC), (nI cp), (nI dn), (nI op), bd, (nI l), lk, lc, la, lt, le, st, tg, f0, f1, kd, tx, ts, ta, gv, gt, rh, ft, fa, ca, vt, ag, tc, lg)) :
    wX_matchPattern_87 post J x1 (nI sk) (nI i) 2 (nI c) (nI ar) (nI cap) (nI n) (nI nT) (nI nA) (nI nC) (nI cp) (nI dn) (nI op) bd (nI l) lk lc la lt le st tg f0 f1 kd tx ts ta gv gt rh ft fa ca vt ag tc lg := by
  have c1 : (nI c).toNatClampNeg = c := nI_clamp (by omega)
  have c2 : (nI i).toNatClampNeg = i := nI_clamp (by omega)
  exact br_f (by decide) (br_t rfl ⟨vp_in_nI hc (by omega), vp_in_nI hi (by omega), br_f (by rw [c1, c2]; exact hne) h⟩)
theorem xm_con {post : Int32 → St2 → Prop} {J : Int32 → Int32 → Int32 → Int32 → Int32 → Int32 → Int32 → Int32 → Int32 → Int32 → Int32 → Int32 → Int32 → Int32 → Int32 → Int32 → Int32 → Int32 → (Nat → Int32) → (Nat → Int32) → (Nat → Int32) → (Nat → Int32) → (Nat → Int32) → (Nat → Int32) → (Nat → Int32) → (Nat → Int32) → (Nat → Int32) → (Nat → Int32) → (Nat → Int32) → (Nat → Int32) → (Nat → Int32) → (Nat → Int32) → (Nat → Int32) → (Nat → Int32) → (Nat → Int32) → (Nat → Int32) → Prop} {p i c l sk : Nat} {x1 : Int32} {st tg f0 f1 tc tc' lg : Nat → Int32} (hc : c < 32) (hi : i < 64) (heq : tg c = tx i)
    (hH : ∀ post' : St2 → Prop, post' ((nI ar), (nI cap), (nI n), (nI nT), (nI nA), (nI nC), (nI cp), (nI dn), (nI op), bd, (nI l), lk, lc, la, lt, le, st, tg, f0, f1, kd, tx, ts, ta, gv, gt, rh, ft, fa, ca, vt, ag, tc', lg) → wpX_handFieldsOn post' ((nI ar), (nI cap), (nI n), (nI nT), (nI nA), (nI nC), (nI cp), (nI dn), (nI op), bd, (nI l), lk, lc, la, lt, le, st, tg, f0, f1, kd, tx, ts, ta, gv, gt, rh, ft, fa, ca, vt, ag, tc, lg) (nI i) (nI c)) (h : J (nI sk) (nI (i + 1)) (nI ar) (nI cap) (nI n) (nI nT) (nI nA) (nI nC) (nI cp) (nI dn) (nI op) bd (nI l) lk lc la lt le st tg f0 f1 kd tx ts ta gv gt rh ft fa ca vt ag tc' lg) :
    wX_matchPattern_87 post J x1 (nI sk) (nI i) 2 (nI c) (nI ar) (nI cap) (nI n) (nI nT) (nI nA) (nI nC) (nI cp) (nI dn) (nI op) bd (nI l) lk lc la lt le st tg f0 f1 kd tx ts ta gv gt rh ft fa ca vt ag tc lg := by
  have c1 : (nI c).toNatClampNeg = c := nI_clamp (by omega)
  have c2 : (nI i).toNatClampNeg = i := nI_clamp (by omega)
  refine br_f (by decide) (br_t rfl ⟨vp_in_nI hc (by omega), vp_in_nI hi (by omega), br_t (by rw [c1, c2]; exact heq) (hH _ ?_)⟩)
  exact nm_r (nI_1 i) h
theorem xh_0 {post : St2 → Prop} {i c l : Nat} {st tg f0 f1 tc lg : Nat → Int32} (hi : i < 64) (hs : ts i = 0) (h : post ((nI ar), (nI cap), (nI n), (nI nT), (nI nA), (nI nC), (nI cp), (nI dn), (nI op), bd, (nI l), lk, lc, la, lt, le, st, tg, f0, f1, kd, tx, ts, ta, gv, gt, rh, ft, fa, ca, vt, ag, tc, lg)) : wpX_handFieldsOn post ((nI ar), (nI cap), (nI n), (nI nT), (nI nA), (nI nC), (nI cp), (nI dn), (nI op), bd, (nI l), lk, lc, la, lt, le, st, tg, f0, f1, kd, tx, ts, ta, gv, gt, rh, ft, fa, ca, vt, ag, tc, lg) (nI i) (nI c) := by
  have c2 : (nI i).toNatClampNeg = i := nI_clamp (by omega)
  have v2 : vp_in (nI i) 64 := vp_in_nI hi (by omega)
  exact ⟨v2, br_t (by rw [c2, hs]; decide) ⟨v2, br_f (by rw [c2, hs]; decide) h⟩⟩
theorem xh_1 {post : St2 → Prop} {i c l : Nat} {st tg f0 f1 tc lg : Nat → Int32} (hi : i + 1 < 64) (hc : c < 32) (hs : ts i = 1) (h : post ((nI ar), (nI cap), (nI n), (nI nT), (nI nA), (nI nC), (nI cp), (nI dn), (nI op), bd, (nI l), lk, lc, la, lt, le, st, tg, f0, f1, kd, tx, ts, ta, gv, gt, rh, ft, fa, ca, vt, ag, (upd tc (i + 1) (f0 c)), lg)) : wpX_handFieldsOn post ((nI ar), (nI cap), (nI n), (nI nT), (nI nA), (nI nC), (nI cp), (nI dn), (nI op), bd, (nI l), lk, lc, la, lt, le, st, tg, f0, f1, kd, tx, ts, ta, gv, gt, rh, ft, fa, ca, vt, ag, tc, lg) (nI i) (nI c) := by
  have c1 : (nI c).toNatClampNeg = c := nI_clamp (by omega)
  have c2 : (nI i).toNatClampNeg = i := nI_clamp (by omega)
  have v2 : vp_in (nI i) 64 := vp_in_nI (by omega) (by omega)
  have e1 : nI i + 1 = nI (i + 1) := nI_1 i
  have c3 : (nI i + 1).toNatClampNeg = i + 1 := by rw [e1]; exact nI_clamp (by omega)
  have v3 : vp_in (nI i + 1) 64 := by rw [e1]; exact vp_in_nI hi (by omega)
  exact ⟨v2, br_f (by rw [c2, hs]; decide) ⟨vp_in_nI hc (by omega), v3, nm_r (e' := upd tc (i + 1) (f0 c)) (by rw [c1, c3]) ⟨v2, br_f (by rw [c2, hs]; decide) h⟩⟩⟩
theorem xh_2 {post : St2 → Prop} {i c f l : Nat} {st tg f0 f1 tc lg : Nat → Int32} (hi : i + 1 < 64) (hc : c < 32) (hs : ts i = 2) (hf : ta (i + 1) = nI f) (hf64 : f < 64) (h : post ((nI ar), (nI cap), (nI n), (nI nT), (nI nA), (nI nC), (nI cp), (nI dn), (nI op), bd, (nI l), lk, lc, la, lt, le, st, tg, f0, f1, kd, tx, ts, ta, gv, gt, rh, ft, fa, ca, vt, ag, (upd (upd tc (i + 1) (f0 c)) f (f1 c)), lg)) : wpX_handFieldsOn post ((nI ar), (nI cap), (nI n), (nI nT), (nI nA), (nI nC), (nI cp), (nI dn), (nI op), bd, (nI l), lk, lc, la, lt, le, st, tg, f0, f1, kd, tx, ts, ta, gv, gt, rh, ft, fa, ca, vt, ag, tc, lg) (nI i) (nI c) := by
  have c1 : (nI c).toNatClampNeg = c := nI_clamp (by omega)
  have c2 : (nI i).toNatClampNeg = i := nI_clamp (by omega)
  have v1 : vp_in (nI c) 32 := vp_in_nI hc (by omega)
  have v2 : vp_in (nI i) 64 := vp_in_nI (by omega) (by omega)
  have e1 : nI i + 1 = nI (i + 1) := nI_1 i
  have c3 : (nI i + 1).toNatClampNeg = i + 1 := by rw [e1]; exact nI_clamp (by omega)
  have v3 : vp_in (nI i + 1) 64 := by rw [e1]; exact vp_in_nI hi (by omega)
  have c4 : (ta (nI i + 1).toNatClampNeg).toNatClampNeg = f := by rw [c3, hf]; exact nI_clamp (by omega)
  have v4 : vp_in (ta (nI i + 1).toNatClampNeg) 64 := by rw [c3, hf]; exact vp_in_nI hf64 (by omega)
  exact ⟨v2, br_f (by rw [c2, hs]; decide) ⟨v1, v3, nm_r (e' := upd tc (i + 1) (f0 c)) (by rw [c1, c3]) ⟨v2, br_t (by rw [c2, hs]) ⟨v3, v1, v4, nm_r (e' := upd (upd tc (i + 1) (f0 c)) f (f1 c)) (by rw [c1, c4]) h⟩⟩⟩⟩
end
end
section
/-! a match in lockstep -/
def mo_ok (n b eC p : Nat) (kd tx : Nat → Int32) (E : Nat → Nat) (tc0 de0 si0 : Nat → Int32) (bo e l : Nat) (st tg f0 f1 tc de si : Nat → Int32) : Prop :=
  hp_ok n st tg f0 f1 ∧ l ≤ 32 ∧ (e = 0 ∨ e = 2 ∨ e = 3) ∧ (e = 0 → l + cu_n (hp_u st (fun _ => 0)) n ≤ 32) ∧
  (bo = 0 ∨ (bo = 1 ∧ e = 0 ∧ (∀ q, b ≤ q → q < eC → sy_q n kd tx tc0 de0 si0 q → sy_q n kd tx tc de si q) ∧ (∀ q, vs_q kd E p (E p) q → sy_q n kd tx tc de si q)))
theorem mt_k {kd tx : Nat → Int32} {i : Nat} : (kd i = 0 → tk_f kd tx i = 0) ∧ (kd i = 1 → tk_f kd tx i = 0) ∧ (kd i = 2 → tk_f kd tx i = tk_a (tx i)) ∧ (kd i = 3 → tk_f kd tx i = 1) ∧ (kd i = 4 → tk_f kd tx i = 1) := by
  unfold tk_f tk_s
  refine ⟨fun h => ?_, fun h => ?_, fun h => ?_, fun h => ?_, fun h => ?_⟩ <;> rw [h] <;> rfl
/-- a step that only goes on to the next token -/
theorem mi_1 {n b e p i : Nat} {kd tx : Nat → Int32} {E : Nat → Nat} {tc0 dn0 si0 tc dn si tc' dn' si' : Nat → Int32}
    (h : mi_I n b e kd tx E p i tc0 dn0 si0 tc dn si) (hb : b ≤ p) (hp : p ≤ i) (hie : i < e) (h4 : kd i ≠ 4)
    (hY : sy_q n kd tx tc' dn' si' i)
    (hS : ∀ q, b ≤ q → q < e → q ≠ i → si' q = si q ∧ (kd q = 1 → dn' (tx q).toNatClampNeg = dn (tx q).toNatClampNeg))
    (hT : ∀ q, ¬ pd_q (tk_f kd tx) (E p) (i + 1) q → tc' q = tc q) : mi_I n b e kd tx E p (i + 1) tc0 dn0 si0 tc' dn' si' :=
  mi_s h hb hp (by omega) hie (fun q h1 h2 => by omega) (fun q h1 h2 => by omega) (fun r h1 h2 h3 => by
    have : r = i := by omega
    subst this; exact absurd h3 h4) hY hS hT
section
variable {ar cap n nT nA nC cp dn op : Nat} {bd lk lc la lt le : Int32} {kd tx ts ta gv gt rh ft fa ca vt ag : Nat → Int32}
theorem mt_1 {b eC p : Nat} {E : Nat → Nat} {tc0 de0 si0 : Nat → Int32} (hn : n ≤ 32) (cx : cx_ok nT b eC kd tx ts ta E) (hb : b ≤ p) (hpe : p < eC) :
    ∀ (r i k it sk l : Nat) (st tg f0 f1 lg tc ch de si sP sV : Nat → Int32), i + r = E p → p ≤ i → it ≤ i - p → sk ≤ i → hp_ok n st tg f0 f1 → l + cu_n (hp_u st (fun _ => 0)) n ≤ 32 →
      mk_S (tk_f kd tx) n p i k sP sV tc → mi_I n b eC kd tx E p i tc0 de0 si0 tc de si →
      ∃ (bo e l' : Nat) (st' tg' f0' f1' lg' tc' ch' de' si' sP' sV' : Nat → Int32), mo_ok n b eC p kd tx E tc0 de0 si0 bo e l' st' tg' f0' f1' tc' de' si' ∧
      (∀ (post : Int32 → St2 → Prop) (N : Nat), r < N → post (nI bo) ((nI ar), (nI cap), (nI n), (nI nT), (nI nA), (nI nC), (nI cp), (nI dn), (nI op), bd, (nI l'), (fo_k e lk), lc, la, lt, le, st', tg', f0', f1', kd, tx, ts, ta, gv, gt, rh, ft, fa, ca, vt, ag, tc', lg') → wX_matchPattern_12 post (nI p) N (nI sk) (nI i) (nI ar) (nI cap) (nI n) (nI nT) (nI nA) (nI nC) (nI cp) (nI dn) (nI op) bd (nI l) lk lc la lt le st tg f0 f1 kd tx ts ta gv gt rh ft fa ca vt ag tc lg) := by
  intro r
  induction r using Nat.strongRecOn with
  | ind r ih =>
  intro i k it sk l st tg f0 f1 lg tc ch de si sP sV hir hpi hit hsk hok hl hS hI
  have cpp := cx.2.2 p hb hpe
  have h64 := cx.1
  have heC := cx.2.1
  have hEp := cpp.2.1
  have hEp1 := cpp.1.1
  rcases Nat.eq_zero_or_pos r with hr | hr
  · -- the end
    subst hr
    have ei : i = E p := by omega
    subst ei
    have k0 := mk_end hS cpp.1
    subst k0
    have me := mi_e hI
    refine ⟨1, 0, l, st, tg, f0, f1, lg, tc, ch, de, si, sP, sV, ⟨hok, by omega, Or.inl rfl, fun _ => hl, Or.inr ⟨rfl, rfl, me.1, me.2⟩⟩, fun post N hN hp => ?_⟩
    · obtain ⟨N, rfl⟩ : ∃ N', N = N' + 1 := ⟨N - 1, by omega⟩
      exact xm_end (by omega) cpp.2.2.1 (Nat.le_refl _) (by omega) hp
  have hie : i < E p := by omega
  obtain ⟨k, rfl⟩ := mk_pos hS cpp.1 hpi hie
  obtain ⟨hP, hV, c, hcn, hc0⟩ := mk_top hS
  rw [hc0] at hV
  have ci := cx.2.2 i (by omega) (by omega)
  have hEi : E i ≤ E p := ht_nest cpp.1 hpi hie ci.1
  have hroom := mk_room (tk_f2 kd tx) hS hpi
  have hk64 : k < 64 := by omega
  have hit64 : it < 64 := by omega
  have hiT : i < nT := by omega
  obtain ⟨kk, hkk, ekk⟩ := ci.2.2.2.2.1
  have mk5 := @mt_k kd tx i
  have hkc : kk = 0 ∨ kk = 1 ∨ kk = 4 ∨ (kk = 3 ∨ kk = 2) := by omega
  rcases hkc with z | z | z | hforce
  · -- WILD
    subst z
    have hk : kd i = 0 := ekk
    have hs := mk5.1 hk
    have I1 : mi_I n b eC kd tx E p (i + 1) tc0 de0 si0 tc de si := mi_1 hI hb hpi (by omega) (by rw [hk]; decide) ⟨fun z => absurd z (by rw [hk]; decide), fun z => absurd z (by rw [hk]; decide), c, hcn, hc0⟩ (fun q _ _ _ => ⟨rfl, fun _ => rfl⟩) (fun q _ => rfl)
    obtain ⟨bo, e, l', st', tg', f0', f1', lg', tc', ch', de', si', sP', sV', ho, hX⟩ := ih (r - 1) (by omega) (i + 1) k (it + 1) sk l st tg f0 f1 lg tc ch de si sP sV (by omega) (by omega) (by omega) (by omega) hok hl (mk_pop hS (ht_0 hs)) I1
    refine ⟨bo, e, l', st', tg', f0', f1', lg', tc', ch', de', si', sP', sV', ho, fun post N hN hp => ?_⟩
    · obtain ⟨N, rfl⟩ : ∃ N', N = N' + 1 := ⟨N - 1, by omega⟩
      exact xm_leaf (by omega) cpp.2.2.1 (by omega) hie hsk (Or.inl hk) (hX post N (by omega) hp)
  · -- VAR
    subst z
    have hk : kd i = 1 := ekk
    have hs := mk5.2.1 hk
    obtain ⟨x, hx8, hx⟩ := ci.2.2.2.2.2.1 (Or.inl hk)
    have I1 : mi_I n b eC kd tx E p (i + 1) tc0 de0 si0 tc (upd de x (nI c)) si := by
      refine mi_1 hI hb hpi (by omega) (by rw [hk]; decide) ⟨fun z => absurd z (by rw [hk]; decide), fun _ => ?_, c, hcn, hc0⟩ (fun q q1 q2 q3 => ⟨rfl, fun q4 => ?_⟩) (fun q _ => rfl)
      · rw [hx, nI_clamp (by omega), pk_us, hc0]
      · refine pk_un fun q5 => ?_
        have cq := cx.2.2 q q1 q2
        obtain ⟨y, hy8, hy⟩ := cq.2.2.2.2.2.1 (Or.inl q4)
        rw [hy, nI_clamp (by omega)] at q5
        subst q5
        exact q3 (ci.2.2.2.2.2.2 hk q q1 q2 q4 (hy.trans hx.symm))
    obtain ⟨bo, e, l', st', tg', f0', f1', lg', tc', ch', de', si', sP', sV', ho, hX⟩ := ih (r - 1) (by omega) (i + 1) k (it + 1) sk l st tg f0 f1 lg tc ch (upd de x (nI c)) si sP sV (by omega) (by omega) (by omega) (by omega) hok hl (mk_pop hS (ht_0 hs)) I1
    refine ⟨bo, e, l', st', tg', f0', f1', lg', tc', ch', de', si', sP', sV', ho, fun post N hN hp => ?_⟩
    · obtain ⟨N, rfl⟩ : ∃ N', N = N' + 1 := ⟨N - 1, by omega⟩
      exact xm_leaf (by omega) cpp.2.2.1 (by omega) hie hsk (Or.inr hk) (hX post N (by omega) hp)
  · -- LAZY
    subst z
    have hk : kd i = 4 := ekk
    have hlt := ci.1.1
    have I1 : mi_I n b eC kd tx E p (E i) tc0 de0 si0 tc de (upd si i (nI c)) := by
      refine mi_s hI hb hpi hlt (by omega) (fun q _ _ => ⟨hk, Nat.le_refl _⟩) (fun q q1 q2 => ht_le ci.1 (by omega) q2) (fun r' r1 r2 r3 => ?_) ⟨fun _ => ?_, fun z => absurd z (by rw [hk]; decide), c, hcn, hc0⟩ (fun q q1 q2 q3 => ⟨pk_un q3, fun _ => rfl⟩) (fun q _ => rfl)
      · exact ht_nest ci.1 r1 r2 (cx.2.2 r' (by omega) (by omega)).1
      · rw [pk_us, hc0]
    obtain ⟨bo, e, l', st', tg', f0', f1', lg', tc', ch', de', si', sP', sV', ho, hX⟩ := ih (r - (E i - i)) (by omega) (E i) k (it + 1) (E i) l st tg f0 f1 lg tc ch de (upd si i (nI c)) sP sV (by omega) (by omega) (by omega) (by omega) hok hl (mk_pop hS ci.1) I1
    refine ⟨bo, e, l', st', tg', f0', f1', lg', tc', ch', de', si', sP', sV', ho, fun post N hN hp => ?_⟩
    · obtain ⟨N, rfl⟩ : ∃ N', N = (N' + (E i - (i + 1))) + 1 := ⟨N - 1 - (E i - (i + 1)), by omega⟩
      exact xm_lazy (by omega) cpp.2.2.1 (by omega) hie hsk hk ci.2.2.1 (xm_skips (by omega) cpp.2.2.1 (by omega) hEi (hX post N (by omega) hp) (E i - (i + 1)) (i + 1) (by omega))
  · -- BANG or CON
    have hk2 : kd i = 3 ∨ kd i = 2 := by
      rcases hforce with z | z <;> subst z
      · exact Or.inl ekk
      · exact Or.inr ekk
    have hk4 : kd i ≠ 4 := by rcases hk2 with z | z <;> rw [z] <;> decide
    have hk1 : kd i ≠ 1 := by rcases hk2 with z | z <;> rw [z] <;> decide
    obtain ⟨e1, l1, st1, tg1, f01, f11, lg1, ch1, hfo, fX⟩ := fc_go (ar := ar) (cap := cap) (nT := nT) (nA := nA) (nC := nC) (cp := cp) (dn := dn) (op := op) (bd := bd) (lk := lk) (lc := lc) (la := la) (lt := lt) (le := le) (kd := kd) (tx := tx) (ts := ts) (ta := ta) (gv := gv) (gt := gt) (rh := rh) (ft := ft) (fa := fa) (ca := ca) (vt := vt) (ag := ag) (tc := tc) (lg := lg) (ch := ch) (de := de) (si := si) (sP := sP) (sV := sV) hn hok hcn hl
    obtain ⟨hok1, hl1, he1, hv1⟩ := hfo
    by_cases ez : e1 = 0
    · subst ez
      obtain ⟨hst1, hl1'⟩ := hv1 rfl
      have hSY : sy_q n kd tx tc de si i := ⟨fun z => absurd z hk4, fun z => absurd z hk1, c, hcn, hc0⟩
      rcases hk2 with hk | hk
      · -- BANG
        have hs := mk5.2.2.2.1 hk
        have h1 := ht_1 hs ci.1
        have I1 : mi_I n b eC kd tx E p (i + 1) tc0 de0 si0 (upd tc (i + 1) (nI c)) de si := by
          have t0 : upd tc (i + 1) (nI c) i = tc i := pk_un (by omega)
          refine mi_1 hI hb hpi (by omega) hk4 ⟨fun z => absurd z hk4, fun z => absurd z hk1, c, hcn, by rw [t0]; exact hc0⟩ (fun q _ _ _ => ⟨rfl, fun _ => rfl⟩) (fun q q1 => pk_un fun q2 => q1 ?_)
          subst q2
          exact ⟨Nat.le_refl _, by omega, fun r1 r2 r3 => by omega⟩
        obtain ⟨bo, e, l', st', tg', f0', f1', lg', tc', ch', de', si', sP', sV', ho, hX⟩ := ih (r - 1) (by omega) (i + 1) (k + 1) (it + 1) sk l1 st1 tg1 f01 f11 lg1 (upd tc (i + 1) (nI c)) ch1 de si (upd sP k (nI (i + 1))) (upd sV k (nI c)) (by omega) (by omega) (by omega) (by omega) hok1 hl1' (mk_1 hS hs hcn) I1
        refine ⟨bo, e, l', st', tg', f0', f1', lg', tc', ch', de', si', sP', sV', ho, fun post N hN hp => ?_⟩
        · obtain ⟨N, rfl⟩ : ∃ N', N = N' + 1 := ⟨N - 1, by omega⟩
          refine xm_force (by omega) cpp.2.2.1 (by omega) hie hsk (Or.inl hk) hc0 fX (fun z => absurd z (by decide)) (fun _ => ?_)
          rw [hk]
          exact xm_bang (p := p) (by omega) (hX post N (by omega) hp)
      · -- CON
        have hs := mk5.2.2.1 hk
        by_cases heq : tg1 c = tx i
        · have hfl := (hok1 c hcn).2.1 (Or.inl hst1)
          rw [heq] at hfl
          rcases tk_c (tx i) with ⟨ha, _⟩ | ⟨ha, h4, _⟩ | ⟨ha, h4, h6⟩
          · -- no field
            rw [ha] at hs
            have I1 : mi_I n b eC kd tx E p (i + 1) tc0 de0 si0 tc de si := mi_1 hI hb hpi (by omega) hk4 hSY (fun q _ _ _ => ⟨rfl, fun _ => rfl⟩) (fun q _ => rfl)
            obtain ⟨bo, e, l', st', tg', f0', f1', lg', tc', ch', de', si', sP', sV', ho, hX⟩ := ih (r - 1) (by omega) (i + 1) k (it + 1) sk l1 st1 tg1 f01 f11 lg1 tc ch1 de si sP sV (by omega) (by omega) (by omega) (by omega) hok1 hl1' (mk_pop hS (ht_0 hs)) I1
            refine ⟨bo, e, l', st', tg', f0', f1', lg', tc', ch', de', si', sP', sV', ho, fun post N hN hp => ?_⟩
            · obtain ⟨N, rfl⟩ : ∃ N', N = N' + 1 := ⟨N - 1, by omega⟩
              refine xm_force (by omega) cpp.2.2.1 (by omega) hie hsk (Or.inr hk) hc0 fX (fun z => absurd z (by decide)) (fun _ => ?_)
              rw [hk]
              exact xm_con (p := p) (tc' := tc) (by omega) (by omega) heq (fun post' h' => xh_0 (by omega) (by rw [ci.2.2.2.1, hs]; rfl) h') (hX post N (by omega) hp)
          · -- one field
            obtain ⟨c1, hc1, ec1⟩ := hfl.1 h4
            rw [ha] at hs
            have h1 := ht_1 hs ci.1
            have I1 : mi_I n b eC kd tx E p (i + 1) tc0 de0 si0 (upd tc (i + 1) (nI c1)) de si := by
              have t0 : upd tc (i + 1) (nI c1) i = tc i := pk_un (by omega)
              refine mi_1 hI hb hpi (by omega) hk4 ⟨fun z => absurd z hk4, fun z => absurd z hk1, c, hcn, by rw [t0]; exact hc0⟩ (fun q _ _ _ => ⟨rfl, fun _ => rfl⟩) (fun q q1 => pk_un fun q2 => q1 ?_)
              subst q2
              exact ⟨Nat.le_refl _, by omega, fun r1 r2 r3 => by omega⟩
            obtain ⟨bo, e, l', st', tg', f0', f1', lg', tc', ch', de', si', sP', sV', ho, hX⟩ := ih (r - 1) (by omega) (i + 1) (k + 1) (it + 1) sk l1 st1 tg1 f01 f11 lg1 (upd tc (i + 1) (nI c1)) ch1 de si (upd sP k (nI (i + 1))) (upd sV k (nI c1)) (by omega) (by omega) (by omega) (by omega) hok1 hl1' (mk_1 hS hs hc1) I1
            refine ⟨bo, e, l', st', tg', f0', f1', lg', tc', ch', de', si', sP', sV', ho, fun post N hN hp => ?_⟩
            · obtain ⟨N, rfl⟩ : ∃ N', N = N' + 1 := ⟨N - 1, by omega⟩
              refine xm_force (by omega) cpp.2.2.1 (by omega) hie hsk (Or.inr hk) hc0 fX (fun z => absurd z (by decide)) (fun _ => ?_)
              rw [hk]
              exact xm_con (p := p) (tc' := upd tc (i + 1) (nI c1)) (by omega) (by omega) heq (fun post' h' => xh_1 (by omega) (by omega) (by rw [ci.2.2.2.1, hs]; rfl) (by rw [ec1]; exact h')) (hX post N (by omega) hp)
          · -- two fields
            obtain ⟨c1, hc1, ec1⟩ := hfl.1 h4
            obtain ⟨c2, hc2, ec2⟩ := hfl.2 h6
            rw [ha] at hs
            have ci1 := cx.2.2 (i + 1) (by omega) (by
              rcases Nat.lt_or_ge (i + 1) (E i) with z | z
              · omega
              · have v := ht_val ci.1
                have : E i = i + 1 := by have := ci.1.1; omega
                rw [this, ht_s, hs] at v
                omega)
            have h2 := ht_2 hs ci.1 ci1.1
            have I1 : mi_I n b eC kd tx E p (i + 1) tc0 de0 si0 (upd (upd tc (i + 1) (nI c1)) (E (i + 1)) (nI c2)) de si := by
              have t0 : upd (upd tc (i + 1) (nI c1)) (E (i + 1)) (nI c2) i = tc i := by rw [pk_un (by omega), pk_un (by omega)]
              refine mi_1 hI hb hpi (by omega) hk4 ⟨fun z => absurd z hk4, fun z => absurd z hk1, c, hcn, by rw [t0]; exact hc0⟩ (fun q _ _ _ => ⟨rfl, fun _ => rfl⟩) (fun q q1 => ?_)
              have q2 : q ≠ E (i + 1) := fun z => q1 (by
                subst z
                refine ⟨by omega, by omega, fun r1 r2 r3 => ?_⟩
                have a := ht_le ci1.1 r2 r3
                have b2 := ht_val ci1.1
                omega)
              have q3 : q ≠ i + 1 := fun z => q1 (by
                subst z
                exact ⟨Nat.le_refl _, by omega, fun r1 r2 r3 => by omega⟩)
              rw [pk_un q2, pk_un q3]
            obtain ⟨bo, e, l', st', tg', f0', f1', lg', tc', ch', de', si', sP', sV', ho, hX⟩ := ih (r - 1) (by omega) (i + 1) (k + 2) (it + 1) sk l1 st1 tg1 f01 f11 lg1 (upd (upd tc (i + 1) (nI c1)) (E (i + 1)) (nI c2)) ch1 de si (upd (upd sP k (nI (E (i + 1)))) (k + 1) (nI (i + 1))) (upd (upd sV k (nI c2)) (k + 1) (nI c1)) (by omega) (by omega) (by omega) (by omega) hok1 hl1' (mk_2 hS hs ci1.1 hc1 hc2) I1
            have hroom2 := mk_room (tk_f2 kd tx) (mk_2 hS hs ci1.1 hc1 hc2) (show p ≤ i + 1 by omega)
            refine ⟨bo, e, l', st', tg', f0', f1', lg', tc', ch', de', si', sP', sV', ho, fun post N hN hp => ?_⟩
            · obtain ⟨N, rfl⟩ : ∃ N', N = N' + 1 := ⟨N - 1, by omega⟩
              refine xm_force (by omega) cpp.2.2.1 (by omega) hie hsk (Or.inr hk) hc0 fX (fun z => absurd z (by decide)) (fun _ => ?_)
              rw [hk]
              exact xm_con (p := p) (tc' := upd (upd tc (i + 1) (nI c1)) (E (i + 1)) (nI c2)) (by omega) (by omega) heq (fun post' h' => xh_2 (by omega) (by omega) (by rw [ci.2.2.2.1, hs]; rfl) ci1.2.2.1 (by omega) (by rw [ec1, ec2]; exact h')) (hX post N (by omega) hp)
        · -- the tag differs
          refine ⟨0, 0, l1, st1, tg1, f01, f11, lg1, tc, ch1, de, si, sP, sV, ⟨hok1, hl1, Or.inl rfl, fun _ => hl1', Or.inl rfl⟩, fun post N hN hp => ?_⟩
          · obtain ⟨N, rfl⟩ : ∃ N', N = N' + 1 := ⟨N - 1, by omega⟩
            refine xm_force (by omega) cpp.2.2.1 (by omega) hie hsk (Or.inr hk) hc0 fX (fun z => absurd z (by decide)) (fun _ => ?_)
            rw [hk]
            exact xm_ne (p := p) (by omega) (by omega) heq hp
    · -- the FORCE ended the run
      have fr : fo_r e1 = 0 := if_neg ez
      refine ⟨0, e1, l1, st1, tg1, f01, f11, lg1, tc, ch1, de, si, sP, sV, ⟨hok1, hl1, he1, fun z => absurd z ez, Or.inl rfl⟩, fun post N hN hp => ?_⟩
      · obtain ⟨N, rfl⟩ : ∃ N', N = N' + 1 := ⟨N - 1, by omega⟩
        exact xm_force (by omega) cpp.2.2.1 (by omega) hie hsk hk2 hc0 fX (fun _ => hp) (fun z => absurd fr z)
/-- MATCH(p, c): one outcome for both -/
theorem mt_go {b eC p c l : Nat} {E : Nat → Nat} {st tg f0 f1 lg tc ch de si sP sV : Nat → Int32} (hn : n ≤ 32) (cx : cx_ok nT b eC kd tx ts ta E) (hb : b ≤ p) (hpe : p < eC) (hcn : c < n) (hok : hp_ok n st tg f0 f1) (hl : l + cu_n (hp_u st (fun _ => 0)) n ≤ 32) :
    ∃ (bo e l' : Nat) (st' tg' f0' f1' lg' tc' ch' de' si' sP' sV' : Nat → Int32), mo_ok n b eC p kd tx E tc de si bo e l' st' tg' f0' f1' tc' de' si' ∧
      (∀ (post : Int32 → St2 → Prop), post (nI bo) ((nI ar), (nI cap), (nI n), (nI nT), (nI nA), (nI nC), (nI cp), (nI dn), (nI op), bd, (nI l'), (fo_k e lk), lc, la, lt, le, st', tg', f0', f1', kd, tx, ts, ta, gv, gt, rh, ft, fa, ca, vt, ag, tc', lg') → wpX_matchPattern post ((nI ar), (nI cap), (nI n), (nI nT), (nI nA), (nI nC), (nI cp), (nI dn), (nI op), bd, (nI l), lk, lc, la, lt, le, st, tg, f0, f1, kd, tx, ts, ta, gv, gt, rh, ft, fa, ca, vt, ag, tc, lg) (nI p) (nI c)) := by
  have cpp := cx.2.2 p hb hpe
  have h64 := cx.1
  have heC := cx.2.1
  have c1 : (nI p).toNatClampNeg = p := nI_clamp (by omega)
  obtain ⟨bo, e, l', st', tg', f0', f1', lg', tc', ch', de', si', sP', sV', ho, hX⟩ := mt_1 (ar := ar) (cap := cap) (nT := nT) (nA := nA) (nC := nC) (cp := cp) (dn := dn) (op := op) (bd := bd) (lk := lk) (lc := lc) (la := la) (lt := lt) (le := le) (kd := kd) (tx := tx) (ts := ts) (ta := ta) (gv := gv) (gt := gt) (rh := rh) (ft := ft) (fa := fa) (ca := ca) (vt := vt) (ag := ag) (tc0 := tc) (de0 := de) (si0 := si) hn cx hb hpe (E p - p) p 1 0 p l st tg f0 f1 lg (upd tc p (nI c)) ch de si (upd sP 0 (nI p)) (upd sV 0 (nI c)) (by have := cpp.1.1; omega) (Nat.le_refl _) (by omega) (Nat.le_refl _) hok hl (mk_0 hcn) (mi_0 _ cpp.1.1)
  refine ⟨bo, e, l', st', tg', f0', f1', lg', tc', ch', de', si', sP', sV', ho, fun post hp => ⟨vp_in_nI (by omega) (by omega), nm_r (e' := upd tc p (nI c)) (by rw [c1]) ⟨_, hX post _ (Nat.lt_succ_self _) hp⟩⟩⟩
end
end
section
/-! a demand in lockstep -/
def do_r (e d : Nat) : Int32 := if e = 0 then nI d else -1
def do_ok (n b eC : Nat) (kd tx tc0 de0 si0 : Nat → Int32) (e d l : Nat) (st tg f0 f1 tc de si : Nat → Int32) : Prop :=
  hp_ok n st tg f0 f1 ∧ l ≤ 32 ∧ (e = 0 ∨ e = 2 ∨ e = 3 ∨ e = 4) ∧ (e = 0 → d < n ∧ l + cu_n (hp_u st (fun _ => 0)) n ≤ 32 ∧ ∀ q, b ≤ q → q < eC → sy_q n kd tx tc0 de0 si0 q → sy_q n kd tx tc de si q)
theorem fo_5 {e : Nat} (h : e = 2 ∨ e = 3) : ¬ fo_k e 5 = 5 ∧ ¬ nI e = 0 ∧ e ≠ 0 := by
  rcases h with h | h <;> subst h <;> exact ⟨by decide, by decide, by decide⟩
section
variable {ar cap n nT nA nC cp dn op : Nat} {bd lk lc la lt le : Int32} {kd tx ts ta gv gt rh ft fa ca vt ag : Nat → Int32}
theorem dd_1 {b eC w x : Nat} {E : Nat → Nat} (hn : n ≤ 32) (cx : cx_ok nT b eC kd tx ts ta E) (hbw : b ≤ w) (hwe : w < eC) (hkw : kd w = 1) (hx8 : x < 8) (hxw : tx w = nI x) :
    ∀ (r i l : Nat) (st tg f0 f1 lg tc ch de si sP sV : Nat → Int32), i + r = w → b ≤ i → hp_ok n st tg f0 f1 → l + cu_n (hp_u st (fun _ => 0)) n ≤ 32 → dm_I n b eC kd tx E w i tc de si →
      ∃ (e d l' : Nat) (st' tg' f0' f1' lg' tc' ch' de' si' sP' sV' : Nat → Int32), do_ok n b eC kd tx tc de si e d l' st' tg' f0' f1' tc' de' si' ∧
      (∀ (post : Int32 → St2 → Prop) (N : Nat), r < N → post (do_r e d) ((nI ar), (nI cap), (nI n), (nI nT), (nI nA), (nI nC), (nI cp), (nI dn), (nI op), bd, (nI l'), (fo_k e 5), lc, la, lt, le, st', tg', f0', f1', kd, tx, ts, ta, gv, gt, rh, ft, fa, ca, vt, ag, tc', lg') → wX_demand_20 post (nI w) N (nI i) (nI ar) (nI cap) (nI n) (nI nT) (nI nA) (nI nC) (nI cp) (nI dn) (nI op) bd (nI l) 5 lc la lt le st tg f0 f1 kd tx ts ta gv gt rh ft fa ca vt ag tc lg) := by
  intro r
  have h64 := cx.1
  have heC := cx.2.1
  have cw : (nI w).toNatClampNeg = w := nI_clamp (by omega)
  induction r with
  | zero =>
    intro i l st tg f0 f1 lg tc ch de si sP sV hir hbi hok hl hD
    have ei : i = w := by omega
    subst ei
    have sy := dm_e hD hbw hwe
    obtain ⟨d, hdn, hd⟩ := sy.2.2
    have sd := sy.2.1 hkw
    rw [hd, hxw] at sd
    obtain ⟨e1, l1, st1, tg1, f01, f11, lg1, ch1, hfo, fX⟩ := fc_go (ar := ar) (cap := cap) (nT := nT) (nA := nA) (nC := nC) (cp := cp) (dn := dn) (op := op) (bd := bd) (lk := 5) (lc := lc) (la := la) (lt := lt) (le := le) (kd := kd) (tx := tx) (ts := ts) (ta := ta) (gv := gv) (gt := gt) (rh := rh) (ft := ft) (fa := fa) (ca := ca) (vt := vt) (ag := ag) (tc := tc) (lg := lg) (ch := ch) (de := de) (si := si) (sP := sP) (sV := sV) hn hok hdn hl
    obtain ⟨hok1, hl1, he1, hv1⟩ := hfo
    refine ⟨e1, d, l1, st1, tg1, f01, f11, lg1, tc, ch1, de, si, sP, sV, ⟨hok1, hl1, by omega, fun z => ⟨hdn, (hv1 z).2, fun q _ _ h => h⟩⟩, fun post N hN hp => ?_⟩
    · obtain ⟨N, rfl⟩ : ∃ N', N = N' + 1 := ⟨N - 1, by omega⟩
      rw [wX_demand_20]
      refine br_t (nI_le (Nat.le_refl _) (by omega)) ⟨vp_in_nI (by omega) (by omega), nm_r (e' := nI d) (by rw [cw]; exact hd) (fX _ ?_)⟩
      by_cases ez : e1 = 0
      · subst ez
        exact br_f (by decide) hp
      · have fr : fo_r e1 = 0 := if_neg ez
        have dr : do_r e1 d = -1 := if_neg ez
        rw [dr] at hp
        exact br_t fr hp
  | succ r ih =>
    intro i l st tg f0 f1 lg tc ch de si sP sV hir hbi hok hl hD
    have ci := cx.2.2 i hbi (by omega)
    have cI : (nI i).toNatClampNeg = i := nI_clamp (by omega)
    have vi : vp_in (nI i) 64 := vp_in_nI (by omega) (by omega)
    have nw : ¬ nI w ≤ nI i := nI_ge (by omega) (by omega)
    by_cases hk : kd i = 4
    · have eK : kd (nI i).toNatClampNeg = 4 := by rw [cI]; exact hk
      have eT : ta (nI i).toNatClampNeg = nI (E i) := by rw [cI]; exact ci.2.2.1
      have hlt := ci.1.1
      by_cases hw : w < E i
      · -- a lazy ancestor
        have hs := (@mt_k kd tx i).2.2.2.2 hk
        have h1 := ht_1 hs ci.1
        have ci1 := cx.2.2 (i + 1) (by omega) (by omega)
        have hE1 : E (i + 1) = E i := ht_uniq ci1.1 h1.2
        have sy := dm_at cx hD hbi (by omega) hwe hw
        obtain ⟨c, hcn, hc0⟩ := sy.2.2
        have hsi := sy.1 hk
        rw [hc0] at hsi
        obtain ⟨bo, e1, l1, st1, tg1, f01, f11, lg1, tc1, ch1, de1, si1, sP1, sV1, hmo, mX⟩ := mt_go (ar := ar) (cap := cap) (nT := nT) (nA := nA) (nC := nC) (cp := cp) (dn := dn) (op := op) (bd := bd) (lk := 5) (lc := lc) (la := la) (lt := lt) (le := le) (kd := kd) (tx := tx) (ts := ts) (ta := ta) (gv := gv) (gt := gt) (rh := rh) (ft := ft) (fa := fa) (ca := ca) (vt := vt) (ag := ag) (lg := lg) (tc := tc) (ch := ch) (de := de) (si := si) (sP := sP) (sV := sV) hn cx (show b ≤ i + 1 by omega) (by omega) hcn hok hl
        obtain ⟨hok1, hl1, he1, hv1, hbo⟩ := hmo
        have e1i : nI i + 1 = nI (i + 1) := nI_1 i
        have eC0 : tc (nI i).toNatClampNeg = nI c := by rw [cI]; exact hc0
        have eS0 : si (nI i).toNatClampNeg = nI c := by rw [cI]; exact hsi
        have nT1 : ¬ ta (nI i).toNatClampNeg ≤ nI w := by rw [eT]; exact nI_ge hw (by omega)
        rcases hbo with hb0 | ⟨hb1, he0, hp1, hp2⟩
        · subst hb0
          by_cases ez : e1 = 0
          · subst ez
            refine ⟨4, 0, l1, st1, tg1, f01, f11, lg1, tc1, ch1, de1, si1, sP1, sV1, ⟨hok1, hl1, by omega, fun z => absurd z (by decide)⟩, fun post N hN hp => ?_⟩
            · obtain ⟨N, rfl⟩ : ∃ N', N = N' + 1 := ⟨N - 1, by omega⟩
              rw [wX_demand_20]
              refine br_f nw ⟨vi, br_t eK ⟨vi, br_f nT1 (br_f (by decide) ⟨vi, ?_⟩)⟩⟩
              rw [e1i, eC0]
              refine mX _ ?_
              exact br_t rfl (br_t rfl hp)
          · have h23 : e1 = 2 ∨ e1 = 3 := by omega
            have f5 := fo_5 h23
            have dr : do_r e1 0 = -1 := if_neg ez
            refine ⟨e1, 0, l1, st1, tg1, f01, f11, lg1, tc1, ch1, de1, si1, sP1, sV1, ⟨hok1, hl1, by omega, fun z => absurd z ez⟩, fun post N hN hp => ?_⟩
            · obtain ⟨N, rfl⟩ : ∃ N', N = N' + 1 := ⟨N - 1, by omega⟩
              rw [dr] at hp
              rw [wX_demand_20]
              refine br_f nw ⟨vi, br_t eK ⟨vi, br_f nT1 (br_f (by decide) ⟨vi, ?_⟩)⟩⟩
              rw [e1i, eC0]
              refine mX _ ?_
              exact br_t rfl (br_f f5.1 hp)
        · subst hb1
          subst he0
          obtain ⟨e, d, l', st', tg', f0', f1', lg', tc', ch', de', si', sP', sV', ho, hX⟩ := ih (i + 1) l1 st1 tg1 f01 f11 lg1 tc1 ch1 de1 si1 sP1 sV1 (by omega) (by omega) hok1 (hv1 rfl) (dm_m hD hbi hE1 hp1 hp2)
          refine ⟨e, d, l', st', tg', f0', f1', lg', tc', ch', de', si', sP', sV', ⟨ho.1, ho.2.1, ho.2.2.1, fun z => ⟨(ho.2.2.2 z).1, (ho.2.2.2 z).2.1, fun q q1 q2 q3 => (ho.2.2.2 z).2.2 q q1 q2 (hp1 q q1 q2 q3)⟩⟩, fun post N hN hp => ?_⟩
          · obtain ⟨N, rfl⟩ : ∃ N', N = N' + 1 := ⟨N - 1, by omega⟩
            have hX' := hX post N (by omega) hp
            rw [wX_demand_20]
            refine br_f nw ⟨vi, br_t eK ⟨vi, br_f nT1 (br_f (by decide) ⟨vi, ?_⟩)⟩⟩
            rw [e1i, eC0]
            refine mX _ ?_
            exact br_f (by decide) (nm_e hX')
      · -- a lazy token that ends before
        obtain ⟨e, d, l', st', tg', f0', f1', lg', tc', ch', de', si', sP', sV', ho, hX⟩ := ih (i + 1) l st tg f0 f1 lg tc ch de si sP sV (by omega) (by omega) hok hl (dm_s hD (fun z => hw z.2))
        refine ⟨e, d, l', st', tg', f0', f1', lg', tc', ch', de', si', sP', sV', ho, fun post N hN hp => ?_⟩
        · obtain ⟨N, rfl⟩ : ∃ N', N = N' + 1 := ⟨N - 1, by omega⟩
          rw [wX_demand_20]
          exact br_f nw ⟨vi, br_t eK ⟨vi, br_t (by rw [eT]; exact nI_le (by omega) (by omega)) (br_t rfl (nm_r (nI_1 i) (hX post N (by omega) hp)))⟩⟩
    · have eK : ¬ kd (nI i).toNatClampNeg = 4 := by rw [cI]; exact hk
      obtain ⟨e, d, l', st', tg', f0', f1', lg', tc', ch', de', si', sP', sV', ho, hX⟩ := ih (i + 1) l st tg f0 f1 lg tc ch de si sP sV (by omega) (by omega) hok hl (dm_s hD (fun z => hk z.1))
      refine ⟨e, d, l', st', tg', f0', f1', lg', tc', ch', de', si', sP', sV', ho, fun post N hN hp => ?_⟩
      · obtain ⟨N, rfl⟩ : ∃ N', N = N' + 1 := ⟨N - 1, by omega⟩
        rw [wX_demand_20]
        exact br_f nw ⟨vi, br_f eK (br_t rfl (nm_r (nI_1 i) (hX post N (by omega) hp)))⟩
/-- DEMAND(x) in clause c: one outcome for both -/
theorem dd_go {ar' c x w l : Nat} {T A E : Nat → Nat} {st tg f0 f1 lg tc ch de si sP sV : Nat → Int32} (hn : n ≤ 32) (hpg : pg_ok ar' nC nT nA kd tx ts vt ft fa ca gv rh T A) (hc8 : c < nC) (cx : cx_ok nT (T c) (T (c + 1)) kd tx ts ta E)
    (hbw : T c ≤ w) (hwe : w < T (c + 1)) (hkw : kd w = 1) (hx8 : x < 8) (hxw : tx w = nI x) (hok : hp_ok n st tg f0 f1) (hl : l + cu_n (hp_u st (fun _ => 0)) n ≤ 32) (hB : bs_I n (T c) (T (c + 1)) kd tx E tc de si) :
    ∃ (e d l' : Nat) (st' tg' f0' f1' lg' tc' ch' de' si' sP' sV' : Nat → Int32), do_ok n (T c) (T (c + 1)) kd tx tc de si e d l' st' tg' f0' f1' tc' de' si' ∧
      (∀ (post : Int32 → St2 → Prop) (a : Int32), a = nI x → post (do_r e d) ((nI ar), (nI cap), (nI n), (nI nT), (nI nA), (nI nC), (nI cp), (nI dn), (nI op), bd, (nI l'), (fo_k e 5), lc, la, lt, le, st', tg', f0', f1', kd, tx, ts, ta, gv, gt, rh, ft, fa, ca, vt, ag, tc', lg') → wpX_demand post ((nI ar), (nI cap), (nI n), (nI nT), (nI nA), (nI nC), (nI cp), (nI dn), (nI op), bd, (nI l), 5, lc, la, lt, le, st, tg, f0, f1, kd, tx, ts, ta, gv, gt, rh, ft, fa, ca, vt, ag, tc, lg) (nI c) a) := by
  obtain ⟨e, d, l', st', tg', f0', f1', lg', tc', ch', de', si', sP', sV', ho, hX⟩ := dd_1 (ar := ar) (cap := cap) (nT := nT) (nA := nA) (nC := nC) (cp := cp) (dn := dn) (op := op) (bd := bd) (lc := lc) (la := la) (lt := lt) (le := le) (kd := kd) (tx := tx) (ts := ts) (ta := ta) (gv := gv) (gt := gt) (rh := rh) (ft := ft) (fa := fa) (ca := ca) (vt := vt) (ag := ag) hn cx hbw hwe hkw hx8 hxw (w - T c) (T c) l st tg f0 f1 lg tc ch de si sP sV (by omega) (Nat.le_refl _) hok hl (dm_0 hB)
  have hC := hpg.1
  have h64 := cx.1
  have heC := cx.2.1
  have o := hpg.2.2.2.2.2.2.2.2 c hc8
  have c1 : (nI c).toNatClampNeg = c := nI_clamp (by omega)
  have vc : vp_in (nI c) 8 := vp_in_nI (by omega) (by omega)
  have e1 : nI c * 8 + nI x = nI (8 * c + x) := by
    rw [show (8 : Int32) = nI 8 from rfl, pk_mul, nI_add, Nat.mul_comm]
  have c2 : (nI c * 8 + nI x).toNatClampNeg = 8 * c + x := by rw [e1]; exact nI_clamp (by omega)
  have v2 : vp_in (nI c * 8 + nI x) 64 := by rw [e1]; exact vp_in_nI (by omega) (by omega)
  have hv := (o.2.2.2.2.2.2.2.2.1 w hbw hwe).2 hkw
  rw [hxw, nI_clamp (by omega)] at hv
  refine ⟨e, d, l', st', tg', f0', f1', lg', tc', ch', de', si', sP', sV', ho, fun post a ha hp => ?_⟩
  · subst ha
    exact ⟨v2, nm_r (e' := nI w) (by rw [c2]; exact hv) ⟨vc, nm_r (e' := nI (T c)) (by rw [c1]; exact o.2.2.2.2.1) ⟨_, hX post _ (Nat.lt_succ_self _) hp⟩⟩⟩
end
end
section
/-! the arguments of a clause in lockstep -/
def ao_ok (n b eC : Nat) (kd tx : Nat → Int32) (E : Nat → Nat) (bo e l : Nat) (st tg f0 f1 tc de si : Nat → Int32) : Prop :=
  hp_ok n st tg f0 f1 ∧ l ≤ 32 ∧ (e = 0 ∨ e = 2 ∨ e = 3) ∧ (e = 0 → l + cu_n (hp_u st (fun _ => 0)) n ≤ 32) ∧ (bo = 0 ∨ (bo = 1 ∧ e = 0 ∧ bs_I n b eC kd tx E tc de si))
section
variable {ar cap n nT nA nC cp dn op : Nat} {bd lk lc la lt le : Int32} {kd tx ts ta gv gt rh ft fa ca vt ag : Nat → Int32}
theorem ra_1 {c : Nat} {T A E : Nat → Nat} (hn : n ≤ 32) (hpg : pg_ok ar nC nT nA kd tx ts vt ft fa ca gv rh T A) (hpe : pe_ok ar nC kd tx T) (hc8 : c < nC) (cx : cx_ok nT (T c) (T (c + 1)) kd tx ts ta E) (har : ar ≤ 3) (hA : ∀ i, i < ar → ∃ a, a < n ∧ ag i = nI a) :
    ∀ (r i p l : Nat) (st tg f0 f1 lg tc ch de si sP sV : Nat → Int32), i + r = ar → T c ≤ p → p ≤ T (c + 1) → ht_h (tk_f kd tx) p = -((ar * c : Nat) : Int) - i → hp_ok n st tg f0 f1 → l + cu_n (hp_u st (fun _ => 0)) n ≤ 32 → ag_I n (T c) kd tx E p tc de si →
      ∃ (bo e l' : Nat) (st' tg' f0' f1' lg' tc' ch' de' si' sP' sV' : Nat → Int32), ao_ok n (T c) (T (c + 1)) kd tx E bo e l' st' tg' f0' f1' tc' de' si' ∧
      (∀ (post : Int32 → St2 → Prop) (N : Nat), r < N → post (nI bo) ((nI ar), (nI cap), (nI n), (nI nT), (nI nA), (nI nC), (nI cp), (nI dn), (nI op), bd, (nI l'), (fo_k e 5), lc, la, lt, le, st', tg', f0', f1', kd, tx, ts, ta, gv, gt, rh, ft, fa, ca, vt, ag, tc', lg') → wX_matchArguments_9 post N (nI p) (nI i) (nI ar) (nI cap) (nI n) (nI nT) (nI nA) (nI nC) (nI cp) (nI dn) (nI op) bd (nI l) 5 lc la lt le st tg f0 f1 kd tx ts ta gv gt rh ft fa ca vt ag tc lg) := by
  intro r
  have h64 := cx.1
  have heC := cx.2.1
  induction r with
  | zero =>
    intro i p l st tg f0 f1 lg tc ch de si sP sV hir h1 h2 hh hok hl hG
    have ei : i = ar := by omega
    subst ei
    have ep := pa_end hpg hc8 h1 h2 hh
    subst ep
    refine ⟨1, 0, l, st, tg, f0, f1, lg, tc, ch, de, si, sP, sV, ⟨hok, by omega, Or.inl rfl, fun _ => hl, Or.inr ⟨rfl, rfl, hG⟩⟩, fun post N hN hp => ?_⟩
    · obtain ⟨N, rfl⟩ : ∃ N', N = N' + 1 := ⟨N - 1, by omega⟩
      rw [wX_matchArguments_9]
      exact br_t (nI_le (Nat.le_refl _) (by omega)) hp
  | succ r ih =>
    intro i p l st tg f0 f1 lg tc ch de si sP sV hir h1 h2 hh hok hl hG
    have hlt := pa_lt hpg hpe hc8 h2 hh (by omega)
    obtain ⟨a, han, ha⟩ := hA i (by omega)
    have cpp := cx.2.2 p h1 hlt
    obtain ⟨bo, e, l1, st1, tg1, f01, f11, lg1, tc1, ch1, de1, si1, sP1, sV1, hmo, mX⟩ := mt_go (ar := ar) (cap := cap) (nT := nT) (nA := nA) (nC := nC) (cp := cp) (dn := dn) (op := op) (bd := bd) (lk := 5) (lc := lc) (la := la) (lt := lt) (le := le) (kd := kd) (tx := tx) (ts := ts) (ta := ta) (gv := gv) (gt := gt) (rh := rh) (ft := ft) (fa := fa) (ca := ca) (vt := vt) (ag := ag) (lg := lg) (tc := tc) (ch := ch) (de := de) (si := si) (sP := sP) (sV := sV) hn cx h1 hlt han hok hl
    obtain ⟨hok1, hl1, he1, hv1, hbo⟩ := hmo
    have cI : (nI i).toNatClampNeg = i := nI_clamp (by omega)
    have cP : (nI p).toNatClampNeg = p := nI_clamp (by omega)
    have vI : vp_in (nI i) 3 := vp_in_nI (by omega) (by omega)
    have vP : vp_in (nI p) 64 := vp_in_nI (by omega) (by omega)
    have ni : ¬ nI ar ≤ nI i := nI_ge (by omega) (by omega)
    have eA : ag (nI i).toNatClampNeg = nI a := by rw [cI]; exact ha
    have eT : ta (nI p).toNatClampNeg = nI (E p) := by rw [cP]; exact cpp.2.2.1
    have hsplit : ∀ (G0 G1 G2 : Prop), (ag 0 = nI a → G0) → (ag 1 = nI a → G1) → (ag 2 = nI a → G2) → (nI i = 0 → G0) ∧ (¬ nI i = 0 → (nI i = 1 → G1) ∧ (¬ nI i = 1 → G2)) := by
      intro G0 G1 G2 g0 g1 g2
      have : i = 0 ∨ i = 1 ∨ i = 2 := by omega
      rcases this with z | z | z <;> subst z
      · exact br_t rfl (g0 ha)
      · exact br_f (by decide) (br_t rfl (g1 ha))
      · exact br_f (by decide) (br_f (by decide) (g2 ha))
    rcases hbo with hb0 | ⟨hb1, he0, hp1, hp2⟩
    · subst hb0
      refine ⟨0, e, l1, st1, tg1, f01, f11, lg1, tc1, ch1, de1, si1, sP1, sV1, ⟨hok1, hl1, he1, hv1, Or.inl rfl⟩, fun post N hN hp => ?_⟩
      · obtain ⟨N, rfl⟩ : ∃ N', N = N' + 1 := ⟨N - 1, by omega⟩
        rw [wX_matchArguments_9]
        refine br_f ni ⟨vI, ?_⟩
        rw [eA]
        refine mX _ ?_
        exact br_t rfl hp
    · subst hb1
      subst he0
      obtain ⟨bo, e, l', st', tg', f0', f1', lg', tc', ch', de', si', sP', sV', ho, hX⟩ := ih (i + 1) (E p) l1 st1 tg1 f01 f11 lg1 tc1 ch1 de1 si1 sP1 sV1 (by omega) (by have := cpp.1.1; omega) cpp.2.1 (by have := ht_val cpp.1; omega) hok1 (hv1 rfl) (ag_s hG h1 h2 hp1 hp2)
      refine ⟨bo, e, l', st', tg', f0', f1', lg', tc', ch', de', si', sP', sV', ho, fun post N hN hp => ?_⟩
      · obtain ⟨N, rfl⟩ : ∃ N', N = N' + 1 := ⟨N - 1, by omega⟩
        have hX' := hX post N (by omega) hp
        rw [wX_matchArguments_9]
        refine br_f ni ⟨vI, ?_⟩
        rw [eA]
        refine mX _ ?_
        exact br_f (by decide) ⟨vP, nm_r eT (nm_r (nI_1 i) hX')⟩
end
end
section
/-! the alternatives of a clause in lockstep -/
def rv_ok (c : Nat) (lk la lt le er K q6 q7 q8 q9 q10 : Int32) : Prop :=
  (lk = 5 ∧ lt = -1 ∧ le = -1 ∧ er = 0 ∧ K = 1 ∧ q6 = -1 ∧ q7 = -1 ∧ q8 = -1 ∧ q9 = -1 ∧ q10 = 0) ∨ (lk = K ∧ K ≠ 5 ∧ K ≠ 1 ∧ q6 = nI c ∧ q7 = la ∧ q8 = lt ∧ q9 = le ∧ q10 = 1 ∧ (K ≠ 0 → lt = -1 ∧ le = -1))
theorem fo_6 {e : Nat} (h : e = 2 ∨ e = 3 ∨ e = 4) : fo_k e 5 = nI e ∧ ¬ nI e = 5 ∧ ¬ nI e = 1 ∧ ¬ nI e = 0 ∧ e ≠ 0 := by
  rcases h with h | h | h <;> subst h <;> exact ⟨by decide, by decide, by decide, by decide, by decide⟩
theorem nI_nm1 {d : Nat} (h : d < 2 ^ 31) : ¬ nI d = -1 := fun z => by
  have := nI_pos (n := d) h
  rw [z] at this
  exact this (by decide)
section
variable {ar cap n nT nA nC cp dn op : Nat} {bd lk lc la lt le : Int32} {kd tx ts ta gv gt rh ft fa ca vt ag : Nat → Int32}
theorem xt_x {post : St2 → Prop} {c i N l : Nat} {st tg f0 f1 tc lg : Nat → Int32} (hc8 : c < 8) (h5 : ¬ lk = 5) (h : post ((nI ar), (nI cap), (nI n), (nI nT), (nI nA), (nI nC), (nI cp), (nI dn), (nI op), bd, (nI l), lk, lc, la, lt, le, st, tg, f0, f1, kd, tx, ts, ta, gv, gt, rh, ft, fa, ca, vt, ag, tc, lg)) : wX_tryAlternatives_2 post (nI c) (N + 1) (nI i) (nI ar) (nI cap) (nI n) (nI nT) (nI nA) (nI nC) (nI cp) (nI dn) (nI op) bd (nI l) lk lc la lt le st tg f0 f1 kd tx ts ta gv gt rh ft fa ca vt ag tc lg := by
  rw [wX_tryAlternatives_2]
  exact ⟨vp_in_nI hc8 (by omega), br_c (fun _ => h) (fun _ => br_f h5 h)⟩
/-- the alternative is taken -/
theorem ch_1 {c i l : Nat} {T A E : Nat → Nat} {st tg f0 f1 lg tc ch de si sP sV : Nat → Int32} (hn : n ≤ 32) (hpg : pg_ok ar nC nT nA kd tx ts vt ft fa ca gv rh T A) (hc8 : c < nC) (cx : cx_ok nT (T c) (T (c + 1)) kd tx ts ta E) (hi : A c + i < A (c + 1))
    (hok : hp_ok n st tg f0 f1) (hl : l + cu_n (hp_u st (fun _ => 0)) n ≤ 32) (hB : bs_I n (T c) (T (c + 1)) kd tx E tc de si) :
    ∃ (l' : Nat) (st' tg' f0' f1' lg' tc' ch' de' si' sP' sV' : Nat → Int32) (lk' lt' le' er' : Int32), hp_ok n st' tg' f0' f1' ∧ l' ≤ 32 ∧ lk' ≠ 5 ∧ lk' ≠ 1 ∧ (lk' ≠ 0 → lt' = -1 ∧ le' = -1) ∧
      (∀ post : St2 → Prop, post ((nI ar), (nI cap), (nI n), (nI nT), (nI nA), (nI nC), (nI cp), (nI dn), (nI op), bd, (nI l'), lk', lc, (nI i), lt', le', st', tg', f0', f1', kd, tx, ts, ta, gv, gt, rh, ft, fa, ca, vt, ag, tc', lg') → wpX_choose post ((nI ar), (nI cap), (nI n), (nI nT), (nI nA), (nI nC), (nI cp), (nI dn), (nI op), bd, (nI l), 5, lc, (nI i), (-1), (-1), st, tg, f0, f1, kd, tx, ts, ta, gv, gt, rh, ft, fa, ca, vt, ag, tc, lg) (nI c) (nI (A c + i))) := by
  have o := hpg.2.2.2.2.2.2.2.2 c hc8
  have hC := hpg.1
  have hA16 := hpg.2.2.1
  have oA := o.2.2.2.1
  obtain ⟨_, rr, hr11, hrr, hrv⟩ := o.2.2.2.2.2.2.2.2.2 (A c + i) (by omega) hi
  have c1 : (nI c).toNatClampNeg = c := nI_clamp (by omega)
  have vc : vp_in (nI c) 8 := vp_in_nI (by omega) (by omega)
  have cj : (nI (A c + i)).toNatClampNeg = A c + i := nI_clamp (by omega)
  have vj : vp_in (nI (A c + i)) 16 := vp_in_nI (by omega) (by omega)
  have eR : rh (nI (A c + i)).toNatClampNeg = nI rr := by rw [cj]; exact hrr
  have e7 : nI (A c + i) - fa (nI c).toNatClampNeg = nI i := by
    rw [c1, o.2.2.2.2.2.1, pk_sub (by omega)]
    exact congrArg nI (by omega)
  by_cases h8 : rr < 8
  · obtain ⟨w, w1, w2, w3, w4⟩ := hrv h8
    obtain ⟨e, d, l', st', tg', f0', f1', lg', tc', ch', de', si', sP', sV', ho, hX⟩ := dd_go (ar := ar) (cap := cap) (nT := nT) (nA := nA) (nC := nC) (cp := cp) (dn := dn) (op := op) (bd := bd) (kd := kd) (tx := tx) (ts := ts) (ta := ta) (gv := gv) (gt := gt) (rh := rh) (ft := ft) (fa := fa) (ca := ca) (vt := vt) (ag := ag) (lc := lc) (la := nI i) (lt := -1) (le := -1) (lg := lg) (ch := ch) (sP := sP) (sV := sV) hn hpg hc8 cx w1 w2 w3 h8 w4 hok hl hB
    have r8 : rh (nI (A c + i)).toNatClampNeg < 8 := by rw [eR]; exact nI_lt (b := 8) h8 (by omega)
    by_cases ez : e = 0
    · subst ez
      obtain ⟨hdn, _, _⟩ := ho.2.2.2 rfl
      have cd : (nI d).toNatClampNeg = d := nI_clamp (by omega)
      have vd : vp_in (nI d) 32 := vp_in_nI (by omega) (by omega)
      refine ⟨l', st', tg', f0', f1', lg', tc', ch', de', si', sP', sV', 0, tg' d, nI d, 0, ho.1, ho.2.1, by decide, by decide, fun z => absurd rfl z, fun post hp => ?_⟩
      · refine ⟨vj, br_t r8 ⟨vj, hX _ _ eR ?_⟩⟩
        exact br_f (nI_nm1 (by omega)) ⟨vd, nm_r (e' := tg' d) (by show tg' (nI d).toNatClampNeg = _; rw [cd]) hp⟩
    · have h6 := fo_6 (e := e) (by have := ho.2.2.1; omega)
      have dr : do_r e d = -1 := if_neg ez
      refine ⟨l', st', tg', f0', f1', lg', tc', ch', de', si', sP', sV', nI e, -1, -1, nI e, ho.1, ho.2.1, h6.2.1, h6.2.2.1, fun _ => ⟨rfl, rfl⟩, fun post hp => ?_⟩
      · refine ⟨vj, br_t r8 ⟨vj, hX _ _ eR ?_⟩⟩
        rw [← h6.1] at hp
        exact br_t dr hp
  · have r8 : ¬ rh (nI (A c + i)).toNatClampNeg < 8 := by rw [eR]; exact nI_nlt (b := 8) (by omega) (by omega)
    refine ⟨l, st, tg, f0, f1, lg, tc, ch, de, si, sP, sV, 0, nI rr - 8, -1, 0, hok, by omega, by decide, by decide, fun z => absurd rfl z, fun post hp => ?_⟩
    · exact ⟨vj, br_f r8 ⟨vj, nm_r (e' := nI rr - 8) (by rw [eR]) hp⟩⟩
theorem al_1 {c : Nat} {T A E : Nat → Nat} (hn : n ≤ 32) (hpg : pg_ok ar nC nT nA kd tx ts vt ft fa ca gv rh T A) (hc8 : c < nC) (cx : cx_ok nT (T c) (T (c + 1)) kd tx ts ta E) :
    ∀ (r i l : Nat) (la : Int32) (st tg f0 f1 lg tc ch de si sP sV : Nat → Int32), A c + i + r = A (c + 1) → hp_ok n st tg f0 f1 → l + cu_n (hp_u st (fun _ => 0)) n ≤ 32 → bs_I n (T c) (T (c + 1)) kd tx E tc de si →
      ∃ (l' : Nat) (st' tg' f0' f1' lg' tc' ch' de' si' sP' sV' : Nat → Int32) (lk' la' lt' le' er' K q6 q7 q8 q9 q10 : Int32), hp_ok n st' tg' f0' f1' ∧ l' ≤ 32 ∧ (lk' = 5 → l' + cu_n (hp_u st' (fun _ => 0)) n ≤ 32) ∧ rv_ok c lk' la' lt' le' er' K q6 q7 q8 q9 q10 ∧
      (∀ (post : St2 → Prop) (N : Nat), r + 1 < N → post ((nI ar), (nI cap), (nI n), (nI nT), (nI nA), (nI nC), (nI cp), (nI dn), (nI op), bd, (nI l'), lk', (nI c), la', lt', le', st', tg', f0', f1', kd, tx, ts, ta, gv, gt, rh, ft, fa, ca, vt, ag, tc', lg') → wX_tryAlternatives_2 post (nI c) N (nI i) (nI ar) (nI cap) (nI n) (nI nT) (nI nA) (nI nC) (nI cp) (nI dn) (nI op) bd (nI l) 5 (nI c) la (-1) (-1) st tg f0 f1 kd tx ts ta gv gt rh ft fa ca vt ag tc lg) := by
  intro r
  have o := hpg.2.2.2.2.2.2.2.2 c hc8
  have hC := hpg.1
  have hA16 := hpg.2.2.1
  have oA := o.2.2.2.1
  have c1 : (nI c).toNatClampNeg = c := nI_clamp (by omega)
  have vc : vp_in (nI c) 8 := vp_in_nI (by omega) (by omega)
  have eca : ca (nI c).toNatClampNeg = nI (A (c + 1) - A c) := by rw [c1]; exact o.2.2.2.2.2.2.1
  induction r with
  | zero =>
    intro i l la st tg f0 f1 lg tc ch de si sP sV hir hok hl hB
    refine ⟨l, st, tg, f0, f1, lg, tc, ch, de, si, sP, sV, 5, la, -1, -1, 0, 1, -1, -1, -1, -1, 0, hok, by omega, fun _ => hl, Or.inl ⟨rfl, rfl, rfl, rfl, rfl, rfl, rfl, rfl, rfl, rfl⟩, fun post N hN hp => ?_⟩
    · obtain ⟨N, rfl⟩ : ∃ N', N = N' + 1 := ⟨N - 1, by omega⟩
      rw [wX_tryAlternatives_2]
      exact ⟨vc, br_t (by rw [eca]; exact nI_le (by omega) (by omega)) hp⟩
  | succ r ih =>
    intro i l la st tg f0 f1 lg tc ch de si sP sV hir hok hl hB
    obtain ⟨hgv, _⟩ := o.2.2.2.2.2.2.2.2.2 (A c + i) (by omega) (by omega)
    have cj : (nI (A c + i)).toNatClampNeg = A c + i := nI_clamp (by omega)
    have vj : vp_in (nI (A c + i)) 16 := vp_in_nI (by omega) (by omega)
    have e3 : fa (nI c).toNatClampNeg + nI i = nI (A c + i) := by rw [c1, o.2.2.2.2.2.1, nI_add]
    have e7 : nI (A c + i) - fa (nI c).toNatClampNeg = nI i := by
      rw [c1, o.2.2.2.2.2.1, pk_sub (by omega)]
      exact congrArg nI (by omega)
    have nca : ¬ ca (nI c).toNatClampNeg ≤ nI i := by rw [eca]; exact nI_ge (by omega) (by omega)
    have nae : ¬ nI (A (c + 1)) ≤ nI (A c + i) := nI_ge (by omega) (by omega)
    rcases hgv with hg | ⟨x, hx8, hgx, w, w1, w2, w3, w4⟩
    · -- no guard
      obtain ⟨l', st', tg', f0', f1', lg', tc', ch', de', si', sP', sV', lk', lt', le', er', k1, k2, k3, k4, k5, hX⟩ := ch_1 (ar := ar) (cap := cap) (nT := nT) (nA := nA) (nC := nC) (cp := cp) (dn := dn) (op := op) (bd := bd) (kd := kd) (tx := tx) (ts := ts) (ta := ta) (gv := gv) (gt := gt) (rh := rh) (ft := ft) (fa := fa) (ca := ca) (vt := vt) (ag := ag) (lc := nI c) (lg := lg) (ch := ch) (sP := sP) (sV := sV) hn hpg hc8 cx (show A c + i < A (c + 1) by omega) hok hl hB
      have eG : gv (nI (A c + i)).toNatClampNeg = -1 := by rw [cj]; exact hg
      refine ⟨l', st', tg', f0', f1', lg', tc', ch', de', si', sP', sV', lk', nI i, lt', le', er', lk', nI c, nI i, lt', le', 1, k1, k2, fun z => absurd z k3, Or.inr ⟨rfl, k3, k4, rfl, rfl, rfl, rfl, rfl, k5⟩, fun post N hN hp => ?_⟩
      · obtain ⟨N, rfl⟩ : ∃ N', N = N' + 2 := ⟨N - 2, by omega⟩
        rw [wX_tryAlternatives_2]
        refine ⟨vc, br_f nca (br_t rfl ⟨vc, nm_r e3 ⟨vj, br_t eG (br_f (by decide) (hX _ ?_))⟩⟩)⟩
        exact nm_r (nI_1 i) (xt_x (by omega) k3 hp)
    · obtain ⟨e, d, l1, st1, tg1, f01, f11, lg1, tc1, ch1, de1, si1, sP1, sV1, ho, dX⟩ := dd_go (ar := ar) (cap := cap) (nT := nT) (nA := nA) (nC := nC) (cp := cp) (dn := dn) (op := op) (bd := bd) (kd := kd) (tx := tx) (ts := ts) (ta := ta) (gv := gv) (gt := gt) (rh := rh) (ft := ft) (fa := fa) (ca := ca) (vt := vt) (ag := ag) (lc := nI c) (la := nI i) (lt := -1) (le := -1) (lg := lg) (ch := ch) (sP := sP) (sV := sV) hn hpg hc8 cx w1 w2 w3 hx8 w4 hok hl hB
      have eG : gv (nI (A c + i)).toNatClampNeg = nI x := by rw [cj]; exact hgx
      have nG : ¬ gv (nI (A c + i)).toNatClampNeg = -1 := by rw [eG]; exact nI_nm1 (by omega)
      by_cases ez : e = 0
      · subst ez
        obtain ⟨hdn, hl1, hsy⟩ := ho.2.2.2 rfl
        have hB1 := bs_p hB hsy
        have cd : (nI d).toNatClampNeg = d := nI_clamp (by omega)
        have vd : vp_in (nI d) 32 := vp_in_nI (by omega) (by omega)
        by_cases ht : tg1 d = gt (A c + i)
        · -- the guard holds
          have eT : tg1 (nI d).toNatClampNeg = gt (nI (A c + i)).toNatClampNeg := by rw [cd, cj]; exact ht
          obtain ⟨l', st', tg', f0', f1', lg', tc', ch', de', si', sP', sV', lk', lt', le', er', k1, k2, k3, k4, k5, hX⟩ := ch_1 (ar := ar) (cap := cap) (nT := nT) (nA := nA) (nC := nC) (cp := cp) (dn := dn) (op := op) (bd := bd) (kd := kd) (tx := tx) (ts := ts) (ta := ta) (gv := gv) (gt := gt) (rh := rh) (ft := ft) (fa := fa) (ca := ca) (vt := vt) (ag := ag) (lc := nI c) (lg := lg1) (ch := ch1) (sP := sP1) (sV := sV1) hn hpg hc8 cx (show A c + i < A (c + 1) by omega) ho.1 hl1 hB1
          refine ⟨l', st', tg', f0', f1', lg', tc', ch', de', si', sP', sV', lk', nI i, lt', le', er', lk', nI c, nI i, lt', le', 1, k1, k2, fun z => absurd z k3, Or.inr ⟨rfl, k3, k4, rfl, rfl, rfl, rfl, rfl, k5⟩, fun post N hN hp => ?_⟩
          · obtain ⟨N, rfl⟩ : ∃ N', N = N' + 2 := ⟨N - 2, by omega⟩
            rw [wX_tryAlternatives_2]
            refine ⟨vc, br_f nca (br_t rfl ⟨vc, nm_r e3 ⟨vj, br_f nG ⟨vj, dX _ _ eG ?_⟩⟩⟩)⟩
            refine br_f (nI_nm1 (by omega)) ⟨vd, vj, br_t eT (br_f (by decide) (hX _ ?_))⟩
            exact nm_r (nI_1 i) (xt_x (by omega) k3 hp)
        · -- the guard fails
          have eT : ¬ tg1 (nI d).toNatClampNeg = gt (nI (A c + i)).toNatClampNeg := by rw [cd, cj]; exact ht
          obtain ⟨l', st', tg', f0', f1', lg', tc', ch', de', si', sP', sV', lk', la', lt', le', er', K, q6, q7, q8, q9, q10, k1, k2, k3, k4, hX⟩ := ih (i + 1) l1 (nI i) st1 tg1 f01 f11 lg1 tc1 ch1 de1 si1 sP1 sV1 (by omega) ho.1 hl1 hB1
          refine ⟨l', st', tg', f0', f1', lg', tc', ch', de', si', sP', sV', lk', la', lt', le', er', K, q6, q7, q8, q9, q10, k1, k2, k3, k4, fun post N hN hp => ?_⟩
          · obtain ⟨N, rfl⟩ : ∃ N', N = N' + 1 := ⟨N - 1, by omega⟩
            have hX' := hX post N (by omega) hp
            rw [wX_tryAlternatives_2]
            refine ⟨vc, br_f nca (br_t rfl ⟨vc, nm_r e3 ⟨vj, br_f nG ⟨vj, dX _ _ eG ?_⟩⟩⟩)⟩
            exact br_f (nI_nm1 (by omega)) ⟨vd, vj, br_f eT (br_t rfl (nm_r (nI_1 i) hX'))⟩
      · -- the guard's demand ended the run
        have h6 := fo_6 (e := e) (by have := ho.2.2.1; omega)
        have dr : do_r e d = -1 := if_neg ez
        refine ⟨l1, st1, tg1, f01, f11, lg1, tc1, ch1, de1, si1, sP1, sV1, nI e, nI i, -1, -1, nI e, nI e, nI c, nI i, -1, -1, 1, ho.1, ho.2.1, fun z => absurd z h6.2.1, Or.inr ⟨rfl, h6.2.1, h6.2.2.1, rfl, rfl, rfl, rfl, rfl, fun _ => ⟨rfl, rfl⟩⟩, fun post N hN hp => ?_⟩
        · obtain ⟨N, rfl⟩ : ∃ N', N = N' + 2 := ⟨N - 2, by omega⟩
          rw [← h6.1] at hp
          rw [wX_tryAlternatives_2]
          refine ⟨vc, br_f nca (br_t rfl ⟨vc, nm_r e3 ⟨vj, br_f nG ⟨vj, dX _ _ eG ?_⟩⟩⟩)⟩
          exact br_t dr (br_t rfl (nm_r (nI_1 i) (xt_x (by omega) (by rw [h6.1]; exact h6.2.1) hp)))
end
end
section
/-! a run in lockstep -/
section
variable {ar cap n nT nA nC cp dn op : Nat} {bd lk lc la lt le : Int32} {kd tx ts ta gv gt rh ft fa ca vt ag : Nat → Int32}
theorem xr_fin {post : Int32 → St2 → Prop} {x5 : Int32} {N l : Nat} {st tg f0 f1 tc lg : Nat → Int32} (h5 : ¬ lk = 5) (h : post lk ((nI ar), (nI cap), (nI n), (nI nT), (nI nA), (nI nC), (nI cp), (nI dn), (nI op), bd, (nI l), lk, lc, la, lt, le, st, tg, f0, f1, kd, tx, ts, ta, gv, gt, rh, ft, fa, ca, vt, ag, tc, lg)) : wX_run_72 post (N + 1) x5 (nI ar) (nI cap) (nI n) (nI nT) (nI nA) (nI nC) (nI cp) (nI dn) (nI op) bd (nI l) lk lc la lt le st tg f0 f1 kd tx ts ta gv gt rh ft fa ca vt ag tc lg := by
  rw [wX_run_72]
  exact br_c (fun _ => br_f h5 h) (fun _ => br_f h5 (br_f h5 h))
theorem rn_1 {T A E : Nat → Nat} (hn : n ≤ 32) (hpg : pg_ok ar nC nT nA kd tx ts vt ft fa ca gv rh T A) (hpe : pe_ok ar nC kd tx T) (hE : ∀ q, q < nT → ta q = nI (E q) ∧ ht_E (tk_f kd tx) q (E q)) (har : ar ≤ 3) (hA : ∀ i, i < ar → ∃ a, a < n ∧ ag i = nI a) :
    ∀ (r c l : Nat) (lc la : Int32) (st tg f0 f1 lg tc ch de si sP sV : Nat → Int32), c + r = nC → hp_ok n st tg f0 f1 → l + cu_n (hp_u st (fun _ => 0)) n ≤ 32 →
      ∃ (l' : Nat) (st' tg' f0' f1' lg' tc' ch' de' si' sP' sV' : Nat → Int32) (lk' lc' la' lt' le' : Int32), hp_ok n st' tg' f0' f1' ∧ l' ≤ 32 ∧
      (∀ (post : Int32 → St2 → Prop) (N : Nat), r + 1 < N → post lk' ((nI ar), (nI cap), (nI n), (nI nT), (nI nA), (nI nC), (nI cp), (nI dn), (nI op), bd, (nI l'), lk', lc', la', lt', le', st', tg', f0', f1', kd, tx, ts, ta, gv, gt, rh, ft, fa, ca, vt, ag, tc', lg') → wX_run_72 post N (nI c) (nI ar) (nI cap) (nI n) (nI nT) (nI nA) (nI nC) (nI cp) (nI dn) (nI op) bd (nI l) 5 lc la (-1) (-1) st tg f0 f1 kd tx ts ta gv gt rh ft fa ca vt ag tc lg) := by
  intro r
  have hC := hpg.1
  induction r with
  | zero =>
    intro c l lc la st tg f0 f1 lg tc ch de si sP sV hcr hok hl
    refine ⟨l, st, tg, f0, f1, lg, tc, ch, de, si, sP, sV, 1, -1, -1, -1, -1, hok, by omega, fun post N hN hp => ?_⟩
    · obtain ⟨N, rfl⟩ : ∃ N', N = N' + 1 := ⟨N - 1, by omega⟩
      rw [wX_run_72]
      exact br_t (nI_le (by omega) (by omega)) (br_t rfl hp)
  | succ r ih =>
    intro c l lc la st tg f0 f1 lg tc ch de si sP sV hcr hok hl
    have hc8 : c < nC := by omega
    have cx := pg_cx hpg hpe hE hc8
    have o := hpg.2.2.2.2.2.2.2.2 c hc8
    have c1 : (nI c).toNatClampNeg = c := nI_clamp (by omega)
    have vc : vp_in (nI c) 8 := vp_in_nI (by omega) (by omega)
    have eF : ft (nI c).toNatClampNeg = nI (T c) := by rw [c1]; exact o.2.2.2.2.1
    have nC1 : ¬ nI nC ≤ nI c := nI_ge (by omega) (by omega)
    obtain ⟨bo, e, l1, st1, tg1, f01, f11, lg1, tc1, ch1, de1, si1, sP1, sV1, ho, raX⟩ := ra_1 (ar := ar) (cap := cap) (nT := nT) (nA := nA) (nC := nC) (cp := cp) (dn := dn) (op := op) (bd := bd) (kd := kd) (tx := tx) (ts := ts) (ta := ta) (gv := gv) (gt := gt) (rh := rh) (ft := ft) (fa := fa) (ca := ca) (vt := vt) (ag := ag) (lc := nI c) (la := -1) (lt := -1) (le := -1) hn hpg hpe hc8 cx har hA ar 0 (T c) l st tg f0 f1 lg tc ch de si sP sV (by omega) (Nat.le_refl _) o.1 (by rw [o.2.2.2.2.2.2.2.1]; omega) hok hl (fun q q1 q2 => by omega)
    obtain ⟨hok1, hl1, he1, hv1, hbo⟩ := ho
    rcases hbo with hb0 | ⟨hb1, he0, hB⟩
    · subst hb0
      by_cases ez : e = 0
      · -- the next clause
        subst ez
        obtain ⟨l', st', tg', f0', f1', lg', tc', ch', de', si', sP', sV', lk', lc', la', lt', le', k1, k2, hX⟩ := ih (c + 1) l1 (nI c) (-1) st1 tg1 f01 f11 lg1 tc1 ch1 de1 si1 sP1 sV1 (by omega) hok1 (hv1 rfl)
        refine ⟨l', st', tg', f0', f1', lg', tc', ch', de', si', sP', sV', lk', lc', la', lt', le', k1, k2, fun post N hN hp => ?_⟩
        · obtain ⟨N, rfl⟩ : ∃ N', N = N' + 1 := ⟨N - 1, by omega⟩
          have hX' := hX post N (by omega) hp
          rw [wX_run_72]
          refine br_f nC1 (br_t rfl ⟨vc, nm_r eF ⟨_, raX _ _ (Nat.lt_succ_self _) ?_⟩⟩)
          exact br_t rfl (nm_r (nI_1 c) hX')
      · -- an error
        have h6 := fo_6 (e := e) (by omega)
        refine ⟨l1, st1, tg1, f01, f11, lg1, tc1, ch1, de1, si1, sP1, sV1, nI e, nI c, -1, -1, -1, hok1, hl1, fun post N hN hp => ?_⟩
        · obtain ⟨N, rfl⟩ : ∃ N', N = N' + 2 := ⟨N - 2, by omega⟩
          rw [← h6.1] at hp
          rw [wX_run_72]
          refine br_f nC1 (br_t rfl ⟨vc, nm_r eF ⟨_, raX _ _ (Nat.lt_succ_self _) ?_⟩⟩)
          exact br_t rfl (nm_r (nI_1 c) (xr_fin (by rw [h6.1]; exact h6.2.1) hp))
    · subst hb1
      subst he0
      obtain ⟨l2, st2, tg2, f02, f12, lg2, tc2, ch2, de2, si2, sP2, sV2, lk2, la2, lt2, le2, er2, K, q6, q7, q8, q9, q10, a1, a2, a3, a4, alX⟩ := al_1 (ar := ar) (cap := cap) (nT := nT) (nA := nA) (nC := nC) (cp := cp) (dn := dn) (op := op) (bd := bd) (kd := kd) (tx := tx) (ts := ts) (ta := ta) (gv := gv) (gt := gt) (rh := rh) (ft := ft) (fa := fa) (ca := ca) (vt := vt) (ag := ag) hn hpg hc8 cx (A (c + 1) - A c) 0 l1 (-1) st1 tg1 f01 f11 lg1 tc1 ch1 de1 si1 sP1 sV1 (by have := o.2.2.1; omega) hok1 (hv1 rfl) hB
      rcases a4 with ⟨b1, b2, b3, b4, b5, b6, b7, b8, b9, b10⟩ | ⟨b1, b2, b3, b4, b5, b6, b7, b8, b9⟩
      · subst b1 b2 b3 b4 b5 b6 b7 b8 b9 b10
        obtain ⟨l', st', tg', f0', f1', lg', tc', ch', de', si', sP', sV', lk', lc', la', lt', le', k1, k2, hX⟩ := ih (c + 1) l2 (nI c) la2 st2 tg2 f02 f12 lg2 tc2 ch2 de2 si2 sP2 sV2 (by omega) a1 (a3 rfl)
        refine ⟨l', st', tg', f0', f1', lg', tc', ch', de', si', sP', sV', lk', lc', la', lt', le', k1, k2, fun post N hN hp => ?_⟩
        · obtain ⟨N, rfl⟩ : ∃ N', N = N' + 1 := ⟨N - 1, by omega⟩
          have hX' := hX post N (by omega) hp
          rw [wX_run_72]
          refine br_f nC1 (br_t rfl ⟨vc, nm_r eF ⟨_, raX _ _ (Nat.lt_succ_self _) ?_⟩⟩)
          refine br_f (by decide) ⟨A (c + 1) - A c + 2, alX _ _ (by omega) ?_⟩
          exact nm_r (nI_1 c) hX'
      · subst b1 b4 b5 b6 b7 b8
        refine ⟨l2, st2, tg2, f02, f12, lg2, tc2, ch2, de2, si2, sP2, sV2, lk2, nI c, q7, q8, q9, a1, a2, fun post N hN hp => ?_⟩
        · obtain ⟨N, rfl⟩ : ∃ N', N = N' + 2 := ⟨N - 2, by omega⟩
          rw [wX_run_72]
          refine br_f nC1 (br_t rfl ⟨vc, nm_r eF ⟨_, raX _ _ (Nat.lt_succ_self _) ?_⟩⟩)
          refine br_f (by decide) ⟨A (c + 1) - A c + 2, alX _ _ (by omega) ?_⟩
          exact nm_r (nI_1 c) (xr_fin b2 hp)
/-- the component's links -/
theorem ln_17 {post : St2 → Prop} {J : Int32 → (Nat → Int32) → (Nat → Int32) → (Nat → Int32) → (Nat → Int32) → (Nat → Int32) → (Nat → Int32) → (Nat → Int32) → (Nat → Int32) → (Nat → Int32) → (Nat → Int32) → (Nat → Int32) → (Nat → Int32) → (Nat → Int32) → (Nat → Int32) → (Nat → Int32) → (Nat → Int32) → (Nat → Int32) → (Nat → Int32) → Prop} {t l : Nat} {e0 : Nat} {st tg f0 f1 tc lg : Nat → Int32} (h64 : nT ≤ 64) (ht : t < nT) (hs : ts t = nI (tk_f kd tx t)) (he0 : e0 ≤ nT) (hE0 : ht_E (tk_f kd tx) t e0)
    (hI : ∀ q, t < q → q < nT → ∃ e, e ≤ nT ∧ ta q = nI e ∧ ht_E (tk_f kd tx) q e)
    (hJ : J (nI t + (-1)) st tg f0 f1 kd tx ts (upd ta t (nI e0)) gv gt rh ft fa ca vt ag tc lg) :
    ∀ (k s a N : Nat), s + k = tk_f kd tx t → k < N → ln_A (tk_f kd tx) t s a → wX_linkTokens_17 post J (nI t) (nI ar) (nI cap) (nI n) (nI nT) (nI nA) (nI nC) (nI cp) (nI dn) (nI op) bd (nI l) lk lc la lt le st tg f0 f1 kd tx ts ta gv gt rh ft fa ca vt ag tc lg N (nI a) (nI s) := by
  intro k
  have ct : (nI t).toNatClampNeg = t := nI_clamp (by omega)
  have vt' : vp_in (nI t) 64 := vp_in_nI (by omega) (by omega)
  have f2 := tk_f2 kd tx t
  have eS : ts (nI t).toNatClampNeg = nI (tk_f kd tx t) := by rw [ct]; exact hs
  induction k with
  | zero =>
    intro s a N h1 h2 h3
    obtain ⟨N, rfl⟩ : ∃ N', N = N' + 1 := ⟨N - 1, by omega⟩
    have e1 : s = tk_f kd tx t := by omega
    subst e1
    have e2 := ht_uniq (ln_e h3) hE0
    subst e2
    rw [wX_linkTokens_17]
    exact ⟨vt', br_t (by rw [eS]; exact nI_le (Nat.le_refl _) (by omega)) ⟨vt', nm_r (e' := upd ta t (nI a)) (by rw [ct]) (nm_e hJ)⟩⟩
  | succ k ih =>
    intro s a N h1 h2 h3
    obtain ⟨N, rfl⟩ : ∃ N', N = N' + 1 := ⟨N - 1, by omega⟩
    have a1 := ln_lt h3 (by omega) hE0
    obtain ⟨e, e1, e2, e3⟩ := hI a h3.1 (by omega)
    have ca' : (nI a).toNatClampNeg = a := nI_clamp (by omega)
    rw [wX_linkTokens_17]
    exact ⟨vt', br_f (by rw [eS]; exact nI_ge (by omega) (by omega)) ⟨vp_in_nI (by omega) (by omega), nm_r (e' := nI e) (by rw [ca']; exact e2) (nm_r (nI_1 s) (ih (s + 1) e N (by omega) (by omega) (ln_s h3 e3)))⟩⟩
theorem ln_7 {post : St2 → Prop} {l : Nat} {st tg f0 f1 tc lg : Nat → Int32} (h64 : nT ≤ 64) (hs : ∀ q, q < nT → ts q = nI (tk_f kd tx q)) (hE : ∀ q, q < nT → ∃ e, e ≤ nT ∧ ht_E (tk_f kd tx) q e)
    (hp : ∀ ta' : Nat → Int32, (∀ q, q < nT → ∃ e, e ≤ nT ∧ ta' q = nI e ∧ ht_E (tk_f kd tx) q e) → post ((nI ar), (nI cap), (nI n), (nI nT), (nI nA), (nI nC), (nI cp), (nI dn), (nI op), bd, (nI l), lk, lc, la, lt, le, st, tg, f0, f1, kd, tx, ts, ta', gv, gt, rh, ft, fa, ca, vt, ag, tc, lg)) :
    ∀ (t N : Nat) (ta : Nat → Int32), t ≤ nT → t < N → (∀ q, t ≤ q → q < nT → ∃ e, e ≤ nT ∧ ta q = nI e ∧ ht_E (tk_f kd tx) q e) → wX_linkTokens_7 post (nI ar) (nI cap) (nI n) (nI nT) (nI nA) (nI nC) (nI cp) (nI dn) (nI op) bd (nI l) lk lc la lt le N (nI t + (-1)) st tg f0 f1 kd tx ts ta gv gt rh ft fa ca vt ag tc lg := by
  intro t
  induction t with
  | zero =>
    intro N ta h1 h2 h3
    obtain ⟨N, rfl⟩ : ∃ N', N = N' + 1 := ⟨N - 1, by omega⟩
    rw [wX_linkTokens_7]
    exact br_t (by decide) (hp ta (fun q hq => h3 q (by omega) hq))
  | succ t ih =>
    intro N ta h1 h2 h3
    obtain ⟨N, rfl⟩ : ∃ N', N = N' + 1 := ⟨N - 1, by omega⟩
    obtain ⟨e0, e1, e2⟩ := hE t (by omega)
    rw [wX_linkTokens_7, pk_m1]
    refine br_f (nI_pos (by omega)) (nm_r (nI_1 t) ⟨tk_f kd tx t + 1, ln_17 h64 (by omega) (hs t (by omega)) e1 e2 (fun q q1 q2 => h3 q (by omega) q2) (ih N (upd ta t (nI e0)) (by omega) (by omega) (fun q q1 q2 => ?_)) (tk_f kd tx t) 0 (t + 1) (tk_f kd tx t + 1) (by omega) (by omega) (ln_0 _ t)⟩)
    by_cases e : q = t
    · subst e
      exact ⟨e0, e1, pk_us, e2⟩
    · rw [pk_un e]
      exact h3 q (by omega) q2
end
end
section
/-! what a state of the class keeps -/
def ir_ok (ar cap n nT nA nC cp dn op l : Nat) (bd : Int32) (st tg f0 f1 kd tx ts ta gv rh ft fa ca vt : Nat → Int32) (T A : Nat → Nat) : Prop :=
  1 ≤ ar ∧ ar ≤ 3 ∧ 8 ≤ cap ∧ cap ≤ 32 ∧ n ≤ cap ∧ cp ≤ 1 ∧ l ≤ 32 ∧ hp_ok n st tg f0 f1 ∧ pg_ok ar nC nT nA kd tx ts vt ft fa ca gv rh T A ∧
  (nC = 0 → dn = 0 ∧ op = 0 ∧ bd = 0 ∧ cp = 0) ∧ (∀ c, nC = c + 1 → pb_ok ar c (T c) nT dn op bd kd tx) ∧
  (cp = 1 → dn = ar ∧ op = 0 ∧ ∀ q, q < nT → ∃ e, e ≤ nT ∧ ta q = nI e ∧ ht_E (tk_f kd tx) q e)
def xr_ok (u : St2) : Prop :=
  ∃ (ar cap n nT nA nC cp dn op l : Nat) (bd lk lc la lt le : Int32) (st tg f0 f1 kd tx ts ta gv gt rh ft fa ca vt ag tc lg : Nat → Int32) (T A : Nat → Nat), u = ((nI ar), (nI cap), (nI n), (nI nT), (nI nA), (nI nC), (nI cp), (nI dn), (nI op), bd, (nI l), lk, lc, la, lt, le, st, tg, f0, f1, kd, tx, ts, ta, gv, gt, rh, ft, fa, ca, vt, ag, tc, lg) ∧ ir_ok ar cap n nT nA nC cp dn op l bd st tg f0 f1 kd tx ts ta gv rh ft fa ca vt T A
theorem xr_mk {ar cap n nT nA nC cp dn op l : Nat} {bd lk lc la lt le : Int32} {st tg f0 f1 kd tx ts ta gv gt rh ft fa ca vt ag tc lg : Nat → Int32} {T A : Nat → Nat} (h : ir_ok ar cap n nT nA nC cp dn op l bd st tg f0 f1 kd tx ts ta gv rh ft fa ca vt T A) : xr_ok ((nI ar), (nI cap), (nI n), (nI nT), (nI nA), (nI nC), (nI cp), (nI dn), (nI op), bd, (nI l), lk, lc, la, lt, le, st, tg, f0, f1, kd, tx, ts, ta, gv, gt, rh, ft, fa, ca, vt, ag, tc, lg) := ⟨ar, cap, n, nT, nA, nC, cp, dn, op, l, bd, lk, lc, la, lt, le, st, tg, f0, f1, kd, tx, ts, ta, gv, gt, rh, ft, fa, ca, vt, ag, tc, lg, T, A, rfl, h⟩
theorem ir_cl (k : Int32) (lo hi : Nat) (h1 : lo ≤ hi) (h2 : hi < 2 ^ 31) : ∃ a, lo ≤ a ∧ a ≤ hi ∧ ∀ G : Int32 → Prop, G (nI a) → (nI lo ≤ k → (k ≤ nI hi → G k) ∧ (¬ k ≤ nI hi → G (nI hi))) ∧ (¬ nI lo ≤ k → G (nI lo)) := by
  by_cases a : nI lo ≤ k
  · by_cases b : k ≤ nI hi
    · have c : ¬ k < 0 := fun z => absurd (Int32.lt_of_le_of_lt a z) (nI_pos (by omega))
      obtain ⟨j, hj, rfl⟩ := nI_of c
      rw [nI_leI (by omega) hj] at a
      rw [nI_leI hj h2] at b
      exact ⟨j, a, b, fun G g => br_t (nI_le a hj) (br_t (nI_le b h2) g)⟩
    · exact ⟨hi, h1, Nat.le_refl _, fun G g => br_t a (br_f b g)⟩
  · exact ⟨lo, Nat.le_refl _, h1, fun G g => br_f a g⟩
theorem om_init (k0 k1 : Int32) : ∃ u', xr_ok u' ∧ ∀ post : St2 → Prop, post u' → wpX_init post 18 619 (0, 0, 0, 0, 0, 0, 0, 0, 0, 0, 0, 0, 0, 0, 0, 0) k0 k1 := by
  obtain ⟨a, a1, a2, hA⟩ := ir_cl k0 1 3 (by omega) (by omega)
  obtain ⟨b, b1, b2, hB⟩ := ir_cl k1 8 32 (by omega) (by omega)
  have hA' : ∀ post : Int32 → Prop, post (nI a) → wpX_clamp post () k0 1 3 := fun post h => hA post h
  have hB' : ∀ post : Int32 → Prop, post (nI b) → wpX_clamp post () k1 8 32 := fun post h => hB post h
  refine ⟨_, xr_mk (ar := a) (cap := b) (n := 0) (nT := 0) (nA := 0) (nC := 0) (cp := 0) (dn := 0) (op := 0) (l := 0) (bd := 0) (lk := 5) (lc := -1) (la := -1) (lt := -1) (le := -1) (st := fun _ => 0) (tg := fun _ => 0) (f0 := fun _ => 0) (f1 := fun _ => 0) (kd := fun _ => 0) (tx := fun _ => 0) (ts := fun _ => 0) (ta := fun _ => 0) (gv := fun _ => 0) (gt := fun _ => 0) (rh := fun _ => 0) (ft := fun _ => 0) (fa := fun _ => 0) (ca := fun _ => 0) (vt := fun _ => 0) (ag := fun _ => 0) (tc := fun _ => 0) (lg := fun _ => 0) (T := fun _ => 0) (A := fun _ => 0) ⟨a1, a2, b1, b2, by omega, by omega, by omega, fun c hc => absurd hc (by omega), pg_0, fun _ => ⟨rfl, rfl, rfl, rfl⟩, fun c hc => absurd hc (by omega), fun h => absurd h (by omega)⟩, fun post hp => ?_⟩
  refine ⟨by omega, by omega, by omega, by omega, by omega, by omega, by omega, by omega, by omega, by omega, by omega, by omega, by omega, by omega, by omega, by omega, by omega, by omega, by omega, by omega, by omega, by omega, by omega, by omega, by omega, by omega, by omega, by omega, by omega, by omega, by omega, by omega, by omega, by omega, by omega, by omega, hA' _ (hB' _ ?_)⟩
  exact hp
end
section
/-! the calls that only read: one answer each -/
theorem om_last {u : St2} (I : xr_ok u) (v1 : Int32) : ∃ r : Int32, ∀ post : Int32 → Prop, post r → wpX_last post u v1 := by
  obtain ⟨ar, cap, n, nT, nA, nC, cp, dn, op, l, bd, lk, lc, la, lt, le, st, tg, f0, f1, kd, tx, ts, ta, gv, gt, rh, ft, fa, ca, vt, ag, tc, lg, T, A, rfl, hk1, hk2, hk3, hk4, hk5, hk6, hk7, hk8, hk9, hk10, hk11, hk12⟩ := I
  by_cases h0 : v1 < 0
  · exact ⟨-1, fun post hp => br_t h0 hp⟩
  · by_cases h5 : 5 < v1
    · exact ⟨-1, fun post hp => br_f h0 (br_t h5 hp)⟩
    · obtain ⟨j, hj, rfl⟩ := nI_of2 (M := 5) (n := 5) (by decide) h0 (Int32.not_lt.mp h5)
      have hc : j = 0 ∨ j = 1 ∨ j = 2 ∨ j = 3 ∨ j = 4 ∨ j = 5 := by omega
      rcases hc with z | z | z | z | z | z <;> subst z
      · exact ⟨lk, fun post hp => br_f h0 (br_f h5 (br_t rfl hp))⟩
      · exact ⟨lc, fun post hp => br_f h0 (br_f h5 (br_f (by decide) (br_t rfl hp)))⟩
      · exact ⟨la, fun post hp => br_f h0 (br_f h5 (br_f (by decide) (br_f (by decide) (br_t rfl hp))))⟩
      · exact ⟨lt, fun post hp => br_f h0 (br_f h5 (br_f (by decide) (br_f (by decide) (br_f (by decide) (br_t rfl hp)))))⟩
      · exact ⟨le, fun post hp => br_f h0 (br_f h5 (br_f (by decide) (br_f (by decide) (br_f (by decide) (br_f (by decide) (br_t rfl hp))))))⟩
      · exact ⟨nI l, fun post hp => br_f h0 (br_f h5 (br_f (by decide) (br_f (by decide) (br_f (by decide) (br_f (by decide) (br_f (by decide) (br_t rfl hp)))))))⟩
theorem om_logAt {u : St2} (I : xr_ok u) (v1 : Int32) : ∃ r : Int32, ∀ post : Int32 → Prop, post r → wpX_logAt post u v1 := by
  obtain ⟨ar, cap, n, nT, nA, nC, cp, dn, op, l, bd, lk, lc, la, lt, le, st, tg, f0, f1, kd, tx, ts, ta, gv, gt, rh, ft, fa, ca, vt, ag, tc, lg, T, A, rfl, hk1, hk2, hk3, hk4, hk5, hk6, hk7, hk8, hk9, hk10, hk11, hk12⟩ := I
  by_cases h0 : v1 < 0
  · exact ⟨-1, fun post hp => br_t h0 hp⟩
  · obtain ⟨j, hj, rfl⟩ := nI_of h0
    by_cases hl : l ≤ j
    · exact ⟨-1, fun post hp => br_f h0 (br_t (nI_le hl hj) hp)⟩
    · exact ⟨_, fun post hp => br_f h0 (br_f (nI_ge (by omega) (by omega)) ⟨vp_in_nI (by omega) (by omega), hp⟩)⟩
theorem om_cellInfo {u : St2} (I : xr_ok u) (v1 : Int32) (v2 : Int32) : ∃ r : Int32, ∀ post : Int32 → Prop, post r → wpX_cellInfo post u v1 v2 := by
  obtain ⟨ar, cap, n, nT, nA, nC, cp, dn, op, l, bd, lk, lc, la, lt, le, st, tg, f0, f1, kd, tx, ts, ta, gv, gt, rh, ft, fa, ca, vt, ag, tc, lg, T, A, rfl, hk1, hk2, hk3, hk4, hk5, hk6, hk7, hk8, hk9, hk10, hk11, hk12⟩ := I
  by_cases h0 : v1 < 0
  · exact ⟨-1, fun post hp => br_t h0 (br_t rfl hp)⟩
  · obtain ⟨j, hj, rfl⟩ := nI_of h0
    by_cases hl : n ≤ j
    · exact ⟨-1, fun post hp => br_f h0 (br_t (nI_le hl hj) (br_t rfl hp))⟩
    · have a : ¬ nI n ≤ nI j := nI_ge (by omega) (by omega)
      have v : vp_in (nI j) 32 := vp_in_nI (by omega) (by omega)
      by_cases g0 : v2 < 0
      · exact ⟨-1, fun post hp => br_f h0 (br_f a (br_f (by decide) (br_t g0 hp)))⟩
      · by_cases g3 : 3 < v2
        · exact ⟨-1, fun post hp => br_f h0 (br_f a (br_f (by decide) (br_f g0 (br_t g3 hp))))⟩
        · obtain ⟨i, hi, rfl⟩ := nI_of2 (M := 3) (n := 3) (by decide) g0 (Int32.not_lt.mp g3)
          have hc : i = 0 ∨ i = 1 ∨ i = 2 ∨ i = 3 := by omega
          rcases hc with z | z | z | z <;> subst z
          · exact ⟨_, fun post hp => br_f h0 (br_f a (br_f (by decide) (br_f g0 (br_f g3 (br_t rfl ⟨v, hp⟩)))))⟩
          · exact ⟨_, fun post hp => br_f h0 (br_f a (br_f (by decide) (br_f g0 (br_f g3 (br_f (by decide) (br_t rfl ⟨v, hp⟩))))))⟩
          · exact ⟨_, fun post hp => br_f h0 (br_f a (br_f (by decide) (br_f g0 (br_f g3 (br_f (by decide) (br_f (by decide) (br_t rfl ⟨v, hp⟩)))))))⟩
          · exact ⟨_, fun post hp => br_f h0 (br_f a (br_f (by decide) (br_f g0 (br_f g3 (br_f (by decide) (br_f (by decide) (br_f (by decide) (br_t rfl ⟨v, hp⟩))))))))⟩
theorem om_progInfo {u : St2} (I : xr_ok u) (v1 : Int32) : ∃ r : Int32, ∀ post : Int32 → Prop, post r → wpX_progInfo post u v1 := by
  obtain ⟨ar, cap, n, nT, nA, nC, cp, dn, op, l, bd, lk, lc, la, lt, le, st, tg, f0, f1, kd, tx, ts, ta, gv, gt, rh, ft, fa, ca, vt, ag, tc, lg, T, A, rfl, hk1, hk2, hk3, hk4, hk5, hk6, hk7, hk8, hk9, hk10, hk11, hk12⟩ := I
  have hC8 := hk9.1
  by_cases h0 : v1 < 0
  · exact ⟨-1, fun post hp => br_t h0 hp⟩
  · by_cases h7 : 7 < v1
    · exact ⟨-1, fun post hp => br_f h0 (br_t h7 hp)⟩
    · obtain ⟨j, hj, rfl⟩ := nI_of2 (M := 7) (n := 7) (by decide) h0 (Int32.not_lt.mp h7)
      have hc : j = 0 ∨ j = 1 ∨ j = 2 ∨ j = 3 ∨ j = 4 ∨ j = 5 ∨ j = 6 ∨ j = 7 := by omega
      rcases hc with z | z | z | z | z | z | z | z <;> subst z
      · exact ⟨nI nC, fun post hp => br_f h0 (br_f h7 (br_t rfl hp))⟩
      · exact ⟨nI nT, fun post hp => br_f h0 (br_f h7 (br_f (by decide) (br_t rfl hp)))⟩
      · exact ⟨nI nA, fun post hp => br_f h0 (br_f h7 (br_f (by decide) (br_f (by decide) (br_t rfl hp))))⟩
      · by_cases c0 : nI cp = 0
        · exact ⟨0, fun post hp => br_f h0 (br_f h7 (br_f (by decide) (br_f (by decide) (br_f (by decide) (br_t rfl (br_t c0 hp))))))⟩
        · exact ⟨1, fun post hp => br_f h0 (br_f h7 (br_f (by decide) (br_f (by decide) (br_f (by decide) (br_t rfl (br_f c0 hp))))))⟩
      · exact ⟨nI dn, fun post hp => br_f h0 (br_f h7 (br_f (by decide) (br_f (by decide) (br_f (by decide) (br_f (by decide) (br_t rfl hp))))))⟩
      · exact ⟨nI op, fun post hp => br_f h0 (br_f h7 (br_f (by decide) (br_f (by decide) (br_f (by decide) (br_f (by decide) (br_f (by decide) (br_t rfl hp)))))))⟩
      · exact ⟨bd, fun post hp => br_f h0 (br_f h7 (br_f (by decide) (br_f (by decide) (br_f (by decide) (br_f (by decide) (br_f (by decide) (br_f (by decide) (br_t rfl hp))))))))⟩
      · by_cases c0 : nC = 0
        · have c1 : nI nC = 0 := by rw [c0]; rfl
          exact ⟨0, fun post hp => br_f h0 (br_f h7 (br_f (by decide) (br_f (by decide) (br_f (by decide) (br_f (by decide) (br_f (by decide) (br_f (by decide) (br_f (by decide) (br_t rfl (br_t c1 hp))))))))))⟩
        · obtain ⟨c, rfl⟩ : ∃ c, nC = c + 1 := ⟨nC - 1, by omega⟩
          have c1 : ¬ nI (c + 1) = 0 := nI_ne0 (by omega) (by omega)
          have e1 : nI (c + 1) - 1 = nI c := nI_pred c
          have v : vp_in (nI (c + 1) - 1) 8 := by rw [e1]; exact vp_in_nI (by omega) (by omega)
          exact ⟨_, fun post hp => br_f h0 (br_f h7 (br_f (by decide) (br_f (by decide) (br_f (by decide) (br_f (by decide) (br_f (by decide) (br_f (by decide) (br_f (by decide) (br_t rfl (br_f c1 ⟨v, hp⟩))))))))))⟩
end
section
/-! cell -/
theorem br_v {α : Sort _} {c : Prop} {t p q : α} (W : α → Prop) (h : (c ∧ t = p) ∨ (¬ c ∧ t = q)) (w : W t) : (c → W p) ∧ (¬ c → W q) := by
  rcases h with ⟨h, e⟩ | ⟨h, e⟩
  · exact br_t h (e ▸ w)
  · exact br_f h (e ▸ w)
theorem hp_add {n : Nat} {st tg f0 f1 : Nat → Int32} {x t a b : Int32} (h : hp_ok n st tg f0 f1) (h1 : ∃ s, s ≤ 3 ∧ x = nI s)
    (h2 : (x = 0 ∨ x = 1) → (¬ t < 4 → ∃ j, j < n + 1 ∧ a = nI j) ∧ (¬ t < 6 → ∃ j, j < n + 1 ∧ b = nI j)) (h3 : x = 2 → ∃ j, j < n + 1 ∧ a = nI j) : hp_ok (n + 1) (upd st n x) (upd tg n t) (upd f0 n a) (upd f1 n b) := by
  intro c hc
  by_cases e : c = n
  · subst e
    rw [pk_us, pk_us, pk_us, pk_us]
    exact ⟨h1, h2, h3⟩
  · rw [pk_un e, pk_un e, pk_un e, pk_un e]
    obtain ⟨a1, a2, a3⟩ := h c (by omega)
    refine ⟨a1, fun z => ⟨fun y => ?_, fun y => ?_⟩, fun z => ?_⟩
    · obtain ⟨j, j1, j2⟩ := (a2 z).1 y; exact ⟨j, by omega, j2⟩
    · obtain ⟨j, j1, j2⟩ := (a2 z).2 y; exact ⟨j, by omega, j2⟩
    · obtain ⟨j, j1, j2⟩ := a3 z; exact ⟨j, by omega, j2⟩
theorem tg_1 {post : Int32 → Prop} {x : Int32} (h0 : ¬ x < 0) (h7 : ¬ 7 < x) (h : post 1) : wpX_isTag post () x := br_f h0 (br_f h7 h)
theorem tg_0 {post : Int32 → Prop} {x : Int32} (h' : ¬ (¬ x < 0 ∧ ¬ 7 < x)) (h : post 0) : wpX_isTag post () x := by
  by_cases h0 : x < 0
  · exact br_t h0 h
  · by_cases h7 : 7 < x
    · exact br_f h0 (br_t h7 h)
    · exact absurd ⟨h0, h7⟩ h'
section
variable {ar cap n nT nA nC cp dn op : Nat} {bd lk lc la lt le : Int32} {kd tx ts ta gv gt rh ft fa ca vt ag : Nat → Int32}
theorem xn_1 {post : Int32 → Prop} {x : Int32} {l : Nat} {st tg f0 f1 tc lg : Nat → Int32} (hx : ¬ x < 0 ∧ ¬ nI n < x) (h : post 1) : wpX_isCellOrNext post ((nI ar), (nI cap), (nI n), (nI nT), (nI nA), (nI nC), (nI cp), (nI dn), (nI op), bd, (nI l), lk, lc, la, lt, le, st, tg, f0, f1, kd, tx, ts, ta, gv, gt, rh, ft, fa, ca, vt, ag, tc, lg) x := br_f hx.1 (br_f hx.2 h)
theorem xn_0 {post : Int32 → Prop} {x : Int32} {l : Nat} {st tg f0 f1 tc lg : Nat → Int32} (h' : ¬ (¬ x < 0 ∧ ¬ nI n < x)) (h : post 0) : wpX_isCellOrNext post ((nI ar), (nI cap), (nI n), (nI nT), (nI nA), (nI nC), (nI cp), (nI dn), (nI op), bd, (nI l), lk, lc, la, lt, le, st, tg, f0, f1, kd, tx, ts, ta, gv, gt, rh, ft, fa, ca, vt, ag, tc, lg) x := by
  by_cases h0 : x < 0
  · exact br_t h0 h
  · by_cases h7 : nI n < x
    · exact br_f h0 (br_t h7 h)
    · exact absurd ⟨h0, h7⟩ h'
theorem xc_w {post : Int32 → St2 → Prop} {x1 x2 x3 x4 x5 x7 x8 t a b : Int32} {l : Nat} {st tg f0 f1 tc lg : Nat → Int32} (hn : n < 32) (h5 : (x5 = 0 ∧ t = -1) ∨ (¬ x5 = 0 ∧ t = x2)) (h7 : (x7 = 0 ∧ a = -1) ∨ (¬ x7 = 0 ∧ a = x3)) (h8 : (x8 = 0 ∧ b = -1) ∨ (¬ x8 = 0 ∧ b = x4))
    (h : post (nI n) ((nI ar), (nI cap), (nI (n + 1)), (nI nT), (nI nA), (nI nC), (nI cp), (nI dn), (nI op), bd, (nI l), lk, lc, la, lt, le, (upd st n x1), (upd tg n t), (upd f0 n a), (upd f1 n b), kd, tx, ts, ta, gv, gt, rh, ft, fa, ca, vt, ag, tc, lg)) : wX_cell_127 post x1 x2 x3 x4 x5 x7 x8 (nI ar) (nI cap) (nI n) (nI nT) (nI nA) (nI nC) (nI cp) (nI dn) (nI op) bd (nI l) lk lc la lt le st tg f0 f1 kd tx ts ta gv gt rh ft fa ca vt ag tc lg := by
  have c : (nI n).toNatClampNeg = n := nI_clamp (by omega)
  have v : vp_in (nI n) 32 := vp_in_nI hn (by omega)
  have A192 : wX_cell_192 post (nI n) b (nI n) (nI ar) (nI cap) (nI n) (nI nT) (nI nA) (nI nC) (nI cp) (nI dn) (nI op) bd (nI l) lk lc la lt le (upd st n x1) (upd tg n t) (upd f0 n a) f1 kd tx ts ta gv gt rh ft fa ca vt ag tc lg := ⟨v, nm_r (e' := upd f1 n b) (by rw [c]) (nm_r (nI_1 n) h)⟩
  have A174 : wX_cell_174 post x4 x8 (nI n) a (nI n) (nI ar) (nI cap) (nI n) (nI nT) (nI nA) (nI nC) (nI cp) (nI dn) (nI op) bd (nI l) lk lc la lt le (upd st n x1) (upd tg n t) f0 f1 kd tx ts ta gv gt rh ft fa ca vt ag tc lg := ⟨v, nm_r (e' := upd f0 n a) (by rw [c]) (br_v (fun b => wX_cell_192 post (nI n) b (nI n) (nI ar) (nI cap) (nI n) (nI nT) (nI nA) (nI nC) (nI cp) (nI dn) (nI op) bd (nI l) lk lc la lt le (upd st n x1) (upd tg n t) (upd f0 n a) f1 kd tx ts ta gv gt rh ft fa ca vt ag tc lg) h8 A192)⟩
  have A157 : wX_cell_157 post x3 x4 x7 x8 (nI n) t (nI n) (nI ar) (nI cap) (nI n) (nI nT) (nI nA) (nI nC) (nI cp) (nI dn) (nI op) bd (nI l) lk lc la lt le (upd st n x1) tg f0 f1 kd tx ts ta gv gt rh ft fa ca vt ag tc lg := ⟨v, nm_r (e' := upd tg n t) (by rw [c]) (br_v (fun a => wX_cell_174 post x4 x8 (nI n) a (nI n) (nI ar) (nI cap) (nI n) (nI nT) (nI nA) (nI nC) (nI cp) (nI dn) (nI op) bd (nI l) lk lc la lt le (upd st n x1) (upd tg n t) f0 f1 kd tx ts ta gv gt rh ft fa ca vt ag tc lg) h7 A174)⟩
  exact ⟨v, nm_r (e' := upd st n x1) (by rw [c]) (br_v (fun t => wX_cell_157 post x3 x4 x7 x8 (nI n) t (nI n) (nI ar) (nI cap) (nI n) (nI nT) (nI nA) (nI nC) (nI cp) (nI dn) (nI op) bd (nI l) lk lc la lt le (upd st n x1) tg f0 f1 kd tx ts ta gv gt rh ft fa ca vt ag tc lg) h5 A157)⟩
end
theorem ok_n {n : Nat} {x : Int32} (hn : n < 32) (hx : ¬ x < 0 ∧ ¬ nI n < x) : ∃ j, j < n + 1 ∧ x = nI j := by
  obtain ⟨j, hj, rfl⟩ := nI_of hx.1
  have := hx.2
  rw [nI_ltI (by omega) hj] at this
  exact ⟨j, by omega, rfl⟩
theorem om_cell {u : St2} (I : xr_ok u) (v1 : Int32) (v2 : Int32) (v3 : Int32) (v4 : Int32) : ∃ (r : Int32) (u' : St2), xr_ok u' ∧ ∀ post : Int32 → St2 → Prop, post r u' → wpX_cell post u v1 v2 v3 v4 := by
  obtain ⟨ar, cap, n, nT, nA, nC, cp, dn, op, l, bd, lk, lc, la, lt, le, st, tg, f0, f1, kd, tx, ts, ta, gv, gt, rh, ft, fa, ca, vt, ag, tc, lg, T, A, rfl, hk1, hk2, hk3, hk4, hk5, hk6, hk7, hk8, hk9, hk10, hk11, hk12⟩ := I
  have J := xr_mk (gt := gt) (ag := ag) (tc := tc) (lg := lg) (lk := lk) (lc := lc) (la := la) (lt := lt) (le := le) ⟨hk1, hk2, hk3, hk4, hk5, hk6, hk7, hk8, hk9, hk10, hk11, hk12⟩
  by_cases hf : nI n = nI cap
  · exact ⟨-1, _, J, fun post hp => br_t hf hp⟩
  by_cases h0 : v1 < 0
  · exact ⟨-1, _, J, fun post hp => br_f hf (br_t h0 hp)⟩
  by_cases h3 : v1 ≤ 3
  rotate_left
  · exact ⟨-1, _, J, fun post hp => br_f hf (br_f h0 (br_f h3 hp))⟩
  have hnc : n ≠ cap := fun z => hf (by rw [z])
  have hn : n < 32 := by omega
  have w : ¬ (1 : Int32) ≤ 0 := by decide
  obtain ⟨s, hs, rfl⟩ := nI_of2 (M := 3) (n := 3) (by decide) h0 h3
  have K : ∀ t a b : Int32, ((nI s = 0 ∨ nI s = 1) → (¬ t < 4 → ∃ j, j < n + 1 ∧ a = nI j) ∧ (¬ t < 6 → ∃ j, j < n + 1 ∧ b = nI j)) → (nI s = 2 → ∃ j, j < n + 1 ∧ a = nI j) →
      xr_ok ((nI ar), (nI cap), (nI (n + 1)), (nI nT), (nI nA), (nI nC), (nI cp), (nI dn), (nI op), bd, (nI l), lk, lc, la, lt, le, (upd st n (nI s)), (upd tg n t), (upd f0 n a), (upd f1 n b), kd, tx, ts, ta, gv, gt, rh, ft, fa, ca, vt, ag, tc, lg) := fun t a b g1 g2 =>
    xr_mk ⟨hk1, hk2, hk3, hk4, by omega, hk6, hk7, hp_add hk8 ⟨s, hs, rfl⟩ g1 g2, hk9, hk10, hk11, hk12⟩
  have hc : s = 2 ∨ s = 3 ∨ (s = 0 ∨ s = 1) := by omega
  rcases hc with z | z | z
  · -- an indirection
    subst z
    by_cases ha : ¬ v3 < 0 ∧ ¬ nI n < v3
    · exact ⟨nI n, _, K (-1) v3 (-1) (fun z => absurd z (by decide)) (fun _ => ok_n hn ha), fun post hp => br_f hf (br_f h0 (br_t h3 (br_f (by decide) (br_f (by decide) (br_t rfl (br_t rfl (br_f w (br_t rfl (br_f (by decide) (br_f (by decide) (xn_1 ha (br_f (by decide) (br_t rfl (xc_w hn (Or.inl ⟨rfl, rfl⟩) (Or.inr ⟨by decide, rfl⟩) (Or.inl ⟨rfl, rfl⟩) hp))))))))))))))⟩
    · exact ⟨-1, _, J, fun post hp => br_f hf (br_f h0 (br_t h3 (br_f (by decide) (br_f (by decide) (br_t rfl (br_t rfl (br_f w (br_t rfl (br_f (by decide) (br_f (by decide) (xn_0 ha (br_t rfl hp))))))))))))⟩
  · -- a bottom
    subst z
    exact ⟨nI n, _, K (-1) (-1) (-1) (fun z => absurd z (by decide)) (fun z => absurd z (by decide)), fun post hp => br_f hf (br_f h0 (br_t h3 (br_f (by decide) (br_f (by decide) (br_t rfl (br_t rfl (br_f w (br_f (by decide) (br_f (by decide) (br_t rfl (br_t rfl (xc_w hn (Or.inl ⟨rfl, rfl⟩) (Or.inl ⟨rfl, rfl⟩) (Or.inl ⟨rfl, rfl⟩) hp))))))))))))⟩
  · -- a value or a thunk
    have n2 : ¬ nI s = 2 := by rcases z with z | z <;> subst z <;> decide
    have E1 : ∀ (post : Int32 → St2 → Prop), wX_cell_31 post (nI s) v2 v3 v4 (nI ar) (nI cap) (nI n) (nI nT) (nI nA) (nI nC) (nI cp) (nI dn) (nI op) bd (nI l) lk lc la lt le st tg f0 f1 kd tx ts ta gv gt rh ft fa ca vt ag tc lg → wpX_cell post ((nI ar), (nI cap), (nI n), (nI nT), (nI nA), (nI nC), (nI cp), (nI dn), (nI op), bd, (nI l), lk, lc, la, lt, le, st, tg, f0, f1, kd, tx, ts, ta, gv, gt, rh, ft, fa, ca, vt, ag, tc, lg) (nI s) v2 v3 v4 := fun post h => by
      rcases z with z | z <;> subst z
      · exact br_f hf (br_f h0 (br_t h3 (br_t rfl h)))
      · exact br_f hf (br_f h0 (br_t h3 (br_f (by decide) (br_t rfl h))))
    by_cases ht : ¬ v2 < 0 ∧ ¬ 7 < v2
    rotate_left
    · exact ⟨-1, _, J, fun post hp => E1 _ (br_f (by decide) (tg_0 ht (br_t rfl hp)))⟩
    · have E2 : ∀ (post : Int32 → St2 → Prop), wX_cell_65 post (nI s) v2 v3 v4 1 (nI (tk_a v2)) (nI ar) (nI cap) (nI n) (nI nT) (nI nA) (nI nC) (nI cp) (nI dn) (nI op) bd (nI l) lk lc la lt le st tg f0 f1 kd tx ts ta gv gt rh ft fa ca vt ag tc lg → wpX_cell post ((nI ar), (nI cap), (nI n), (nI nT), (nI nA), (nI nC), (nI cp), (nI dn), (nI op), bd, (nI l), lk, lc, la, lt, le, st, tg, f0, f1, kd, tx, ts, ta, gv, gt, rh, ft, fa, ca, vt, ag, tc, lg) (nI s) v2 v3 v4 := fun post h =>
        E1 _ (br_f (by decide) (tg_1 ht.1 ht.2 (br_f (by decide) (br_f (by decide) (sm_fx h)))))
      rcases tk_c v2 with ⟨q, q4⟩ | ⟨q, q4, q6⟩ | ⟨q, q4, q6⟩ <;> rw [q] at E2
      · -- no field
        exact ⟨nI n, _, K v2 (-1) (-1) (fun _ => ⟨fun y => absurd q4 y, fun y => absurd (Int32.lt_trans q4 (by decide)) y⟩) (fun y => absurd y n2), fun post hp => E2 _ (br_f (by decide) (br_f n2 (br_f (by decide) (br_t rfl (br_t rfl (xc_w hn (Or.inr ⟨by decide, rfl⟩) (Or.inl ⟨rfl, rfl⟩) (Or.inl ⟨rfl, rfl⟩) hp))))))⟩
      · -- one field
        by_cases ha : ¬ v3 < 0 ∧ ¬ nI n < v3
        · exact ⟨nI n, _, K v2 v3 (-1) (fun _ => ⟨fun _ => ok_n hn ha, fun y => absurd q6 y⟩) (fun y => absurd y n2), fun post hp => E2 _ (br_t (by decide) (br_f (by decide) (br_f (by decide) (xn_1 ha (br_f (by decide) (br_t rfl (xc_w hn (Or.inr ⟨by decide, rfl⟩) (Or.inr ⟨by decide, rfl⟩) (Or.inl ⟨rfl, rfl⟩) hp)))))))⟩
        · exact ⟨-1, _, J, fun post hp => E2 _ (br_t (by decide) (br_f (by decide) (br_f (by decide) (xn_0 ha (br_t rfl hp)))))⟩
      · -- two fields
        by_cases ha : ¬ v3 < 0 ∧ ¬ nI n < v3
        · by_cases hb : ¬ v4 < 0 ∧ ¬ nI n < v4
          · exact ⟨nI n, _, K v2 v3 v4 (fun _ => ⟨fun _ => ok_n hn ha, fun _ => ok_n hn hb⟩) (fun y => absurd y n2), fun post hp => E2 _ (br_t (by decide) (br_t rfl (br_f (by decide) (xn_1 ha (br_f (by decide) (br_f (by decide) (xn_1 hb (br_f (by decide) (xc_w hn (Or.inr ⟨by decide, rfl⟩) (Or.inr ⟨by decide, rfl⟩) (Or.inr ⟨by decide, rfl⟩) hp)))))))))⟩
          · exact ⟨-1, _, J, fun post hp => E2 _ (br_t (by decide) (br_t rfl (br_f (by decide) (xn_1 ha (br_f (by decide) (br_f (by decide) (xn_0 hb (br_t rfl hp))))))))⟩
        · exact ⟨-1, _, J, fun post hp => E2 _ (br_t (by decide) (br_t rfl (br_f (by decide) (xn_0 ha (br_t rfl hp)))))⟩
end
section
/-! clause and compile -/
section
variable {ar cap n nT nA nC cp dn op : Nat} {bd lk lc la lt le : Int32} {kd tx ts ta gv gt rh ft fa ca vt ag : Nat → Int32}
theorem cm_go {c l : Nat} {T A : Nat → Nat} {st tg f0 f1 tc lg : Nat → Int32} (hpg : pg_ok ar (c + 1) nT nA kd tx ts vt ft fa ca gv rh T A) (har : ar ≤ 3) (hdn : dn ≤ 3) (hop : op ≤ 100) :
    ∃ r : Int32, (r = 0 ∨ (r = 1 ∧ dn = ar ∧ op = 0 ∧ A c < nA)) ∧ (∀ post : Int32 → Prop, post r → wpX_isComplete post ((nI ar), (nI cap), (nI n), (nI nT), (nI nA), (nI (c + 1)), (nI cp), (nI dn), (nI op), bd, (nI l), lk, lc, la, lt, le, st, tg, f0, f1, kd, tx, ts, ta, gv, gt, rh, ft, fa, ca, vt, ag, tc, lg)) := by
  have o := hpg.2.2.2.2.2.2.2.2 c (by omega)
  have hC := hpg.1
  have hnA := hpg.2.2.2.2.2.2.1
  have h16 := hpg.2.2.1
  have oa := o.2.2.1
  have e1 : nI (c + 1) - 1 = nI c := nI_pred c
  have e2 : (nI (c + 1) - 1).toNatClampNeg = c := by rw [e1]; exact nI_clamp (by omega)
  have v : vp_in (nI (c + 1) - 1) 8 := by rw [e1]; exact vp_in_nI (by omega) (by omega)
  have eX : ca (nI (c + 1) - 1).toNatClampNeg = nI (nA - A c) := by rw [e2, o.2.2.2.2.2.2.1, hnA]
  by_cases h1 : dn = ar
  · have d1 : nI dn = nI ar := by rw [h1]
    by_cases h2 : op = 0
    · have d2 : nI op = 0 := by rw [h2]; rfl
      by_cases h3 : A c < nA
      · have d3 : ¬ nI (nA - A c) ≤ 0 := nI_nle (by omega) (by omega)
        exact ⟨1, Or.inr ⟨rfl, h1, h2, h3⟩, fun post h => br_t d1 (br_t d2 ⟨v, br_f (by rw [eX]; exact d3) h⟩)⟩
      · have d3 : nI (nA - A c) ≤ 0 := by rw [show nA - A c = 0 by omega]; decide
        exact ⟨0, Or.inl rfl, fun post h => br_t d1 (br_t d2 ⟨v, br_t (by rw [eX]; exact d3) h⟩)⟩
    · have d2 : ¬ nI op = 0 := nI_ne0 (by omega) (by omega)
      exact ⟨0, Or.inl rfl, fun post h => br_t d1 (br_f d2 h)⟩
  · have d1 : ¬ nI dn = nI ar := fun z => h1 ((nI_eq (by omega) (by omega)).mp z)
    exact ⟨0, Or.inl rfl, fun post h => br_f d1 h⟩
theorem xl_go {post : Int32 → St2 → Prop} {l : Nat} {st tg f0 f1 tc lg : Nat → Int32} (hC : nC < 8) (h : post 1 ((nI ar), (nI cap), (nI n), (nI nT), (nI nA), (nI (nC + 1)), (nI cp), 0, 0, 0, (nI l), lk, lc, la, lt, le, st, tg, f0, f1, kd, tx, ts, ta, gv, gt, rh, (upd ft nC (nI nT)), (upd fa nC (nI nA)), (upd ca nC 0), vt, ag, tc, lg)) : wX_clause_21 post (nI ar) (nI cap) (nI n) (nI nT) (nI nA) (nI nC) (nI cp) (nI dn) (nI op) bd (nI l) lk lc la lt le st tg f0 f1 kd tx ts ta gv gt rh ft fa ca vt ag tc lg := by
  have c : (nI nC).toNatClampNeg = nC := nI_clamp (by omega)
  have v : vp_in (nI nC) 8 := vp_in_nI hC (by omega)
  have n8 : ¬ nI nC = 8 := fun z => by
    have := (nI_eq (a := nC) (b := 8) (by omega) (by omega)).mp z
    omega
  exact br_f n8 ⟨v, nm_r (e' := upd ft nC (nI nT)) (by rw [c]) ⟨v, nm_r (e' := upd fa nC (nI nA)) (by rw [c]) ⟨v, nm_r (e' := upd ca nC 0) (by rw [c]) (nm_r (nI_1 nC) h)⟩⟩⟩
end
theorem pb_new {ar nC nT : Nat} {kd tx : Nat → Int32} {T : Nat → Nat} (hT : T nC = nT) (hh : ht_h (tk_f kd tx) nT = -((ar * nC : Nat) : Int)) : ∀ c, nC + 1 = c + 1 → pb_ok ar c (pg_u T (nC + 1) nT c) nT 0 0 0 kd tx := by
  intro c hc
  have : c = nC := by omega
  subst this
  rw [pg_un (by omega), hT]
  refine ⟨by omega, Or.inl rfl, by omega, by rw [hh, if_pos rfl]; omega, fun x hx => ⟨fun z => ?_, fun ⟨q, q1, q2, _⟩ => by omega⟩⟩
  rw [b_0] at z
  exact absurd z (by decide)
theorem om_clause {u : St2} (I : xr_ok u) : ∃ (r : Int32) (u' : St2), xr_ok u' ∧ ∀ post : Int32 → St2 → Prop, post r u' → wpX_clause post u := by
  obtain ⟨ar, cap, n, nT, nA, nC, cp, dn, op, l, bd, lk, lc, la, lt, le, st, tg, f0, f1, kd, tx, ts, ta, gv, gt, rh, ft, fa, ca, vt, ag, tc, lg, T, A, rfl, hk1, hk2, hk3, hk4, hk5, hk6, hk7, hk8, hk9, hk10, hk11, hk12⟩ := I
  have J := xr_mk (gt := gt) (ag := ag) (tc := tc) (lg := lg) (lk := lk) (lc := lc) (la := la) (lt := lt) (le := le) ⟨hk1, hk2, hk3, hk4, hk5, hk6, hk7, hk8, hk9, hk10, hk11, hk12⟩
  by_cases h0 : cp = 0
  rotate_left
  · have c0 : ¬ nI cp = 0 := nI_ne0 (by omega) (by omega)
    exact ⟨0, _, J, fun post hp => br_f c0 hp⟩
  subst h0
  have hC := hk9.1
  have S : ht_h (tk_f kd tx) nT = -((ar * nC : Nat) : Int) → nC < 8 → xr_ok ((nI ar), (nI cap), (nI n), (nI nT), (nI nA), (nI (nC + 1)), (nI 0), (nI 0), (nI 0), 0, (nI l), lk, lc, la, lt, le, st, tg, f0, f1, kd, tx, ts, ta, gv, gt, rh, (upd ft nC (nI nT)), (upd fa nC (nI nA)), (upd ca nC 0), vt, ag, tc, lg) := fun hh h8 =>
    xr_mk (gt := gt) (ag := ag) (tc := tc) (lg := lg) (lk := lk) (lc := lc) (la := la) (lt := lt) (le := le) (dn := 0) (op := 0) (bd := 0) (ta := ta) ⟨hk1, hk2, hk3, hk4, hk5, hk6, hk7, hk8, pg_cl hk9 h8 hh, fun z => absurd z (by omega), pb_new hk9.2.2.2.2.2.1 hh, fun z => absurd z (by omega)⟩
  by_cases h1 : nC = 0
  · subst h1
    have hT0 : nT = 0 := by rw [← hk9.2.2.2.2.2.1]; exact hk9.2.2.2.1
    have hh : ht_h (tk_f kd tx) nT = -((ar * 0 : Nat) : Int) := by
      subst hT0
      show (0 : Int) = _
      omega
    exact ⟨1, _, S hh (by omega), fun post hp => br_t rfl (br_t (by decide) (xl_go (by omega) hp))⟩
  · obtain ⟨c, rfl⟩ : ∃ c, nC = c + 1 := ⟨nC - 1, by omega⟩
    have pb := hk11 c rfl
    have h64 := hk9.2.1
    obtain ⟨r, hr, cX⟩ := cm_go (cap := cap) (n := n) (cp := 0) (bd := bd) (lk := lk) (lc := lc) (la := la) (lt := lt) (le := le) (ag := ag) (gt := gt) (ta := ta) (l := l) (st := st) (tg := tg) (f0 := f0) (f1 := f1) (tc := tc) (lg := lg) (dn := dn) (op := op) hk9 hk2 (by have := pb.1; omega) (by have := pb.2.2.1; omega)
    have x1 : ¬ nI (c + 1) ≤ 0 := nI_nle (by omega) (by omega)
    rcases hr with z | ⟨z, z1, z2, z3⟩
    · subst z
      exact ⟨0, _, J, fun post hp => br_t rfl (br_f x1 (cX _ (br_t rfl hp)))⟩
    · subst z
      have pe := pe_mk hk9 pb z1 z2 (c + 1) (Nat.le_refl _)
      rw [hk9.2.2.2.2.2.1] at pe
      by_cases h8 : c + 1 < 8
      · exact ⟨1, _, S pe h8, fun post hp => br_t rfl (br_f x1 (cX _ (br_f (by decide) (xl_go h8 hp))))⟩
      · have e8 : nI (c + 1) = 8 := by rw [show c + 1 = 8 by omega]; rfl
        exact ⟨0, _, J, fun post hp => br_t rfl (br_f x1 (cX _ (br_f (by decide) (br_t e8 hp))))⟩
section
variable {ar cap n nT nA nC cp dn op : Nat} {bd lk lc la lt le : Int32} {kd tx ts ta gv gt rh ft fa ca vt ag : Nat → Int32}
/-- the links have one outcome -/
theorem lo_7 {l : Nat} {st tg f0 f1 tc lg : Nat → Int32} (h64 : nT ≤ 64) (hs : ∀ q, q < nT → ts q = nI (tk_f kd tx q)) (hE : ∀ q, q < nT → ∃ e, e ≤ nT ∧ ht_E (tk_f kd tx) q e) :
    ∀ (t : Nat) (ta : Nat → Int32), t ≤ nT → (∀ q, t ≤ q → q < nT → ∃ e, e ≤ nT ∧ ta q = nI e ∧ ht_E (tk_f kd tx) q e) →
      ∃ ta' : Nat → Int32, (∀ q, q < nT → ∃ e, e ≤ nT ∧ ta' q = nI e ∧ ht_E (tk_f kd tx) q e) ∧ ∀ (post : St2 → Prop) (N : Nat), t < N → post ((nI ar), (nI cap), (nI n), (nI nT), (nI nA), (nI nC), (nI cp), (nI dn), (nI op), bd, (nI l), lk, lc, la, lt, le, st, tg, f0, f1, kd, tx, ts, ta', gv, gt, rh, ft, fa, ca, vt, ag, tc, lg) → wX_linkTokens_7 post (nI ar) (nI cap) (nI n) (nI nT) (nI nA) (nI nC) (nI cp) (nI dn) (nI op) bd (nI l) lk lc la lt le N (nI t + (-1)) st tg f0 f1 kd tx ts ta gv gt rh ft fa ca vt ag tc lg := by
  intro t
  induction t with
  | zero =>
    intro ta h1 h3
    refine ⟨ta, fun q hq => h3 q (by omega) hq, fun post N h2 hp => ?_⟩
    obtain ⟨N, rfl⟩ : ∃ N', N = N' + 1 := ⟨N - 1, by omega⟩
    rw [wX_linkTokens_7]
    exact br_t (by decide) hp
  | succ t ih =>
    intro ta h1 h3
    obtain ⟨e0, e1, e2⟩ := hE t (by omega)
    obtain ⟨ta', k1, k2⟩ := ih (upd ta t (nI e0)) (by omega) (fun q q1 q2 => by
      by_cases e : q = t
      · subst e
        exact ⟨e0, e1, pk_us, e2⟩
      · rw [pk_un e]
        exact h3 q (by omega) q2)
    refine ⟨ta', k1, fun post N h2 hp => ?_⟩
    obtain ⟨N, rfl⟩ : ∃ N', N = N' + 1 := ⟨N - 1, by omega⟩
    rw [wX_linkTokens_7, pk_m1]
    exact br_f (nI_pos (by omega)) (nm_r (nI_1 t) ⟨tk_f kd tx t + 1, ln_17 h64 (by omega) (hs t (by omega)) e1 e2 (fun q q1 q2 => h3 q (by omega) q2) (k2 post N (by omega) hp) (tk_f kd tx t) 0 (t + 1) (tk_f kd tx t + 1) (by omega) (by omega) (ln_0 _ t)⟩)
end
theorem om_compile {u : St2} (I : xr_ok u) : ∃ (r : Int32) (u' : St2), xr_ok u' ∧ ∀ post : Int32 → St2 → Prop, post r u' → wpX_compile post u := by
  obtain ⟨ar, cap, n, nT, nA, nC, cp, dn, op, l, bd, lk, lc, la, lt, le, st, tg, f0, f1, kd, tx, ts, ta, gv, gt, rh, ft, fa, ca, vt, ag, tc, lg, T, A, rfl, hk1, hk2, hk3, hk4, hk5, hk6, hk7, hk8, hk9, hk10, hk11, hk12⟩ := I
  have J := xr_mk (gt := gt) (ag := ag) (tc := tc) (lg := lg) (lk := lk) (lc := lc) (la := la) (lt := lt) (le := le) ⟨hk1, hk2, hk3, hk4, hk5, hk6, hk7, hk8, hk9, hk10, hk11, hk12⟩
  by_cases h0 : cp = 0
  rotate_left
  · have c0 : ¬ nI cp = 0 := nI_ne0 (by omega) (by omega)
    exact ⟨0, _, J, fun post hp => br_f c0 hp⟩
  subst h0
  have hC := hk9.1
  by_cases h1 : nC = 0
  · subst h1
    exact ⟨0, _, J, fun post hp => br_t rfl (br_t rfl hp)⟩
  · obtain ⟨c, rfl⟩ : ∃ c, nC = c + 1 := ⟨nC - 1, by omega⟩
    have pb := hk11 c rfl
    have h64 := hk9.2.1
    obtain ⟨r, hr, cX⟩ := cm_go (cap := cap) (n := n) (cp := 0) (bd := bd) (lk := lk) (lc := lc) (la := la) (lt := lt) (le := le) (ag := ag) (gt := gt) (ta := ta) (l := l) (st := st) (tg := tg) (f0 := f0) (f1 := f1) (tc := tc) (lg := lg) (dn := dn) (op := op) hk9 hk2 (by have := pb.1; omega) (by have := pb.2.2.1; omega)
    have x1 : ¬ nI (c + 1) = 0 := nI_ne0 (by omega) (by omega)
    rcases hr with z | ⟨z, z1, z2, z3⟩
    · subst z
      exact ⟨0, _, J, fun post hp => br_t rfl (br_f x1 (cX _ (br_t rfl hp)))⟩
    · subst z
      have pe := pe_mk hk9 pb z1 z2
      obtain ⟨ta', k1, k2⟩ := lo_7 (ar := ar) (cap := cap) (n := n) (nA := nA) (nC := c + 1) (cp := 0) (dn := dn) (op := op) (bd := bd) (lk := lk) (lc := lc) (la := la) (lt := lt) (le := le) (gv := gv) (gt := gt) (rh := rh) (ft := ft) (fa := fa) (ca := ca) (vt := vt) (ag := ag) (l := l) (st := st) (tg := tg) (f0 := f0) (f1 := f1) (tc := tc) (lg := lg) h64 (fun q hq => (hk9.2.2.2.2.2.2.2.1 q hq).2.2) (fun q hq => pe_any hk9 pe hq) nT ta (Nat.le_refl _) (fun q q1 q2 => by omega)
      refine ⟨1, _, xr_mk (cp := 1) (ta := ta') (gt := gt) (ag := ag) (tc := tc) (lg := lg) (lk := lk) (lc := lc) (la := la) (lt := lt) (le := le) ⟨hk1, hk2, hk3, hk4, hk5, by omega, hk7, hk8, hk9, fun z => absurd z (by omega), hk11, fun _ => ⟨z1, z2, k1⟩⟩, fun post hp => ?_⟩
      exact br_t rfl (br_f x1 (cX _ (br_f (by decide) (nm_r (Int32.sub_eq_add_neg (nI nT) 1) ⟨nT + 1, k2 _ (nT + 1) (by omega) hp⟩))))
end
section
/-! alt -/
section
variable {ar cap n nT nA nC cp dn op : Nat} {bd lk lc la lt le : Int32} {kd tx ts ta gv gt rh ft fa ca vt ag : Nat → Int32}
theorem xa_91 {post : Int32 → St2 → Prop} {c l : Nat} {x1 x2 x3 : Int32} {st tg f0 f1 tc lg : Nat → Int32} (hA : nA < 16) (hC : c < 8)
    (h : post 1 ((nI ar), (nI cap), (nI n), (nI nT), (nI (nA + 1)), (nI (c + 1)), (nI cp), (nI dn), (nI op), bd, (nI l), lk, lc, la, lt, le, st, tg, f0, f1, kd, tx, ts, ta, (upd gv nA x1), (upd gt nA x2), (upd rh nA x3), ft, fa, (upd ca c (ca c + 1)), vt, ag, tc, lg)) : wX_alt_91 post x1 x2 x3 (nI ar) (nI cap) (nI n) (nI nT) (nI nA) (nI (c + 1)) (nI cp) (nI dn) (nI op) bd (nI l) lk lc la lt le st tg f0 f1 kd tx ts ta gv gt rh ft fa ca vt ag tc lg := by
  have cA : (nI nA).toNatClampNeg = nA := nI_clamp (by omega)
  have v : vp_in (nI nA) 16 := vp_in_nI hA (by omega)
  have e1 : nI (c + 1) - 1 = nI c := nI_pred c
  have e2 : (nI (c + 1) - 1).toNatClampNeg = c := by rw [e1]; exact nI_clamp (by omega)
  have v8 : vp_in (nI (c + 1) - 1) 8 := by rw [e1]; exact vp_in_nI hC (by omega)
  exact ⟨v, nm_r (e' := upd gv nA x1) (by rw [cA]) ⟨v, nm_r (e' := upd gt nA x2) (by rw [cA]) ⟨v, nm_r (e' := upd rh nA x3) (by rw [cA]) (nm_r (nI_1 nA) ⟨v8, v8, nm_r (e' := upd ca c (ca c + 1)) (by rw [e2]) h⟩)⟩⟩⟩
end
theorem al_78 {x : Int32} : (8 ≤ x ↔ 7 < x) := by
  rw [Int32.le_iff_toInt_le, Int32.lt_iff_toInt_lt]
  rw [show (8 : Int32).toInt = 8 from by decide, show (7 : Int32).toInt = 7 from by decide]
  omega
theorem om_alt {u : St2} (I : xr_ok u) (v1 : Int32) (v2 : Int32) (v3 : Int32) : ∃ (r : Int32) (u' : St2), xr_ok u' ∧ ∀ post : Int32 → St2 → Prop, post r u' → wpX_alt post u v1 v2 v3 := by
  obtain ⟨ar, cap, n, nT, nA, nC, cp, dn, op, l, bd, lk, lc, la, lt, le, st, tg, f0, f1, kd, tx, ts, ta, gv, gt, rh, ft, fa, ca, vt, ag, tc, lg, T, A, rfl, hk1, hk2, hk3, hk4, hk5, hk6, hk7, hk8, hk9, hk10, hk11, hk12⟩ := I
  have J := xr_mk (gt := gt) (ag := ag) (tc := tc) (lg := lg) (lk := lk) (lc := lc) (la := la) (lt := lt) (le := le) ⟨hk1, hk2, hk3, hk4, hk5, hk6, hk7, hk8, hk9, hk10, hk11, hk12⟩
  by_cases h0 : cp = 0
  rotate_left
  · have c0 : ¬ nI cp = 0 := nI_ne0 (by omega) (by omega)
    exact ⟨0, _, J, fun post hp => br_f c0 hp⟩
  subst h0
  have hC := hk9.1
  by_cases h1 : nC = 0
  · subst h1
    exact ⟨0, _, J, fun post hp => br_t rfl (br_t rfl hp)⟩
  obtain ⟨c, rfl⟩ : ∃ c, nC = c + 1 := ⟨nC - 1, by omega⟩
  have pb := hk11 c rfl
  have x1 : ¬ nI (c + 1) = 0 := nI_ne0 (by omega) (by omega)
  by_cases h2 : nI dn < nI ar
  · exact ⟨0, _, J, fun post hp => br_t rfl (br_f x1 (br_t h2 hp))⟩
  by_cases h3 : nI nA = 16
  · exact ⟨0, _, J, fun post hp => br_t rfl (br_f x1 (br_f h2 (br_t h3 hp)))⟩
  have h16 := hk9.2.2.1
  have hA : nA < 16 := by
    rcases Nat.lt_or_ge nA 16 with z | z
    · exact z
    · exact absurd (by rw [show nA = 16 by omega]; rfl) h3
  have R : (v1 = -1 ∨ ∃ x, x < 8 ∧ v1 = nI x ∧ vr_in kd tx (T c) nT x) → ∀ (PX : ∀ post : Int32 → St2 → Prop, wX_alt_65 post v1 v2 v3 (nI ar) (nI cap) (nI n) (nI nT) (nI nA) (nI (c + 1)) (nI 0) (nI dn) (nI op) bd (nI l) lk lc la lt le st tg f0 f1 kd tx ts ta gv gt rh ft fa ca vt ag tc lg → wpX_alt post ((nI ar), (nI cap), (nI n), (nI nT), (nI nA), (nI (c + 1)), (nI 0), (nI dn), (nI op), bd, (nI l), lk, lc, la, lt, le, st, tg, f0, f1, kd, tx, ts, ta, gv, gt, rh, ft, fa, ca, vt, ag, tc, lg) v1 v2 v3),
      ∃ (r : Int32) (u' : St2), xr_ok u' ∧ ∀ post : Int32 → St2 → Prop, post r u' → wpX_alt post ((nI ar), (nI cap), (nI n), (nI nT), (nI nA), (nI (c + 1)), (nI 0), (nI dn), (nI op), bd, (nI l), lk, lc, la, lt, le, st, tg, f0, f1, kd, tx, ts, ta, gv, gt, rh, ft, fa, ca, vt, ag, tc, lg) v1 v2 v3 := by
    intro hg PX
    have S : (∃ y, y ≤ 11 ∧ v3 = nI y ∧ (y < 8 → vr_in kd tx (T c) nT y)) → xr_ok ((nI ar), (nI cap), (nI n), (nI nT), (nI (nA + 1)), (nI (c + 1)), (nI 0), (nI dn), (nI op), bd, (nI l), lk, lc, la, lt, le, st, tg, f0, f1, kd, tx, ts, ta, (upd gv nA v1), (upd gt nA v2), (upd rh nA v3), ft, fa, (upd ca c (ca c + 1)), vt, ag, tc, lg) := fun hr =>
      xr_mk ⟨hk1, hk2, hk3, hk4, hk5, hk6, hk7, hk8, pg_alt hk9 hA hg hr, fun z => absurd z (by omega), hk11, hk12⟩
    by_cases r0 : v3 < 0
    · exact ⟨0, _, J, fun post hp => PX _ (br_t r0 hp)⟩
    by_cases r11 : 11 < v3
    · exact ⟨0, _, J, fun post hp => PX _ (br_f r0 (br_t r11 hp))⟩
    obtain ⟨y, hy, rfl⟩ := nI_of2 (M := 11) (n := 11) (by decide) r0 (Int32.not_lt.mp r11)
    by_cases r8 : 8 ≤ nI y
    · have hy8 : ¬ y < 8 := fun z => nI_ge (b := 8) z (by omega) r8
      exact ⟨1, _, S ⟨y, hy, rfl, fun z => absurd z hy8⟩, fun post hp => PX _ (br_f r0 (br_f r11 (br_t r8 (xa_91 hA (by omega) hp))))⟩
    · have hy8 : y < 8 := by
        rcases Nat.lt_or_ge y 8 with z | z
        · exact z
        · exact absurd (nI_le (a := 8) z (by omega)) r8
      by_cases rb : ((bd >>> (nI y &&& 31)) &&& 1) = 0
      · exact ⟨0, _, J, fun post hp => PX _ (br_f r0 (br_f r11 (br_f r8 (br_t rb (br_t rfl hp)))))⟩
      · have hb : bt bd y = true := ts_nf (fun z => rb ((bd_iff (by omega)).mpr z))
        exact ⟨1, _, S ⟨y, hy, rfl, fun _ => (pb.2.2.2.2 y hy8).mp hb⟩, fun post hp => PX _ (br_f r0 (br_f r11 (br_f r8 (br_f rb (br_f (by decide) (xa_91 hA (by omega) hp))))))⟩
  by_cases g1 : v1 = -1
  · exact R (Or.inl g1) (fun post h => br_t rfl (br_f x1 (br_f h2 (br_f h3 (br_t g1 h)))))
  by_cases g0 : v1 < 0
  · exact ⟨0, _, J, fun post hp => br_t rfl (br_f x1 (br_f h2 (br_f h3 (br_f g1 (br_t g0 (br_t rfl hp))))))⟩
  by_cases g8 : 8 ≤ v1
  · exact ⟨0, _, J, fun post hp => br_t rfl (br_f x1 (br_f h2 (br_f h3 (br_f g1 (br_f g0 (br_t g8 (br_t rfl hp)))))))⟩
  have g7 : ¬ 7 < v1 := fun z => g8 (al_78.mpr z)
  obtain ⟨x, hx, rfl⟩ := nI_of2 (M := 7) (n := 7) (by decide) g0 (Int32.not_lt.mp g7)
  by_cases gb : ((bd >>> (nI x &&& 31)) &&& 1) = 0
  · exact ⟨0, _, J, fun post hp => br_t rfl (br_f x1 (br_f h2 (br_f h3 (br_f g1 (br_f g0 (br_f g8 (br_f (by decide) (br_t gb (br_t rfl hp)))))))))⟩
  have hb : bt bd x = true := ts_nf (fun z => gb ((bd_iff (by omega)).mpr z))
  by_cases ht : ¬ v2 < 0 ∧ ¬ 7 < v2
  · exact R (Or.inr ⟨x, by omega, rfl, (pb.2.2.2.2 x (by omega)).mp hb⟩) (fun post h => br_t rfl (br_f x1 (br_f h2 (br_f h3 (br_f g1 (br_f g0 (br_f g8 (br_f (by decide) (br_f gb (br_f (by decide) (tg_1 ht.1 ht.2 (br_f (by decide) h))))))))))))
  · exact ⟨0, _, J, fun post hp => br_t rfl (br_f x1 (br_f h2 (br_f h3 (br_f g1 (br_f g0 (br_f g8 (br_f (by decide) (br_f gb (br_f (by decide) (tg_0 ht (br_t rfl hp)))))))))))⟩
end
section
/-! pat -/
section
variable {ar cap n nT nA nC cp dn op : Nat} {bd lk lc la lt le : Int32} {kd tx ts ta gv gt rh ft fa ca vt ag : Nat → Int32}
theorem xp_124 {post : Int32 → St2 → Prop} {l s : Nat} {x1 x2 : Int32} {st tg f0 f1 tc lg : Nat → Int32} (hT : nT < 64) (hop : op ≤ 100) (hs : s ≤ 2)
    (h : post 1 ((nI ar), (nI cap), (nI n), (nI (nT + 1)), (nI nA), (nI nC), (nI cp), (nI (if (if op = 0 then 1 else op) - 1 + s = 0 then dn + 1 else dn)), (nI ((if op = 0 then 1 else op) - 1 + s)), bd, (nI l), lk, lc, la, lt, le, st, tg, f0, f1, (upd kd nT x1), (upd tx nT x2), (upd ts nT (nI s)), ta, gv, gt, rh, ft, fa, ca, vt, ag, tc, lg)) : wX_pat_124 post x1 x2 (nI s) (nI ar) (nI cap) (nI n) (nI nT) (nI nA) (nI nC) (nI cp) (nI dn) (nI op) bd (nI l) lk lc la lt le st tg f0 f1 kd tx ts ta gv gt rh ft fa ca vt ag tc lg := by
  have c : (nI nT).toNatClampNeg = nT := nI_clamp (by omega)
  have v : vp_in (nI nT) 64 := vp_in_nI hT (by omega)
  have K : ∀ o' : Nat, o' = (if op = 0 then 1 else op) → wX_pat_180 post (nI s) (nI o') (nI ar) (nI cap) (nI n) (nI (nT + 1)) (nI nA) (nI nC) (nI cp) (nI dn) (nI op) bd (nI l) lk lc la lt le st tg f0 f1 (upd kd nT x1) (upd tx nT x2) (upd ts nT (nI s)) ta gv gt rh ft fa ca vt ag tc lg := by
    intro o' ho
    rw [← ho] at h
    have o1 : 1 ≤ o' ∧ o' ≤ 100 := by
      rw [ho]
      split <;> omega
    obtain ⟨o'', rfl⟩ : ∃ x, o' = x + 1 := ⟨o' - 1, by omega⟩
    rw [Nat.add_sub_cancel] at h
    refine nm_r (e' := nI (o'' + s)) (by rw [nI_pred, nI_add]) ?_
    by_cases z : o'' + s = 0
    · rw [if_pos z] at h
      exact br_t (by rw [z]; rfl) (nm_r (nI_1 dn) h)
    · rw [if_neg z] at h
      exact br_f (nI_ne0 (by omega) (by omega)) h
  refine ⟨v, nm_r (e' := upd kd nT x1) (by rw [c]) ⟨v, nm_r (e' := upd tx nT x2) (by rw [c]) ⟨v, nm_r (e' := upd ts nT (nI s)) (by rw [c]) (nm_r (nI_1 nT) ?_)⟩⟩⟩
  by_cases z : op = 0
  · exact br_t (by rw [z]; rfl) (K 1 (by rw [if_pos z]))
  · exact br_f (nI_ne0 (by omega) (by omega)) (K op (by rw [if_neg z]))
end
theorem om_pat {u : St2} (I : xr_ok u) (v1 : Int32) (v2 : Int32) : ∃ (r : Int32) (u' : St2), xr_ok u' ∧ ∀ post : Int32 → St2 → Prop, post r u' → wpX_pat post u v1 v2 := by
  obtain ⟨ar, cap, n, nT, nA, nC, cp, dn, op, l, bd, lk, lc, la, lt, le, st, tg, f0, f1, kd, tx, ts, ta, gv, gt, rh, ft, fa, ca, vt, ag, tc, lg, T, A, rfl, hk1, hk2, hk3, hk4, hk5, hk6, hk7, hk8, hk9, hk10, hk11, hk12⟩ := I
  have J := xr_mk (gt := gt) (ag := ag) (tc := tc) (lg := lg) (lk := lk) (lc := lc) (la := la) (lt := lt) (le := le) ⟨hk1, hk2, hk3, hk4, hk5, hk6, hk7, hk8, hk9, hk10, hk11, hk12⟩
  by_cases h0 : cp = 0
  rotate_left
  · have c0 : ¬ nI cp = 0 := nI_ne0 (by omega) (by omega)
    exact ⟨0, _, J, fun post hp => br_f c0 hp⟩
  subst h0
  have hC := hk9.1
  by_cases h1 : nC = 0
  · subst h1
    exact ⟨0, _, J, fun post hp => br_t rfl (br_t rfl hp)⟩
  obtain ⟨c, rfl⟩ : ∃ c, nC = c + 1 := ⟨nC - 1, by omega⟩
  have pb := hk11 c rfl
  have x1 : ¬ nI (c + 1) = 0 := nI_ne0 (by omega) (by omega)
  by_cases h2 : nI dn = nI ar
  · exact ⟨0, _, J, fun post hp => br_t rfl (br_f x1 (br_t h2 hp))⟩
  by_cases h3 : v1 < 0
  · exact ⟨0, _, J, fun post hp => br_t rfl (br_f x1 (br_f h2 (br_t h3 hp)))⟩
  by_cases h4 : 4 < v1
  · exact ⟨0, _, J, fun post hp => br_t rfl (br_f x1 (br_f h2 (br_f h3 (br_t h4 hp))))⟩
  by_cases h5 : nI nT = 64
  · exact ⟨0, _, J, fun post hp => br_t rfl (br_f x1 (br_f h2 (br_f h3 (br_f h4 (br_t h5 hp)))))⟩
  have h64 := hk9.2.1
  have hT : nT < 64 := by
    rcases Nat.lt_or_ge nT 64 with z | z
    · exact z
    · exact absurd (by rw [show nT = 64 by omega]; rfl) h5
  have hdn : dn < ar := by
    have a := pb.1
    rcases Nat.lt_or_ge dn ar with z | z
    · exact z
    · exact absurd (by rw [show dn = ar by omega]) h2
  have hop : op ≤ 100 := by have := pb.2.2.1; omega
  have s2 := tk_s2 v1 v2
  have oc := hk9.2.2.2.2.2.2.2.2 c (by omega)
  have htn : T c ≤ nT := by have := oc.1; rw [hk9.2.2.2.2.2.1] at this; exact this
  obtain ⟨j, hj, ej⟩ := nI_of2 (M := 4) (n := 4) (by decide) h3 (Int32.not_lt.mp h4)
  have S : ∀ (bd' : Int32) (vt' : Nat → Int32), ((v1 = 1 ∨ v1 = 2) → ∃ y, y < 8 ∧ v2 = nI y) → (∀ y, y < 8 → (bt bd' y = true ↔ (bt bd y = true ∨ (v1 = 1 ∧ v2 = nI y)))) →
      ((v1 ≠ 1 ∧ vt' = vt) ∨ (v1 = 1 ∧ vt' = upd vt (8 * c + v2.toNatClampNeg) (nI nT) ∧ ∀ y, y < 8 → v2 = nI y → ¬ vr_in kd tx (T c) nT y)) →
      xr_ok ((nI ar), (nI cap), (nI n), (nI (nT + 1)), (nI nA), (nI (c + 1)), (nI 0), (nI (if (if op = 0 then 1 else op) - 1 + tk_s v1 v2 = 0 then dn + 1 else dn)), (nI ((if op = 0 then 1 else op) - 1 + tk_s v1 v2)), bd', (nI l), lk, lc, la, lt, le, st, tg, f0, f1, (upd kd nT v1), (upd tx nT v2), (upd ts nT (nI (tk_s v1 v2))), ta, gv, gt, rh, ft, fa, ca, vt', ag, tc, lg) := fun bd' vt' g1 g2 g3 => by
    have p := pb_pat pb htn hdn g2
    refine xr_mk ⟨hk1, hk2, hk3, hk4, hk5, hk6, hk7, hk8, pg_pat hk9 hT ⟨j, hj, ej⟩ g1 p.2 g3, fun z => absurd z (by omega), fun c' hc' => ?_, fun z => absurd z (by omega)⟩
    have : c' = c := by omega
    subst this
    rw [pg_un (by omega)]
    exact p.1
  by_cases k1 : v1 = 1
  · -- a variable
    have k2 : ¬ v1 = 2 := by rw [k1]; decide
    by_cases g0 : v2 < 0
    · exact ⟨0, _, J, fun post hp => br_t rfl (br_f x1 (br_f h2 (br_f h3 (br_f h4 (br_f h5 (br_t k1 (br_t g0 (br_t rfl hp))))))))⟩
    by_cases g8 : 8 ≤ v2
    · exact ⟨0, _, J, fun post hp => br_t rfl (br_f x1 (br_f h2 (br_f h3 (br_f h4 (br_f h5 (br_t k1 (br_f g0 (br_t g8 (br_t rfl hp)))))))))⟩
    have g7 : ¬ 7 < v2 := fun z => g8 (al_78.mpr z)
    obtain ⟨x, hx, rfl⟩ := nI_of2 (M := 7) (n := 7) (by decide) g0 (Int32.not_lt.mp g7)
    by_cases gb : ((bd >>> (nI x &&& 31)) &&& 1) = 0
    · have hb : bt bd x = false := (bd_iff (by omega)).mp gb
      have cx' : (nI x).toNatClampNeg = x := nI_clamp (by omega)
      have e1 : (nI (c + 1) - 1) * 8 + nI x = nI (8 * c + x) := by
        rw [nI_pred, show (8 : Int32) = nI 8 from rfl, pk_mul, nI_add, Nat.mul_comm]
      have v2' : vp_in ((nI (c + 1) - 1) * 8 + nI x) 64 := by rw [e1]; exact vp_in_nI (by omega) (by omega)
      have c2 : ((nI (c + 1) - 1) * 8 + nI x).toNatClampNeg = 8 * c + (nI x).toNatClampNeg := by rw [e1, cx']; exact nI_clamp (by omega)
      have W := S (bd ||| ((1 : Int32) <<< (nI x &&& 31))) (upd vt (8 * c + (nI x).toNatClampNeg) (nI nT)) (fun _ => ⟨x, by omega, rfl⟩) (fun y hy => by
          rw [bd_or (by omega) (by omega), Bool.or_eq_true, decide_eq_true_eq]
          constructor
          · rintro (z | z)
            · exact Or.inl z
            · exact Or.inr ⟨k1, by rw [z]⟩
          · rintro (z | ⟨_, z⟩)
            · exact Or.inl z
            · exact Or.inr ((nI_eq (by omega) (by omega)).mp z).symm) (Or.inr ⟨k1, rfl, fun y hy hxy hv => by
          have := (nI_eq (by omega) (by omega)).mp hxy
          subst this
          have := (pb.2.2.2.2 x hy).mpr hv
          rw [hb] at this
          exact absurd this (by decide)⟩)
      refine ⟨1, _, W, fun post hp => ?_⟩
      exact br_t rfl (br_f x1 (br_f h2 (br_f h3 (br_f h4 (br_f h5 (br_t k1 (br_f g0 (br_f g8 (br_f (by decide) (br_t gb (br_t rfl (br_f k2 (sm_sx (br_t k1 (nm_e ⟨v2', nm_r (e' := upd vt (8 * c + (nI x).toNatClampNeg) (nI nT)) (by rw [c2]) (xp_124 hT hop s2 hp)⟩)))))))))))))))
    · exact ⟨0, _, J, fun post hp => br_t rfl (br_f x1 (br_f h2 (br_f h3 (br_f h4 (br_f h5 (br_t k1 (br_f g0 (br_f g8 (br_f (by decide) (br_f gb (br_f (by decide) hp)))))))))))⟩
  · have g2 : ∀ y, y < 8 → (bt bd y = true ↔ (bt bd y = true ∨ (v1 = 1 ∧ v2 = nI y))) := fun y _ => ⟨Or.inl, fun z => z.elim id (fun w => absurd w.1 k1)⟩
    by_cases k2 : v1 = 2
    · by_cases ht : ¬ v2 < 0 ∧ ¬ 7 < v2
      · obtain ⟨x, hx, ex⟩ := nI_of2 (M := 7) (n := 7) (by decide) ht.1 (Int32.not_lt.mp ht.2)
        refine ⟨1, _, S bd vt (fun _ => ⟨x, by omega, ex⟩) g2 (Or.inl ⟨k1, rfl⟩), fun post hp => ?_⟩
        exact br_t rfl (br_f x1 (br_f h2 (br_f h3 (br_f h4 (br_f h5 (br_f k1 (br_t k2 (tg_1 ht.1 ht.2 (br_f (by decide) (sm_sx (br_f k1 (xp_124 hT hop s2 hp))))))))))))
      · exact ⟨0, _, J, fun post hp => br_t rfl (br_f x1 (br_f h2 (br_f h3 (br_f h4 (br_f h5 (br_f k1 (br_t k2 (tg_0 ht (br_t rfl hp)))))))))⟩
    · refine ⟨1, _, S bd vt (fun z => absurd z (fun w => w.elim k1 k2)) g2 (Or.inl ⟨k1, rfl⟩), fun post hp => ?_⟩
      exact br_t rfl (br_f x1 (br_f h2 (br_f h3 (br_f h4 (br_f h5 (br_f k1 (br_f k2 (sm_sx (br_f k1 (xp_124 hT hop s2 hp))))))))))
end
section
/-! run -/
def rc_ok (n : Nat) (x : Int32) : Prop := ¬ x < 0 ∧ ¬ nI n ≤ x
def ra_ok (n ar : Nat) (x y z : Int32) : Prop := rc_ok n x ∧ (2 ≤ ar → rc_ok n y) ∧ (3 ≤ ar → rc_ok n z)
theorem rc_n {n : Nat} {x : Int32} (hn : n ≤ 32) (hx : rc_ok n x) : ∃ j, j < n ∧ x = nI j := by
  obtain ⟨j, hj, rfl⟩ := nI_of hx.1
  have := hx.2
  rw [nI_leI (by omega) hj] at this
  exact ⟨j, by omega, rfl⟩
section
variable {ar cap n nT nA nC cp dn op : Nat} {bd lk lc la lt le : Int32} {kd tx ts ta gv gt rh ft fa ca vt ag : Nat → Int32}
theorem xi_1 {post : Int32 → Prop} {x : Int32} {l : Nat} {st tg f0 f1 tc lg : Nat → Int32} (hx : rc_ok n x) (h : post 1) : wpX_isCell post ((nI ar), (nI cap), (nI n), (nI nT), (nI nA), (nI nC), (nI cp), (nI dn), (nI op), bd, (nI l), lk, lc, la, lt, le, st, tg, f0, f1, kd, tx, ts, ta, gv, gt, rh, ft, fa, ca, vt, ag, tc, lg) x := br_f hx.1 (br_f hx.2 h)
theorem xi_0 {post : Int32 → Prop} {x : Int32} {l : Nat} {st tg f0 f1 tc lg : Nat → Int32} (h' : ¬ rc_ok n x) (h : post 0) : wpX_isCell post ((nI ar), (nI cap), (nI n), (nI nT), (nI nA), (nI nC), (nI cp), (nI dn), (nI op), bd, (nI l), lk, lc, la, lt, le, st, tg, f0, f1, kd, tx, ts, ta, gv, gt, rh, ft, fa, ca, vt, ag, tc, lg) x := by
  by_cases h0 : x < 0
  · exact br_t h0 h
  · by_cases h7 : nI n ≤ x
    · exact br_f h0 (br_t h7 h)
    · exact absurd ⟨h0, h7⟩ h'
theorem rx_ok {post : Int32 → St2 → Prop} {x y z : Int32} {l : Nat} {st tg f0 f1 tc lg : Nat → Int32} (har : ar ≤ 3) (hv : ra_ok n ar x y z) (h : wX_run_61 post x y z (nI ar) (nI cap) (nI n) (nI nT) (nI nA) (nI nC) (nI cp) (nI dn) (nI op) bd (nI l) lk lc la lt le st tg f0 f1 kd tx ts ta gv gt rh ft fa ca vt ag tc lg) : wX_run_18 post x y z (nI ar) (nI cap) (nI n) (nI nT) (nI nA) (nI nC) (nI cp) (nI dn) (nI op) bd (nI l) lk lc la lt le st tg f0 f1 kd tx ts ta gv gt rh ft fa ca vt ag tc lg := by
  have K : wX_run_42 post x y z (nI ar) (nI cap) (nI n) (nI nT) (nI nA) (nI nC) (nI cp) (nI dn) (nI op) bd (nI l) lk lc la lt le st tg f0 f1 kd tx ts ta gv gt rh ft fa ca vt ag tc lg := by
    by_cases h3 : ar < 3
    · exact br_t (nI_lt (b := 3) h3 (by omega)) h
    · exact br_f (nI_nlt (b := 3) (by omega) (by omega)) (xi_1 (hv.2.2 (by omega)) (br_f (by decide) h))
  refine xi_1 hv.1 (br_f (by decide) ?_)
  by_cases h2 : ar < 2
  · exact br_t (nI_lt (b := 2) h2 (by omega)) K
  · exact br_f (nI_nlt (b := 2) (by omega) (by omega)) (xi_1 (hv.2.1 (by omega)) (br_f (by decide) K))
theorem rx_no {post : Int32 → St2 → Prop} {x y z : Int32} {l : Nat} {st tg f0 f1 tc lg : Nat → Int32} (har : ar ≤ 3) (hv : ¬ ra_ok n ar x y z) (h : post (-1) ((nI ar), (nI cap), (nI n), (nI nT), (nI nA), (nI nC), (nI cp), (nI dn), (nI op), bd, (nI l), lk, lc, la, lt, le, st, tg, f0, f1, kd, tx, ts, ta, gv, gt, rh, ft, fa, ca, vt, ag, tc, lg)) : wX_run_18 post x y z (nI ar) (nI cap) (nI n) (nI nT) (nI nA) (nI nC) (nI cp) (nI dn) (nI op) bd (nI l) lk lc la lt le st tg f0 f1 kd tx ts ta gv gt rh ft fa ca vt ag tc lg := by
  by_cases a : rc_ok n x
  rotate_left
  · exact xi_0 a (br_t rfl h)
  refine xi_1 a (br_f (by decide) ?_)
  have K : (2 ≤ ar → rc_ok n y) → wX_run_42 post x y z (nI ar) (nI cap) (nI n) (nI nT) (nI nA) (nI nC) (nI cp) (nI dn) (nI op) bd (nI l) lk lc la lt le st tg f0 f1 kd tx ts ta gv gt rh ft fa ca vt ag tc lg := fun b => by
    by_cases h3 : ar < 3
    · exact absurd ⟨a, b, fun q => absurd h3 (by omega)⟩ hv
    · refine br_f (nI_nlt (b := 3) (by omega) (by omega)) (xi_0 (fun q => hv ⟨a, b, fun _ => q⟩) (br_t rfl h))
  by_cases h2 : ar < 2
  · exact br_t (nI_lt (b := 2) h2 (by omega)) (K (fun q => absurd h2 (by omega)))
  · refine br_f (nI_nlt (b := 2) (by omega) (by omega)) ?_
    by_cases b : rc_ok n y
    · exact xi_1 b (br_f (by decide) (K (fun _ => b)))
    · exact xi_0 b (br_t rfl h)
end
theorem om_run {u : St2} (I : xr_ok u) (v2 v3 v4 : Int32) : ∃ (r : Int32) (u' : St2), xr_ok u' ∧ ∀ (v1 : Int32), (v1 = 0 ∨ v1 = 1) → ∀ post : Int32 → St2 → Prop, post r u' → wpX_run post u v1 v2 v3 v4 := by
  obtain ⟨ar, cap, n, nT, nA, nC, cp, dn, op, l, bd, lk, lc, la, lt, le, st, tg, f0, f1, kd, tx, ts, ta, gv, gt, rh, ft, fa, ca, vt, ag, tc, lg, T, A, rfl, hk1, hk2, hk3, hk4, hk5, hk6, hk7, hk8, hk9, hk10, hk11, hk12⟩ := I
  have J := xr_mk (gt := gt) (ag := ag) (tc := tc) (lg := lg) (lk := lk) (lc := lc) (la := la) (lt := lt) (le := le) ⟨hk1, hk2, hk3, hk4, hk5, hk6, hk7, hk8, hk9, hk10, hk11, hk12⟩
  by_cases h0 : cp = 0
  · subst h0
    exact ⟨-1, _, J, fun v1 hm post hp => br_t rfl hp⟩
  have c0 : ¬ nI cp = 0 := nI_ne0 (by omega) (by omega)
  have PX : ∀ (v1 : Int32), (v1 = 0 ∨ v1 = 1) → ∀ post : Int32 → St2 → Prop, wX_run_18 post v2 v3 v4 (nI ar) (nI cap) (nI n) (nI nT) (nI nA) (nI nC) (nI cp) (nI dn) (nI op) bd (nI l) lk lc la lt le st tg f0 f1 kd tx ts ta gv gt rh ft fa ca vt ag tc lg → wpX_run post ((nI ar), (nI cap), (nI n), (nI nT), (nI nA), (nI nC), (nI cp), (nI dn), (nI op), bd, (nI l), lk, lc, la, lt, le, st, tg, f0, f1, kd, tx, ts, ta, gv, gt, rh, ft, fa, ca, vt, ag, tc, lg) v1 v2 v3 v4 := fun v1 hm post h => by
    rcases hm with z | z
    · exact br_f c0 (br_t z h)
    · exact br_f c0 (br_f (by rw [z]; decide) (br_t z h))
  by_cases hv : ra_ok n ar v2 v3 v4
  rotate_left
  · exact ⟨-1, _, J, fun v1 hm post hp => PX v1 hm _ (rx_no hk2 hv hp)⟩
  obtain ⟨z1, z2, hta⟩ := hk12 (by omega)
  obtain ⟨c, rfl⟩ : ∃ c, nC = c + 1 := ⟨nC - 1, by
    have : nC ≠ 0 := fun z => h0 (hk10 z).2.2.2
    omega⟩
  have hn : n ≤ 32 := by omega
  have h64 := hk9.2.1
  have pe := pe_mk hk9 (hk11 c rfl) z1 z2
  have hE : ∀ q, q < nT → ta q = nI ((fun q => (ta q).toNatClampNeg) q) ∧ ht_E (tk_f kd tx) q ((fun q => (ta q).toNatClampNeg) q) := fun q hq => by
    obtain ⟨e, e1, e2, e3⟩ := hta q hq
    have e4 : (ta q).toNatClampNeg = e := by rw [e2]; exact nI_clamp (by omega)
    show ta q = nI (ta q).toNatClampNeg ∧ ht_E (tk_f kd tx) q (ta q).toNatClampNeg
    rw [e4]
    exact ⟨e2, e3⟩
  have hA : ∀ i, i < ar → ∃ a, a < n ∧ upd (upd (upd ag 0 v2) 1 v3) 2 v4 i = nI a := fun i hi => by
    have : i = 0 ∨ i = 1 ∨ i = 2 := by omega
    rcases this with z | z | z <;> subst z
    · exact rc_n hn hv.1
    · exact rc_n hn (hv.2.1 (by omega))
    · exact rc_n hn (hv.2.2 (by omega))
  obtain ⟨l', st', tg', f0', f1', lg', tc', ch', de', si', sP', sV', lk', lc', la', lt', le', k1, k2, hX⟩ := rn_1 (cap := cap) (cp := cp) (dn := dn) (op := op) (bd := bd) (gt := gt) hn hk9 pe hE hk2 hA (c + 1) 0 0 lc la st tg f0 f1 lg tc (fun _ => 0) (fun _ => 0) (fun _ => 0) (fun _ => 0) (fun _ => 0) (by omega) hk8 (by
    have := cu_le (hp_u st (fun _ => 0)) n
    omega)
  have W : xr_ok ((nI ar), (nI cap), (nI n), (nI nT), (nI nA), (nI (c + 1)), (nI cp), (nI dn), (nI op), bd, (nI l'), lk', lc', la', lt', le', st', tg', f0', f1', kd, tx, ts, ta, gv, gt, rh, ft, fa, ca, vt, (upd (upd (upd ag 0 v2) 1 v3) 2 v4), tc', lg') :=
    xr_mk ⟨hk1, hk2, hk3, hk4, hk5, hk6, k2, k1, hk9, hk10, hk11, hk12⟩
  refine ⟨lk', _, W, fun v1 hm post hp => PX v1 hm _ (rx_ok hk2 hv ?_)⟩
  exact nm_e (nm_e (nm_e ⟨c + 3, hX _ (c + 3) (by omega) hp⟩))
end
section
/-! the law's small methods -/
theorem lz_cell {xs : Nat → Int32} {L : Nat} (hL : L ≤ 260) (p : Nat) (hp : p < 2 ^ 31) : ∃ r : Int32, ∀ post : Int32 → Prop, post r → wpL_cell post L xs () (nI p) := by
  by_cases h : L ≤ p
  · exact ⟨0, fun post g => br_t (nI_le h hp) g⟩
  · exact ⟨_, fun post g => br_f (nI_ge (by omega) (by omega)) ⟨vp_in_nI (by omega) (by omega), g⟩⟩
theorem lz_nn (v : Int32) {y : Int32} (m : Nat) (hy : y = nI m) (h0 : 0 < m) (h1 : m < 2 ^ 31) : ∃ j : Nat, j < m ∧ ∀ post : Int32 → Prop, post (nI j) → wpL_nn post () v y := by
  subst hy
  have b := fmv_bounds (a := v) (m := nI m) (by rw [nI_toInt h1]; omega)
  rw [nI_toInt h1] at b
  obtain ⟨j, hj, e⟩ := nI_of (x := fmv v (nI m)) (by
    rw [Int32.lt_iff_toInt_lt, show (0 : Int32).toInt = 0 from by decide]
    omega)
  rw [e, nI_toInt hj] at b
  refine ⟨j, by omega, fun post g => ⟨nI_ne0 h0 h1, nm_e ?_⟩⟩
  rw [← e] at g
  by_cases h : 0 ≤ v - v / nI m * nI m
  · have t : fmv v (nI m) = v - v / nI m * nI m := if_pos h
    rw [t] at g
    exact br_t h g
  · have t : fmv v (nI m) = v - v / nI m * nI m + nI m := if_neg h
    rw [t] at g
    exact br_f h g
theorem lz_kind (v : Int32) : ∃ r : Int32, ∀ post : Int32 → Prop, post r → wpL_kindOf post () v := by
  obtain ⟨j, _, h⟩ := lz_nn v (y := 8) 8 rfl (by omega) (by omega)
  by_cases a : 2 ≤ nI j
  · by_cases b : 5 ≤ nI j
    · by_cases c : 7 ≤ nI j
      · exact ⟨3, fun post g => h _ (br_t a (br_t b (br_t c g)))⟩
      · exact ⟨2, fun post g => h _ (br_t a (br_t b (br_f c g)))⟩
    · exact ⟨1, fun post g => h _ (br_t a (br_f b g))⟩
  · exact ⟨0, fun post g => h _ (br_f a g)⟩
theorem lz_pick (b s : Int32) : ∃ r : Int32, ∀ post : Int32 → Prop, post r → wpL_pickBound post () b s := by
  have K : ∀ k i : Nat, i + k = 8 → ∃ r : Int32, ∀ (post : Int32 → Prop) (N : Nat), k < N → post r → wL_pickBound_2 post b s N (nI i) := by
    intro k
    induction k with
    | zero =>
      intro i hi
      refine ⟨-1, fun post N hN g => ?_⟩
      obtain ⟨N, rfl⟩ : ∃ N', N = N' + 1 := ⟨N - 1, by omega⟩
      rw [wL_pickBound_2]
      exact br_t (nI_le (a := 8) (by omega) (by omega)) g
    | succ k ih =>
      intro i hi
      obtain ⟨r, h⟩ := ih (i + 1) (by omega)
      by_cases z : ((b >>> (((s + nI i) &&& 7) &&& 31)) &&& 1) = 0
      · refine ⟨r, fun post N hN g => ?_⟩
        obtain ⟨N, rfl⟩ : ∃ N', N = N' + 1 := ⟨N - 1, by omega⟩
        rw [wL_pickBound_2]
        exact br_f (nI_ge (b := 8) (by omega) (by omega)) (nm_e (br_t z (nm_r (nI_1 i) (h post N (by omega) g))))
      · refine ⟨(s + nI i) &&& 7, fun post N hN g => ?_⟩
        obtain ⟨N, rfl⟩ : ∃ N', N = N' + 1 := ⟨N - 1, by omega⟩
        rw [wL_pickBound_2]
        exact br_f (nI_ge (b := 8) (by omega) (by omega)) (nm_e (br_f z g))
  obtain ⟨r, h⟩ := K 8 0 (by omega)
  exact ⟨r, fun post g => ⟨9, h post 9 (by omega) g⟩⟩
theorem lz_m (i : Nat) : nI i - 1 + 1 = nI (i + 1) - 1 := by rw [Int32.sub_add_cancel, nI_pred]
theorem lz_lt {a : Nat} {i : Nat} (h : a + 1 < i) (hi : i < 2 ^ 31) : nI a < nI i - 1 := by
  obtain ⟨j, rfl⟩ : ∃ j, i = j + 1 := ⟨i - 1, by omega⟩
  rw [nI_pred]
  exact nI_lt (by omega) (by omega)
theorem lz_ge {a : Nat} {i : Nat} (h : i ≤ a + 1) (ha : a < 2 ^ 30) : ¬ nI a < nI i - 1 := by
  cases i with
  | zero =>
    rw [show nI 0 - 1 = (-1 : Int32) from by decide, Int32.lt_iff_toInt_lt, nI_toInt (by omega), show (-1 : Int32).toInt = -1 from by decide]
    omega
  | succ j =>
    rw [nI_pred]
    exact nI_nlt (by omega) (by omega)
theorem sm_same {post : Int32 → Prop} {cnt : Nat} {ar cap n nT nA nC cp dn op l : Nat} {bd lk lc la lt le : Int32} {st tg f0 f1 kd tx ts ta gv gt rh ft fa ca vt ag tc lg : Nat → Int32} {T A : Nat → Nat} (hir : ir_ok ar cap n nT nA nC cp dn op l bd st tg f0 f1 kd tx ts ta gv rh ft fa ca vt T A) (hc : cnt < 2 ^ 20) (hp : post 1) : wpL_same post ((nI ar), (nI cap), (nI n), (nI nT), (nI nA), (nI nC), (nI cp), (nI dn), (nI op), bd, (nI l), lk, lc, la, lt, le, st, tg, f0, f1, kd, tx, ts, ta, gv, gt, rh, ft, fa, ca, vt, ag, tc, lg, (nI ar), (nI cap), (nI n), (nI nT), (nI nA), (nI nC), (nI cp), (nI dn), (nI op), bd, (nI l), lk, lc, la, lt, le, st, tg, f0, f1, kd, tx, ts, ta, gv, gt, rh, ft, fa, ca, vt, ag, tc, lg) (nI cnt) := by
  have X := xr_mk (gt := gt) (ag := ag) (tc := tc) (lg := lg) (lk := lk) (lc := lc) (la := la) (lt := lt) (le := le) hir
  have A4 : ∀ k i N : Nat, i + k = 9 → k < N → wL_same_107 post (nI ar) (nI cap) (nI n) (nI nT) (nI nA) (nI nC) (nI cp) (nI dn) (nI op) bd (nI l) lk lc la lt le st tg f0 f1 kd tx ts ta gv gt rh ft fa ca vt ag tc lg (nI ar) (nI cap) (nI n) (nI nT) (nI nA) (nI nC) (nI cp) (nI dn) (nI op) bd (nI l) lk lc la lt le st tg f0 f1 kd tx ts ta gv gt rh ft fa ca vt ag tc lg N (nI i) := by
    intro k
    induction k with
    | zero =>
      intro i N hi hN
      obtain ⟨N, rfl⟩ : ∃ N', N = N' + 1 := ⟨N - 1, by omega⟩
      rw [wL_same_107]
      exact br_t (nI_lt (a := 8) (by omega) (by omega)) hp
    | succ k ih =>
      intro i N hi hN
      obtain ⟨N, rfl⟩ : ∃ N', N = N' + 1 := ⟨N - 1, by omega⟩
      obtain ⟨r, h⟩ := om_progInfo X (nI i)
      rw [wL_same_107]
      exact br_f (nI_nlt (a := 8) (by omega) (by omega)) (h _ (h _ (br_t rfl (nm_r (nI_1 i) (ih (i + 1) N (by omega) (by omega))))))
  have A3 : ∀ (J : Int32 → Prop) (c : Nat), J (nI (c + 1) - 1) → ∀ k i N : Nat, i + k = 5 → k < N → wL_same_68 post J (nI cnt) (nI c - 1) (nI ar) (nI cap) (nI n) (nI nT) (nI nA) (nI nC) (nI cp) (nI dn) (nI op) bd (nI l) lk lc la lt le st tg f0 f1 kd tx ts ta gv gt rh ft fa ca vt ag tc lg (nI ar) (nI cap) (nI n) (nI nT) (nI nA) (nI nC) (nI cp) (nI dn) (nI op) bd (nI l) lk lc la lt le st tg f0 f1 kd tx ts ta gv gt rh ft fa ca vt ag tc lg N (nI i) := by
    intro J c hJ k
    induction k with
    | zero =>
      intro i N hi hN
      obtain ⟨N, rfl⟩ : ∃ N', N = N' + 1 := ⟨N - 1, by omega⟩
      rw [wL_same_68]
      exact br_t (nI_lt (a := 4) (by omega) (by omega)) (nm_r (lz_m c) hJ)
    | succ k ih =>
      intro i N hi hN
      obtain ⟨N, rfl⟩ : ∃ N', N = N' + 1 := ⟨N - 1, by omega⟩
      obtain ⟨r, h⟩ := om_cellInfo X (nI c - 1) (nI i)
      rw [wL_same_68]
      exact br_f (nI_nlt (a := 4) (by omega) (by omega)) (h _ (h _ (br_t rfl (nm_r (nI_1 i) (ih (i + 1) N (by omega) (by omega))))))
  have A2 : ∀ k i N : Nat, i + k = cnt + 2 → k < N → wL_same_60 post (nI cnt) (nI ar) (nI cap) (nI n) (nI nT) (nI nA) (nI nC) (nI cp) (nI dn) (nI op) bd (nI l) lk lc la lt le st tg f0 f1 kd tx ts ta gv gt rh ft fa ca vt ag tc lg (nI ar) (nI cap) (nI n) (nI nT) (nI nA) (nI nC) (nI cp) (nI dn) (nI op) bd (nI l) lk lc la lt le st tg f0 f1 kd tx ts ta gv gt rh ft fa ca vt ag tc lg N (nI i - 1) := by
    intro k
    induction k with
    | zero =>
      intro i N hi hN
      obtain ⟨N, rfl⟩ : ∃ N', N = N' + 1 := ⟨N - 1, by omega⟩
      rw [wL_same_60]
      exact br_t (lz_lt (by omega) (by omega)) ⟨10, A4 9 0 10 (by omega) (by omega)⟩
    | succ k ih =>
      intro i N hi hN
      obtain ⟨N, rfl⟩ : ∃ N', N = N' + 1 := ⟨N - 1, by omega⟩
      rw [wL_same_60]
      exact br_f (lz_ge (by omega) (by omega)) ⟨6, A3 _ i (ih (i + 1) N (by omega) (by omega)) 5 0 6 (by omega) (by omega)⟩
  have A1 : ∀ k i N : Nat, i + k = 35 → k < N → wL_same_31 post (nI cnt) (nI ar) (nI cap) (nI n) (nI nT) (nI nA) (nI nC) (nI cp) (nI dn) (nI op) bd (nI l) lk lc la lt le st tg f0 f1 kd tx ts ta gv gt rh ft fa ca vt ag tc lg (nI ar) (nI cap) (nI n) (nI nT) (nI nA) (nI nC) (nI cp) (nI dn) (nI op) bd (nI l) lk lc la lt le st tg f0 f1 kd tx ts ta gv gt rh ft fa ca vt ag tc lg N (nI i - 1) := by
    intro k
    induction k with
    | zero =>
      intro i N hi hN
      obtain ⟨N, rfl⟩ : ∃ N', N = N' + 1 := ⟨N - 1, by omega⟩
      rw [wL_same_31]
      exact br_t (lz_lt (a := 33) (by omega) (by omega)) ⟨cnt + 3, A2 (cnt + 2) 0 (cnt + 3) (by omega) (by omega)⟩
    | succ k ih =>
      intro i N hi hN
      obtain ⟨N, rfl⟩ : ∃ N', N = N' + 1 := ⟨N - 1, by omega⟩
      obtain ⟨r, h⟩ := om_logAt X (nI i - 1)
      rw [wL_same_31]
      exact br_f (lz_ge (a := 33) (by omega) (by omega)) (h _ (h _ (br_t rfl (nm_r (lz_m i) (ih (i + 1) N (by omega) (by omega))))))
  have A0 : ∀ k i N : Nat, i + k = 7 → k < N → wL_same_2 post (nI cnt) (nI ar) (nI cap) (nI n) (nI nT) (nI nA) (nI nC) (nI cp) (nI dn) (nI op) bd (nI l) lk lc la lt le st tg f0 f1 kd tx ts ta gv gt rh ft fa ca vt ag tc lg (nI ar) (nI cap) (nI n) (nI nT) (nI nA) (nI nC) (nI cp) (nI dn) (nI op) bd (nI l) lk lc la lt le st tg f0 f1 kd tx ts ta gv gt rh ft fa ca vt ag tc lg N (nI i) := by
    intro k
    induction k with
    | zero =>
      intro i N hi hN
      obtain ⟨N, rfl⟩ : ∃ N', N = N' + 1 := ⟨N - 1, by omega⟩
      rw [wL_same_2]
      exact br_t (nI_lt (a := 6) (by omega) (by omega)) ⟨36, A1 35 0 36 (by omega) (by omega)⟩
    | succ k ih =>
      intro i N hi hN
      obtain ⟨N, rfl⟩ : ∃ N', N = N' + 1 := ⟨N - 1, by omega⟩
      obtain ⟨r, h⟩ := om_last X (nI i)
      rw [wL_same_2]
      exact br_f (nI_nlt (a := 6) (by omega) (by omega)) (h _ (h _ (br_t rfl (nm_r (nI_1 i) (ih (i + 1) N (by omega) (by omega))))))
  exact ⟨8, A0 7 0 8 (by omega) (by omega)⟩
end
section
/-! the law's loops -/
theorem lz_bit (x : Int32) : x &&& 1 = 0 ∨ x &&& 1 = 1 := by
  obtain ⟨j, hj, e⟩ := pk_andE x (m := 1) 1 (by decide)
  have : j = 0 ∨ j = 1 := by omega
  rcases this with z | z <;> subst z
  · exact Or.inl e
  · exact Or.inr e
theorem lz_bit1 {x : Int32} (h : x = 0 ∨ x = 1) : 1 - x = 0 ∨ 1 - x = 1 := by
  rcases h with h | h <;> subst h
  · exact Or.inr (by decide)
  · exact Or.inl (by decide)
theorem ll_596 {xs : Nat → Int32} {L kc ks R : Nat} (hL : L ≤ 260) (hR : R ≤ 10) :
    ∀ (k i p cnt N : Nat), i + k = R → p + 10 * k ≤ 100000 → cnt + k ≤ 100000 → k < N → ∀ (ar cap n nT nA nC cp dn op l : Nat) (bd lk lc la lt le : Int32) (st tg f0 f1 kd tx ts ta gv gt rh ft fa ca vt ag tc lg : Nat → Int32) (T A : Nat → Nat), ir_ok ar cap n nT nA nC cp dn op l bd st tg f0 f1 kd tx ts ta gv rh ft fa ca vt T A → wL_law_596 (fun r => r = 1) L xs (nI R) kc ks N (nI p) (nI cnt) (nI i) (nI ar) (nI cap) (nI n) (nI nT) (nI nA) (nI nC) (nI cp) (nI dn) (nI op) bd (nI l) lk lc la lt le st tg f0 f1 kd tx ts ta gv gt rh ft fa ca vt ag tc lg (nI ar) (nI cap) (nI n) (nI nT) (nI nA) (nI nC) (nI cp) (nI dn) (nI op) bd (nI l) lk lc la lt le st tg f0 f1 kd tx ts ta gv gt rh ft fa ca vt ag tc lg := by
  intro k
  induction k with
  | zero =>
    intro i p cnt N h1 h2 h3 h4 ar cap n nT nA nC cp dn op l bd lk lc la lt le st tg f0 f1 kd tx ts ta gv gt rh ft fa ca vt ag tc lg T A hir
    obtain ⟨N, rfl⟩ : ∃ N', N = N' + 1 := ⟨N - 1, by omega⟩
    rw [wL_law_596]
    exact br_t (nI_le (by omega) (by omega)) rfl
  | succ k ih =>
    intro i p cnt N h1 h2 h3 h4 ar cap n nT nA nC cp dn op l bd lk lc la lt le st tg f0 f1 kd tx ts ta gv gt rh ft fa ca vt ag tc lg T A hir
    obtain ⟨N, rfl⟩ : ∃ N', N = N' + 1 := ⟨N - 1, by omega⟩
    obtain ⟨r0, c0⟩ := lz_cell (xs := xs) hL p (by omega)
    obtain ⟨r1, c1⟩ := lz_cell (xs := xs) hL (p + 1) (by omega)
    obtain ⟨j1, _, n1⟩ := lz_nn r1 (y := nI cnt + 1) (cnt + 1) (nI_1 cnt) (by omega) (by omega)
    obtain ⟨r2, c2⟩ := lz_cell (xs := xs) hL (p + 2) (by omega)
    obtain ⟨j2, _, n2⟩ := lz_nn r2 (y := nI cnt + 1) (cnt + 1) (nI_1 cnt) (by omega) (by omega)
    obtain ⟨r3, c3⟩ := lz_cell (xs := xs) hL (p + 3) (by omega)
    obtain ⟨j3, _, n3⟩ := lz_nn r3 (y := nI cnt + 1) (cnt + 1) (nI_1 cnt) (by omega) (by omega)
    obtain ⟨r4, c4⟩ := lz_cell (xs := xs) hL (p + 4) (by omega)
    obtain ⟨k4, n4⟩ := lz_kind r4
    obtain ⟨r5, c5⟩ := lz_cell (xs := xs) hL (p + 5) (by omega)
    obtain ⟨j5, _, n5⟩ := lz_nn r5 (y := 8) 8 rfl (by omega) (by omega)
    obtain ⟨r6, c6⟩ := lz_cell (xs := xs) hL (p + 6) (by omega)
    obtain ⟨j6, _, n6⟩ := lz_nn r6 (y := nI cnt + 1) (cnt + 1) (nI_1 cnt) (by omega) (by omega)
    obtain ⟨r7, c7⟩ := lz_cell (xs := xs) hL (p + 7) (by omega)
    obtain ⟨j7, _, n7⟩ := lz_nn r7 (y := nI cnt + 1) (cnt + 1) (nI_1 cnt) (by omega) (by omega)
    obtain ⟨q, u', hu, h⟩ := om_run (xr_mk (gt := gt) (ag := ag) (tc := tc) (lg := lg) (lk := lk) (lc := lc) (la := la) (lt := lt) (le := le) hir) (nI j1) (nI j2) (nI j3)
    rw [wL_law_596]
    refine br_f (nI_ge (by omega) (by omega)) (nm_r (nI_1 p) (c0 _ (nm_e (nm_e (nm_r (nI_1 (p + 1)) (c1 _ (n1 _ (nm_r (nI_1 (p + 2)) (c2 _ (n2 _ (nm_r (nI_1 (p + 3)) (c3 _ (n3 _ (h _ (lz_bit r0) _ ?_))))))))))))))
    obtain ⟨ar, cap, n, nT, nA, nC, cp, dn, op, l, bd, lk, lc, la, lt, le, st, tg, f0, f1, kd, tx, ts, ta, gv, gt, rh, ft, fa, ca, vt, ag, tc, lg, T, A, rfl, hir⟩ := hu
    refine h _ (lz_bit1 (lz_bit r0)) _ ?_
    refine br_t rfl (sm_same hir (by omega) (br_f (by decide) (br_c (fun _ => ?_) (fun _ => nm_r (nI_1 i) (ih (i + 1) (p + 4) cnt N (by omega) (by omega) (by omega) (by omega) _ _ _ _ _ _ _ _ _ _ _ _ _ _ _ _ _ _ _ _ _ _ _ _ _ _ _ _ _ _ _ _ _ _ _ _  hir)))))
    obtain ⟨q2, u2, hu2, g⟩ := om_cell (xr_mk (gt := gt) (ag := ag) (tc := tc) (lg := lg) (lk := lk) (lc := lc) (la := la) (lt := lt) (le := le) hir) k4 (nI j5) (nI j6) (nI j7)
    refine nm_r (nI_1 (p + 4)) (c4 _ (n4 _ (nm_r (nI_1 (p + 5)) (c5 _ (n5 _ (nm_r (nI_1 (p + 6)) (c6 _ (n6 _ (nm_r (nI_1 (p + 7)) (c7 _ (n7 _ (g _ ?_))))))))))))
    obtain ⟨ar, cap, n, nT, nA, nC, cp, dn, op, l, bd, lk, lc, la, lt, le, st, tg, f0, f1, kd, tx, ts, ta, gv, gt, rh, ft, fa, ca, vt, ag, tc, lg, T, A, rfl, hir⟩ := hu2
    refine g _ (br_t rfl (br_c (fun _ => ?_) (fun _ => nm_r (nI_1 cnt) ?_)))
    · exact sm_same hir (by omega) (br_f (by decide) (nm_r (nI_1 i) (ih (i + 1) (p + 8) cnt N (by omega) (by omega) (by omega) (by omega) _ _ _ _ _ _ _ _ _ _ _ _ _ _ _ _ _ _ _ _ _ _ _ _ _ _ _ _ _ _ _ _ _ _ _ _  hir)))
    · exact sm_same hir (by omega) (br_f (by decide) (nm_r (nI_1 i) (ih (i + 1) (p + 8) (cnt + 1) N (by omega) (by omega) (by omega) (by omega) _ _ _ _ _ _ _ _ _ _ _ _ _ _ _ _ _ _ _ _ _ _ _ _ _ _ _ _ _ _ _ _ _ _ _ _  hir)))
theorem ll_371 {xs : Nat → Int32} {L kc ks R c PB : Nat} {J : Int32 → Int32 → Int32 → Int32 → Int32 → Int32 → Int32 → Int32 → Int32 → Int32 → Int32 → Int32 → Int32 → Int32 → Int32 → Int32 → Int32 → Int32 → (Nat → Int32) → (Nat → Int32) → (Nat → Int32) → (Nat → Int32) → (Nat → Int32) → (Nat → Int32) → (Nat → Int32) → (Nat → Int32) → (Nat → Int32) → (Nat → Int32) → (Nat → Int32) → (Nat → Int32) → (Nat → Int32) → (Nat → Int32) → (Nat → Int32) → (Nat → Int32) → (Nat → Int32) → (Nat → Int32) → Int32 → Int32 → Int32 → Int32 → Int32 → Int32 → Int32 → Int32 → Int32 → Int32 → Int32 → Int32 → Int32 → Int32 → Int32 → Int32 → (Nat → Int32) → (Nat → Int32) → (Nat → Int32) → (Nat → Int32) → (Nat → Int32) → (Nat → Int32) → (Nat → Int32) → (Nat → Int32) → (Nat → Int32) → (Nat → Int32) → (Nat → Int32) → (Nat → Int32) → (Nat → Int32) → (Nat → Int32) → (Nat → Int32) → (Nat → Int32) → (Nat → Int32) → (Nat → Int32) → Prop} {x2 x5 x7 : Int32} (hL : L ≤ 260) (hR : R ≤ 10) (hc : c ≤ 100) (hPB : PB ≤ 100000) (HJ : ∀ p, p ≤ PB → ∀ (ar cap n nT nA nC cp dn op l : Nat) (bd lk lc la lt le : Int32) (st tg f0 f1 kd tx ts ta gv gt rh ft fa ca vt ag tc lg : Nat → Int32) (T A : Nat → Nat), ir_ok ar cap n nT nA nC cp dn op l bd st tg f0 f1 kd tx ts ta gv rh ft fa ca vt T A → J (nI p) (nI (c + 1)) (nI ar) (nI cap) (nI n) (nI nT) (nI nA) (nI nC) (nI cp) (nI dn) (nI op) bd (nI l) lk lc la lt le st tg f0 f1 kd tx ts ta gv gt rh ft fa ca vt ag tc lg (nI ar) (nI cap) (nI n) (nI nT) (nI nA) (nI nC) (nI cp) (nI dn) (nI op) bd (nI l) lk lc la lt le st tg f0 f1 kd tx ts ta gv gt rh ft fa ca vt ag tc lg) :
    ∀ (k i p N : Nat), i + k = R → p + k ≤ PB → k < N → ∀ (ar cap n nT nA nC cp dn op l : Nat) (bd lk lc la lt le : Int32) (st tg f0 f1 kd tx ts ta gv gt rh ft fa ca vt ag tc lg : Nat → Int32) (T A : Nat → Nat), ir_ok ar cap n nT nA nC cp dn op l bd st tg f0 f1 kd tx ts ta gv rh ft fa ca vt T A → wL_law_371 (fun r => r = 1) L xs J x2 x5 x7 (nI c) (nI R) kc ks N (nI p) (nI i) (nI ar) (nI cap) (nI n) (nI nT) (nI nA) (nI nC) (nI cp) (nI dn) (nI op) bd (nI l) lk lc la lt le st tg f0 f1 kd tx ts ta gv gt rh ft fa ca vt ag tc lg (nI ar) (nI cap) (nI n) (nI nT) (nI nA) (nI nC) (nI cp) (nI dn) (nI op) bd (nI l) lk lc la lt le st tg f0 f1 kd tx ts ta gv gt rh ft fa ca vt ag tc lg := by
  intro k
  induction k with
  | zero =>
    intro i p N h1 h2 h4 ar cap n nT nA nC cp dn op l bd lk lc la lt le st tg f0 f1 kd tx ts ta gv gt rh ft fa ca vt ag tc lg T A hir
    obtain ⟨N, rfl⟩ : ∃ N', N = N' + 1 := ⟨N - 1, by omega⟩
    obtain ⟨r, g⟩ := om_progInfo (xr_mk (gt := gt) (ag := ag) (tc := tc) (lg := lg) (lk := lk) (lc := lc) (la := la) (lt := lt) (le := le) hir) 7
    obtain ⟨q, u', hu, h⟩ := om_alt (xr_mk (gt := gt) (ag := ag) (tc := tc) (lg := lg) (lk := lk) (lc := lc) (la := la) (lt := lt) (le := le) hir) (-1) 0 8
    rw [wL_law_371]
    refine br_t (nI_le (by omega) (by omega)) (g _ (br_c (fun _ => h _ ?_) (fun _ => nm_r (nI_1 c) (HJ p (by omega) _ _ _ _ _ _ _ _ _ _ _ _ _ _ _ _ _ _ _ _ _ _ _ _ _ _ _ _ _ _ _ _ _ _ _ _  hir))))
    obtain ⟨ar, cap, n, nT, nA, nC, cp, dn, op, l, bd, lk, lc, la, lt, le, st, tg, f0, f1, kd, tx, ts, ta, gv, gt, rh, ft, fa, ca, vt, ag, tc, lg, T, A, rfl, hir⟩ := hu
    exact h _ (br_t rfl (nm_r (nI_1 c) (HJ p (by omega) _ _ _ _ _ _ _ _ _ _ _ _ _ _ _ _ _ _ _ _ _ _ _ _ _ _ _ _ _ _ _ _ _ _ _ _  hir)))
  | succ k ih =>
    intro i p N h1 h2 h4 ar cap n nT nA nC cp dn op l bd lk lc la lt le st tg f0 f1 kd tx ts ta gv gt rh ft fa ca vt ag tc lg T A hir
    obtain ⟨N, rfl⟩ : ∃ N', N = N' + 1 := ⟨N - 1, by omega⟩
    obtain ⟨r0, c0⟩ := lz_cell (xs := xs) hL p (by omega)
    obtain ⟨r1, g1⟩ := om_progInfo (xr_mk (gt := gt) (ag := ag) (tc := tc) (lg := lg) (lk := lk) (lc := lc) (la := la) (lt := lt) (le := le) hir) 6
    obtain ⟨j0, _, n0⟩ := lz_nn r0 (y := 9) 9 rfl (by omega) (by omega)
    have W480 : ∀ a b d : Int32, wL_law_480 (fun r => r = 1) L xs J (wL_law_371 (fun r => r = 1) L xs J x2 x5 x7 (nI c) (nI R) kc ks N) (nI (p + 1)) x2 x5 x7 (nI c) (nI R) (nI i) a b d kc ks (nI ar) (nI cap) (nI n) (nI nT) (nI nA) (nI nC) (nI cp) (nI dn) (nI op) bd (nI l) lk lc la lt le st tg f0 f1 kd tx ts ta gv gt rh ft fa ca vt ag tc lg (nI ar) (nI cap) (nI n) (nI nT) (nI nA) (nI nC) (nI cp) (nI dn) (nI op) bd (nI l) lk lc la lt le st tg f0 f1 kd tx ts ta gv gt rh ft fa ca vt ag tc lg := by
      intro a b d
      obtain ⟨q, u', hu, h⟩ := om_alt (xr_mk (gt := gt) (ag := ag) (tc := tc) (lg := lg) (lk := lk) (lc := lc) (la := la) (lt := lt) (le := le) hir) a b d
      unfold wL_law_480
      refine h _ ?_
      obtain ⟨ar, cap, n, nT, nA, nC, cp, dn, op, l, bd, lk, lc, la, lt, le, st, tg, f0, f1, kd, tx, ts, ta, gv, gt, rh, ft, fa, ca, vt, ag, tc, lg, T, A, rfl, hir⟩ := hu
      exact h _ (br_t rfl (nm_r (nI_1 i) (ih (i + 1) (p + 1) N (by omega) (by omega) (by omega) _ _ _ _ _ _ _ _ _ _ _ _ _ _ _ _ _ _ _ _ _ _ _ _ _ _ _ _ _ _ _ _ _ _ _ _  hir)))
    have W421 : ∀ a : Int32, wL_law_421 (fun r => r = 1) L xs J (wL_law_371 (fun r => r = 1) L xs J x2 x5 x7 (nI c) (nI R) kc ks N) (nI (p + 1)) x2 x5 x7 (nI c) (nI R) (nI i) r0 r1 a kc ks (nI ar) (nI cap) (nI n) (nI nT) (nI nA) (nI nC) (nI cp) (nI dn) (nI op) bd (nI l) lk lc la lt le st tg f0 f1 kd tx ts ta gv gt rh ft fa ca vt ag tc lg (nI ar) (nI cap) (nI n) (nI nT) (nI nA) (nI nC) (nI cp) (nI dn) (nI op) bd (nI l) lk lc la lt le st tg f0 f1 kd tx ts ta gv gt rh ft fa ca vt ag tc lg := by
      intro a
      obtain ⟨j1, _, n1⟩ := lz_nn (r0 / 9) (y := 8) 8 rfl (by omega) (by omega)
      obtain ⟨j2, _, n2⟩ := lz_nn (r0 / 72) (y := 12) 12 rfl (by omega) (by omega)
      obtain ⟨r3, g3⟩ := lz_pick r1 (nI j2)
      unfold wL_law_421
      exact ⟨by decide, n1 _ ⟨by decide, n2 _ (br_c (fun _ => W480 _ _ _) (fun _ => g3 _ (br_c (fun _ => W480 _ _ _) (fun _ => W480 _ _ _))))⟩⟩
    obtain ⟨r4, g4⟩ := lz_pick r1 (nI j0 - 1)
    rw [wL_law_371]
    exact br_f (nI_ge (by omega) (by omega)) (nm_r (nI_1 p) (c0 _ (g1 _ (n0 _ (nm_e (br_c (fun _ => W421 _) (fun _ => g4 _ (W421 _))))))))
theorem ll_352 {xs : Nat → Int32} {L kc ks c PB p : Nat} {J : Int32 → Int32 → Int32 → Int32 → Int32 → Int32 → Int32 → Int32 → Int32 → Int32 → Int32 → Int32 → Int32 → Int32 → Int32 → Int32 → Int32 → Int32 → (Nat → Int32) → (Nat → Int32) → (Nat → Int32) → (Nat → Int32) → (Nat → Int32) → (Nat → Int32) → (Nat → Int32) → (Nat → Int32) → (Nat → Int32) → (Nat → Int32) → (Nat → Int32) → (Nat → Int32) → (Nat → Int32) → (Nat → Int32) → (Nat → Int32) → (Nat → Int32) → (Nat → Int32) → (Nat → Int32) → Int32 → Int32 → Int32 → Int32 → Int32 → Int32 → Int32 → Int32 → Int32 → Int32 → Int32 → Int32 → Int32 → Int32 → Int32 → Int32 → (Nat → Int32) → (Nat → Int32) → (Nat → Int32) → (Nat → Int32) → (Nat → Int32) → (Nat → Int32) → (Nat → Int32) → (Nat → Int32) → (Nat → Int32) → (Nat → Int32) → (Nat → Int32) → (Nat → Int32) → (Nat → Int32) → (Nat → Int32) → (Nat → Int32) → (Nat → Int32) → (Nat → Int32) → (Nat → Int32) → Prop} {x2 x5 x7 : Int32} (hL : L ≤ 260) (hc : c ≤ 100) (hPB : PB ≤ 100000) (HJ : ∀ p, p ≤ PB → ∀ (ar cap n nT nA nC cp dn op l : Nat) (bd lk lc la lt le : Int32) (st tg f0 f1 kd tx ts ta gv gt rh ft fa ca vt ag tc lg : Nat → Int32) (T A : Nat → Nat), ir_ok ar cap n nT nA nC cp dn op l bd st tg f0 f1 kd tx ts ta gv rh ft fa ca vt T A → J (nI p) (nI (c + 1)) (nI ar) (nI cap) (nI n) (nI nT) (nI nA) (nI nC) (nI cp) (nI dn) (nI op) bd (nI l) lk lc la lt le st tg f0 f1 kd tx ts ta gv gt rh ft fa ca vt ag tc lg (nI ar) (nI cap) (nI n) (nI nT) (nI nA) (nI nC) (nI cp) (nI dn) (nI op) bd (nI l) lk lc la lt le st tg f0 f1 kd tx ts ta gv gt rh ft fa ca vt ag tc lg) (hp : p + 10 ≤ PB) :
    ∀ (ar cap n nT nA nC cp dn op l : Nat) (bd lk lc la lt le : Int32) (st tg f0 f1 kd tx ts ta gv gt rh ft fa ca vt ag tc lg : Nat → Int32) (T A : Nat → Nat), ir_ok ar cap n nT nA nC cp dn op l bd st tg f0 f1 kd tx ts ta gv rh ft fa ca vt T A → wL_law_352 (fun r => r = 1) L xs J (nI p) x2 x5 x7 (nI c) kc ks (nI ar) (nI cap) (nI n) (nI nT) (nI nA) (nI nC) (nI cp) (nI dn) (nI op) bd (nI l) lk lc la lt le st tg f0 f1 kd tx ts ta gv gt rh ft fa ca vt ag tc lg (nI ar) (nI cap) (nI n) (nI nT) (nI nA) (nI nC) (nI cp) (nI dn) (nI op) bd (nI l) lk lc la lt le st tg f0 f1 kd tx ts ta gv gt rh ft fa ca vt ag tc lg := by
  intro ar cap n nT nA nC cp dn op l bd lk lc la lt le st tg f0 f1 kd tx ts ta gv gt rh ft fa ca vt ag tc lg T A hir
  obtain ⟨r0, c0⟩ := lz_cell (xs := xs) hL p (by omega)
  obtain ⟨j0, hj0, n0⟩ := lz_nn r0 (y := 3) 3 rfl (by omega) (by omega)
  unfold wL_law_352
  exact nm_r (nI_1 p) (c0 _ (n0 _ (nm_r (nI_add 1 j0) ⟨1 + j0 + 1, ll_371 hL (by omega) hc hPB HJ (1 + j0) 0 (p + 1) (1 + j0 + 1) (by omega) (by omega) (by omega) _ _ _ _ _ _ _ _ _ _ _ _ _ _ _ _ _ _ _ _ _ _ _ _ _ _ _ _ _ _ _ _ _ _ _ _  hir⟩)))
theorem ll_223 {xs : Nat → Int32} {L kc ks c PB : Nat} {J : Int32 → Int32 → Int32 → Int32 → Int32 → Int32 → Int32 → Int32 → Int32 → Int32 → Int32 → Int32 → Int32 → Int32 → Int32 → Int32 → Int32 → Int32 → (Nat → Int32) → (Nat → Int32) → (Nat → Int32) → (Nat → Int32) → (Nat → Int32) → (Nat → Int32) → (Nat → Int32) → (Nat → Int32) → (Nat → Int32) → (Nat → Int32) → (Nat → Int32) → (Nat → Int32) → (Nat → Int32) → (Nat → Int32) → (Nat → Int32) → (Nat → Int32) → (Nat → Int32) → (Nat → Int32) → Int32 → Int32 → Int32 → Int32 → Int32 → Int32 → Int32 → Int32 → Int32 → Int32 → Int32 → Int32 → Int32 → Int32 → Int32 → Int32 → (Nat → Int32) → (Nat → Int32) → (Nat → Int32) → (Nat → Int32) → (Nat → Int32) → (Nat → Int32) → (Nat → Int32) → (Nat → Int32) → (Nat → Int32) → (Nat → Int32) → (Nat → Int32) → (Nat → Int32) → (Nat → Int32) → (Nat → Int32) → (Nat → Int32) → (Nat → Int32) → (Nat → Int32) → (Nat → Int32) → Prop} {x2 x5 x7 : Int32} (hL : L ≤ 260) (hc : c ≤ 100) (hPB : PB ≤ 100000) (HJ : ∀ p, p ≤ PB → ∀ (ar cap n nT nA nC cp dn op l : Nat) (bd lk lc la lt le : Int32) (st tg f0 f1 kd tx ts ta gv gt rh ft fa ca vt ag tc lg : Nat → Int32) (T A : Nat → Nat), ir_ok ar cap n nT nA nC cp dn op l bd st tg f0 f1 kd tx ts ta gv rh ft fa ca vt T A → J (nI p) (nI (c + 1)) (nI ar) (nI cap) (nI n) (nI nT) (nI nA) (nI nC) (nI cp) (nI dn) (nI op) bd (nI l) lk lc la lt le st tg f0 f1 kd tx ts ta gv gt rh ft fa ca vt ag tc lg (nI ar) (nI cap) (nI n) (nI nT) (nI nA) (nI nC) (nI cp) (nI dn) (nI op) bd (nI l) lk lc la lt le st tg f0 f1 kd tx ts ta gv gt rh ft fa ca vt ag tc lg) :
    ∀ (k i p N : Nat), i + k = 40 → p + k + 10 ≤ PB → k < N → ∀ (ar cap n nT nA nC cp dn op l : Nat) (bd lk lc la lt le : Int32) (st tg f0 f1 kd tx ts ta gv gt rh ft fa ca vt ag tc lg : Nat → Int32) (T A : Nat → Nat), ir_ok ar cap n nT nA nC cp dn op l bd st tg f0 f1 kd tx ts ta gv rh ft fa ca vt T A → wL_law_223 (fun r => r = 1) L xs J x2 x5 x7 (nI c) kc ks N (nI p) (nI i) (nI ar) (nI cap) (nI n) (nI nT) (nI nA) (nI nC) (nI cp) (nI dn) (nI op) bd (nI l) lk lc la lt le st tg f0 f1 kd tx ts ta gv gt rh ft fa ca vt ag tc lg (nI ar) (nI cap) (nI n) (nI nT) (nI nA) (nI nC) (nI cp) (nI dn) (nI op) bd (nI l) lk lc la lt le st tg f0 f1 kd tx ts ta gv gt rh ft fa ca vt ag tc lg := by
  intro k
  induction k with
  | zero =>
    intro i p N h1 h2 h4 ar cap n nT nA nC cp dn op l bd lk lc la lt le st tg f0 f1 kd tx ts ta gv gt rh ft fa ca vt ag tc lg T A hir
    obtain ⟨N, rfl⟩ : ∃ N', N = N' + 1 := ⟨N - 1, by omega⟩
    obtain ⟨r, g⟩ := om_progInfo (xr_mk (gt := gt) (ag := ag) (tc := tc) (lg := lg) (lk := lk) (lc := lc) (la := la) (lt := lt) (le := le) hir) 4
    have W := ll_352 (xs := xs) (kc := kc) (ks := ks) (x2 := x2) (x5 := x5) (x7 := x7) hL hc hPB HJ (p := p) (by omega) ar cap n nT nA nC cp dn op l bd lk lc la lt le st tg f0 f1 kd tx ts ta gv gt rh ft fa ca vt ag tc lg T A hir
    rw [wL_law_223]
    exact g _ (br_c (fun _ => W) (fun _ => br_t (nI_le (a := 40) (by omega) (by omega)) W))
  | succ k ih =>
    intro i p N h1 h2 h4 ar cap n nT nA nC cp dn op l bd lk lc la lt le st tg f0 f1 kd tx ts ta gv gt rh ft fa ca vt ag tc lg T A hir
    obtain ⟨N, rfl⟩ : ∃ N', N = N' + 1 := ⟨N - 1, by omega⟩
    obtain ⟨r, g⟩ := om_progInfo (xr_mk (gt := gt) (ag := ag) (tc := tc) (lg := lg) (lk := lk) (lc := lc) (la := la) (lt := lt) (le := le) hir) 4
    have W := ll_352 (xs := xs) (kc := kc) (ks := ks) (x2 := x2) (x5 := x5) (x7 := x7) hL hc hPB HJ (p := p) (by omega) ar cap n nT nA nC cp dn op l bd lk lc la lt le st tg f0 f1 kd tx ts ta gv gt rh ft fa ca vt ag tc lg T A hir
    obtain ⟨r0, c0⟩ := lz_cell (xs := xs) hL p (by omega)
    obtain ⟨j0, _, n0⟩ := lz_nn r0 (y := 5) 5 rfl (by omega) (by omega)
    obtain ⟨j1, _, n1⟩ := lz_nn (r0 / 5) (y := 8) 8 rfl (by omega) (by omega)
    obtain ⟨r2, g2⟩ := om_progInfo (xr_mk (gt := gt) (ag := ag) (tc := tc) (lg := lg) (lk := lk) (lc := lc) (la := la) (lt := lt) (le := le) hir) 5
    have W297 : ∀ a b : Int32, wL_law_297 (fun r => r = 1) L xs J (wL_law_223 (fun r => r = 1) L xs J x2 x5 x7 (nI c) kc ks N) (nI (p + 1)) x2 x5 x7 (nI c) (nI i) a b kc ks (nI ar) (nI cap) (nI n) (nI nT) (nI nA) (nI nC) (nI cp) (nI dn) (nI op) bd (nI l) lk lc la lt le st tg f0 f1 kd tx ts ta gv gt rh ft fa ca vt ag tc lg (nI ar) (nI cap) (nI n) (nI nT) (nI nA) (nI nC) (nI cp) (nI dn) (nI op) bd (nI l) lk lc la lt le st tg f0 f1 kd tx ts ta gv gt rh ft fa ca vt ag tc lg := by
      intro a b
      obtain ⟨q, u', hu, h⟩ := om_pat (xr_mk (gt := gt) (ag := ag) (tc := tc) (lg := lg) (lk := lk) (lc := lc) (la := la) (lt := lt) (le := le) hir) a b
      unfold wL_law_297
      refine h _ ?_
      obtain ⟨ar, cap, n, nT, nA, nC, cp, dn, op, l, bd, lk, lc, la, lt, le, st, tg, f0, f1, kd, tx, ts, ta, gv, gt, rh, ft, fa, ca, vt, ag, tc, lg, T, A, rfl, hir⟩ := hu
      obtain ⟨q2, u2, hu2, h2⟩ := om_pat (xr_mk (gt := gt) (ag := ag) (tc := tc) (lg := lg) (lk := lk) (lc := lc) (la := la) (lt := lt) (le := le) hir) 0 0
      refine h _ (br_t rfl (br_c (fun _ => h2 _ ?_) (fun _ => nm_r (nI_1 i) (ih (i + 1) (p + 1) N (by omega) (by omega) (by omega) _ _ _ _ _ _ _ _ _ _ _ _ _ _ _ _ _ _ _ _ _ _ _ _ _ _ _ _ _ _ _ _ _ _ _ _  hir))))
      obtain ⟨ar, cap, n, nT, nA, nC, cp, dn, op, l, bd, lk, lc, la, lt, le, st, tg, f0, f1, kd, tx, ts, ta, gv, gt, rh, ft, fa, ca, vt, ag, tc, lg, T, A, rfl, hir⟩ := hu2
      exact h2 _ (br_t rfl (nm_r (nI_1 i) (ih (i + 1) (p + 1) N (by omega) (by omega) (by omega) _ _ _ _ _ _ _ _ _ _ _ _ _ _ _ _ _ _ _ _ _ _ _ _ _ _ _ _ _ _ _ _ _ _ _ _  hir)))
    have W284 : ∀ a b : Int32, wL_law_284 (fun r => r = 1) L xs J (wL_law_223 (fun r => r = 1) L xs J x2 x5 x7 (nI c) kc ks N) (nI (p + 1)) x2 x5 x7 (nI c) (nI i) a b kc ks (nI ar) (nI cap) (nI n) (nI nT) (nI nA) (nI nC) (nI cp) (nI dn) (nI op) bd (nI l) lk lc la lt le st tg f0 f1 kd tx ts ta gv gt rh ft fa ca vt ag tc lg (nI ar) (nI cap) (nI n) (nI nT) (nI nA) (nI nC) (nI cp) (nI dn) (nI op) bd (nI l) lk lc la lt le st tg f0 f1 kd tx ts ta gv gt rh ft fa ca vt ag tc lg := by
      intro a b
      unfold wL_law_284 wL_law_295
      exact br_c (fun _ => W297 _ _) (fun _ => W297 _ _)
    rw [wL_law_223]
    exact g _ (br_c (fun _ => W) (fun _ => br_f (nI_ge (b := 40) (by omega) (by omega)) (nm_r (nI_1 p) (c0 _ (n0 _ ⟨by decide, n1 _ (g2 _ (br_c (fun _ => W284 _ _) (fun _ => br_c (fun _ => W297 _ _) (fun _ => W284 _ _))))⟩)))))
theorem ll_199 {xs : Nat → Int32} {L kc ks R cnt : Nat} {x2 : Int32} (hL : L ≤ 260) (hR : R ≤ 10) (hcnt : cnt ≤ 1000) :
    ∀ (k c p N : Nat), c + k = R → p + 60 * k ≤ 2000 → k < N → ∀ (ar cap n nT nA nC cp dn op l : Nat) (bd lk lc la lt le : Int32) (st tg f0 f1 kd tx ts ta gv gt rh ft fa ca vt ag tc lg : Nat → Int32) (T A : Nat → Nat), ir_ok ar cap n nT nA nC cp dn op l bd st tg f0 f1 kd tx ts ta gv rh ft fa ca vt T A → wL_law_199 (fun r => r = 1) L xs x2 (nI cnt) (nI R) kc ks N (nI p) (nI c) (nI ar) (nI cap) (nI n) (nI nT) (nI nA) (nI nC) (nI cp) (nI dn) (nI op) bd (nI l) lk lc la lt le st tg f0 f1 kd tx ts ta gv gt rh ft fa ca vt ag tc lg (nI ar) (nI cap) (nI n) (nI nT) (nI nA) (nI nC) (nI cp) (nI dn) (nI op) bd (nI l) lk lc la lt le st tg f0 f1 kd tx ts ta gv gt rh ft fa ca vt ag tc lg := by
  intro k
  induction k with
  | zero =>
    intro c p N h1 h2 h4 ar cap n nT nA nC cp dn op l bd lk lc la lt le st tg f0 f1 kd tx ts ta gv gt rh ft fa ca vt ag tc lg T A hir
    obtain ⟨N, rfl⟩ : ∃ N', N = N' + 1 := ⟨N - 1, by omega⟩
    obtain ⟨q, u', hu, h⟩ := om_compile (xr_mk (gt := gt) (ag := ag) (tc := tc) (lg := lg) (lk := lk) (lc := lc) (la := la) (lt := lt) (le := le) hir)
    obtain ⟨r0, c0⟩ := lz_cell (xs := xs) hL p (by omega)
    obtain ⟨j0, hj0, n0⟩ := lz_nn r0 (y := 8) 8 rfl (by omega) (by omega)
    rw [wL_law_199]
    refine br_t (nI_le (by omega) (by omega)) (h _ ?_)
    obtain ⟨ar, cap, n, nT, nA, nC, cp, dn, op, l, bd, lk, lc, la, lt, le, st, tg, f0, f1, kd, tx, ts, ta, gv, gt, rh, ft, fa, ca, vt, ag, tc, lg, T, A, rfl, hir⟩ := hu
    exact h _ (br_t rfl (sm_same hir (by omega) (br_f (by decide) (nm_r (nI_1 p) (c0 _ (n0 _ (nm_r (nI_add 1 j0) ⟨1 + j0 + 1, ll_596 hL (by omega) (1 + j0) 0 (p + 1) cnt (1 + j0 + 1) (by omega) (by omega) (by omega) (by omega) _ _ _ _ _ _ _ _ _ _ _ _ _ _ _ _ _ _ _ _ _ _ _ _ _ _ _ _ _ _ _ _ _ _ _ _  hir⟩)))))))
  | succ k ih =>
    intro c p N h1 h2 h4 ar cap n nT nA nC cp dn op l bd lk lc la lt le st tg f0 f1 kd tx ts ta gv gt rh ft fa ca vt ag tc lg T A hir
    obtain ⟨N, rfl⟩ : ∃ N', N = N' + 1 := ⟨N - 1, by omega⟩
    obtain ⟨q, u', hu, h⟩ := om_clause (xr_mk (gt := gt) (ag := ag) (tc := tc) (lg := lg) (lk := lk) (lc := lc) (la := la) (lt := lt) (le := le) hir)
    rw [wL_law_199]
    refine br_f (nI_ge (by omega) (by omega)) (h _ ?_)
    obtain ⟨ar, cap, n, nT, nA, nC, cp, dn, op, l, bd, lk, lc, la, lt, le, st, tg, f0, f1, kd, tx, ts, ta, gv, gt, rh, ft, fa, ca, vt, ag, tc, lg, T, A, rfl, hir⟩ := hu
    refine h _ (br_t rfl ⟨41, ll_223 (PB := p + 60) hL (by omega) (by omega) ?_ 40 0 p 41 (by omega) (by omega) (by omega) _ _ _ _ _ _ _ _ _ _ _ _ _ _ _ _ _ _ _ _ _ _ _ _ _ _ _ _ _ _ _ _ _ _ _ _  hir⟩)
    intro p' hp' ar cap n nT nA nC cp dn op l bd lk lc la lt le st tg f0 f1 kd tx ts ta gv gt rh ft fa ca vt ag tc lg T A hir
    exact ih (c + 1) p' N (by omega) (by omega) (by omega) _ _ _ _ _ _ _ _ _ _ _ _ _ _ _ _ _ _ _ _ _ _ _ _ _ _ _ _ _ _ _ _ _ _ _ _  hir
theorem ll_63 {xs : Nat → Int32} {L kc ks R : Nat} {x2 : Int32} (hL : L ≤ 260) (hR : R ≤ 20) :
    ∀ (k i p cnt N : Nat), i + k = R → p + 4 * k ≤ 1000 → cnt + k ≤ 1000 → k < N → ∀ (ar cap n nT nA nC cp dn op l : Nat) (bd lk lc la lt le : Int32) (st tg f0 f1 kd tx ts ta gv gt rh ft fa ca vt ag tc lg : Nat → Int32) (T A : Nat → Nat), ir_ok ar cap n nT nA nC cp dn op l bd st tg f0 f1 kd tx ts ta gv rh ft fa ca vt T A → wL_law_63 (fun r => r = 1) L xs x2 (nI R) kc ks N (nI p) (nI cnt) (nI i) (nI ar) (nI cap) (nI n) (nI nT) (nI nA) (nI nC) (nI cp) (nI dn) (nI op) bd (nI l) lk lc la lt le st tg f0 f1 kd tx ts ta gv gt rh ft fa ca vt ag tc lg (nI ar) (nI cap) (nI n) (nI nT) (nI nA) (nI nC) (nI cp) (nI dn) (nI op) bd (nI l) lk lc la lt le st tg f0 f1 kd tx ts ta gv gt rh ft fa ca vt ag tc lg := by
  intro k
  induction k with
  | zero =>
    intro i p cnt N h1 h2 h3 h4 ar cap n nT nA nC cp dn op l bd lk lc la lt le st tg f0 f1 kd tx ts ta gv gt rh ft fa ca vt ag tc lg T A hir
    obtain ⟨N, rfl⟩ : ∃ N', N = N' + 1 := ⟨N - 1, by omega⟩
    obtain ⟨r0, c0⟩ := lz_cell (xs := xs) hL p (by omega)
    obtain ⟨j0, hj0, n0⟩ := lz_nn r0 (y := 4) 4 rfl (by omega) (by omega)
    rw [wL_law_63]
    exact br_t (nI_le (by omega) (by omega)) (nm_r (nI_1 p) (c0 _ (n0 _ (nm_r (nI_add 1 j0) ⟨1 + j0 + 1, ll_199 hL (by omega) (by omega) (1 + j0) 0 (p + 1) (1 + j0 + 1) (by omega) (by omega) (by omega) _ _ _ _ _ _ _ _ _ _ _ _ _ _ _ _ _ _ _ _ _ _ _ _ _ _ _ _ _ _ _ _ _ _ _ _  hir⟩))))
  | succ k ih =>
    intro i p cnt N h1 h2 h3 h4 ar cap n nT nA nC cp dn op l bd lk lc la lt le st tg f0 f1 kd tx ts ta gv gt rh ft fa ca vt ag tc lg T A hir
    obtain ⟨N, rfl⟩ : ∃ N', N = N' + 1 := ⟨N - 1, by omega⟩
    obtain ⟨r4, c4⟩ := lz_cell (xs := xs) hL p (by omega)
    obtain ⟨k4, n4⟩ := lz_kind r4
    obtain ⟨r5, c5⟩ := lz_cell (xs := xs) hL (p + 1) (by omega)
    obtain ⟨j5, _, n5⟩ := lz_nn r5 (y := 8) 8 rfl (by omega) (by omega)
    obtain ⟨r6, c6⟩ := lz_cell (xs := xs) hL (p + 2) (by omega)
    obtain ⟨j6, _, n6⟩ := lz_nn r6 (y := nI cnt + 1) (cnt + 1) (nI_1 cnt) (by omega) (by omega)
    obtain ⟨r7, c7⟩ := lz_cell (xs := xs) hL (p + 3) (by omega)
    obtain ⟨j7, _, n7⟩ := lz_nn r7 (y := nI cnt + 1) (cnt + 1) (nI_1 cnt) (by omega) (by omega)
    obtain ⟨q2, u2, hu2, g⟩ := om_cell (xr_mk (gt := gt) (ag := ag) (tc := tc) (lg := lg) (lk := lk) (lc := lc) (la := la) (lt := lt) (le := le) hir) k4 (nI j5) (nI j6) (nI j7)
    rw [wL_law_63]
    refine br_f (nI_ge (by omega) (by omega)) (nm_r (nI_1 p) (c4 _ (n4 _ (nm_r (nI_1 (p + 1)) (c5 _ (n5 _ (nm_r (nI_1 (p + 2)) (c6 _ (n6 _ (nm_r (nI_1 (p + 3)) (c7 _ (n7 _ (g _ ?_)))))))))))))
    obtain ⟨ar, cap, n, nT, nA, nC, cp, dn, op, l, bd, lk, lc, la, lt, le, st, tg, f0, f1, kd, tx, ts, ta, gv, gt, rh, ft, fa, ca, vt, ag, tc, lg, T, A, rfl, hir⟩ := hu2
    refine g _ (br_t rfl (br_c (fun _ => nm_r (nI_1 i) ?_) (fun _ => nm_r (nI_1 cnt) (nm_r (nI_1 i) ?_))))
    · exact ih (i + 1) (p + 4) cnt N (by omega) (by omega) (by omega) (by omega) _ _ _ _ _ _ _ _ _ _ _ _ _ _ _ _ _ _ _ _ _ _ _ _ _ _ _ _ _ _ _ _ _ _ _ _  hir
    · exact ih (i + 1) (p + 4) (cnt + 1) N (by omega) (by omega) (by omega) (by omega) _ _ _ _ _ _ _ _ _ _ _ _ _ _ _ _ _ _ _ _ _ _ _ _ _ _ _ _ _ _ _ _ _ _ _ _  hir
theorem i_vc (xs : Nat → Int32) (L : Nat) (hL : L ≤ 260) : wpL_law (fun r => r = 1) L xs := by
  obtain ⟨r0, c0⟩ := lz_cell (xs := xs) hL 0 (by omega)
  obtain ⟨j0, hj0, n0⟩ := lz_nn r0 (y := 3) 3 rfl (by omega) (by omega)
  obtain ⟨r1, c1⟩ := lz_cell (xs := xs) hL 1 (by omega)
  obtain ⟨j1, hj1, n1⟩ := lz_nn r1 (y := 14) 14 rfl (by omega) (by omega)
  obtain ⟨u', hu, h⟩ := om_init (nI (1 + j0)) 32
  unfold wpL_law
  refine nm_r (e' := nI 1) rfl (c0 _ (n0 _ (nm_r (nI_add 1 j0) ⟨18, 619, by omega, by omega, h _ ?_⟩)))
  obtain ⟨ar, cap, n, nT, nA, nC, cp, dn, op, l, bd, lk, lc, la, lt, le, st, tg, f0, f1, kd, tx, ts, ta, gv, gt, rh, ft, fa, ca, vt, ag, tc, lg, T, A, rfl, hir⟩ := hu
  refine ⟨by omega, by omega, 18, 619, by omega, by omega, h _ ?_⟩
  exact nm_r (nI_1 1) (c1 _ (n1 _ (nm_r (nI_add 2 j1) ⟨2 + j1 + 1, ll_63 hL (by omega) (2 + j1) 0 2 0 (2 + j1 + 1) (by omega) (by omega) (by omega) (by omega) _ _ _ _ _ _ _ _ _ _ _ _ _ _ _ _ _ _ _ _ _ _ _ _ _ _ _ _ _ _ _ _ _ _ _ _  hir⟩)))
end
