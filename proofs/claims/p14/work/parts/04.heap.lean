/-! the heap, counts, what a FORCE writes -/
/-- counting below n -/
def cu_n (p : Nat → Bool) : Nat → Nat
  | 0 => 0
  | k + 1 => cu_n p k + (if p k = true then 1 else 0)
theorem cu_le (p : Nat → Bool) : ∀ n, cu_n p n ≤ n
  | 0 => Nat.le_refl _
  | n + 1 => by
    have := cu_le p n
    simp only [cu_n]
    split <;> omega
theorem cu_mono {p q : Nat → Bool} : ∀ {n : Nat}, (∀ k, k < n → p k = true → q k = true) → cu_n p n ≤ cu_n q n
  | 0, _ => Nat.le_refl _
  | n + 1, h => by
    have a := cu_mono (n := n) (fun k hk => h k (by omega))
    have b := h n (by omega)
    simp only [cu_n]
    by_cases e : p n = true
    · rw [if_pos e, if_pos (b e)]; omega
    · rw [if_neg e]; omega
/-- one that was counted is counted no more, and none is new -/
theorem cu_drop {p q : Nat → Bool} {a : Nat} (hp : p a = true) (hq : q a = false) : ∀ {n : Nat}, a < n → (∀ k, k < n → q k = true → p k = true) → cu_n q n + 1 ≤ cu_n p n
  | 0, h, _ => by omega
  | n + 1, h, hk => by
    simp only [cu_n]
    rcases Nat.lt_or_ge a n with z | z
    · have := cu_drop hp hq (n := n) z (fun k h1 h2 => hk k (by omega) h2)
      have b := hk n (by omega)
      by_cases e : q n = true
      · rw [if_pos e, if_pos (b e)]; omega
      · rw [if_neg e]; omega
    · have e : a = n := by omega
      subst e
      have := cu_mono (p := q) (q := p) (n := a) (fun k h1 => hk k (by omega))
      rw [hp, hq]
      simp
      exact this
theorem cu_pos {p : Nat → Bool} {a n : Nat} (h : a < n) (hp : p a = true) : 0 < cu_n p n := by
  have := cu_drop (p := p) (q := fun _ => false) hp rfl h (fun k _ hk => by simp at hk)
  omega
/-- the cells that are no VALUE and have no mark -/
def hp_u (st mk : Nat → Int32) (k : Nat) : Bool := decide (st k ≠ 0 ∧ mk k = 0)
/-- what the heap keeps: every cell below n has a state, and the fields that its state and tag ask for lie below n -/
def hp_ok (n : Nat) (st tg f0 f1 : Nat → Int32) : Prop := ∀ c, c < n → (∃ s, s ≤ 3 ∧ st c = nI s) ∧ ((st c = 0 ∨ st c = 1) → (¬ tg c < 4 → ∃ a, a < n ∧ f0 c = nI a) ∧ (¬ tg c < 6 → ∃ a, a < n ∧ f1 c = nI a)) ∧ (st c = 2 → ∃ a, a < n ∧ f0 c = nI a)
/-- v written at the places g 0 .. g (m - 1) -/
def fw_a (g : Nat → Int32) (v : Int32) (a : Nat → Int32) : Nat → Nat → Int32
  | 0 => a
  | m + 1 => upd (fw_a g v a m) (g m).toNatClampNeg v
theorem fw_s (g : Nat → Int32) (v : Int32) (a : Nat → Int32) (m : Nat) : fw_a g v a (m + 1) = upd (fw_a g v a m) (g m).toNatClampNeg v := rfl
theorem fw_in {g : Nat → Int32} {v : Int32} {a : Nat → Int32} : ∀ {m i : Nat}, i < m → fw_a g v a m (g i).toNatClampNeg = v
  | 0, i, h => by omega
  | m + 1, i, h => by
    rw [fw_s]
    rcases ud_or (f := fw_a g v a m) (k := (g m).toNatClampNeg) (v := v) (g i).toNatClampNeg with ⟨_, z⟩ | ⟨e, z⟩
    · exact z
    · rw [z]
      refine fw_in ?_
      rcases Nat.lt_or_ge i m with y | y
      · exact y
      · have : i = m := by omega
        subst this; exact absurd rfl e
theorem fw_out {g : Nat → Int32} {v : Int32} {a : Nat → Int32} {j : Nat} : ∀ {m : Nat}, (∀ i, i < m → (g i).toNatClampNeg ≠ j) → fw_a g v a m j = a j
  | 0, _ => rfl
  | m + 1, h => by
    rw [fw_s, pk_un (fun z => h m (by omega) z.symm)]
    exact fw_out (fun i hi => h i (by omega))
theorem fw_dec (g : Nat → Int32) (j : Nat) : ∀ m, (∃ i, i < m ∧ (g i).toNatClampNeg = j) ∨ (∀ i, i < m → (g i).toNatClampNeg ≠ j) := fun m => by
  by_cases e : ∃ i, i < m ∧ (g i).toNatClampNeg = j
  · exact Or.inl e
  · exact Or.inr fun i hi z => e ⟨i, hi, z⟩
theorem fw_cong {g g' : Nat → Int32} {v : Int32} {a : Nat → Int32} : ∀ {m : Nat}, (∀ i, i < m → g i = g' i) → fw_a g v a m = fw_a g' v a m
  | 0, _ => rfl
  | m + 1, h => by rw [fw_s, fw_s, fw_cong (fun i hi => h i (by omega)), h m (by omega)]
/-- the cell whose values are written keeps them -/
theorem fw_self {g : Nat → Int32} {a : Nat → Int32} {d : Nat} (m : Nat) : fw_a g (a d) a m d = a d := by
  rcases fw_dec g d m with ⟨i, hi, z⟩ | h
  · have := fw_in (g := g) (v := a d) (a := a) hi
    rw [z] at this; exact this
  · exact fw_out h
/-- after a FORCE that went through -/
theorem fw_ok {n d m : Nat} {g st tg f0 f1 : Nat → Int32} (h : hp_ok n st tg f0 f1) (hd : d < n) (hv : st d = 0) :
    hp_ok n (fw_a g 0 st m) (fw_a g (tg d) tg m) (fw_a g (f0 d) f0 m) (fw_a g (f1 d) f1 m) := by
  intro c hc
  rcases fw_dec g c m with ⟨i, hi, z⟩ | k
  · have e1 := fw_in (g := g) (v := 0) (a := st) hi
    have e2 := fw_in (g := g) (v := tg d) (a := tg) hi
    have e3 := fw_in (g := g) (v := f0 d) (a := f0) hi
    have e4 := fw_in (g := g) (v := f1 d) (a := f1) hi
    rw [z] at e1 e2 e3 e4
    rw [e1, e2, e3, e4]
    exact ⟨⟨0, by omega, rfl⟩, fun _ => (h d hd).2.1 (Or.inl hv), fun y => absurd y (by decide)⟩
  · rw [fw_out k, fw_out k, fw_out k, fw_out k]
    exact h c hc
theorem fw_cnt {n m : Nat} {g st mk : Nat → Int32} (hk : ∀ j, j < n → mk j ≠ 0 → ∃ i, i < m ∧ (g i).toNatClampNeg = j) :
    cu_n (hp_u (fw_a g 0 st m) (fun _ => 0)) n ≤ cu_n (hp_u st mk) n := by
  refine cu_mono fun j hj h => ?_
  unfold hp_u at h ⊢
  have h := of_decide_eq_true h
  apply decide_eq_true
  rcases fw_dec g j m with ⟨i, hi, z⟩ | k
  · have e1 := fw_in (g := g) (v := 0) (a := st) hi
    rw [z] at e1
    exact absurd e1 h.1
  · refine ⟨by have := h.1; rw [fw_out k] at this; exact this, ?_⟩
    by_cases e : mk j = 0
    · exact e
    · obtain ⟨i, hi, z⟩ := hk j hj e
      exact absurd z (k i hi)
