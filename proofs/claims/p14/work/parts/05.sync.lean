/-! tokens: subpatterns, the static facts of a clause, which tokens a match has visited, where the two sides agree on cells -/
def tk_a (x : Int32) : Nat := if x < 4 then 0 else if x < 6 then 1 else 2
def tk_s (k x : Int32) : Nat := if k = 2 then tk_a x else if k = 3 then 1 else if k = 4 then 1 else 0
def tk_f (kd tx : Nat → Int32) (q : Nat) : Nat := tk_s (kd q) (tx q)
theorem tk_a2 (x : Int32) : tk_a x ≤ 2 := by
  unfold tk_a
  split
  · omega
  · split <;> omega
theorem tk_s2 (k x : Int32) : tk_s k x ≤ 2 := by
  unfold tk_s
  have := tk_a2 x
  split
  · exact this
  · split
    · omega
    · split <;> omega
theorem tk_f2 (kd tx : Nat → Int32) (q : Nat) : tk_f kd tx q ≤ 2 := tk_s2 _ _
/-- what is fixed of the clause whose tokens are b .. e - 1: E q is the end of the pattern at q -/
def cx_ok (nT b e : Nat) (kd tx ts ta : Nat → Int32) (E : Nat → Nat) : Prop :=
  nT ≤ 64 ∧ e ≤ nT ∧ ∀ q, b ≤ q → q < e → ht_E (tk_f kd tx) q (E q) ∧ E q ≤ e ∧ ta q = nI (E q) ∧ ts q = nI (tk_f kd tx q) ∧ (∃ k, k ≤ 4 ∧ kd q = nI k) ∧ ((kd q = 1 ∨ kd q = 2) → ∃ x, x < 8 ∧ tx q = nI x) ∧ (kd q = 1 → ∀ q', b ≤ q' → q' < e → kd q' = 1 → tx q' = tx q → q' = q)
/-- the two sides agree on token q's cell -/
def sy_q (n : Nat) (kd tx tc dn si : Nat → Int32) (q : Nat) : Prop := (kd q = 4 → si q = tc q) ∧ (kd q = 1 → dn (tx q).toNatClampNeg = tc q) ∧ ∃ c, c < n ∧ tc q = nI c
/-- token q has been visited by the match of the pattern at p that is about to look at i -/
def vs_q (kd : Nat → Int32) (E : Nat → Nat) (p i q : Nat) : Prop := p ≤ q ∧ q < i ∧ ∀ r, p ≤ r → r < q → kd r = 4 → E r ≤ q
/-- token q is pending then -/
def pd_q (s : Nat → Nat) (ep i q : Nat) : Prop := i ≤ q ∧ q < ep ∧ ∀ r, i ≤ r → r < q → ht_h s q < ht_h s r
def mi_I (n b e : Nat) (kd tx : Nat → Int32) (E : Nat → Nat) (p i : Nat) (tc0 dn0 si0 tc dn si : Nat → Int32) : Prop :=
  (∀ r, p ≤ r → r < i → kd r = 4 → E r ≤ i) ∧ (∀ q, vs_q kd E p i q → sy_q n kd tx tc dn si q) ∧
  (∀ q, b ≤ q → q < e → ¬ vs_q kd E p i q → si q = si0 q ∧ (kd q = 1 → dn (tx q).toNatClampNeg = dn0 (tx q).toNatClampNeg)) ∧
  (∀ q, b ≤ q → q < e → ¬ vs_q kd E p i q → ¬ pd_q (tk_f kd tx) (E p) i q → tc q = tc0 q)
theorem mi_0 {n b e p : Nat} {kd tx : Nat → Int32} {E : Nat → Nat} {tc0 dn0 si0 : Nat → Int32} (v : Int32) (hp : p < E p) : mi_I n b e kd tx E p p tc0 dn0 si0 (upd tc0 p v) dn0 si0 := by
  refine ⟨fun r h1 h2 => by omega, fun q h => ?_, fun q _ _ _ => ⟨rfl, fun _ => rfl⟩, fun q _ _ _ h => ?_⟩
  · have := h.1; have := h.2.1; omega
  · refine pk_un fun z => h ?_
    subst z
    exact ⟨Nat.le_refl _, hp, fun r h1 h2 => by omega⟩
theorem vs_s {kd : Nat → Int32} {E : Nat → Nat} {p i i' q : Nat} (hJ : ∀ r, p ≤ r → r < i → kd r = 4 → E r ≤ i) (hp : p ≤ i) (hi : i < i') (hz : ∀ q, i < q → q < i' → kd i = 4 ∧ i' ≤ E i) : vs_q kd E p i' q ↔ (vs_q kd E p i q ∨ q = i) := by
  constructor
  · intro h
    rcases Nat.lt_trichotomy q i with z | z | z
    · exact Or.inl ⟨h.1, z, h.2.2⟩
    · exact Or.inr z
    · have a := hz q z h.2.1
      have b := h.2.2 i hp z a.1
      have c := h.2.1
      omega
  · rintro (h | h)
    · exact ⟨h.1, by have := h.2.1; omega, h.2.2⟩
    · subst h
      exact ⟨hp, hi, hJ⟩
theorem mi_s {n b e p i i' : Nat} {kd tx : Nat → Int32} {E : Nat → Nat} {tc0 dn0 si0 tc dn si tc' dn' si' : Nat → Int32}
    (h : mi_I n b e kd tx E p i tc0 dn0 si0 tc dn si) (hb : b ≤ p) (hp : p ≤ i) (hi : i < i') (hie : i < e)
    (hz : ∀ q, i < q → q < i' → kd i = 4 ∧ i' ≤ E i) (hE : ∀ q, i < q → q < i' → ht_h (tk_f kd tx) i ≤ ht_h (tk_f kd tx) q)
    (hJ' : ∀ r, i ≤ r → r < i' → kd r = 4 → E r ≤ i')
    (hY : sy_q n kd tx tc' dn' si' i)
    (hS : ∀ q, b ≤ q → q < e → q ≠ i → si' q = si q ∧ (kd q = 1 → dn' (tx q).toNatClampNeg = dn (tx q).toNatClampNeg))
    (hT : ∀ q, ¬ pd_q (tk_f kd tx) (E p) i' q → tc' q = tc q) : mi_I n b e kd tx E p i' tc0 dn0 si0 tc' dn' si' := by
  obtain ⟨J, A, B, C⟩ := h
  have V : ∀ q, vs_q kd E p i' q ↔ (vs_q kd E p i q ∨ q = i) := fun q => vs_s J hp hi hz
  refine ⟨fun r h1 h2 h3 => ?_, fun q hq => ?_, fun q h1 h2 h3 => ?_, fun q h1 h2 h3 h4 => ?_⟩
  · rcases Nat.lt_or_ge r i with z | z
    · have := J r h1 z h3; omega
    · exact hJ' r z h2 h3
  · rcases (V q).mp hq with z | z
    · have z1 := z.1
      have z2 := z.2.1
      have a := A q z
      have s := hS q (by omega) (by omega) (by omega)
      have t := hT q (fun y => by have := y.1; omega)
      exact ⟨fun k => by rw [s.1, t]; exact a.1 k, fun k => by rw [s.2 k, t]; exact a.2.1 k, by rw [t]; exact a.2.2⟩
    · subst z; exact hY
  · have n1 : ¬ vs_q kd E p i q := fun y => h3 ((V q).mpr (Or.inl y))
    have n2 : q ≠ i := fun y => h3 ((V q).mpr (Or.inr y))
    have s := hS q h1 h2 n2
    have o := B q h1 h2 n1
    exact ⟨s.1.trans o.1, fun k => (s.2 k).trans (o.2 k)⟩
  · have n1 : ¬ vs_q kd E p i q := fun y => h3 ((V q).mpr (Or.inl y))
    have n2 : q ≠ i := fun y => h3 ((V q).mpr (Or.inr y))
    refine (hT q h4).trans (C q h1 h2 n1 fun y => ?_)
    have y1 := y.1
    rcases Nat.lt_or_ge q i' with z | z
    · have a := hE q (by omega) z
      have c := y.2.2 i (Nat.le_refl _) (by omega)
      omega
    · exact h4 ⟨z, y.2.1, fun r r1 r2 => y.2.2 r (by omega) r2⟩
theorem mi_e {n b e p : Nat} {kd tx : Nat → Int32} {E : Nat → Nat} {tc0 dn0 si0 tc dn si : Nat → Int32} (h : mi_I n b e kd tx E p (E p) tc0 dn0 si0 tc dn si) :
    (∀ q, b ≤ q → q < e → sy_q n kd tx tc0 dn0 si0 q → sy_q n kd tx tc dn si q) ∧ (∀ q, vs_q kd E p (E p) q → sy_q n kd tx tc dn si q) := by
  obtain ⟨J, A, B, C⟩ := h
  refine ⟨fun q h1 h2 h3 => ?_, A⟩
  by_cases z : vs_q kd E p (E p) q
  · exact A q z
  · have s := B q h1 h2 z
    have t := C q h1 h2 z (fun y => by have := y.1; have := y.2.1; omega)
    exact ⟨fun k => by rw [s.1, t]; exact h3.1 k, fun k => by rw [s.2 k, t]; exact h3.2.1 k, by rw [t]; exact h3.2.2⟩
/-- before a demand: tokens under no lazy token agree -/
def bs_I (n b e : Nat) (kd tx : Nat → Int32) (E : Nat → Nat) (tc dn si : Nat → Int32) : Prop := ∀ q, b ≤ q → q < e → (∀ r, b ≤ r → r < q → kd r = 4 → E r ≤ q) → sy_q n kd tx tc dn si q
/-- in a demand of the token w, about to look at i -/
def dm_I (n b e : Nat) (kd tx : Nat → Int32) (E : Nat → Nat) (w i : Nat) (tc dn si : Nat → Int32) : Prop := ∀ q, b ≤ q → q < e → (∀ r, b ≤ r → r < q → kd r = 4 → q < E r → r < i ∧ r < w ∧ w < E r) → sy_q n kd tx tc dn si q
theorem dm_0 {n b e w : Nat} {kd tx : Nat → Int32} {E : Nat → Nat} {tc dn si : Nat → Int32} (h : bs_I n b e kd tx E tc dn si) : dm_I n b e kd tx E w b tc dn si := by
  intro q h1 h2 h3
  refine h q h1 h2 fun r r1 r2 r3 => ?_
  rcases Nat.lt_or_ge q (E r) with z | z
  · have := (h3 r r1 r2 r3 z).1; omega
  · exact z
theorem dm_at {nT n b e w i : Nat} {kd tx ts ta : Nat → Int32} {E : Nat → Nat} {tc dn si : Nat → Int32} (cx : cx_ok nT b e kd tx ts ta E) (h : dm_I n b e kd tx E w i tc dn si)
    (h1 : b ≤ i) (h2 : i < w) (hw : w < e) (h4 : w < E i) : sy_q n kd tx tc dn si i := by
  refine h i h1 (by omega) fun r r1 r2 r3 r4 => ?_
  have a := cx.2.2 r r1 (by omega)
  have c := cx.2.2 i h1 (by omega)
  have d := ht_nest a.1 (by omega) r4 c.1
  exact ⟨r2, by omega, by omega⟩
theorem dm_s {n b e w i : Nat} {kd tx : Nat → Int32} {E : Nat → Nat} {tc dn si : Nat → Int32} (h : dm_I n b e kd tx E w i tc dn si) (hn : ¬ (kd i = 4 ∧ w < E i)) : dm_I n b e kd tx E w (i + 1) tc dn si := by
  intro q h1 h2 h3
  refine h q h1 h2 fun r r1 r2 r3 r4 => ?_
  have a := h3 r r1 r2 r3 r4
  have c : r ≠ i := fun z => by subst z; exact hn ⟨r3, a.2.2⟩
  exact ⟨by omega, a.2⟩
theorem dm_m {n b e w i : Nat} {kd tx : Nat → Int32} {E : Nat → Nat} {tc dn si tc' dn' si' : Nat → Int32} (h : dm_I n b e kd tx E w i tc dn si) (hbi : b ≤ i) (he : E (i + 1) = E i)
    (hp : ∀ q, b ≤ q → q < e → sy_q n kd tx tc dn si q → sy_q n kd tx tc' dn' si' q) (hv : ∀ q, vs_q kd E (i + 1) (E (i + 1)) q → sy_q n kd tx tc' dn' si' q) : dm_I n b e kd tx E w (i + 1) tc' dn' si' := by
  intro q h1 h2 h3
  by_cases z : i < q ∧ q < E i
  · refine hv q ⟨by omega, by omega, fun r r1 r2 r3 => ?_⟩
    rcases Nat.lt_or_ge q (E r) with y | y
    · have := h3 r (by omega) r2 r3 y
      omega
    · exact y
  · refine hp q h1 h2 (h q h1 h2 fun r r1 r2 r3 r4 => ?_)
    have a := h3 r r1 r2 r3 r4
    have c : r ≠ i := fun y => by subst y; exact z ⟨r2, r4⟩
    exact ⟨by omega, a.2⟩
theorem dm_e {n b e w : Nat} {kd tx : Nat → Int32} {E : Nat → Nat} {tc dn si : Nat → Int32} (h : dm_I n b e kd tx E w w tc dn si) (h1 : b ≤ w) (h2 : w < e) : sy_q n kd tx tc dn si w :=
  h w h1 h2 fun r _ r2 _ r4 => ⟨r2, r2, r4⟩
theorem bs_p {n b e : Nat} {kd tx : Nat → Int32} {E : Nat → Nat} {tc dn si tc' dn' si' : Nat → Int32} (h : bs_I n b e kd tx E tc dn si)
    (hp : ∀ q, b ≤ q → q < e → sy_q n kd tx tc dn si q → sy_q n kd tx tc' dn' si' q) : bs_I n b e kd tx E tc' dn' si' := fun q h1 h2 h3 => hp q h1 h2 (h q h1 h2 h3)
/-- while the arguments are matched, about to match the pattern at p -/
def ag_I (n b : Nat) (kd tx : Nat → Int32) (E : Nat → Nat) (p : Nat) (tc dn si : Nat → Int32) : Prop := ∀ q, b ≤ q → q < p → (∀ r, b ≤ r → r < q → kd r = 4 → E r ≤ q) → sy_q n kd tx tc dn si q
theorem ag_s {n b e p : Nat} {kd tx : Nat → Int32} {E : Nat → Nat} {tc dn si tc' dn' si' : Nat → Int32} (h : ag_I n b kd tx E p tc dn si) (hb : b ≤ p) (hpe : p ≤ e)
    (hp : ∀ q, b ≤ q → q < e → sy_q n kd tx tc dn si q → sy_q n kd tx tc' dn' si' q) (hv : ∀ q, vs_q kd E p (E p) q → sy_q n kd tx tc' dn' si' q) : ag_I n b kd tx E (E p) tc' dn' si' := by
  intro q h1 h2 h3
  rcases Nat.lt_or_ge q p with z | z
  · exact hp q h1 (by omega) (h q h1 z h3)
  · exact hv q ⟨z, h2, fun r r1 r2 r3 => h3 r (by omega) r2 r3⟩
