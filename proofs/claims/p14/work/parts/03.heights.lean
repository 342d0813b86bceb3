/-! heights of tokens in prefix order, ends of patterns, the stack of pending patterns -/
/-- s q: the number of subpatterns of token q; the height at q: pending patterns before q, against the first token -/
def ht_h (s : Nat → Nat) : Nat → Int
  | 0 => 0
  | q + 1 => ht_h s q + (s q : Int) - 1
theorem ht_s (s : Nat → Nat) (q : Nat) : ht_h s (q + 1) = ht_h s q + (s q : Int) - 1 := rfl
/-- the pattern that starts at i ends before e: e is the first place lower than i -/
def ht_E (s : Nat → Nat) (i e : Nat) : Prop := i < e ∧ ht_h s e < ht_h s i ∧ ∀ j, i < j → j < e → ht_h s i ≤ ht_h s j
theorem ht_le {s : Nat → Nat} {i e : Nat} (h : ht_E s i e) {j : Nat} (h1 : i ≤ j) (h2 : j < e) : ht_h s i ≤ ht_h s j := by
  rcases Nat.lt_or_ge i j with z | z
  · exact h.2.2 j z h2
  · have e : i = j := by omega
    subst e; exact Int.le_refl _
theorem ht_val {s : Nat → Nat} {i e : Nat} (h : ht_E s i e) : ht_h s e = ht_h s i - 1 := by
  obtain ⟨d, rfl⟩ : ∃ d, e = d + 1 := ⟨e - 1, by have := h.1; omega⟩
  have a := ht_le h (j := d) (by have := h.1; omega) (by omega)
  have b := h.2.1
  rw [ht_s] at b ⊢
  omega
theorem ht_uniq {s : Nat → Nat} {i e e' : Nat} (h : ht_E s i e) (h' : ht_E s i e') : e = e' := by
  rcases Nat.lt_trichotomy e e' with z | z | z
  · have a := ht_le h' (j := e) (by have := h.1; omega) z
    have b := h.2.1
    omega
  · exact z
  · have a := ht_le h (j := e') (by have := h'.1; omega) z
    have b := h'.2.1
    omega
theorem ht_ex {s : Nat → Nat} {i n : Nat} (h1 : i < n) (h2 : ht_h s n < ht_h s i) : ∃ e, e ≤ n ∧ ht_E s i e := by
  obtain ⟨e, ⟨he1, he2⟩, hm⟩ := pk_least (fun e => i < e ∧ ht_h s e < ht_h s i) ⟨n, h1, h2⟩
  refine ⟨e, ?_, he1, he2, fun j hj1 hj2 => ?_⟩
  · rcases Nat.lt_or_ge n e with z | z
    · exact absurd ⟨h1, h2⟩ (hm n z)
    · exact z
  · by_cases z : ht_h s j < ht_h s i
    · exact absurd ⟨hj1, z⟩ (hm j hj2)
    · omega
theorem ht_nest {s : Nat → Nat} {i e j f : Nat} (h : ht_E s i e) (h1 : i ≤ j) (h2 : j < e) (hf : ht_E s j f) : f ≤ e := by
  rcases Nat.lt_or_ge e f with z | z
  · have a := ht_le hf (j := e) (by omega) z
    have b := ht_le h h1 h2
    have c := h.2.1
    omega
  · exact z
theorem ht_0 {s : Nat → Nat} {i : Nat} (h : s i = 0) : ht_E s i (i + 1) := by
  refine ⟨by omega, ?_, fun j h1 h2 => by omega⟩
  rw [ht_s, h]; omega
theorem ht_1 {s : Nat → Nat} {i e : Nat} (h : s i = 1) (he : ht_E s i e) : i + 1 < e ∧ ht_E s (i + 1) e := by
  have a : ht_h s (i + 1) = ht_h s i := by rw [ht_s, h]; omega
  have h1 := he.1
  have b := he.2.1
  have z : i + 1 < e := by
    rcases Nat.lt_or_ge (i + 1) e with z | z
    · exact z
    · have : e = i + 1 := by omega
      subst this; omega
  exact ⟨z, z, by omega, fun j h3 h4 => by rw [a]; exact he.2.2 j (by omega) h4⟩
/-- the two subpatterns of a token that has two -/
theorem ht_2 {s : Nat → Nat} {i e f : Nat} (h : s i = 2) (he : ht_E s i e) (hf : ht_E s (i + 1) f) : i + 1 < f ∧ f < e ∧ ht_E s f e ∧ ht_h s f = ht_h s i := by
  have a : ht_h s (i + 1) = ht_h s i + 1 := by rw [ht_s, h]; omega
  have b := ht_val hf
  have c := ht_val he
  have h1 := he.1
  have h2 := hf.1
  have g : f < e := by
    rcases Nat.lt_trichotomy f e with z | z | z
    · exact z
    · subst z; omega
    · have t := ht_le hf (j := e) (by
        rcases Nat.lt_or_ge i (e - 1) with y | y
        · omega
        · have : e = i + 1 := by omega
          subst this; omega) z
      omega
  refine ⟨h2, g, ⟨g, by omega, fun j h3 h4 => ?_⟩, by omega⟩
  have := he.2.2 j (by omega) h4
  omega
/-- heights look only below -/
theorem ht_cong {s s' : Nat → Nat} : ∀ {n : Nat}, (∀ q, q < n → s q = s' q) → ht_h s n = ht_h s' n
  | 0, _ => rfl
  | n + 1, h => by rw [ht_s, ht_s, ht_cong (n := n) (fun q hq => h q (by omega)), h n (by omega)]
theorem ht_up {s : Nat → Nat} (hs : ∀ q, s q ≤ 2) (p : Nat) : ∀ d, ht_h s (p + d) ≤ ht_h s p + d
  | 0 => by simp
  | d + 1 => by
    have a := ht_up hs p d
    have b := hs (p + d)
    rw [← Nat.add_assoc, ht_s]
    omega
/-- linking: a is where the t-th subpattern of i starts -/
def ln_A (s : Nat → Nat) (i t a : Nat) : Prop := i < a ∧ ht_h s a = ht_h s i + (s i : Int) - 1 - t ∧ ∀ r, i < r → r < a → ht_h s a < ht_h s r
theorem ln_0 (s : Nat → Nat) (i : Nat) : ln_A s i 0 (i + 1) := ⟨by omega, by rw [ht_s]; omega, fun r h1 h2 => by omega⟩
theorem ln_s {s : Nat → Nat} {i t a b : Nat} (h : ln_A s i t a) (hb : ht_E s a b) : ln_A s i (t + 1) b := by
  have v := ht_val hb
  have h1 := h.1
  have h2 := hb.1
  have h3 := h.2.1
  refine ⟨by omega, by omega, fun r hr1 hr2 => ?_⟩
  rcases Nat.lt_or_ge r a with z | z
  · have := h.2.2 r hr1 z; omega
  · have := ht_le hb z hr2; omega
theorem ln_e {s : Nat → Nat} {i a : Nat} (h : ln_A s i (s i) a) : ht_E s i a := by
  have h2 := h.2.1
  exact ⟨h.1, by omega, fun r h3 h4 => by have := h.2.2 r h3 h4; omega⟩
theorem ln_lt {s : Nat → Nat} {i t a e : Nat} (h : ln_A s i t a) (ht : t < s i) (he : ht_E s i e) : a < e := by
  have h2 := h.2.1
  have h3 := he.1
  have h4 := he.2.1
  rcases Nat.lt_trichotomy a e with z | z | z
  · exact z
  · subst z; omega
  · have := h.2.2 e h3 z; omega
/-- the stack of pending patterns while the pattern at p is matched and i is next: place j holds the first place from i of height h p + j -/
def mk_S (s : Nat → Nat) (n p i k : Nat) (sP sV tc : Nat → Int32) : Prop :=
  (k : Int) = ht_h s i - ht_h s p + 1 ∧ ∀ j, j < k → ∃ q, sP j = nI q ∧ sV j = tc q ∧ (∃ c, c < n ∧ tc q = nI c) ∧ i ≤ q ∧ ht_h s q = ht_h s p + j ∧ ∀ r, i ≤ r → r < q → ht_h s p + j < ht_h s r
theorem mk_0 {s : Nat → Nat} {n p c : Nat} {sP sV tc : Nat → Int32} (hc : c < n) : mk_S s n p p 1 (upd sP 0 (nI p)) (upd sV 0 (nI c)) (upd tc p (nI c)) := by
  refine ⟨by omega, fun j hj => ?_⟩
  have : j = 0 := by omega
  subst this
  exact ⟨p, pk_us, by rw [pk_us, pk_us], ⟨c, hc, pk_us⟩, Nat.le_refl _, by omega, fun r h1 h2 => by omega⟩
theorem mk_top {s : Nat → Nat} {n p i k : Nat} {sP sV tc : Nat → Int32} (h : mk_S s n p i (k + 1) sP sV tc) : sP k = nI i ∧ sV k = tc i ∧ ∃ c, c < n ∧ tc i = nI c := by
  obtain ⟨q, h1, h2, h3, h4, h5, h6⟩ := h.2 k (by omega)
  have e : q = i := by
    rcases Nat.lt_or_ge i q with z | z
    · have := h6 i (Nat.le_refl _) z
      have := h.1
      omega
    · omega
  subst e
  exact ⟨h1, h2, h3⟩
theorem mk_pos {s : Nat → Nat} {n p i e k : Nat} {sP sV tc : Nat → Int32} (h : mk_S s n p i k sP sV tc) (he : ht_E s p e) (h1 : p ≤ i) (h2 : i < e) : ∃ k', k = k' + 1 := by
  have a := ht_le he h1 h2
  have b := h.1
  exact ⟨k - 1, by omega⟩
theorem mk_end {s : Nat → Nat} {n p e k : Nat} {sP sV tc : Nat → Int32} (h : mk_S s n p e k sP sV tc) (he : ht_E s p e) : k = 0 := by
  have a := ht_val he
  have b := h.1
  omega
theorem mk_pop {s : Nat → Nat} {n p i i' k : Nat} {sP sV tc : Nat → Int32} (h : mk_S s n p i (k + 1) sP sV tc) (he : ht_E s i i') : mk_S s n p i' k sP sV tc := by
  have v := ht_val he
  have b := h.1
  refine ⟨by omega, fun j hj => ?_⟩
  obtain ⟨q, h1, h2, h3, h4, h5, h6⟩ := h.2 j (by omega)
  refine ⟨q, h1, h2, h3, ?_, h5, fun r hr1 hr2 => h6 r (by have := he.1; omega) hr2⟩
  rcases Nat.lt_or_ge q i' with z | z
  · have := ht_le he h4 z; omega
  · exact z
theorem mk_1 {s : Nat → Nat} {n p i k c : Nat} {sP sV tc : Nat → Int32} (h : mk_S s n p i (k + 1) sP sV tc) (hs : s i = 1) (hc : c < n) : mk_S s n p (i + 1) (k + 1) (upd sP k (nI (i + 1))) (upd sV k (nI c)) (upd tc (i + 1) (nI c)) := by
  have a : ht_h s (i + 1) = ht_h s i := by rw [ht_s, hs]; omega
  have b := h.1
  refine ⟨by omega, fun j hj => ?_⟩
  by_cases e : j = k
  · subst e
    exact ⟨i + 1, pk_us, by rw [pk_us, pk_us], ⟨c, hc, pk_us⟩, Nat.le_refl _, by omega, fun r h1 h2 => by omega⟩
  · obtain ⟨q, h1, h2, h3, h4, h5, h6⟩ := h.2 j (by omega)
    have n1 : q ≠ i := fun z => by subst z; omega
    have n2 : q ≠ i + 1 := fun z => by subst z; omega
    rw [pk_un e, pk_un e]
    exact ⟨q, h1, by rw [pk_un n2]; exact h2, by rw [pk_un n2]; exact h3, by omega, h5, fun r hr1 hr2 => h6 r (by omega) hr2⟩
theorem mk_2 {s : Nat → Nat} {n p i k c d f : Nat} {sP sV tc : Nat → Int32} (h : mk_S s n p i (k + 1) sP sV tc) (hs : s i = 2) (hf : ht_E s (i + 1) f) (hc : c < n) (hd : d < n) :
    mk_S s n p (i + 1) (k + 2) (upd (upd sP k (nI f)) (k + 1) (nI (i + 1))) (upd (upd sV k (nI d)) (k + 1) (nI c)) (upd (upd tc (i + 1) (nI c)) f (nI d)) := by
  have a : ht_h s (i + 1) = ht_h s i + 1 := by rw [ht_s, hs]; omega
  have b := h.1
  have v := ht_val hf
  have f1 := hf.1
  refine ⟨by omega, fun j hj => ?_⟩
  by_cases e1 : j = k + 1
  · subst e1
    have n1 : i + 1 ≠ f := by omega
    exact ⟨i + 1, pk_us, by rw [pk_us, pk_un n1, pk_us], ⟨c, hc, by rw [pk_un n1, pk_us]⟩, Nat.le_refl _, by omega, fun r h1 h2 => by omega⟩
  · rw [pk_un e1, pk_un e1]
    by_cases e : j = k
    · subst e
      exact ⟨f, pk_us, by rw [pk_us, pk_us], ⟨d, hd, pk_us⟩, by omega, by omega, fun r h1 h2 => by have := ht_le hf h1 h2; omega⟩
    · obtain ⟨q, h1, h2, h3, h4, h5, h6⟩ := h.2 j (by omega)
      have n1 : q ≠ i := fun z => by subst z; omega
      have n2 : q ≠ i + 1 := fun z => by subst z; omega
      have n3 : q ≠ f := fun z => by subst z; omega
      rw [pk_un e, pk_un e]
      exact ⟨q, h1, by rw [pk_un n3, pk_un n2]; exact h2, by rw [pk_un n3, pk_un n2]; exact h3, by omega, h5, fun r hr1 hr2 => h6 r (by omega) hr2⟩
theorem mk_room {s : Nat → Nat} (hs : ∀ q, s q ≤ 2) {n p i k : Nat} {sP sV tc : Nat → Int32} (h : mk_S s n p i k sP sV tc) (h1 : p ≤ i) : k ≤ i - p + 1 := by
  have a := ht_up hs p (i - p)
  have b := h.1
  rw [show p + (i - p) = i by omega] at a
  omega
