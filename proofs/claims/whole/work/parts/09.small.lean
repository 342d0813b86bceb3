/-! small methods, and the end of a pattern on the reference's side -/
theorem tk_c (x : Int32) : (tk_a x = 0 ∧ x < 4) ∨ (tk_a x = 1 ∧ ¬ x < 4 ∧ x < 6) ∨ (tk_a x = 2 ∧ ¬ x < 4 ∧ ¬ x < 6) := by
  unfold tk_a
  by_cases h : x < 4
  · rw [if_pos h]; exact Or.inl ⟨rfl, h⟩
  · rw [if_neg h]
    by_cases k : x < 6
    · rw [if_pos k]; exact Or.inr (Or.inl ⟨rfl, h, k⟩)
    · rw [if_neg k]; exact Or.inr (Or.inr ⟨rfl, h, k⟩)
theorem sm_fx {post : Int32 → Prop} {x : Int32} (h : post (nI (tk_a x))) : wpX_fieldsOf post x := by
  unfold wpX_fieldsOf
  rcases tk_c x with ⟨e, a⟩ | ⟨e, a, b⟩ | ⟨e, a, b⟩
  · rw [e] at h; exact br_f (fun z => absurd a (Int32.not_lt.mpr z)) h
  · rw [e] at h; exact br_t (Int32.not_lt.mp a) (br_f (fun z => absurd b (Int32.not_lt.mpr z)) h)
  · rw [e] at h; exact br_t (Int32.not_lt.mp a) (br_t (Int32.not_lt.mp b) h)
theorem sm_fy {post : Int32 → Prop} {x : Int32} {g0 g1 g2 g3 g4 g5 g6 g7 g8 g9 g10 g11 g12 g13 g14 g15 g16 g17 : Int32} {g18 g19 g20 g21 g22 g23 g24 g25 g26 g27 g28 g29 g30 g31 g32 g33 g34 g35 : Nat → Int32} (h : post (nI (tk_a x))) : wpY_arityOf post (g0, g1, g2, g3, g4, g5, g6, g7, g8, g9, g10, g11, g12, g13, g14, g15, g16, g17, g18, g19, g20, g21, g22, g23, g24, g25, g26, g27, g28, g29, g30, g31, g32, g33, g34, g35) x := by
  unfold wpY_arityOf
  rcases tk_c x with ⟨e, a⟩ | ⟨e, a, b⟩ | ⟨e, a, b⟩
  · rw [e] at h; exact br_f (fun z => absurd a (Int32.not_lt.mpr z)) h
  · rw [e] at h; exact br_t (Int32.not_lt.mp a) (br_f (fun z => absurd b (Int32.not_lt.mpr z)) h)
  · rw [e] at h; exact br_t (Int32.not_lt.mp a) (br_t (Int32.not_lt.mp b) h)
theorem sm_sx {post : Int32 → Prop} {k x : Int32} (h : post (nI (tk_s k x))) : wpX_subpatternsOf post k x := by
  unfold wpX_subpatternsOf
  unfold tk_s at h
  by_cases h2 : k = 2
  · rw [if_pos h2] at h; exact br_t h2 (sm_fx h)
  · rw [if_neg h2] at h
    by_cases h3 : k = 3
    · rw [if_pos h3] at h; exact br_f h2 (br_t h3 h)
    · rw [if_neg h3] at h
      by_cases h4 : k = 4
      · rw [if_pos h4] at h; exact br_f h2 (br_f h3 (br_t h4 h))
      · rw [if_neg h4] at h; exact br_f h2 (br_f h3 (br_f h4 h))
section
variable {ar cap n nT nA nC cp dn op : Nat} {bd lk lc la lt le hc yk yc ya yt ye : Int32} {kd tx ts ta gv gt rh ft fa ca vt ag : Nat → Int32}
/-- one step of the reference's search for the end of a pattern -/
theorem ye_s {post : Int32 → Prop} {q i m l N : Nat} {er : Int32} {st tg f0 f1 mk ch lg de si sP sV : Nat → Int32} (h64 : nT ≤ 64) (hq : q < nT) (hi : i < 64) (hm : m < 100) (hk : ∃ k, k ≤ 4 ∧ kd q = nI k)
    (h : wY_patEnd_7 post (nI ar) (nI cap) (nI n) (nI nC) (nI nT) (nI nA) (nI cp) hc (nI dn) (nI op) bd (nI l) yk yc ya yt ye er st tg f0 f1 mk ch kd tx ft fa gv gt rh lg de si sP sV N (nI (m + tk_f kd tx q)) (nI (q + 1)) (nI (i + 1))) : wY_patEnd_7 post (nI ar) (nI cap) (nI n) (nI nC) (nI nT) (nI nA) (nI cp) hc (nI dn) (nI op) bd (nI l) yk yc ya yt ye er st tg f0 f1 mk ch kd tx ft fa gv gt rh lg de si sP sV (N + 1) (nI (m + 1)) (nI q) (nI i) := by
  have c1 : (nI q).toNatClampNeg = q := nI_clamp (by omega)
  have v1 : vp_in (nI q) 64 := vp_in_nI (by omega) (by omega)
  obtain ⟨k, hk4, ek⟩ := hk
  have e1 : kd (nI q).toNatClampNeg = nI k := by rw [c1]; exact ek
  have a1 : ¬ (64 : Int32) ≤ nI i := nI_ge (b := 64) hi (by omega)
  have a2 : ¬ nI (m + 1) ≤ 0 := nI_nle (by omega) (by omega)
  have a3 : ¬ nI q < 0 := nI_pos (by omega)
  have a4 : ¬ nI nT ≤ nI q := nI_ge hq (by omega)
  unfold tk_f at h
  rw [ek] at h
  rw [wY_patEnd_7]
  refine br_f a1 (br_f a2 (br_f a3 (br_f a4 (nm_r (pk_m1 m) ⟨v1, ?_⟩))))
  by_cases k2 : k = 2
  · subst k2
    refine br_t e1 ⟨v1, sm_fy (nm_r (e' := nI (m + tk_a (tx q))) (by rw [c1]; exact nI_add _ _) ⟨v1, br_f (by rw [e1]; decide) ⟨v1, br_f (by rw [e1]; decide) (nm_r (nI_1 q) (nm_r (nI_1 i) h))⟩⟩)⟩
  · have z2 : ¬ kd (nI q).toNatClampNeg = 2 := by
      rw [e1]
      exact fun z => k2 ((nI_eq (by omega) (by omega)).mp (z.trans (rfl : (2 : Int32) = nI 2)))
    refine br_f z2 ⟨v1, ?_⟩
    by_cases k3 : k = 3
    · subst k3
      exact br_t e1 (nm_r (nI_1 m) (nm_r (nI_1 q) (nm_r (nI_1 i) h)))
    · have z3 : ¬ kd (nI q).toNatClampNeg = 3 := by
        rw [e1]
        exact fun z => k3 ((nI_eq (by omega) (by omega)).mp (z.trans (rfl : (3 : Int32) = nI 3)))
      refine br_f z3 ⟨v1, ?_⟩
      by_cases k4 : k = 4
      · subst k4
        exact br_t e1 (nm_r (nI_1 m) (nm_r (nI_1 q) (nm_r (nI_1 i) h)))
      · have z4 : ¬ kd (nI q).toNatClampNeg = 4 := by
          rw [e1]
          exact fun z => k4 ((nI_eq (by omega) (by omega)).mp (z.trans (rfl : (4 : Int32) = nI 4)))
        have : tk_s (nI k) (tx q) = 0 := by
          have : k = 0 ∨ k = 1 := by omega
          rcases this with z | z <;> subst z <;> rfl
        rw [this, Nat.add_zero] at h
        exact br_f z4 (nm_r (nI_1 q) (nm_r (nI_1 i) h))
/-- patEnd(p) is the end of the pattern at p -/
theorem ye_go {post : Int32 → Prop} {p e l : Nat} {er x : Int32} {st tg f0 f1 mk ch lg de si sP sV : Nat → Int32} (h64 : nT ≤ 64) (he : ht_E (tk_f kd tx) p e) (hen : e ≤ nT) (hk : ∀ q, p ≤ q → q < e → ∃ k, k ≤ 4 ∧ kd q = nI k) (hp : post (nI e)) (hx : x = nI p) :
    wpY_patEnd post ((nI ar), (nI cap), (nI n), (nI nC), (nI nT), (nI nA), (nI cp), hc, (nI dn), (nI op), bd, (nI l), yk, yc, ya, yt, ye, er, st, tg, f0, f1, mk, ch, kd, tx, ft, fa, gv, gt, rh, lg, de, si, sP, sV) x := by
  subst hx
  have K : ∀ r i N m : Nat, p + i + r = e → r < N → (m : Int) = ht_h (tk_f kd tx) (p + i) - ht_h (tk_f kd tx) p + 1 → wY_patEnd_7 post (nI ar) (nI cap) (nI n) (nI nC) (nI nT) (nI nA) (nI cp) hc (nI dn) (nI op) bd (nI l) yk yc ya yt ye er st tg f0 f1 mk ch kd tx ft fa gv gt rh lg de si sP sV N (nI m) (nI (p + i)) (nI i) := by
    intro r
    induction r with
    | zero =>
      intro i N m h1 h2 h3
      obtain ⟨N, rfl⟩ : ∃ N', N = N' + 1 := ⟨N - 1, by omega⟩
      have e1 : p + i = e := by omega
      have v := ht_val he
      rw [e1] at h3 ⊢
      have : m = 0 := by omega
      subst this
      rw [wY_patEnd_7]
      exact br_c (fun _ => hp) (fun _ => br_t (by decide) hp)
    | succ r ih =>
      intro i N m h1 h2 h3
      obtain ⟨N, rfl⟩ : ∃ N', N = N' + 1 := ⟨N - 1, by omega⟩
      have a := ht_le he (j := p + i) (by omega) (by omega)
      have b := ht_up (s := tk_f kd tx) (tk_f2 kd tx) p i
      obtain ⟨m, rfl⟩ : ∃ m', m = m' + 1 := ⟨m - 1, by omega⟩
      refine ye_s h64 (by omega) (by omega) (by omega) (hk (p + i) (by omega) (by omega)) (ih (i + 1) N _ (by omega) (by omega) ?_)
      rw [← Nat.add_assoc, ht_s]
      omega
  exact ⟨_, K (e - p) 0 (e - p + 1) 1 (by have := he.1; omega) (by omega) (by rw [Nat.add_zero]; omega)⟩
end
