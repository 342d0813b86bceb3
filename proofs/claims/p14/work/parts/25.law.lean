/-! the law's loops -/
theorem lz_bit (x : Int32) : x &&& 1 = 0 ∨ x &&& 1 = 1 := by
  obtain ⟨j, hj, e⟩ := pk_andE x (m := 1) 1 (by decide)
  have : j = 0 ∨ j = 1 := by omega
  rcases this with z | z <;> subst z
  · exact Or.inl e
  · exact Or.inr e
theorem lz_bit1 {x : Int32} (h : x = 0 ∨ x = 1) : 1 - x = 0 ∨ 1 - x = 1 := by
  rcases h with h | h <;> subst h
  · exact Or.inr (by decide)
  · exact Or.inl (by decide)
theorem ll_596 {xs : Nat → Int32} {L kc ks R : Nat} (hL : L ≤ 260) (hR : R ≤ 10) :
    ∀ (k i p cnt N : Nat), i + k = R → p + 10 * k ≤ 100000 → cnt + k ≤ 100000 → k < N → ∀ (ar cap n nT nA nC cp dn op l : Nat) (bd lk lc la lt le : Int32) (st tg f0 f1 kd tx ts ta gv gt rh ft fa ca vt ag tc lg : Nat → Int32) (T A : Nat → Nat), ir_ok ar cap n nT nA nC cp dn op l bd st tg f0 f1 kd tx ts ta gv rh ft fa ca vt T A → wL_law_596 (fun r => r = 1) L xs (nI R) kc ks N (nI p) (nI cnt) (nI i) (nI ar) (nI cap) (nI n) (nI nT) (nI nA) (nI nC) (nI cp) (nI dn) (nI op) bd (nI l) lk lc la lt le st tg f0 f1 kd tx ts ta gv gt rh ft fa ca vt ag tc lg (nI ar) (nI cap) (nI n) (nI nT) (nI nA) (nI nC) (nI cp) (nI dn) (nI op) bd (nI l) lk lc la lt le st tg f0 f1 kd tx ts ta gv gt rh ft fa ca vt ag tc lg := by
  intro k
  induction k with
  | zero =>
    intro i p cnt N h1 h2 h3 h4 ar cap n nT nA nC cp dn op l bd lk lc la lt le st tg f0 f1 kd tx ts ta gv gt rh ft fa ca vt ag tc lg T A hir
    obtain ⟨N, rfl⟩ : ∃ N', N = N' + 1 := ⟨N - 1, by omega⟩
    rw [wL_law_596]
    exact br_t (nI_le (by omega) (by omega)) rfl
  | succ k ih =>
    intro i p cnt N h1 h2 h3 h4 ar cap n nT nA nC cp dn op l bd lk lc la lt le st tg f0 f1 kd tx ts ta gv gt rh ft fa ca vt ag tc lg T A hir
    obtain ⟨N, rfl⟩ : ∃ N', N = N' + 1 := ⟨N - 1, by omega⟩
    obtain ⟨r0, c0⟩ := lz_cell (xs := xs) hL p (by omega)
    obtain ⟨r1, c1⟩ := lz_cell (xs := xs) hL (p + 1) (by omega)
    obtain ⟨j1, _, n1⟩ := lz_nn r1 (y := nI cnt + 1) (cnt + 1) (nI_1 cnt) (by omega) (by omega)
    obtain ⟨r2, c2⟩ := lz_cell (xs := xs) hL (p + 2) (by omega)
    obtain ⟨j2, _, n2⟩ := lz_nn r2 (y := nI cnt + 1) (cnt + 1) (nI_1 cnt) (by omega) (by omega)
    obtain ⟨r3, c3⟩ := lz_cell (xs := xs) hL (p + 3) (by omega)
    obtain ⟨j3, _, n3⟩ := lz_nn r3 (y := nI cnt + 1) (cnt + 1) (nI_1 cnt) (by omega) (by omega)
    obtain ⟨r4, c4⟩ := lz_cell (xs := xs) hL (p + 4) (by omega)
    obtain ⟨k4, n4⟩ := lz_kind r4
    obtain ⟨r5, c5⟩ := lz_cell (xs := xs) hL (p + 5) (by omega)
    obtain ⟨j5, _, n5⟩ := lz_nn r5 (y := 8) 8 rfl (by omega) (by omega)
    obtain ⟨r6, c6⟩ := lz_cell (xs := xs) hL (p + 6) (by omega)
    obtain ⟨j6, _, n6⟩ := lz_nn r6 (y := nI cnt + 1) (cnt + 1) (nI_1 cnt) (by omega) (by omega)
    obtain ⟨r7, c7⟩ := lz_cell (xs := xs) hL (p + 7) (by omega)
    obtain ⟨j7, _, n7⟩ := lz_nn r7 (y := nI cnt + 1) (cnt + 1) (nI_1 cnt) (by omega) (by omega)
    obtain ⟨q, u', hu, h⟩ := om_run (xr_mk (gt := gt) (ag := ag) (tc := tc) (lg := lg) (lk := lk) (lc := lc) (la := la) (lt := lt) (le := le) hir) (nI j1) (nI j2) (nI j3)
    rw [wL_law_596]
    refine br_f (nI_ge (by omega) (by omega)) (nm_r (nI_1 p) (c0 _ (nm_e (nm_e (nm_r (nI_1 (p + 1)) (c1 _ (n1 _ (nm_r (nI_1 (p + 2)) (c2 _ (n2 _ (nm_r (nI_1 (p + 3)) (c3 _ (n3 _ (h _ (lz_bit r0) _ ?_))))))))))))))
    obtain ⟨ar, cap, n, nT, nA, nC, cp, dn, op, l, bd, lk, lc, la, lt, le, st, tg, f0, f1, kd, tx, ts, ta, gv, gt, rh, ft, fa, ca, vt, ag, tc, lg, T, A, rfl, hir⟩ := hu
    refine h _ (lz_bit1 (lz_bit r0)) _ ?_
    refine br_t rfl (sm_same hir (by omega) (br_f (by decide) (br_c (fun _ => ?_) (fun _ => nm_r (nI_1 i) (ih (i + 1) (p + 4) cnt N (by omega) (by omega) (by omega) (by omega) _ _ _ _ _ _ _ _ _ _ _ _ _ _ _ _ _ _ _ _ _ _ _ _ _ _ _ _ _ _ _ _ _ _ _ _  hir)))))
    obtain ⟨q2, u2, hu2, g⟩ := om_cell (xr_mk (gt := gt) (ag := ag) (tc := tc) (lg := lg) (lk := lk) (lc := lc) (la := la) (lt := lt) (le := le) hir) k4 (nI j5) (nI j6) (nI j7)
    refine nm_r (nI_1 (p + 4)) (c4 _ (n4 _ (nm_r (nI_1 (p + 5)) (c5 _ (n5 _ (nm_r (nI_1 (p + 6)) (c6 _ (n6 _ (nm_r (nI_1 (p + 7)) (c7 _ (n7 _ (g _ ?_))))))))))))
    obtain ⟨ar, cap, n, nT, nA, nC, cp, dn, op, l, bd, lk, lc, la, lt, le, st, tg, f0, f1, kd, tx, ts, ta, gv, gt, rh, ft, fa, ca, vt, ag, tc, lg, T, A, rfl, hir⟩ := hu2
    refine g _ (br_t rfl (br_c (fun _ => ?_) (fun _ => nm_r (nI_1 cnt) ?_)))
    · exact sm_same hir (by omega) (br_f (by decide) (nm_r (nI_1 i) (ih (i + 1) (p + 8) cnt N (by omega) (by omega) (by omega) (by omega) _ _ _ _ _ _ _ _ _ _ _ _ _ _ _ _ _ _ _ _ _ _ _ _ _ _ _ _ _ _ _ _ _ _ _ _  hir)))
    · exact sm_same hir (by omega) (br_f (by decide) (nm_r (nI_1 i) (ih (i + 1) (p + 8) (cnt + 1) N (by omega) (by omega) (by omega) (by omega) _ _ _ _ _ _ _ _ _ _ _ _ _ _ _ _ _ _ _ _ _ _ _ _ _ _ _ _ _ _ _ _ _ _ _ _  hir)))
theorem ll_371 {xs : Nat → Int32} {L kc ks R c PB : Nat} {J : Int32 → Int32 → Int32 → Int32 → Int32 → Int32 → Int32 → Int32 → Int32 → Int32 → Int32 → Int32 → Int32 → Int32 → Int32 → Int32 → Int32 → Int32 → (Nat → Int32) → (Nat → Int32) → (Nat → Int32) → (Nat → Int32) → (Nat → Int32) → (Nat → Int32) → (Nat → Int32) → (Nat → Int32) → (Nat → Int32) → (Nat → Int32) → (Nat → Int32) → (Nat → Int32) → (Nat → Int32) → (Nat → Int32) → (Nat → Int32) → (Nat → Int32) → (Nat → Int32) → (Nat → Int32) → Int32 → Int32 → Int32 → Int32 → Int32 → Int32 → Int32 → Int32 → Int32 → Int32 → Int32 → Int32 → Int32 → Int32 → Int32 → Int32 → (Nat → Int32) → (Nat → Int32) → (Nat → Int32) → (Nat → Int32) → (Nat → Int32) → (Nat → Int32) → (Nat → Int32) → (Nat → Int32) → (Nat → Int32) → (Nat → Int32) → (Nat → Int32) → (Nat → Int32) → (Nat → Int32) → (Nat → Int32) → (Nat → Int32) → (Nat → Int32) → (Nat → Int32) → (Nat → Int32) → Prop} {x2 x5 x7 : Int32} (hL : L ≤ 260) (hR : R ≤ 10) (hc : c ≤ 100) (hPB : PB ≤ 100000) (HJ : ∀ p, p ≤ PB → ∀ (ar cap n nT nA nC cp dn op l : Nat) (bd lk lc la lt le : Int32) (st tg f0 f1 kd tx ts ta gv gt rh ft fa ca vt ag tc lg : Nat → Int32) (T A : Nat → Nat), ir_ok ar cap n nT nA nC cp dn op l bd st tg f0 f1 kd tx ts ta gv rh ft fa ca vt T A → J (nI p) (nI (c + 1)) (nI ar) (nI cap) (nI n) (nI nT) (nI nA) (nI nC) (nI cp) (nI dn) (nI op) bd (nI l) lk lc la lt le st tg f0 f1 kd tx ts ta gv gt rh ft fa ca vt ag tc lg (nI ar) (nI cap) (nI n) (nI nT) (nI nA) (nI nC) (nI cp) (nI dn) (nI op) bd (nI l) lk lc la lt le st tg f0 f1 kd tx ts ta gv gt rh ft fa ca vt ag tc lg) :
    ∀ (k i p N : Nat), i + k = R → p + k ≤ PB → k < N → ∀ (ar cap n nT nA nC cp dn op l : Nat) (bd lk lc la lt le : Int32) (st tg f0 f1 kd tx ts ta gv gt rh ft fa ca vt ag tc lg : Nat → Int32) (T A : Nat → Nat), ir_ok ar cap n nT nA nC cp dn op l bd st tg f0 f1 kd tx ts ta gv rh ft fa ca vt T A → wL_law_371 (fun r => r = 1) L xs J x2 x5 x7 (nI c) (nI R) kc ks N (nI p) (nI i) (nI ar) (nI cap) (nI n) (nI nT) (nI nA) (nI nC) (nI cp) (nI dn) (nI op) bd (nI l) lk lc la lt le st tg f0 f1 kd tx ts ta gv gt rh ft fa ca vt ag tc lg (nI ar) (nI cap) (nI n) (nI nT) (nI nA) (nI nC) (nI cp) (nI dn) (nI op) bd (nI l) lk lc la lt le st tg f0 f1 kd tx ts ta gv gt rh ft fa ca vt ag tc lg := by
  intro k
  induction k with
  | zero =>
    intro i p N h1 h2 h4 ar cap n nT nA nC cp dn op l bd lk lc la lt le st tg f0 f1 kd tx ts ta gv gt rh ft fa ca vt ag tc lg T A hir
    obtain ⟨N, rfl⟩ : ∃ N', N = N' + 1 := ⟨N - 1, by omega⟩
    obtain ⟨r, g⟩ := om_progInfo (xr_mk (gt := gt) (ag := ag) (tc := tc) (lg := lg) (lk := lk) (lc := lc) (la := la) (lt := lt) (le := le) hir) 7
    obtain ⟨q, u', hu, h⟩ := om_alt (xr_mk (gt := gt) (ag := ag) (tc := tc) (lg := lg) (lk := lk) (lc := lc) (la := la) (lt := lt) (le := le) hir) (-1) 0 8
    rw [wL_law_371]
    refine br_t (nI_le (by omega) (by omega)) (g _ (br_c (fun _ => h _ ?_) (fun _ => nm_r (nI_1 c) (HJ p (by omega) _ _ _ _ _ _ _ _ _ _ _ _ _ _ _ _ _ _ _ _ _ _ _ _ _ _ _ _ _ _ _ _ _ _ _ _  hir))))
    obtain ⟨ar, cap, n, nT, nA, nC, cp, dn, op, l, bd, lk, lc, la, lt, le, st, tg, f0, f1, kd, tx, ts, ta, gv, gt, rh, ft, fa, ca, vt, ag, tc, lg, T, A, rfl, hir⟩ := hu
    exact h _ (br_t rfl (nm_r (nI_1 c) (HJ p (by omega) _ _ _ _ _ _ _ _ _ _ _ _ _ _ _ _ _ _ _ _ _ _ _ _ _ _ _ _ _ _ _ _ _ _ _ _  hir)))
  | succ k ih =>
    intro i p N h1 h2 h4 ar cap n nT nA nC cp dn op l bd lk lc la lt le st tg f0 f1 kd tx ts ta gv gt rh ft fa ca vt ag tc lg T A hir
    obtain ⟨N, rfl⟩ : ∃ N', N = N' + 1 := ⟨N - 1, by omega⟩
    obtain ⟨r0, c0⟩ := lz_cell (xs := xs) hL p (by omega)
    obtain ⟨r1, g1⟩ := om_progInfo (xr_mk (gt := gt) (ag := ag) (tc := tc) (lg := lg) (lk := lk) (lc := lc) (la := la) (lt := lt) (le := le) hir) 6
    obtain ⟨j0, _, n0⟩ := lz_nn r0 (y := 9) 9 rfl (by omega) (by omega)
    have W480 : ∀ a b d : Int32, wL_law_480 (fun r => r = 1) L xs J (wL_law_371 (fun r => r = 1) L xs J x2 x5 x7 (nI c) (nI R) kc ks N) (nI (p + 1)) x2 x5 x7 (nI c) (nI R) (nI i) a b d kc ks (nI ar) (nI cap) (nI n) (nI nT) (nI nA) (nI nC) (nI cp) (nI dn) (nI op) bd (nI l) lk lc la lt le st tg f0 f1 kd tx ts ta gv gt rh ft fa ca vt ag tc lg (nI ar) (nI cap) (nI n) (nI nT) (nI nA) (nI nC) (nI cp) (nI dn) (nI op) bd (nI l) lk lc la lt le st tg f0 f1 kd tx ts ta gv gt rh ft fa ca vt ag tc lg := by
      intro a b d
      obtain ⟨q, u', hu, h⟩ := om_alt (xr_mk (gt := gt) (ag := ag) (tc := tc) (lg := lg) (lk := lk) (lc := lc) (la := la) (lt := lt) (le := le) hir) a b d
      unfold wL_law_480
      refine h _ ?_
      obtain ⟨ar, cap, n, nT, nA, nC, cp, dn, op, l, bd, lk, lc, la, lt, le, st, tg, f0, f1, kd, tx, ts, ta, gv, gt, rh, ft, fa, ca, vt, ag, tc, lg, T, A, rfl, hir⟩ := hu
      exact h _ (br_t rfl (nm_r (nI_1 i) (ih (i + 1) (p + 1) N (by omega) (by omega) (by omega) _ _ _ _ _ _ _ _ _ _ _ _ _ _ _ _ _ _ _ _ _ _ _ _ _ _ _ _ _ _ _ _ _ _ _ _  hir)))
    have W421 : ∀ a : Int32, wL_law_421 (fun r => r = 1) L xs J (wL_law_371 (fun r => r = 1) L xs J x2 x5 x7 (nI c) (nI R) kc ks N) (nI (p + 1)) x2 x5 x7 (nI c) (nI R) (nI i) r0 r1 a kc ks (nI ar) (nI cap) (nI n) (nI nT) (nI nA) (nI nC) (nI cp) (nI dn) (nI op) bd (nI l) lk lc la lt le st tg f0 f1 kd tx ts ta gv gt rh ft fa ca vt ag tc lg (nI ar) (nI cap) (nI n) (nI nT) (nI nA) (nI nC) (nI cp) (nI dn) (nI op) bd (nI l) lk lc la lt le st tg f0 f1 kd tx ts ta gv gt rh ft fa ca vt ag tc lg := by
      intro a
      obtain ⟨j1, _, n1⟩ := lz_nn (r0 / 9) (y := 8) 8 rfl (by omega) (by omega)
      obtain ⟨j2, _, n2⟩ := lz_nn (r0 / 72) (y := 12) 12 rfl (by omega) (by omega)
      obtain ⟨r3, g3⟩ := lz_pick r1 (nI j2)
      unfold wL_law_421
      exact ⟨by decide, n1 _ ⟨by decide, n2 _ (br_c (fun _ => W480 _ _ _) (fun _ => g3 _ (br_c (fun _ => W480 _ _ _) (fun _ => W480 _ _ _))))⟩⟩
    obtain ⟨r4, g4⟩ := lz_pick r1 (nI j0 - 1)
    rw [wL_law_371]
    exact br_f (nI_ge (by omega) (by omega)) (nm_r (nI_1 p) (c0 _ (g1 _ (n0 _ (nm_e (br_c (fun _ => W421 _) (fun _ => g4 _ (W421 _))))))))
theorem ll_352 {xs : Nat → Int32} {L kc ks c PB p : Nat} {J : Int32 → Int32 → Int32 → Int32 → Int32 → Int32 → Int32 → Int32 → Int32 → Int32 → Int32 → Int32 → Int32 → Int32 → Int32 → Int32 → Int32 → Int32 → (Nat → Int32) → (Nat → Int32) → (Nat → Int32) → (Nat → Int32) → (Nat → Int32) → (Nat → Int32) → (Nat → Int32) → (Nat → Int32) → (Nat → Int32) → (Nat → Int32) → (Nat → Int32) → (Nat → Int32) → (Nat → Int32) → (Nat → Int32) → (Nat → Int32) → (Nat → Int32) → (Nat → Int32) → (Nat → Int32) → Int32 → Int32 → Int32 → Int32 → Int32 → Int32 → Int32 → Int32 → Int32 → Int32 → Int32 → Int32 → Int32 → Int32 → Int32 → Int32 → (Nat → Int32) → (Nat → Int32) → (Nat → Int32) → (Nat → Int32) → (Nat → Int32) → (Nat → Int32) → (Nat → Int32) → (Nat → Int32) → (Nat → Int32) → (Nat → Int32) → (Nat → Int32) → (Nat → Int32) → (Nat → Int32) → (Nat → Int32) → (Nat → Int32) → (Nat → Int32) → (Nat → Int32) → (Nat → Int32) → Prop} {x2 x5 x7 : Int32} (hL : L ≤ 260) (hc : c ≤ 100) (hPB : PB ≤ 100000) (HJ : ∀ p, p ≤ PB → ∀ (ar cap n nT nA nC cp dn op l : Nat) (bd lk lc la lt le : Int32) (st tg f0 f1 kd tx ts ta gv gt rh ft fa ca vt ag tc lg : Nat → Int32) (T A : Nat → Nat), ir_ok ar cap n nT nA nC cp dn op l bd st tg f0 f1 kd tx ts ta gv rh ft fa ca vt T A → J (nI p) (nI (c + 1)) (nI ar) (nI cap) (nI n) (nI nT) (nI nA) (nI nC) (nI cp) (nI dn) (nI op) bd (nI l) lk lc la lt le st tg f0 f1 kd tx ts ta gv gt rh ft fa ca vt ag tc lg (nI ar) (nI cap) (nI n) (nI nT) (nI nA) (nI nC) (nI cp) (nI dn) (nI op) bd (nI l) lk lc la lt le st tg f0 f1 kd tx ts ta gv gt rh ft fa ca vt ag tc lg) (hp : p + 10 ≤ PB) :
    ∀ (ar cap n nT nA nC cp dn op l : Nat) (bd lk lc la lt le : Int32) (st tg f0 f1 kd tx ts ta gv gt rh ft fa ca vt ag tc lg : Nat → Int32) (T A : Nat → Nat), ir_ok ar cap n nT nA nC cp dn op l bd st tg f0 f1 kd tx ts ta gv rh ft fa ca vt T A → wL_law_352 (fun r => r = 1) L xs J (nI p) x2 x5 x7 (nI c) kc ks (nI ar) (nI cap) (nI n) (nI nT) (nI nA) (nI nC) (nI cp) (nI dn) (nI op) bd (nI l) lk lc la lt le st tg f0 f1 kd tx ts ta gv gt rh ft fa ca vt ag tc lg (nI ar) (nI cap) (nI n) (nI nT) (nI nA) (nI nC) (nI cp) (nI dn) (nI op) bd (nI l) lk lc la lt le st tg f0 f1 kd tx ts ta gv gt rh ft fa ca vt ag tc lg := by
  intro ar cap n nT nA nC cp dn op l bd lk lc la lt le st tg f0 f1 kd tx ts ta gv gt rh ft fa ca vt ag tc lg T A hir
  obtain ⟨r0, c0⟩ := lz_cell (xs := xs) hL p (by omega)
  obtain ⟨j0, hj0, n0⟩ := lz_nn r0 (y := 3) 3 rfl (by omega) (by omega)
  unfold wL_law_352
  exact nm_r (nI_1 p) (c0 _ (n0 _ (nm_r (nI_add 1 j0) ⟨1 + j0 + 1, ll_371 hL (by omega) hc hPB HJ (1 + j0) 0 (p + 1) (1 + j0 + 1) (by omega) (by omega) (by omega) _ _ _ _ _ _ _ _ _ _ _ _ _ _ _ _ _ _ _ _ _ _ _ _ _ _ _ _ _ _ _ _ _ _ _ _  hir⟩)))
theorem ll_223 {xs : Nat → Int32} {L kc ks c PB : Nat} {J : Int32 → Int32 → Int32 → Int32 → Int32 → Int32 → Int32 → Int32 → Int32 → Int32 → Int32 → Int32 → Int32 → Int32 → Int32 → Int32 → Int32 → Int32 → (Nat → Int32) → (Nat → Int32) → (Nat → Int32) → (Nat → Int32) → (Nat → Int32) → (Nat → Int32) → (Nat → Int32) → (Nat → Int32) → (Nat → Int32) → (Nat → Int32) → (Nat → Int32) → (Nat → Int32) → (Nat → Int32) → (Nat → Int32) → (Nat → Int32) → (Nat → Int32) → (Nat → Int32) → (Nat → Int32) → Int32 → Int32 → Int32 → Int32 → Int32 → Int32 → Int32 → Int32 → Int32 → Int32 → Int32 → Int32 → Int32 → Int32 → Int32 → Int32 → (Nat → Int32) → (Nat → Int32) → (Nat → Int32) → (Nat → Int32) → (Nat → Int32) → (Nat → Int32) → (Nat → Int32) → (Nat → Int32) → (Nat → Int32) → (Nat → Int32) → (Nat → Int32) → (Nat → Int32) → (Nat → Int32) → (Nat → Int32) → (Nat → Int32) → (Nat → Int32) → (Nat → Int32) → (Nat → Int32) → Prop} {x2 x5 x7 : Int32} (hL : L ≤ 260) (hc : c ≤ 100) (hPB : PB ≤ 100000) (HJ : ∀ p, p ≤ PB → ∀ (ar cap n nT nA nC cp dn op l : Nat) (bd lk lc la lt le : Int32) (st tg f0 f1 kd tx ts ta gv gt rh ft fa ca vt ag tc lg : Nat → Int32) (T A : Nat → Nat), ir_ok ar cap n nT nA nC cp dn op l bd st tg f0 f1 kd tx ts ta gv rh ft fa ca vt T A → J (nI p) (nI (c + 1)) (nI ar) (nI cap) (nI n) (nI nT) (nI nA) (nI nC) (nI cp) (nI dn) (nI op) bd (nI l) lk lc la lt le st tg f0 f1 kd tx ts ta gv gt rh ft fa ca vt ag tc lg (nI ar) (nI cap) (nI n) (nI nT) (nI nA) (nI nC) (nI cp) (nI dn) (nI op) bd (nI l) lk lc la lt le st tg f0 f1 kd tx ts ta gv gt rh ft fa ca vt ag tc lg) :
    ∀ (k i p N : Nat), i + k = 40 → p + k + 10 ≤ PB → k < N → ∀ (ar cap n nT nA nC cp dn op l : Nat) (bd lk lc la lt le : Int32) (st tg f0 f1 kd tx ts ta gv gt rh ft fa ca vt ag tc lg : Nat → Int32) (T A : Nat → Nat), ir_ok ar cap n nT nA nC cp dn op l bd st tg f0 f1 kd tx ts ta gv rh ft fa ca vt T A → wL_law_223 (fun r => r = 1) L xs J x2 x5 x7 (nI c) kc ks N (nI p) (nI i) (nI ar) (nI cap) (nI n) (nI nT) (nI nA) (nI nC) (nI cp) (nI dn) (nI op) bd (nI l) lk lc la lt le st tg f0 f1 kd tx ts ta gv gt rh ft fa ca vt ag tc lg (nI ar) (nI cap) (nI n) (nI nT) (nI nA) (nI nC) (nI cp) (nI dn) (nI op) bd (nI l) lk lc la lt le st tg f0 f1 kd tx ts ta gv gt rh ft fa ca vt ag tc lg := by
  intro k
  induction k with
  | zero =>
    intro i p N h1 h2 h4 ar cap n nT nA nC cp dn op l bd lk lc la lt le st tg f0 f1 kd tx ts ta gv gt rh ft fa ca vt ag tc lg T A hir
    obtain ⟨N, rfl⟩ : ∃ N', N = N' + 1 := ⟨N - 1, by omega⟩
    obtain ⟨r, g⟩ := om_progInfo (xr_mk (gt := gt) (ag := ag) (tc := tc) (lg := lg) (lk := lk) (lc := lc) (la := la) (lt := lt) (le := le) hir) 4
    have W := ll_352 (xs := xs) (kc := kc) (ks := ks) (x2 := x2) (x5 := x5) (x7 := x7) hL hc hPB HJ (p := p) (by omega) ar cap n nT nA nC cp dn op l bd lk lc la lt le st tg f0 f1 kd tx ts ta gv gt rh ft fa ca vt ag tc lg T A hir
    rw [wL_law_223]
    exact g _ (br_c (fun _ => W) (fun _ => br_t (nI_le (a := 40) (by omega) (by omega)) W))
  | succ k ih =>
    intro i p N h1 h2 h4 ar cap n nT nA nC cp dn op l bd lk lc la lt le st tg f0 f1 kd tx ts ta gv gt rh ft fa ca vt ag tc lg T A hir
    obtain ⟨N, rfl⟩ : ∃ N', N = N' + 1 := ⟨N - 1, by omega⟩
    obtain ⟨r, g⟩ := om_progInfo (xr_mk (gt := gt) (ag := ag) (tc := tc) (lg := lg) (lk := lk) (lc := lc) (la := la) (lt := lt) (le := le) hir) 4
    have W := ll_352 (xs := xs) (kc := kc) (ks := ks) (x2 := x2) (x5 := x5) (x7 := x7) hL hc hPB HJ (p := p) (by omega) ar cap n nT nA nC cp dn op l bd lk lc la lt le st tg f0 f1 kd tx ts ta gv gt rh ft fa ca vt ag tc lg T A hir
    obtain ⟨r0, c0⟩ := lz_cell (xs := xs) hL p (by omega)
    obtain ⟨j0, _, n0⟩ := lz_nn r0 (y := 5) 5 rfl (by omega) (by omega)
    obtain ⟨j1, _, n1⟩ := lz_nn (r0 / 5) (y := 8) 8 rfl (by omega) (by omega)
    obtain ⟨r2, g2⟩ := om_progInfo (xr_mk (gt := gt) (ag := ag) (tc := tc) (lg := lg) (lk := lk) (lc := lc) (la := la) (lt := lt) (le := le) hir) 5
    have W297 : ∀ a b : Int32, wL_law_297 (fun r => r = 1) L xs J (wL_law_223 (fun r => r = 1) L xs J x2 x5 x7 (nI c) kc ks N) (nI (p + 1)) x2 x5 x7 (nI c) (nI i) a b kc ks (nI ar) (nI cap) (nI n) (nI nT) (nI nA) (nI nC) (nI cp) (nI dn) (nI op) bd (nI l) lk lc la lt le st tg f0 f1 kd tx ts ta gv gt rh ft fa ca vt ag tc lg (nI ar) (nI cap) (nI n) (nI nT) (nI nA) (nI nC) (nI cp) (nI dn) (nI op) bd (nI l) lk lc la lt le st tg f0 f1 kd tx ts ta gv gt rh ft fa ca vt ag tc lg := by
      intro a b
      obtain ⟨q, u', hu, h⟩ := om_pat (xr_mk (gt := gt) (ag := ag) (tc := tc) (lg := lg) (lk := lk) (lc := lc) (la := la) (lt := lt) (le := le) hir) a b
      unfold wL_law_297
      refine h _ ?_
      obtain ⟨ar, cap, n, nT, nA, nC, cp, dn, op, l, bd, lk, lc, la, lt, le, st, tg, f0, f1, kd, tx, ts, ta, gv, gt, rh, ft, fa, ca, vt, ag, tc, lg, T, A, rfl, hir⟩ := hu
      obtain ⟨q2, u2, hu2, h2⟩ := om_pat (xr_mk (gt := gt) (ag := ag) (tc := tc) (lg := lg) (lk := lk) (lc := lc) (la := la) (lt := lt) (le := le) hir) 0 0
      refine h _ (br_t rfl (br_c (fun _ => h2 _ ?_) (fun _ => nm_r (nI_1 i) (ih (i + 1) (p + 1) N (by omega) (by omega) (by omega) _ _ _ _ _ _ _ _ _ _ _ _ _ _ _ _ _ _ _ _ _ _ _ _ _ _ _ _ _ _ _ _ _ _ _ _  hir))))
      obtain ⟨ar, cap, n, nT, nA, nC, cp, dn, op, l, bd, lk, lc, la, lt, le, st, tg, f0, f1, kd, tx, ts, ta, gv, gt, rh, ft, fa, ca, vt, ag, tc, lg, T, A, rfl, hir⟩ := hu2
      exact h2 _ (br_t rfl (nm_r (nI_1 i) (ih (i + 1) (p + 1) N (by omega) (by omega) (by omega) _ _ _ _ _ _ _ _ _ _ _ _ _ _ _ _ _ _ _ _ _ _ _ _ _ _ _ _ _ _ _ _ _ _ _ _  hir)))
    have W284 : ∀ a b : Int32, wL_law_284 (fun r => r = 1) L xs J (wL_law_223 (fun r => r = 1) L xs J x2 x5 x7 (nI c) kc ks N) (nI (p + 1)) x2 x5 x7 (nI c) (nI i) a b kc ks (nI ar) (nI cap) (nI n) (nI nT) (nI nA) (nI nC) (nI cp) (nI dn) (nI op) bd (nI l) lk lc la lt le st tg f0 f1 kd tx ts ta gv gt rh ft fa ca vt ag tc lg (nI ar) (nI cap) (nI n) (nI nT) (nI nA) (nI nC) (nI cp) (nI dn) (nI op) bd (nI l) lk lc la lt le st tg f0 f1 kd tx ts ta gv gt rh ft fa ca vt ag tc lg := by
      intro a b
      unfold wL_law_284 wL_law_295
      exact br_c (fun _ => W297 _ _) (fun _ => W297 _ _)
    rw [wL_law_223]
    exact g _ (br_c (fun _ => W) (fun _ => br_f (nI_ge (b := 40) (by omega) (by omega)) (nm_r (nI_1 p) (c0 _ (n0 _ ⟨by decide, n1 _ (g2 _ (br_c (fun _ => W284 _ _) (fun _ => br_c (fun _ => W297 _ _) (fun _ => W284 _ _))))⟩)))))
theorem ll_199 {xs : Nat → Int32} {L kc ks R cnt : Nat} {x2 : Int32} (hL : L ≤ 260) (hR : R ≤ 10) (hcnt : cnt ≤ 1000) :
    ∀ (k c p N : Nat), c + k = R → p + 60 * k ≤ 2000 → k < N → ∀ (ar cap n nT nA nC cp dn op l : Nat) (bd lk lc la lt le : Int32) (st tg f0 f1 kd tx ts ta gv gt rh ft fa ca vt ag tc lg : Nat → Int32) (T A : Nat → Nat), ir_ok ar cap n nT nA nC cp dn op l bd st tg f0 f1 kd tx ts ta gv rh ft fa ca vt T A → wL_law_199 (fun r => r = 1) L xs x2 (nI cnt) (nI R) kc ks N (nI p) (nI c) (nI ar) (nI cap) (nI n) (nI nT) (nI nA) (nI nC) (nI cp) (nI dn) (nI op) bd (nI l) lk lc la lt le st tg f0 f1 kd tx ts ta gv gt rh ft fa ca vt ag tc lg (nI ar) (nI cap) (nI n) (nI nT) (nI nA) (nI nC) (nI cp) (nI dn) (nI op) bd (nI l) lk lc la lt le st tg f0 f1 kd tx ts ta gv gt rh ft fa ca vt ag tc lg := by
  intro k
  induction k with
  | zero =>
    intro c p N h1 h2 h4 ar cap n nT nA nC cp dn op l bd lk lc la lt le st tg f0 f1 kd tx ts ta gv gt rh ft fa ca vt ag tc lg T A hir
    obtain ⟨N, rfl⟩ : ∃ N', N = N' + 1 := ⟨N - 1, by omega⟩
    obtain ⟨q, u', hu, h⟩ := om_compile (xr_mk (gt := gt) (ag := ag) (tc := tc) (lg := lg) (lk := lk) (lc := lc) (la := la) (lt := lt) (le := le) hir)
    obtain ⟨r0, c0⟩ := lz_cell (xs := xs) hL p (by omega)
    obtain ⟨j0, hj0, n0⟩ := lz_nn r0 (y := 8) 8 rfl (by omega) (by omega)
    rw [wL_law_199]
    refine br_t (nI_le (by omega) (by omega)) (h _ ?_)
    obtain ⟨ar, cap, n, nT, nA, nC, cp, dn, op, l, bd, lk, lc, la, lt, le, st, tg, f0, f1, kd, tx, ts, ta, gv, gt, rh, ft, fa, ca, vt, ag, tc, lg, T, A, rfl, hir⟩ := hu
    exact h _ (br_t rfl (sm_same hir (by omega) (br_f (by decide) (nm_r (nI_1 p) (c0 _ (n0 _ (nm_r (nI_add 1 j0) ⟨1 + j0 + 1, ll_596 hL (by omega) (1 + j0) 0 (p + 1) cnt (1 + j0 + 1) (by omega) (by omega) (by omega) (by omega) _ _ _ _ _ _ _ _ _ _ _ _ _ _ _ _ _ _ _ _ _ _ _ _ _ _ _ _ _ _ _ _ _ _ _ _  hir⟩)))))))
  | succ k ih =>
    intro c p N h1 h2 h4 ar cap n nT nA nC cp dn op l bd lk lc la lt le st tg f0 f1 kd tx ts ta gv gt rh ft fa ca vt ag tc lg T A hir
    obtain ⟨N, rfl⟩ : ∃ N', N = N' + 1 := ⟨N - 1, by omega⟩
    obtain ⟨q, u', hu, h⟩ := om_clause (xr_mk (gt := gt) (ag := ag) (tc := tc) (lg := lg) (lk := lk) (lc := lc) (la := la) (lt := lt) (le := le) hir)
    rw [wL_law_199]
    refine br_f (nI_ge (by omega) (by omega)) (h _ ?_)
    obtain ⟨ar, cap, n, nT, nA, nC, cp, dn, op, l, bd, lk, lc, la, lt, le, st, tg, f0, f1, kd, tx, ts, ta, gv, gt, rh, ft, fa, ca, vt, ag, tc, lg, T, A, rfl, hir⟩ := hu
    refine h _ (br_t rfl ⟨41, ll_223 (PB := p + 60) hL (by omega) (by omega) ?_ 40 0 p 41 (by omega) (by omega) (by omega) _ _ _ _ _ _ _ _ _ _ _ _ _ _ _ _ _ _ _ _ _ _ _ _ _ _ _ _ _ _ _ _ _ _ _ _  hir⟩)
    intro p' hp' ar cap n nT nA nC cp dn op l bd lk lc la lt le st tg f0 f1 kd tx ts ta gv gt rh ft fa ca vt ag tc lg T A hir
    exact ih (c + 1) p' N (by omega) (by omega) (by omega) _ _ _ _ _ _ _ _ _ _ _ _ _ _ _ _ _ _ _ _ _ _ _ _ _ _ _ _ _ _ _ _ _ _ _ _  hir
theorem ll_63 {xs : Nat → Int32} {L kc ks R : Nat} {x2 : Int32} (hL : L ≤ 260) (hR : R ≤ 20) :
    ∀ (k i p cnt N : Nat), i + k = R → p + 4 * k ≤ 1000 → cnt + k ≤ 1000 → k < N → ∀ (ar cap n nT nA nC cp dn op l : Nat) (bd lk lc la lt le : Int32) (st tg f0 f1 kd tx ts ta gv gt rh ft fa ca vt ag tc lg : Nat → Int32) (T A : Nat → Nat), ir_ok ar cap n nT nA nC cp dn op l bd st tg f0 f1 kd tx ts ta gv rh ft fa ca vt T A → wL_law_63 (fun r => r = 1) L xs x2 (nI R) kc ks N (nI p) (nI cnt) (nI i) (nI ar) (nI cap) (nI n) (nI nT) (nI nA) (nI nC) (nI cp) (nI dn) (nI op) bd (nI l) lk lc la lt le st tg f0 f1 kd tx ts ta gv gt rh ft fa ca vt ag tc lg (nI ar) (nI cap) (nI n) (nI nT) (nI nA) (nI nC) (nI cp) (nI dn) (nI op) bd (nI l) lk lc la lt le st tg f0 f1 kd tx ts ta gv gt rh ft fa ca vt ag tc lg := by
  intro k
  induction k with
  | zero =>
    intro i p cnt N h1 h2 h3 h4 ar cap n nT nA nC cp dn op l bd lk lc la lt le st tg f0 f1 kd tx ts ta gv gt rh ft fa ca vt ag tc lg T A hir
    obtain ⟨N, rfl⟩ : ∃ N', N = N' + 1 := ⟨N - 1, by omega⟩
    obtain ⟨r0, c0⟩ := lz_cell (xs := xs) hL p (by omega)
    obtain ⟨j0, hj0, n0⟩ := lz_nn r0 (y := 4) 4 rfl (by omega) (by omega)
    rw [wL_law_63]
    exact br_t (nI_le (by omega) (by omega)) (nm_r (nI_1 p) (c0 _ (n0 _ (nm_r (nI_add 1 j0) ⟨1 + j0 + 1, ll_199 hL (by omega) (by omega) (1 + j0) 0 (p + 1) (1 + j0 + 1) (by omega) (by omega) (by omega) _ _ _ _ _ _ _ _ _ _ _ _ _ _ _ _ _ _ _ _ _ _ _ _ _ _ _ _ _ _ _ _ _ _ _ _  hir⟩))))
  | succ k ih =>
    intro i p cnt N h1 h2 h3 h4 ar cap n nT nA nC cp dn op l bd lk lc la lt le st tg f0 f1 kd tx ts ta gv gt rh ft fa ca vt ag tc lg T A hir
    obtain ⟨N, rfl⟩ : ∃ N', N = N' + 1 := ⟨N - 1, by omega⟩
    obtain ⟨r4, c4⟩ := lz_cell (xs := xs) hL p (by omega)
    obtain ⟨k4, n4⟩ := lz_kind r4
    obtain ⟨r5, c5⟩ := lz_cell (xs := xs) hL (p + 1) (by omega)
    obtain ⟨j5, _, n5⟩ := lz_nn r5 (y := 8) 8 rfl (by omega) (by omega)
    obtain ⟨r6, c6⟩ := lz_cell (xs := xs) hL (p + 2) (by omega)
    obtain ⟨j6, _, n6⟩ := lz_nn r6 (y := nI cnt + 1) (cnt + 1) (nI_1 cnt) (by omega) (by omega)
    obtain ⟨r7, c7⟩ := lz_cell (xs := xs) hL (p + 3) (by omega)
    obtain ⟨j7, _, n7⟩ := lz_nn r7 (y := nI cnt + 1) (cnt + 1) (nI_1 cnt) (by omega) (by omega)
    obtain ⟨q2, u2, hu2, g⟩ := om_cell (xr_mk (gt := gt) (ag := ag) (tc := tc) (lg := lg) (lk := lk) (lc := lc) (la := la) (lt := lt) (le := le) hir) k4 (nI j5) (nI j6) (nI j7)
    rw [wL_law_63]
    refine br_f (nI_ge (by omega) (by omega)) (nm_r (nI_1 p) (c4 _ (n4 _ (nm_r (nI_1 (p + 1)) (c5 _ (n5 _ (nm_r (nI_1 (p + 2)) (c6 _ (n6 _ (nm_r (nI_1 (p + 3)) (c7 _ (n7 _ (g _ ?_)))))))))))))
    obtain ⟨ar, cap, n, nT, nA, nC, cp, dn, op, l, bd, lk, lc, la, lt, le, st, tg, f0, f1, kd, tx, ts, ta, gv, gt, rh, ft, fa, ca, vt, ag, tc, lg, T, A, rfl, hir⟩ := hu2
    refine g _ (br_t rfl (br_c (fun _ => nm_r (nI_1 i) ?_) (fun _ => nm_r (nI_1 cnt) (nm_r (nI_1 i) ?_))))
    · exact ih (i + 1) (p + 4) cnt N (by omega) (by omega) (by omega) (by omega) _ _ _ _ _ _ _ _ _ _ _ _ _ _ _ _ _ _ _ _ _ _ _ _ _ _ _ _ _ _ _ _ _ _ _ _  hir
    · exact ih (i + 1) (p + 4) (cnt + 1) N (by omega) (by omega) (by omega) (by omega) _ _ _ _ _ _ _ _ _ _ _ _ _ _ _ _ _ _ _ _ _ _ _ _ _ _ _ _ _ _ _ _ _ _ _ _  hir
theorem i_vc (xs : Nat → Int32) (L : Nat) (hL : L ≤ 260) : wpL_law (fun r => r = 1) L xs := by
  obtain ⟨r0, c0⟩ := lz_cell (xs := xs) hL 0 (by omega)
  obtain ⟨j0, hj0, n0⟩ := lz_nn r0 (y := 3) 3 rfl (by omega) (by omega)
  obtain ⟨r1, c1⟩ := lz_cell (xs := xs) hL 1 (by omega)
  obtain ⟨j1, hj1, n1⟩ := lz_nn r1 (y := 14) 14 rfl (by omega) (by omega)
  obtain ⟨u', hu, h⟩ := om_init (nI (1 + j0)) 32
  unfold wpL_law
  refine nm_r (e' := nI 1) rfl (c0 _ (n0 _ (nm_r (nI_add 1 j0) ⟨18, 619, by omega, by omega, h _ ?_⟩)))
  obtain ⟨ar, cap, n, nT, nA, nC, cp, dn, op, l, bd, lk, lc, la, lt, le, st, tg, f0, f1, kd, tx, ts, ta, gv, gt, rh, ft, fa, ca, vt, ag, tc, lg, T, A, rfl, hir⟩ := hu
  refine ⟨by omega, by omega, 18, 619, by omega, by omega, h _ ?_⟩
  exact nm_r (nI_1 1) (c1 _ (n1 _ (nm_r (nI_add 2 j1) ⟨2 + j1 + 1, ll_63 hL (by omega) (2 + j1) 0 2 0 (2 + j1 + 1) (by omega) (by omega) (by omega) (by omega) _ _ _ _ _ _ _ _ _ _ _ _ _ _ _ _ _ _ _ _ _ _ _ _ _ _ _ _ _ _ _ _ _ _ _ _  hir⟩)))
