/-! the law's small methods -/
theorem lz_cell {xs : Nat → Int32} {L : Nat} (hL : L ≤ 260) (p : Nat) (hp : p < 2 ^ 31) : ∃ r : Int32, ∀ post : Int32 → Prop, post r → wpL_cell post L xs () (nI p) := by
  by_cases h : L ≤ p
  · exact ⟨0, fun post g => br_t (nI_le h hp) g⟩
  · exact ⟨_, fun post g => br_f (nI_ge (by omega) (by omega)) ⟨vp_in_nI (by omega) (by omega), g⟩⟩
theorem lz_nn (v : Int32) {y : Int32} (m : Nat) (hy : y = nI m) (h0 : 0 < m) (h1 : m < 2 ^ 31) : ∃ j : Nat, j < m ∧ ∀ post : Int32 → Prop, post (nI j) → wpL_nn post () v y := by
  subst hy
  have b := fmv_bounds (a := v) (m := nI m) (by rw [nI_toInt h1]; omega)
  rw [nI_toInt h1] at b
  obtain ⟨j, hj, e⟩ := nI_of (x := fmv v (nI m)) (by
    rw [Int32.lt_iff_toInt_lt, show (0 : Int32).toInt = 0 from by decide]
    omega)
  rw [e, nI_toInt hj] at b
  refine ⟨j, by omega, fun post g => ⟨nI_ne0 h0 h1, nm_e ?_⟩⟩
  rw [← e] at g
  by_cases h : 0 ≤ v - v / nI m * nI m
  · have t : fmv v (nI m) = v - v / nI m * nI m := if_pos h
    rw [t] at g
    exact br_t h g
  · have t : fmv v (nI m) = v - v / nI m * nI m + nI m := if_neg h
    rw [t] at g
    exact br_f h g
theorem lz_kind (v : Int32) : ∃ r : Int32, ∀ post : Int32 → Prop, post r → wpL_kindOf post () v := by
  obtain ⟨j, _, h⟩ := lz_nn v (y := 8) 8 rfl (by omega) (by omega)
  by_cases a : 2 ≤ nI j
  · by_cases b : 5 ≤ nI j
    · by_cases c : 7 ≤ nI j
      · exact ⟨3, fun post g => h _ (br_t a (br_t b (br_t c g)))⟩
      · exact ⟨2, fun post g => h _ (br_t a (br_t b (br_f c g)))⟩
    · exact ⟨1, fun post g => h _ (br_t a (br_f b g))⟩
  · exact ⟨0, fun post g => h _ (br_f a g)⟩
theorem lz_pick (b s : Int32) : ∃ r : Int32, ∀ post : Int32 → Prop, post r → wpL_pickBound post () b s := by
  have K : ∀ k i : Nat, i + k = 8 → ∃ r : Int32, ∀ (post : Int32 → Prop) (N : Nat), k < N → post r → wL_pickBound_2 post b s N (nI i) := by
    intro k
    induction k with
    | zero =>
      intro i hi
      refine ⟨-1, fun post N hN g => ?_⟩
      obtain ⟨N, rfl⟩ : ∃ N', N = N' + 1 := ⟨N - 1, by omega⟩
      rw [wL_pickBound_2]
      exact br_t (nI_le (a := 8) (by omega) (by omega)) g
    | succ k ih =>
      intro i hi
      obtain ⟨r, h⟩ := ih (i + 1) (by omega)
      by_cases z : ((b >>> (((s + nI i) &&& 7) &&& 31)) &&& 1) = 0
      · refine ⟨r, fun post N hN g => ?_⟩
        obtain ⟨N, rfl⟩ : ∃ N', N = N' + 1 := ⟨N - 1, by omega⟩
        rw [wL_pickBound_2]
        exact br_f (nI_ge (b := 8) (by omega) (by omega)) (nm_e (br_t z (nm_r (nI_1 i) (h post N (by omega) g))))
      · refine ⟨(s + nI i) &&& 7, fun post N hN g => ?_⟩
        obtain ⟨N, rfl⟩ : ∃ N', N = N' + 1 := ⟨N - 1, by omega⟩
        rw [wL_pickBound_2]
        exact br_f (nI_ge (b := 8) (by omega) (by omega)) (nm_e (br_f z g))
  obtain ⟨r, h⟩ := K 8 0 (by omega)
  exact ⟨r, fun post g => ⟨9, h post 9 (by omega) g⟩⟩
theorem lz_m (i : Nat) : nI i - 1 + 1 = nI (i + 1) - 1 := by rw [Int32.sub_add_cancel, nI_pred]
theorem lz_lt {a : Nat} {i : Nat} (h : a + 1 < i) (hi : i < 2 ^ 31) : nI a < nI i - 1 := by
  obtain ⟨j, rfl⟩ : ∃ j, i = j + 1 := ⟨i - 1, by omega⟩
  rw [nI_pred]
  exact nI_lt (by omega) (by omega)
theorem lz_ge {a : Nat} {i : Nat} (h : i ≤ a + 1) (ha : a < 2 ^ 30) : ¬ nI a < nI i - 1 := by
  cases i with
  | zero =>
    rw [show nI 0 - 1 = (-1 : Int32) from by decide, Int32.lt_iff_toInt_lt, nI_toInt (by omega), show (-1 : Int32).toInt = -1 from by decide]
    omega
  | succ j =>
    rw [nI_pred]
    exact nI_nlt (by omega) (by omega)
theorem sm_same {post : Int32 → Prop} {cnt : Nat} {ar cap n nT nA nC cp dn op l : Nat} {bd lk lc la lt le : Int32} {st tg f0 f1 kd tx ts ta gv gt rh ft fa ca vt ag tc lg : Nat → Int32} {T A : Nat → Nat} (hir : ir_ok ar cap n nT nA nC cp dn op l bd st tg f0 f1 kd tx ts ta gv rh ft fa ca vt T A) (hc : cnt < 2 ^ 20) (hp : post 1) : wpL_same post ((nI ar), (nI cap), (nI n), (nI nT), (nI nA), (nI nC), (nI cp), (nI dn), (nI op), bd, (nI l), lk, lc, la, lt, le, st, tg, f0, f1, kd, tx, ts, ta, gv, gt, rh, ft, fa, ca, vt, ag, tc, lg, (nI ar), (nI cap), (nI n), (nI nT), (nI nA), (nI nC), (nI cp), (nI dn), (nI op), bd, (nI l), lk, lc, la, lt, le, st, tg, f0, f1, kd, tx, ts, ta, gv, gt, rh, ft, fa, ca, vt, ag, tc, lg) (nI cnt) := by
  have X := xr_mk (gt := gt) (ag := ag) (tc := tc) (lg := lg) (lk := lk) (lc := lc) (la := la) (lt := lt) (le := le) hir
  have A4 : ∀ k i N : Nat, i + k = 9 → k < N → wL_same_107 post (nI ar) (nI cap) (nI n) (nI nT) (nI nA) (nI nC) (nI cp) (nI dn) (nI op) bd (nI l) lk lc la lt le st tg f0 f1 kd tx ts ta gv gt rh ft fa ca vt ag tc lg (nI ar) (nI cap) (nI n) (nI nT) (nI nA) (nI nC) (nI cp) (nI dn) (nI op) bd (nI l) lk lc la lt le st tg f0 f1 kd tx ts ta gv gt rh ft fa ca vt ag tc lg N (nI i) := by
    intro k
    induction k with
    | zero =>
      intro i N hi hN
      obtain ⟨N, rfl⟩ : ∃ N', N = N' + 1 := ⟨N - 1, by omega⟩
      rw [wL_same_107]
      exact br_t (nI_lt (a := 8) (by omega) (by omega)) hp
    | succ k ih =>
      intro i N hi hN
      obtain ⟨N, rfl⟩ : ∃ N', N = N' + 1 := ⟨N - 1, by omega⟩
      obtain ⟨r, h⟩ := om_progInfo X (nI i)
      rw [wL_same_107]
      exact br_f (nI_nlt (a := 8) (by omega) (by omega)) (h _ (h _ (br_t rfl (nm_r (nI_1 i) (ih (i + 1) N (by omega) (by omega))))))
  have A3 : ∀ (J : Int32 → Prop) (c : Nat), J (nI (c + 1) - 1) → ∀ k i N : Nat, i + k = 5 → k < N → wL_same_68 post J (nI cnt) (nI c - 1) (nI ar) (nI cap) (nI n) (nI nT) (nI nA) (nI nC) (nI cp) (nI dn) (nI op) bd (nI l) lk lc la lt le st tg f0 f1 kd tx ts ta gv gt rh ft fa ca vt ag tc lg (nI ar) (nI cap) (nI n) (nI nT) (nI nA) (nI nC) (nI cp) (nI dn) (nI op) bd (nI l) lk lc la lt le st tg f0 f1 kd tx ts ta gv gt rh ft fa ca vt ag tc lg N (nI i) := by
    intro J c hJ k
    induction k with
    | zero =>
      intro i N hi hN
      obtain ⟨N, rfl⟩ : ∃ N', N = N' + 1 := ⟨N - 1, by omega⟩
      rw [wL_same_68]
      exact br_t (nI_lt (a := 4) (by omega) (by omega)) (nm_r (lz_m c) hJ)
    | succ k ih =>
      intro i N hi hN
      obtain ⟨N, rfl⟩ : ∃ N', N = N' + 1 := ⟨N - 1, by omega⟩
      obtain ⟨r, h⟩ := om_cellInfo X (nI c - 1) (nI i)
      rw [wL_same_68]
      exact br_f (nI_nlt (a := 4) (by omega) (by omega)) (h _ (h _ (br_t rfl (nm_r (nI_1 i) (ih (i + 1) N (by omega) (by omega))))))
  have A2 : ∀ k i N : Nat, i + k = cnt + 2 → k < N → wL_same_60 post (nI cnt) (nI ar) (nI cap) (nI n) (nI nT) (nI nA) (nI nC) (nI cp) (nI dn) (nI op) bd (nI l) lk lc la lt le st tg f0 f1 kd tx ts ta gv gt rh ft fa ca vt ag tc lg (nI ar) (nI cap) (nI n) (nI nT) (nI nA) (nI nC) (nI cp) (nI dn) (nI op) bd (nI l) lk lc la lt le st tg f0 f1 kd tx ts ta gv gt rh ft fa ca vt ag tc lg N (nI i - 1) := by
    intro k
    induction k with
    | zero =>
      intro i N hi hN
      obtain ⟨N, rfl⟩ : ∃ N', N = N' + 1 := ⟨N - 1, by omega⟩
      rw [wL_same_60]
      exact br_t (lz_lt (by omega) (by omega)) ⟨10, A4 9 0 10 (by omega) (by omega)⟩
    | succ k ih =>
      intro i N hi hN
      obtain ⟨N, rfl⟩ : ∃ N', N = N' + 1 := ⟨N - 1, by omega⟩
      rw [wL_same_60]
      exact br_f (lz_ge (by omega) (by omega)) ⟨6, A3 _ i (ih (i + 1) N (by omega) (by omega)) 5 0 6 (by omega) (by omega)⟩
  have A1 : ∀ k i N : Nat, i + k = 35 → k < N → wL_same_31 post (nI cnt) (nI ar) (nI cap) (nI n) (nI nT) (nI nA) (nI nC) (nI cp) (nI dn) (nI op) bd (nI l) lk lc la lt le st tg f0 f1 kd tx ts ta gv gt rh ft fa ca vt ag tc lg (nI ar) (nI cap) (nI n) (nI nT) (nI nA) (nI nC) (nI cp) (nI dn) (nI op) bd (nI l) lk lc la lt le st tg f0 f1 kd tx ts ta gv gt rh ft fa ca vt ag tc lg N (nI i - 1) := by
    intro k
    induction k with
    | zero =>
      intro i N hi hN
      obtain ⟨N, rfl⟩ : ∃ N', N = N' + 1 := ⟨N - 1, by omega⟩
      rw [wL_same_31]
      exact br_t (lz_lt (a := 33) (by omega) (by omega)) ⟨cnt + 3, A2 (cnt + 2) 0 (cnt + 3) (by omega) (by omega)⟩
    | succ k ih =>
      intro i N hi hN
      obtain ⟨N, rfl⟩ : ∃ N', N = N' + 1 := ⟨N - 1, by omega⟩
      obtain ⟨r, h⟩ := om_logAt X (nI i - 1)
      rw [wL_same_31]
      exact br_f (lz_ge (a := 33) (by omega) (by omega)) (h _ (h _ (br_t rfl (nm_r (lz_m i) (ih (i + 1) N (by omega) (by omega))))))
  have A0 : ∀ k i N : Nat, i + k = 7 → k < N → wL_same_2 post (nI cnt) (nI ar) (nI cap) (nI n) (nI nT) (nI nA) (nI nC) (nI cp) (nI dn) (nI op) bd (nI l) lk lc la lt le st tg f0 f1 kd tx ts ta gv gt rh ft fa ca vt ag tc lg (nI ar) (nI cap) (nI n) (nI nT) (nI nA) (nI nC) (nI cp) (nI dn) (nI op) bd (nI l) lk lc la lt le st tg f0 f1 kd tx ts ta gv gt rh ft fa ca vt ag tc lg N (nI i) := by
    intro k
    induction k with
    | zero =>
      intro i N hi hN
      obtain ⟨N, rfl⟩ : ∃ N', N = N' + 1 := ⟨N - 1, by omega⟩
      rw [wL_same_2]
      exact br_t (nI_lt (a := 6) (by omega) (by omega)) ⟨36, A1 35 0 36 (by omega) (by omega)⟩
    | succ k ih =>
      intro i N hi hN
      obtain ⟨N, rfl⟩ : ∃ N', N = N' + 1 := ⟨N - 1, by omega⟩
      obtain ⟨r, h⟩ := om_last X (nI i)
      rw [wL_same_2]
      exact br_f (nI_nlt (a := 6) (by omega) (by omega)) (h _ (h _ (br_t rfl (nm_r (nI_1 i) (ih (i + 1) N (by omega) (by omega))))))
  exact ⟨8, A0 7 0 8 (by omega) (by omega)⟩
