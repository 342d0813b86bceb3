/-! cell -/
theorem br_v {α : Sort _} {c : Prop} {t p q : α} (W : α → Prop) (h : (c ∧ t = p) ∨ (¬ c ∧ t = q)) (w : W t) : (c → W p) ∧ (¬ c → W q) := by
  rcases h with ⟨h, e⟩ | ⟨h, e⟩
  · exact br_t h (e ▸ w)
  · exact br_f h (e ▸ w)
theorem hp_add {n : Nat} {st tg f0 f1 : Nat → Int32} {x t a b : Int32} (h : hp_ok n st tg f0 f1) (h1 : ∃ s, s ≤ 3 ∧ x = nI s)
    (h2 : (x = 0 ∨ x = 1) → (¬ t < 4 → ∃ j, j < n + 1 ∧ a = nI j) ∧ (¬ t < 6 → ∃ j, j < n + 1 ∧ b = nI j)) (h3 : x = 2 → ∃ j, j < n + 1 ∧ a = nI j) : hp_ok (n + 1) (upd st n x) (upd tg n t) (upd f0 n a) (upd f1 n b) := by
  intro c hc
  by_cases e : c = n
  · subst e
    rw [pk_us, pk_us, pk_us, pk_us]
    exact ⟨h1, h2, h3⟩
  · rw [pk_un e, pk_un e, pk_un e, pk_un e]
    obtain ⟨a1, a2, a3⟩ := h c (by omega)
    refine ⟨a1, fun z => ⟨fun y => ?_, fun y => ?_⟩, fun z => ?_⟩
    · obtain ⟨j, j1, j2⟩ := (a2 z).1 y; exact ⟨j, by omega, j2⟩
    · obtain ⟨j, j1, j2⟩ := (a2 z).2 y; exact ⟨j, by omega, j2⟩
    · obtain ⟨j, j1, j2⟩ := a3 z; exact ⟨j, by omega, j2⟩
theorem tg_1 {post : Int32 → Prop} {x : Int32} (h0 : ¬ x < 0) (h7 : ¬ 7 < x) (h : post 1) : wpX_isTag post () x := br_f h0 (br_f h7 h)
theorem tg_0 {post : Int32 → Prop} {x : Int32} (h' : ¬ (¬ x < 0 ∧ ¬ 7 < x)) (h : post 0) : wpX_isTag post () x := by
  by_cases h0 : x < 0
  · exact br_t h0 h
  · by_cases h7 : 7 < x
    · exact br_f h0 (br_t h7 h)
    · exact absurd ⟨h0, h7⟩ h'
section
variable {ar cap n nT nA nC cp dn op : Nat} {bd lk lc la lt le : Int32} {kd tx ts ta gv gt rh ft fa ca vt ag : Nat → Int32}
theorem xn_1 {post : Int32 → Prop} {x : Int32} {l : Nat} {st tg f0 f1 tc lg : Nat → Int32} (hx : ¬ x < 0 ∧ ¬ nI n < x) (h : post 1) : wpX_isCellOrNext post ((nI ar), (nI cap), (nI n), (nI nT), (nI nA), (nI nC), (nI cp), (nI dn), (nI op), bd, (nI l), lk, lc, la, lt, le, st, tg, f0, f1, kd, tx, ts, ta, gv, gt, rh, ft, fa, ca, vt, ag, tc, lg) x := br_f hx.1 (br_f hx.2 h)
theorem xn_0 {post : Int32 → Prop} {x : Int32} {l : Nat} {st tg f0 f1 tc lg : Nat → Int32} (h' : ¬ (¬ x < 0 ∧ ¬ nI n < x)) (h : post 0) : wpX_isCellOrNext post ((nI ar), (nI cap), (nI n), (nI nT), (nI nA), (nI nC), (nI cp), (nI dn), (nI op), bd, (nI l), lk, lc, la, lt, le, st, tg, f0, f1, kd, tx, ts, ta, gv, gt, rh, ft, fa, ca, vt, ag, tc, lg) x := by
  by_cases h0 : x < 0
  · exact br_t h0 h
  · by_cases h7 : nI n < x
    · exact br_f h0 (br_t h7 h)
    · exact absurd ⟨h0, h7⟩ h'
theorem xc_w {post : Int32 → St2 → Prop} {x1 x2 x3 x4 x5 x7 x8 t a b : Int32} {l : Nat} {st tg f0 f1 tc lg : Nat → Int32} (hn : n < 32) (h5 : (x5 = 0 ∧ t = -1) ∨ (¬ x5 = 0 ∧ t = x2)) (h7 : (x7 = 0 ∧ a = -1) ∨ (¬ x7 = 0 ∧ a = x3)) (h8 : (x8 = 0 ∧ b = -1) ∨ (¬ x8 = 0 ∧ b = x4))
    (h : post (nI n) ((nI ar), (nI cap), (nI (n + 1)), (nI nT), (nI nA), (nI nC), (nI cp), (nI dn), (nI op), bd, (nI l), lk, lc, la, lt, le, (upd st n x1), (upd tg n t), (upd f0 n a), (upd f1 n b), kd, tx, ts, ta, gv, gt, rh, ft, fa, ca, vt, ag, tc, lg)) : wX_cell_127 post x1 x2 x3 x4 x5 x7 x8 (nI ar) (nI cap) (nI n) (nI nT) (nI nA) (nI nC) (nI cp) (nI dn) (nI op) bd (nI l) lk lc la lt le st tg f0 f1 kd tx ts ta gv gt rh ft fa ca vt ag tc lg := by
  have c : (nI n).toNatClampNeg = n := nI_clamp (by omega)
  have v : vp_in (nI n) 32 := vp_in_nI hn (by omega)
  have A192 : wX_cell_192 post (nI n) b (nI n) (nI ar) (nI cap) (nI n) (nI nT) (nI nA) (nI nC) (nI cp) (nI dn) (nI op) bd (nI l) lk lc la lt le (upd st n x1) (upd tg n t) (upd f0 n a) f1 kd tx ts ta gv gt rh ft fa ca vt ag tc lg := ⟨v, nm_r (e' := upd f1 n b) (by rw [c]) (nm_r (nI_1 n) h)⟩
  have A174 : wX_cell_174 post x4 x8 (nI n) a (nI n) (nI ar) (nI cap) (nI n) (nI nT) (nI nA) (nI nC) (nI cp) (nI dn) (nI op) bd (nI l) lk lc la lt le (upd st n x1) (upd tg n t) f0 f1 kd tx ts ta gv gt rh ft fa ca vt ag tc lg := ⟨v, nm_r (e' := upd f0 n a) (by rw [c]) (br_v (fun b => wX_cell_192 post (nI n) b (nI n) (nI ar) (nI cap) (nI n) (nI nT) (nI nA) (nI nC) (nI cp) (nI dn) (nI op) bd (nI l) lk lc la lt le (upd st n x1) (upd tg n t) (upd f0 n a) f1 kd tx ts ta gv gt rh ft fa ca vt ag tc lg) h8 A192)⟩
  have A157 : wX_cell_157 post x3 x4 x7 x8 (nI n) t (nI n) (nI ar) (nI cap) (nI n) (nI nT) (nI nA) (nI nC) (nI cp) (nI dn) (nI op) bd (nI l) lk lc la lt le (upd st n x1) tg f0 f1 kd tx ts ta gv gt rh ft fa ca vt ag tc lg := ⟨v, nm_r (e' := upd tg n t) (by rw [c]) (br_v (fun a => wX_cell_174 post x4 x8 (nI n) a (nI n) (nI ar) (nI cap) (nI n) (nI nT) (nI nA) (nI nC) (nI cp) (nI dn) (nI op) bd (nI l) lk lc la lt le (upd st n x1) (upd tg n t) f0 f1 kd tx ts ta gv gt rh ft fa ca vt ag tc lg) h7 A174)⟩
  exact ⟨v, nm_r (e' := upd st n x1) (by rw [c]) (br_v (fun t => wX_cell_157 post x3 x4 x7 x8 (nI n) t (nI n) (nI ar) (nI cap) (nI n) (nI nT) (nI nA) (nI nC) (nI cp) (nI dn) (nI op) bd (nI l) lk lc la lt le (upd st n x1) tg f0 f1 kd tx ts ta gv gt rh ft fa ca vt ag tc lg) h5 A157)⟩
end
theorem ok_n {n : Nat} {x : Int32} (hn : n < 32) (hx : ¬ x < 0 ∧ ¬ nI n < x) : ∃ j, j < n + 1 ∧ x = nI j := by
  obtain ⟨j, hj, rfl⟩ := nI_of hx.1
  have := hx.2
  rw [nI_ltI (by omega) hj] at this
  exact ⟨j, by omega, rfl⟩
theorem om_cell {u : St2} (I : xr_ok u) (v1 : Int32) (v2 : Int32) (v3 : Int32) (v4 : Int32) : ∃ (r : Int32) (u' : St2), xr_ok u' ∧ ∀ post : Int32 → St2 → Prop, post r u' → wpX_cell post u v1 v2 v3 v4 := by
  obtain ⟨ar, cap, n, nT, nA, nC, cp, dn, op, l, bd, lk, lc, la, lt, le, st, tg, f0, f1, kd, tx, ts, ta, gv, gt, rh, ft, fa, ca, vt, ag, tc, lg, T, A, rfl, hk1, hk2, hk3, hk4, hk5, hk6, hk7, hk8, hk9, hk10, hk11, hk12⟩ := I
  have J := xr_mk (gt := gt) (ag := ag) (tc := tc) (lg := lg) (lk := lk) (lc := lc) (la := la) (lt := lt) (le := le) ⟨hk1, hk2, hk3, hk4, hk5, hk6, hk7, hk8, hk9, hk10, hk11, hk12⟩
  by_cases hf : nI n = nI cap
  · exact ⟨-1, _, J, fun post hp => br_t hf hp⟩
  by_cases h0 : v1 < 0
  · exact ⟨-1, _, J, fun post hp => br_f hf (br_t h0 hp)⟩
  by_cases h3 : v1 ≤ 3
  rotate_left
  · exact ⟨-1, _, J, fun post hp => br_f hf (br_f h0 (br_f h3 hp))⟩
  have hnc : n ≠ cap := fun z => hf (by rw [z])
  have hn : n < 32 := by omega
  have w : ¬ (1 : Int32) ≤ 0 := by decide
  obtain ⟨s, hs, rfl⟩ := nI_of2 (M := 3) (n := 3) (by decide) h0 h3
  have K : ∀ t a b : Int32, ((nI s = 0 ∨ nI s = 1) → (¬ t < 4 → ∃ j, j < n + 1 ∧ a = nI j) ∧ (¬ t < 6 → ∃ j, j < n + 1 ∧ b = nI j)) → (nI s = 2 → ∃ j, j < n + 1 ∧ a = nI j) →
      xr_ok ((nI ar), (nI cap), (nI (n + 1)), (nI nT), (nI nA), (nI nC), (nI cp), (nI dn), (nI op), bd, (nI l), lk, lc, la, lt, le, (upd st n (nI s)), (upd tg n t), (upd f0 n a), (upd f1 n b), kd, tx, ts, ta, gv, gt, rh, ft, fa, ca, vt, ag, tc, lg) := fun t a b g1 g2 =>
    xr_mk ⟨hk1, hk2, hk3, hk4, by omega, hk6, hk7, hp_add hk8 ⟨s, hs, rfl⟩ g1 g2, hk9, hk10, hk11, hk12⟩
  have hc : s = 2 ∨ s = 3 ∨ (s = 0 ∨ s = 1) := by omega
  rcases hc with z | z | z
  · -- an indirection
    subst z
    by_cases ha : ¬ v3 < 0 ∧ ¬ nI n < v3
    · exact ⟨nI n, _, K (-1) v3 (-1) (fun z => absurd z (by decide)) (fun _ => ok_n hn ha), fun post hp => br_f hf (br_f h0 (br_t h3 (br_f (by decide) (br_f (by decide) (br_t rfl (br_t rfl (br_f w (br_t rfl (br_f (by decide) (br_f (by decide) (xn_1 ha (br_f (by decide) (br_t rfl (xc_w hn (Or.inl ⟨rfl, rfl⟩) (Or.inr ⟨by decide, rfl⟩) (Or.inl ⟨rfl, rfl⟩) hp))))))))))))))⟩
    · exact ⟨-1, _, J, fun post hp => br_f hf (br_f h0 (br_t h3 (br_f (by decide) (br_f (by decide) (br_t rfl (br_t rfl (br_f w (br_t rfl (br_f (by decide) (br_f (by decide) (xn_0 ha (br_t rfl hp))))))))))))⟩
  · -- a bottom
    subst z
    exact ⟨nI n, _, K (-1) (-1) (-1) (fun z => absurd z (by decide)) (fun z => absurd z (by decide)), fun post hp => br_f hf (br_f h0 (br_t h3 (br_f (by decide) (br_f (by decide) (br_t rfl (br_t rfl (br_f w (br_f (by decide) (br_f (by decide) (br_t rfl (br_t rfl (xc_w hn (Or.inl ⟨rfl, rfl⟩) (Or.inl ⟨rfl, rfl⟩) (Or.inl ⟨rfl, rfl⟩) hp))))))))))))⟩
  · -- a value or a thunk
    have n2 : ¬ nI s = 2 := by rcases z with z | z <;> subst z <;> decide
    have E1 : ∀ (post : Int32 → St2 → Prop), wX_cell_31 post (nI s) v2 v3 v4 (nI ar) (nI cap) (nI n) (nI nT) (nI nA) (nI nC) (nI cp) (nI dn) (nI op) bd (nI l) lk lc la lt le st tg f0 f1 kd tx ts ta gv gt rh ft fa ca vt ag tc lg → wpX_cell post ((nI ar), (nI cap), (nI n), (nI nT), (nI nA), (nI nC), (nI cp), (nI dn), (nI op), bd, (nI l), lk, lc, la, lt, le, st, tg, f0, f1, kd, tx, ts, ta, gv, gt, rh, ft, fa, ca, vt, ag, tc, lg) (nI s) v2 v3 v4 := fun post h => by
      rcases z with z | z <;> subst z
      · exact br_f hf (br_f h0 (br_t h3 (br_t rfl h)))
      · exact br_f hf (br_f h0 (br_t h3 (br_f (by decide) (br_t rfl h))))
    by_cases ht : ¬ v2 < 0 ∧ ¬ 7 < v2
    rotate_left
    · exact ⟨-1, _, J, fun post hp => E1 _ (br_f (by decide) (tg_0 ht (br_t rfl hp)))⟩
    · have E2 : ∀ (post : Int32 → St2 → Prop), wX_cell_65 post (nI s) v2 v3 v4 1 (nI (tk_a v2)) (nI ar) (nI cap) (nI n) (nI nT) (nI nA) (nI nC) (nI cp) (nI dn) (nI op) bd (nI l) lk lc la lt le st tg f0 f1 kd tx ts ta gv gt rh ft fa ca vt ag tc lg → wpX_cell post ((nI ar), (nI cap), (nI n), (nI nT), (nI nA), (nI nC), (nI cp), (nI dn), (nI op), bd, (nI l), lk, lc, la, lt, le, st, tg, f0, f1, kd, tx, ts, ta, gv, gt, rh, ft, fa, ca, vt, ag, tc, lg) (nI s) v2 v3 v4 := fun post h =>
        E1 _ (br_f (by decide) (tg_1 ht.1 ht.2 (br_f (by decide) (br_f (by decide) (sm_fx h)))))
      rcases tk_c v2 with ⟨q, q4⟩ | ⟨q, q4, q6⟩ | ⟨q, q4, q6⟩ <;> rw [q] at E2
      · -- no field
        exact ⟨nI n, _, K v2 (-1) (-1) (fun _ => ⟨fun y => absurd q4 y, fun y => absurd (Int32.lt_trans q4 (by decide)) y⟩) (fun y => absurd y n2), fun post hp => E2 _ (br_f (by decide) (br_f n2 (br_f (by decide) (br_t rfl (br_t rfl (xc_w hn (Or.inr ⟨by decide, rfl⟩) (Or.inl ⟨rfl, rfl⟩) (Or.inl ⟨rfl, rfl⟩) hp))))))⟩
      · -- one field
        by_cases ha : ¬ v3 < 0 ∧ ¬ nI n < v3
        · exact ⟨nI n, _, K v2 v3 (-1) (fun _ => ⟨fun _ => ok_n hn ha, fun y => absurd q6 y⟩) (fun y => absurd y n2), fun post hp => E2 _ (br_t (by decide) (br_f (by decide) (br_f (by decide) (xn_1 ha (br_f (by decide) (br_t rfl (xc_w hn (Or.inr ⟨by decide, rfl⟩) (Or.inr ⟨by decide, rfl⟩) (Or.inl ⟨rfl, rfl⟩) hp)))))))⟩
        · exact ⟨-1, _, J, fun post hp => E2 _ (br_t (by decide) (br_f (by decide) (br_f (by decide) (xn_0 ha (br_t rfl hp)))))⟩
      · -- two fields
        by_cases ha : ¬ v3 < 0 ∧ ¬ nI n < v3
        · by_cases hb : ¬ v4 < 0 ∧ ¬ nI n < v4
          · exact ⟨nI n, _, K v2 v3 v4 (fun _ => ⟨fun _ => ok_n hn ha, fun _ => ok_n hn hb⟩) (fun y => absurd y n2), fun post hp => E2 _ (br_t (by decide) (br_t rfl (br_f (by decide) (xn_1 ha (br_f (by decide) (br_f (by decide) (xn_1 hb (br_f (by decide) (xc_w hn (Or.inr ⟨by decide, rfl⟩) (Or.inr ⟨by decide, rfl⟩) (Or.inr ⟨by decide, rfl⟩) hp)))))))))⟩
          · exact ⟨-1, _, J, fun post hp => E2 _ (br_t (by decide) (br_t rfl (br_f (by decide) (xn_1 ha (br_f (by decide) (br_f (by decide) (xn_0 hb (br_t rfl hp))))))))⟩
        · exact ⟨-1, _, J, fun post hp => E2 _ (br_t (by decide) (br_t rfl (br_f (by decide) (xn_0 ha (br_t rfl hp)))))⟩
