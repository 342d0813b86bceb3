/-! run -/
def rc_ok (n : Nat) (x : Int32) : Prop := ¬ x < 0 ∧ ¬ nI n ≤ x
def ra_ok (n ar : Nat) (x y z : Int32) : Prop := rc_ok n x ∧ (2 ≤ ar → rc_ok n y) ∧ (3 ≤ ar → rc_ok n z)
theorem rc_n {n : Nat} {x : Int32} (hn : n ≤ 32) (hx : rc_ok n x) : ∃ j, j < n ∧ x = nI j := by
  obtain ⟨j, hj, rfl⟩ := nI_of hx.1
  have := hx.2
  rw [nI_leI (by omega) hj] at this
  exact ⟨j, by omega, rfl⟩
section
variable {ar cap n nT nA nC cp dn op : Nat} {bd lk lc la lt le : Int32} {kd tx ts ta gv gt rh ft fa ca vt ag : Nat → Int32}
theorem xi_1 {post : Int32 → Prop} {x : Int32} {l : Nat} {st tg f0 f1 tc lg : Nat → Int32} (hx : rc_ok n x) (h : post 1) : wpX_isCell post ((nI ar), (nI cap), (nI n), (nI nT), (nI nA), (nI nC), (nI cp), (nI dn), (nI op), bd, (nI l), lk, lc, la, lt, le, st, tg, f0, f1, kd, tx, ts, ta, gv, gt, rh, ft, fa, ca, vt, ag, tc, lg) x := br_f hx.1 (br_f hx.2 h)
theorem xi_0 {post : Int32 → Prop} {x : Int32} {l : Nat} {st tg f0 f1 tc lg : Nat → Int32} (h' : ¬ rc_ok n x) (h : post 0) : wpX_isCell post ((nI ar), (nI cap), (nI n), (nI nT), (nI nA), (nI nC), (nI cp), (nI dn), (nI op), bd, (nI l), lk, lc, la, lt, le, st, tg, f0, f1, kd, tx, ts, ta, gv, gt, rh, ft, fa, ca, vt, ag, tc, lg) x := by
  by_cases h0 : x < 0
  · exact br_t h0 h
  · by_cases h7 : nI n ≤ x
    · exact br_f h0 (br_t h7 h)
    · exact absurd ⟨h0, h7⟩ h'
theorem rx_ok {post : Int32 → St2 → Prop} {x y z : Int32} {l : Nat} {st tg f0 f1 tc lg : Nat → Int32} (har : ar ≤ 3) (hv : ra_ok n ar x y z) (h : wX_run_61 post x y z (nI ar) (nI cap) (nI n) (nI nT) (nI nA) (nI nC) (nI cp) (nI dn) (nI op) bd (nI l) lk lc la lt le st tg f0 f1 kd tx ts ta gv gt rh ft fa ca vt ag tc lg) : wX_run_18 post x y z (nI ar) (nI cap) (nI n) (nI nT) (nI nA) (nI nC) (nI cp) (nI dn) (nI op) bd (nI l) lk lc la lt le st tg f0 f1 kd tx ts ta gv gt rh ft fa ca vt ag tc lg := by
  have K : wX_run_42 post x y z (nI ar) (nI cap) (nI n) (nI nT) (nI nA) (nI nC) (nI cp) (nI dn) (nI op) bd (nI l) lk lc la lt le st tg f0 f1 kd tx ts ta gv gt rh ft fa ca vt ag tc lg := by
    by_cases h3 : ar < 3
    · exact br_t (nI_lt (b := 3) h3 (by omega)) h
    · exact br_f (nI_nlt (b := 3) (by omega) (by omega)) (xi_1 (hv.2.2 (by omega)) (br_f (by decide) h))
  refine xi_1 hv.1 (br_f (by decide) ?_)
  by_cases h2 : ar < 2
  · exact br_t (nI_lt (b := 2) h2 (by omega)) K
  · exact br_f (nI_nlt (b := 2) (by omega) (by omega)) (xi_1 (hv.2.1 (by omega)) (br_f (by decide) K))
theorem rx_no {post : Int32 → St2 → Prop} {x y z : Int32} {l : Nat} {st tg f0 f1 tc lg : Nat → Int32} (har : ar ≤ 3) (hv : ¬ ra_ok n ar x y z) (h : post (-1) ((nI ar), (nI cap), (nI n), (nI nT), (nI nA), (nI nC), (nI cp), (nI dn), (nI op), bd, (nI l), lk, lc, la, lt, le, st, tg, f0, f1, kd, tx, ts, ta, gv, gt, rh, ft, fa, ca, vt, ag, tc, lg)) : wX_run_18 post x y z (nI ar) (nI cap) (nI n) (nI nT) (nI nA) (nI nC) (nI cp) (nI dn) (nI op) bd (nI l) lk lc la lt le st tg f0 f1 kd tx ts ta gv gt rh ft fa ca vt ag tc lg := by
  by_cases a : rc_ok n x
  rotate_left
  · exact xi_0 a (br_t rfl h)
  refine xi_1 a (br_f (by decide) ?_)
  have K : (2 ≤ ar → rc_ok n y) → wX_run_42 post x y z (nI ar) (nI cap) (nI n) (nI nT) (nI nA) (nI nC) (nI cp) (nI dn) (nI op) bd (nI l) lk lc la lt le st tg f0 f1 kd tx ts ta gv gt rh ft fa ca vt ag tc lg := fun b => by
    by_cases h3 : ar < 3
    · exact absurd ⟨a, b, fun q => absurd h3 (by omega)⟩ hv
    · refine br_f (nI_nlt (b := 3) (by omega) (by omega)) (xi_0 (fun q => hv ⟨a, b, fun _ => q⟩) (br_t rfl h))
  by_cases h2 : ar < 2
  · exact br_t (nI_lt (b := 2) h2 (by omega)) (K (fun q => absurd h2 (by omega)))
  · refine br_f (nI_nlt (b := 2) (by omega) (by omega)) ?_
    by_cases b : rc_ok n y
    · exact xi_1 b (br_f (by decide) (K (fun _ => b)))
    · exact xi_0 b (br_t rfl h)
end
theorem om_run {u : St2} (I : xr_ok u) (v2 v3 v4 : Int32) : ∃ (r : Int32) (u' : St2), xr_ok u' ∧ ∀ (v1 : Int32), (v1 = 0 ∨ v1 = 1) → ∀ post : Int32 → St2 → Prop, post r u' → wpX_run post u v1 v2 v3 v4 := by
  obtain ⟨ar, cap, n, nT, nA, nC, cp, dn, op, l, bd, lk, lc, la, lt, le, st, tg, f0, f1, kd, tx, ts, ta, gv, gt, rh, ft, fa, ca, vt, ag, tc, lg, T, A, rfl, hk1, hk2, hk3, hk4, hk5, hk6, hk7, hk8, hk9, hk10, hk11, hk12⟩ := I
  have J := xr_mk (gt := gt) (ag := ag) (tc := tc) (lg := lg) (lk := lk) (lc := lc) (la := la) (lt := lt) (le := le) ⟨hk1, hk2, hk3, hk4, hk5, hk6, hk7, hk8, hk9, hk10, hk11, hk12⟩
  by_cases h0 : cp = 0
  · subst h0
    exact ⟨-1, _, J, fun v1 hm post hp => br_t rfl hp⟩
  have c0 : ¬ nI cp = 0 := nI_ne0 (by omega) (by omega)
  have PX : ∀ (v1 : Int32), (v1 = 0 ∨ v1 = 1) → ∀ post : Int32 → St2 → Prop, wX_run_18 post v2 v3 v4 (nI ar) (nI cap) (nI n) (nI nT) (nI nA) (nI nC) (nI cp) (nI dn) (nI op) bd (nI l) lk lc la lt le st tg f0 f1 kd tx ts ta gv gt rh ft fa ca vt ag tc lg → wpX_run post ((nI ar), (nI cap), (nI n), (nI nT), (nI nA), (nI nC), (nI cp), (nI dn), (nI op), bd, (nI l), lk, lc, la, lt, le, st, tg, f0, f1, kd, tx, ts, ta, gv, gt, rh, ft, fa, ca, vt, ag, tc, lg) v1 v2 v3 v4 := fun v1 hm post h => by
    rcases hm with z | z
    · exact br_f c0 (br_t z h)
    · exact br_f c0 (br_f (by rw [z]; decide) (br_t z h))
  by_cases hv : ra_ok n ar v2 v3 v4
  rotate_left
  · exact ⟨-1, _, J, fun v1 hm post hp => PX v1 hm _ (rx_no hk2 hv hp)⟩
  obtain ⟨z1, z2, hta⟩ := hk12 (by omega)
  obtain ⟨c, rfl⟩ : ∃ c, nC = c + 1 := ⟨nC - 1, by
    have : nC ≠ 0 := fun z => h0 (hk10 z).2.2.2
    omega⟩
  have hn : n ≤ 32 := by omega
  have h64 := hk9.2.1
  have pe := pe_mk hk9 (hk11 c rfl) z1 z2
  have hE : ∀ q, q < nT → ta q = nI ((fun q => (ta q).toNatClampNeg) q) ∧ ht_E (tk_f kd tx) q ((fun q => (ta q).toNatClampNeg) q) := fun q hq => by
    obtain ⟨e, e1, e2, e3⟩ := hta q hq
    have e4 : (ta q).toNatClampNeg = e := by rw [e2]; exact nI_clamp (by omega)
    show ta q = nI (ta q).toNatClampNeg ∧ ht_E (tk_f kd tx) q (ta q).toNatClampNeg
    rw [e4]
    exact ⟨e2, e3⟩
  have hA : ∀ i, i < ar → ∃ a, a < n ∧ upd (upd (upd ag 0 v2) 1 v3) 2 v4 i = nI a := fun i hi => by
    have : i = 0 ∨ i = 1 ∨ i = 2 := by omega
    rcases this with z | z | z <;> subst z
    · exact rc_n hn hv.1
    · exact rc_n hn (hv.2.1 (by omega))
    · exact rc_n hn (hv.2.2 (by omega))
  obtain ⟨l', st', tg', f0', f1', lg', tc', ch', de', si', sP', sV', lk', lc', la', lt', le', k1, k2, hX⟩ := rn_1 (cap := cap) (cp := cp) (dn := dn) (op := op) (bd := bd) (gt := gt) hn hk9 pe hE hk2 hA (c + 1) 0 0 lc la st tg f0 f1 lg tc (fun _ => 0) (fun _ => 0) (fun _ => 0) (fun _ => 0) (fun _ => 0) (by omega) hk8 (by
    have := cu_le (hp_u st (fun _ => 0)) n
    omega)
  have W : xr_ok ((nI ar), (nI cap), (nI n), (nI nT), (nI nA), (nI (c + 1)), (nI cp), (nI dn), (nI op), bd, (nI l'), lk', lc', la', lt', le', st', tg', f0', f1', kd, tx, ts, ta, gv, gt, rh, ft, fa, ca, vt, (upd (upd (upd ag 0 v2) 1 v3) 2 v4), tc', lg') :=
    xr_mk ⟨hk1, hk2, hk3, hk4, hk5, hk6, k2, k1, hk9, hk10, hk11, hk12⟩
  refine ⟨lk', _, W, fun v1 hm post hp => PX v1 hm _ (rx_ok hk2 hv ?_)⟩
  exact nm_e (nm_e (nm_e ⟨c + 3, hX _ (c + 3) (by omega) hp⟩))
