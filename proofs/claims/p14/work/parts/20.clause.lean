/-! clause and compile -/
section
variable {ar cap n nT nA nC cp dn op : Nat} {bd lk lc la lt le : Int32} {kd tx ts ta gv gt rh ft fa ca vt ag : Nat → Int32}
theorem cm_go {c l : Nat} {T A : Nat → Nat} {st tg f0 f1 tc lg : Nat → Int32} (hpg : pg_ok ar (c + 1) nT nA kd tx ts vt ft fa ca gv rh T A) (har : ar ≤ 3) (hdn : dn ≤ 3) (hop : op ≤ 100) :
    ∃ r : Int32, (r = 0 ∨ (r = 1 ∧ dn = ar ∧ op = 0 ∧ A c < nA)) ∧ (∀ post : Int32 → Prop, post r → wpX_isComplete post ((nI ar), (nI cap), (nI n), (nI nT), (nI nA), (nI (c + 1)), (nI cp), (nI dn), (nI op), bd, (nI l), lk, lc, la, lt, le, st, tg, f0, f1, kd, tx, ts, ta, gv, gt, rh, ft, fa, ca, vt, ag, tc, lg)) := by
  have o := hpg.2.2.2.2.2.2.2.2 c (by omega)
  have hC := hpg.1
  have hnA := hpg.2.2.2.2.2.2.1
  have h16 := hpg.2.2.1
  have oa := o.2.2.1
  have e1 : nI (c + 1) - 1 = nI c := nI_pred c
  have e2 : (nI (c + 1) - 1).toNatClampNeg = c := by rw [e1]; exact nI_clamp (by omega)
  have v : vp_in (nI (c + 1) - 1) 8 := by rw [e1]; exact vp_in_nI (by omega) (by omega)
  have eX : ca (nI (c + 1) - 1).toNatClampNeg = nI (nA - A c) := by rw [e2, o.2.2.2.2.2.2.1, hnA]
  by_cases h1 : dn = ar
  · have d1 : nI dn = nI ar := by rw [h1]
    by_cases h2 : op = 0
    · have d2 : nI op = 0 := by rw [h2]; rfl
      by_cases h3 : A c < nA
      · have d3 : ¬ nI (nA - A c) ≤ 0 := nI_nle (by omega) (by omega)
        exact ⟨1, Or.inr ⟨rfl, h1, h2, h3⟩, fun post h => br_t d1 (br_t d2 ⟨v, br_f (by rw [eX]; exact d3) h⟩)⟩
      · have d3 : nI (nA - A c) ≤ 0 := by rw [show nA - A c = 0 by omega]; decide
        exact ⟨0, Or.inl rfl, fun post h => br_t d1 (br_t d2 ⟨v, br_t (by rw [eX]; exact d3) h⟩)⟩
    · have d2 : ¬ nI op = 0 := nI_ne0 (by omega) (by omega)
      exact ⟨0, Or.inl rfl, fun post h => br_t d1 (br_f d2 h)⟩
  · have d1 : ¬ nI dn = nI ar := fun z => h1 ((nI_eq (by omega) (by omega)).mp z)
    exact ⟨0, Or.inl rfl, fun post h => br_f d1 h⟩
theorem xl_go {post : Int32 → St2 → Prop} {l : Nat} {st tg f0 f1 tc lg : Nat → Int32} (hC : nC < 8) (h : post 1 ((nI ar), (nI cap), (nI n), (nI nT), (nI nA), (nI (nC + 1)), (nI cp), 0, 0, 0, (nI l), lk, lc, la, lt, le, st, tg, f0, f1, kd, tx, ts, ta, gv, gt, rh, (upd ft nC (nI nT)), (upd fa nC (nI nA)), (upd ca nC 0), vt, ag, tc, lg)) : wX_clause_21 post (nI ar) (nI cap) (nI n) (nI nT) (nI nA) (nI nC) (nI cp) (nI dn) (nI op) bd (nI l) lk lc la lt le st tg f0 f1 kd tx ts ta gv gt rh ft fa ca vt ag tc lg := by
  have c : (nI nC).toNatClampNeg = nC := nI_clamp (by omega)
  have v : vp_in (nI nC) 8 := vp_in_nI hC (by omega)
  have n8 : ¬ nI nC = 8 := fun z => by
    have := (nI_eq (a := nC) (b := 8) (by omega) (by omega)).mp z
    omega
  exact br_f n8 ⟨v, nm_r (e' := upd ft nC (nI nT)) (by rw [c]) ⟨v, nm_r (e' := upd fa nC (nI nA)) (by rw [c]) ⟨v, nm_r (e' := upd ca nC 0) (by rw [c]) (nm_r (nI_1 nC) h)⟩⟩⟩
end
theorem pb_new {ar nC nT : Nat} {kd tx : Nat → Int32} {T : Nat → Nat} (hT : T nC = nT) (hh : ht_h (tk_f kd tx) nT = -((ar * nC : Nat) : Int)) : ∀ c, nC + 1 = c + 1 → pb_ok ar c (pg_u T (nC + 1) nT c) nT 0 0 0 kd tx := by
  intro c hc
  have : c = nC := by omega
  subst this
  rw [pg_un (by omega), hT]
  refine ⟨by omega, Or.inl rfl, by omega, by rw [hh, if_pos rfl]; omega, fun x hx => ⟨fun z => ?_, fun ⟨q, q1, q2, _⟩ => by omega⟩⟩
  rw [b_0] at z
  exact absurd z (by decide)
theorem om_clause {u : St2} (I : xr_ok u) : ∃ (r : Int32) (u' : St2), xr_ok u' ∧ ∀ post : Int32 → St2 → Prop, post r u' → wpX_clause post u := by
  obtain ⟨ar, cap, n, nT, nA, nC, cp, dn, op, l, bd, lk, lc, la, lt, le, st, tg, f0, f1, kd, tx, ts, ta, gv, gt, rh, ft, fa, ca, vt, ag, tc, lg, T, A, rfl, hk1, hk2, hk3, hk4, hk5, hk6, hk7, hk8, hk9, hk10, hk11, hk12⟩ := I
  have J := xr_mk (gt := gt) (ag := ag) (tc := tc) (lg := lg) (lk := lk) (lc := lc) (la := la) (lt := lt) (le := le) ⟨hk1, hk2, hk3, hk4, hk5, hk6, hk7, hk8, hk9, hk10, hk11, hk12⟩
  by_cases h0 : cp = 0
  rotate_left
  · have c0 : ¬ nI cp = 0 := nI_ne0 (by omega) (by omega)
    exact ⟨0, _, J, fun post hp => br_f c0 hp⟩
  subst h0
  have hC := hk9.1
  have S : ht_h (tk_f kd tx) nT = -((ar * nC : Nat) : Int) → nC < 8 → xr_ok ((nI ar), (nI cap), (nI n), (nI nT), (nI nA), (nI (nC + 1)), (nI 0), (nI 0), (nI 0), 0, (nI l), lk, lc, la, lt, le, st, tg, f0, f1, kd, tx, ts, ta, gv, gt, rh, (upd ft nC (nI nT)), (upd fa nC (nI nA)), (upd ca nC 0), vt, ag, tc, lg) := fun hh h8 =>
    xr_mk (gt := gt) (ag := ag) (tc := tc) (lg := lg) (lk := lk) (lc := lc) (la := la) (lt := lt) (le := le) (dn := 0) (op := 0) (bd := 0) (ta := ta) ⟨hk1, hk2, hk3, hk4, hk5, hk6, hk7, hk8, pg_cl hk9 h8 hh, fun z => absurd z (by omega), pb_new hk9.2.2.2.2.2.1 hh, fun z => absurd z (by omega)⟩
  by_cases h1 : nC = 0
  · subst h1
    have hT0 : nT = 0 := by rw [← hk9.2.2.2.2.2.1]; exact hk9.2.2.2.1
    have hh : ht_h (tk_f kd tx) nT = -((ar * 0 : Nat) : Int) := by
      subst hT0
      show (0 : Int) = _
      omega
    exact ⟨1, _, S hh (by omega), fun post hp => br_t rfl (br_t (by decide) (xl_go (by omega) hp))⟩
  · obtain ⟨c, rfl⟩ : ∃ c, nC = c + 1 := ⟨nC - 1, by omega⟩
    have pb := hk11 c rfl
    have h64 := hk9.2.1
    obtain ⟨r, hr, cX⟩ := cm_go (cap := cap) (n := n) (cp := 0) (bd := bd) (lk := lk) (lc := lc) (la := la) (lt := lt) (le := le) (ag := ag) (gt := gt) (ta := ta) (l := l) (st := st) (tg := tg) (f0 := f0) (f1 := f1) (tc := tc) (lg := lg) (dn := dn) (op := op) hk9 hk2 (by have := pb.1; omega) (by have := pb.2.2.1; omega)
    have x1 : ¬ nI (c + 1) ≤ 0 := nI_nle (by omega) (by omega)
    rcases hr with z | ⟨z, z1, z2, z3⟩
    · subst z
      exact ⟨0, _, J, fun post hp => br_t rfl (br_f x1 (cX _ (br_t rfl hp)))⟩
    · subst z
      have pe := pe_mk hk9 pb z1 z2 (c + 1) (Nat.le_refl _)
      rw [hk9.2.2.2.2.2.1] at pe
      by_cases h8 : c + 1 < 8
      · exact ⟨1, _, S pe h8, fun post hp => br_t rfl (br_f x1 (cX _ (br_f (by decide) (xl_go h8 hp))))⟩
      · have e8 : nI (c + 1) = 8 := by rw [show c + 1 = 8 by omega]; rfl
        exact ⟨0, _, J, fun post hp => br_t rfl (br_f x1 (cX _ (br_f (by decide) (br_t e8 hp))))⟩
section
variable {ar cap n nT nA nC cp dn op : Nat} {bd lk lc la lt le : Int32} {kd tx ts ta gv gt rh ft fa ca vt ag : Nat → Int32}
/-- the links have one outcome -/
theorem lo_7 {l : Nat} {st tg f0 f1 tc lg : Nat → Int32} (h64 : nT ≤ 64) (hs : ∀ q, q < nT → ts q = nI (tk_f kd tx q)) (hE : ∀ q, q < nT → ∃ e, e ≤ nT ∧ ht_E (tk_f kd tx) q e) :
    ∀ (t : Nat) (ta : Nat → Int32), t ≤ nT → (∀ q, t ≤ q → q < nT → ∃ e, e ≤ nT ∧ ta q = nI e ∧ ht_E (tk_f kd tx) q e) →
      ∃ ta' : Nat → Int32, (∀ q, q < nT → ∃ e, e ≤ nT ∧ ta' q = nI e ∧ ht_E (tk_f kd tx) q e) ∧ ∀ (post : St2 → Prop) (N : Nat), t < N → post ((nI ar), (nI cap), (nI n), (nI nT), (nI nA), (nI nC), (nI cp), (nI dn), (nI op), bd, (nI l), lk, lc, la, lt, le, st, tg, f0, f1, kd, tx, ts, ta', gv, gt, rh, ft, fa, ca, vt, ag, tc, lg) → wX_linkTokens_7 post (nI ar) (nI cap) (nI n) (nI nT) (nI nA) (nI nC) (nI cp) (nI dn) (nI op) bd (nI l) lk lc la lt le N (nI t + (-1)) st tg f0 f1 kd tx ts ta gv gt rh ft fa ca vt ag tc lg := by
  intro t
  induction t with
  | zero =>
    intro ta h1 h3
    refine ⟨ta, fun q hq => h3 q (by omega) hq, fun post N h2 hp => ?_⟩
    obtain ⟨N, rfl⟩ : ∃ N', N = N' + 1 := ⟨N - 1, by omega⟩
    rw [wX_linkTokens_7]
    exact br_t (by decide) hp
  | succ t ih =>
    intro ta h1 h3
    obtain ⟨e0, e1, e2⟩ := hE t (by omega)
    obtain ⟨ta', k1, k2⟩ := ih (upd ta t (nI e0)) (by omega) (fun q q1 q2 => by
      by_cases e : q = t
      · subst e
        exact ⟨e0, e1, pk_us, e2⟩
      · rw [pk_un e]
        exact h3 q (by omega) q2)
    refine ⟨ta', k1, fun post N h2 hp => ?_⟩
    obtain ⟨N, rfl⟩ : ∃ N', N = N' + 1 := ⟨N - 1, by omega⟩
    rw [wX_linkTokens_7, pk_m1]
    exact br_f (nI_pos (by omega)) (nm_r (nI_1 t) ⟨tk_f kd tx t + 1, ln_17 h64 (by omega) (hs t (by omega)) e1 e2 (fun q q1 q2 => h3 q (by omega) q2) (k2 post N (by omega) hp) (tk_f kd tx t) 0 (t + 1) (tk_f kd tx t + 1) (by omega) (by omega) (ln_0 _ t)⟩)
end
theorem om_compile {u : St2} (I : xr_ok u) : ∃ (r : Int32) (u' : St2), xr_ok u' ∧ ∀ post : Int32 → St2 → Prop, post r u' → wpX_compile post u := by
  obtain ⟨ar, cap, n, nT, nA, nC, cp, dn, op, l, bd, lk, lc, la, lt, le, st, tg, f0, f1, kd, tx, ts, ta, gv, gt, rh, ft, fa, ca, vt, ag, tc, lg, T, A, rfl, hk1, hk2, hk3, hk4, hk5, hk6, hk7, hk8, hk9, hk10, hk11, hk12⟩ := I
  have J := xr_mk (gt := gt) (ag := ag) (tc := tc) (lg := lg) (lk := lk) (lc := lc) (la := la) (lt := lt) (le := le) ⟨hk1, hk2, hk3, hk4, hk5, hk6, hk7, hk8, hk9, hk10, hk11, hk12⟩
  by_cases h0 : cp = 0
  rotate_left
  · have c0 : ¬ nI cp = 0 := nI_ne0 (by omega) (by omega)
    exact ⟨0, _, J, fun post hp => br_f c0 hp⟩
  subst h0
  have hC := hk9.1
  by_cases h1 : nC = 0
  · subst h1
    exact ⟨0, _, J, fun post hp => br_t rfl (br_t rfl hp)⟩
  · obtain ⟨c, rfl⟩ : ∃ c, nC = c + 1 := ⟨nC - 1, by omega⟩
    have pb := hk11 c rfl
    have h64 := hk9.2.1
    obtain ⟨r, hr, cX⟩ := cm_go (cap := cap) (n := n) (cp := 0) (bd := bd) (lk := lk) (lc := lc) (la := la) (lt := lt) (le := le) (ag := ag) (gt := gt) (ta := ta) (l := l) (st := st) (tg := tg) (f0 := f0) (f1 := f1) (tc := tc) (lg := lg) (dn := dn) (op := op) hk9 hk2 (by have := pb.1; omega) (by have := pb.2.2.1; omega)
    have x1 : ¬ nI (c + 1) = 0 := nI_ne0 (by omega) (by omega)
    rcases hr with z | ⟨z, z1, z2, z3⟩
    · subst z
      exact ⟨0, _, J, fun post hp => br_t rfl (br_f x1 (cX _ (br_t rfl hp)))⟩
    · subst z
      have pe := pe_mk hk9 pb z1 z2
      obtain ⟨ta', k1, k2⟩ := lo_7 (ar := ar) (cap := cap) (n := n) (nA := nA) (nC := c + 1) (cp := 0) (dn := dn) (op := op) (bd := bd) (lk := lk) (lc := lc) (la := la) (lt := lt) (le := le) (gv := gv) (gt := gt) (rh := rh) (ft := ft) (fa := fa) (ca := ca) (vt := vt) (ag := ag) (l := l) (st := st) (tg := tg) (f0 := f0) (f1 := f1) (tc := tc) (lg := lg) h64 (fun q hq => (hk9.2.2.2.2.2.2.2.1 q hq).2.2) (fun q hq => pe_any hk9 pe hq) nT ta (Nat.le_refl _) (fun q q1 q2 => by omega)
      refine ⟨1, _, xr_mk (cp := 1) (ta := ta') (gt := gt) (ag := ag) (tc := tc) (lg := lg) (lk := lk) (lc := lc) (la := la) (lt := lt) (le := le) ⟨hk1, hk2, hk3, hk4, hk5, by omega, hk7, hk8, hk9, fun z => absurd z (by omega), hk11, fun _ => ⟨z1, z2, k1⟩⟩, fun post hp => ?_⟩
      exact br_t rfl (br_f x1 (cX _ (br_f (by decide) (nm_r (Int32.sub_eq_add_neg (nI nT) 1) ⟨nT + 1, k2 _ (nT + 1) (by omega) hp⟩))))
