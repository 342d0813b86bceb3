/-! clause and compile -/
theorem ir_h1 (c : Nat) : ir_h (c + 1) = 1 := if_neg (by omega)
section
variable {ar cap n nT nA nC cp dn op : Nat} {bd lk lc la lt le hc yk yc ya yt ye : Int32} {kd tx ts ta gv gt rh ft fa ca vt ag : Nat → Int32}
theorem cm_go {c l : Nat} {er : Int32} {T A : Nat → Nat} {st tg f0 f1 tc lg mk ch de si sP sV : Nat → Int32} (hpg : pg_ok ar (c + 1) nT nA kd tx ts vt ft fa ca gv rh T A) (har : ar ≤ 3) (hdn : dn ≤ 3) (hop : op ≤ 100) :
    ∃ r : Int32, (r = 0 ∨ (r = 1 ∧ dn = ar ∧ op = 0 ∧ A c < nA)) ∧ (∀ post : Int32 → Prop, post r → wpX_isComplete post ((nI ar), (nI cap), (nI n), (nI nT), (nI nA), (nI (c + 1)), (nI cp), (nI dn), (nI op), bd, (nI l), lk, lc, la, lt, le, st, tg, f0, f1, kd, tx, ts, ta, gv, gt, rh, ft, fa, ca, vt, ag, tc, lg)) ∧ (∀ post : Int32 → Prop, post r → wpY_curComplete post ((nI ar), (nI cap), (nI n), (nI (c + 1)), (nI nT), (nI nA), (nI cp), hc, (nI dn), (nI op), bd, (nI l), yk, yc, ya, yt, ye, er, st, tg, f0, f1, mk, ch, kd, tx, ft, fa, gv, gt, rh, lg, de, si, sP, sV)) := by
  have o := hpg.2.2.2.2.2.2.2.2 c (by omega)
  have hC := hpg.1
  have hnA := hpg.2.2.2.2.2.2.1
  have h16 := hpg.2.2.1
  have oa := o.2.2.1
  have e1 : nI (c + 1) - 1 = nI c := nI_pred c
  have e2 : (nI (c + 1) - 1).toNatClampNeg = c := by rw [e1]; exact nI_clamp (by omega)
  have v : vp_in (nI (c + 1) - 1) 8 := by rw [e1]; exact vp_in_nI (by omega) (by omega)
  have eX : ca (nI (c + 1) - 1).toNatClampNeg = nI (nA - A c) := by rw [e2, o.2.2.2.2.2.2.1, hnA]
  have eY : nI nA - fa (nI (c + 1) - 1).toNatClampNeg = nI (nA - A c) := by rw [e2, o.2.2.2.2.2.1, pk_sub (by omega)]
  by_cases h1 : dn = ar
  · have d1 : nI dn = nI ar := by rw [h1]
    by_cases h2 : op = 0
    · have d2 : nI op = 0 := by rw [h2]; rfl
      by_cases h3 : A c < nA
      · have d3 : ¬ nI (nA - A c) ≤ 0 := nI_nle (by omega) (by omega)
        exact ⟨1, Or.inr ⟨rfl, h1, h2, h3⟩, fun post h => br_t d1 (br_t d2 ⟨v, br_f (by rw [eX]; exact d3) h⟩), fun post h => br_t d1 (br_t d2 ⟨v, br_f (by rw [eY]; exact d3) h⟩)⟩
      · have d3 : nI (nA - A c) ≤ 0 := by rw [show nA - A c = 0 by omega]; decide
        exact ⟨0, Or.inl rfl, fun post h => br_t d1 (br_t d2 ⟨v, br_t (by rw [eX]; exact d3) h⟩), fun post h => br_t d1 (br_t d2 ⟨v, br_t (by rw [eY]; exact d3) h⟩)⟩
    · have d2 : ¬ nI op = 0 := nI_ne0 (by omega) (by omega)
      exact ⟨0, Or.inl rfl, fun post h => br_t d1 (br_f d2 h), fun post h => br_t d1 (br_f d2 h)⟩
  · have d1 : ¬ nI dn = nI ar := fun z => h1 ((nI_eq (by omega) (by omega)).mp z)
    exact ⟨0, Or.inl rfl, fun post h => br_f d1 h, fun post h => br_f d1 h⟩
theorem xl_go {post : Int32 → SX → Prop} {l : Nat} {st tg f0 f1 tc lg : Nat → Int32} (hC : nC < 8) (h : post 1 ((nI ar), (nI cap), (nI n), (nI nT), (nI nA), (nI (nC + 1)), (nI cp), 0, 0, 0, (nI l), lk, lc, la, lt, le, st, tg, f0, f1, kd, tx, ts, ta, gv, gt, rh, (upd ft nC (nI nT)), (upd fa nC (nI nA)), (upd ca nC 0), vt, ag, tc, lg)) : wX_clause_21 post (nI ar) (nI cap) (nI n) (nI nT) (nI nA) (nI nC) (nI cp) (nI dn) (nI op) bd (nI l) lk lc la lt le st tg f0 f1 kd tx ts ta gv gt rh ft fa ca vt ag tc lg := by
  have c : (nI nC).toNatClampNeg = nC := nI_clamp (by omega)
  have v : vp_in (nI nC) 8 := vp_in_nI hC (by omega)
  have n8 : ¬ nI nC = 8 := fun z => by
    have := (nI_eq (a := nC) (b := 8) (by omega) (by omega)).mp z
    omega
  exact br_f n8 ⟨v, nm_r (e' := upd ft nC (nI nT)) (by rw [c]) ⟨v, nm_r (e' := upd fa nC (nI nA)) (by rw [c]) ⟨v, nm_r (e' := upd ca nC 0) (by rw [c]) (nm_r (nI_1 nC) h)⟩⟩⟩
theorem yl_go {post : Int32 → SY → Prop} {er : Int32} {l : Nat} {st tg f0 f1 mk ch lg de si sP sV : Nat → Int32} (hC : nC < 8) (h : post 1 ((nI ar), (nI cap), (nI n), (nI (nC + 1)), (nI nT), (nI nA), (nI cp), 1, 0, 0, 0, (nI l), yk, yc, ya, yt, ye, er, st, tg, f0, f1, mk, ch, kd, tx, (upd ft nC (nI nT)), (upd fa nC (nI nA)), gv, gt, rh, lg, de, si, sP, sV)) : wY_clause_25 post (nI ar) (nI cap) (nI n) (nI nC) (nI nT) (nI nA) (nI cp) hc (nI dn) (nI op) bd (nI l) yk yc ya yt ye er st tg f0 f1 mk ch kd tx ft fa gv gt rh lg de si sP sV := by
  have c : (nI nC).toNatClampNeg = nC := nI_clamp (by omega)
  have v : vp_in (nI nC) 8 := vp_in_nI hC (by omega)
  have n8 : ¬ nI nC = 8 := fun z => by
    have := (nI_eq (a := nC) (b := 8) (by omega) (by omega)).mp z
    omega
  exact br_f n8 ⟨v, nm_r (e' := upd ft nC (nI nT)) (by rw [c]) ⟨v, nm_r (e' := upd fa nC (nI nA)) (by rw [c]) (nm_r (nI_1 nC) h)⟩⟩
end
theorem pb_new {ar nC nT : Nat} {kd tx : Nat → Int32} {T : Nat → Nat} (hT : T nC = nT) (hh : ht_h (tk_f kd tx) nT = -((ar * nC : Nat) : Int)) : ∀ c, nC + 1 = c + 1 → pb_ok ar c (pg_u T (nC + 1) nT c) nT 0 0 0 kd tx := by
  intro c hc
  have : c = nC := by omega
  subst this
  rw [pg_un (by omega), hT]
  refine ⟨by omega, Or.inl rfl, by omega, by rw [hh, if_pos rfl]; omega, fun x hx => ⟨fun z => ?_, fun ⟨q, q1, q2, _⟩ => by omega⟩⟩
  rw [b_0] at z
  exact absurd z (by decide)
theorem i_vc_clause {k : Nat} {u : SX} {v : SY} (I : i_Rel k u v) (hk : k + 5 ≤ 2562) : wpX_clause (fun r u' => wpY_clause (fun r' v' => r' = r ∧ i_Rel (k + 5) u' v') v) u := by
  obtain ⟨ar, cap, n, nT, nA, nC, cp, dn, op, l, bd, lk, lc, la, lt, le, st, tg, f0, f1, kd, tx, ts, ta, gv, gt, rh, ft, fa, ca, vt, ag, tc, lg, ch, de, si, sP, sV, T, A, rfl, rfl, hk1, hk2, hk3, hk4, hk5, hk6, hk7, hk8, hk9, hk10, hk11, hk12⟩ := I
  have J := ir_mk (k := k + 5) (gt := gt) (ag := ag) (tc := tc) (lg := lg) (ch := ch) (de := de) (si := si) (sP := sP) (sV := sV) (lk := lk) (lc := lc) (la := la) (lt := lt) (le := le) ⟨hk1, hk2, hk3, hk4, hk5, hk6, hk7, hk8, hk9, hk10, hk11, hk12⟩
  by_cases h0 : cp = 0
  rotate_left
  · have c0 : ¬ nI cp = 0 := nI_ne0 (by omega) (by omega)
    exact br_f c0 (br_f c0 ⟨rfl, J⟩)
  subst h0
  have hC := hk9.1
  -- the clause begins
  have S : ht_h (tk_f kd tx) nT = -((ar * nC : Nat) : Int) → nC < 8 → i_Rel (k + 5) ((nI ar), (nI cap), (nI n), (nI nT), (nI nA), (nI (nC + 1)), (nI 0), 0, 0, 0, (nI l), lk, lc, la, lt, le, st, tg, f0, f1, kd, tx, ts, ta, gv, gt, rh, (upd ft nC (nI nT)), (upd fa nC (nI nA)), (upd ca nC 0), vt, ag, tc, lg) ((nI ar), (nI cap), (nI n), (nI (nC + 1)), (nI nT), (nI nA), (nI 0), 1, 0, 0, 0, (nI l), lk, lc, la, lt, le, 0, st, tg, f0, f1, (fun _ => 0), ch, kd, tx, (upd ft nC (nI nT)), (upd fa nC (nI nA)), gv, gt, rh, lg, de, si, sP, sV) := fun hh h8 => by
    have t := ir_mk (k := k + 5) (gt := gt) (ag := ag) (tc := tc) (lg := lg) (ch := ch) (de := de) (si := si) (sP := sP) (sV := sV) (lk := lk) (lc := lc) (la := la) (lt := lt) (le := le) (dn := 0) (op := 0) (bd := 0) (ta := ta) ⟨hk1, hk2, hk3, hk4, hk5, hk6, hk7, hk8, pg_cl hk9 h8 hh, fun z => absurd z (by omega), pb_new hk9.2.2.2.2.2.1 hh, fun z => absurd z (by omega)⟩
    rw [ir_h1] at t
    exact t
  by_cases h1 : nC = 0
  · subst h1
    have hT0 : nT = 0 := by rw [← hk9.2.2.2.2.2.1]; exact hk9.2.2.2.1
    have hh : ht_h (tk_f kd tx) nT = -((ar * 0 : Nat) : Int) := by
      subst hT0
      show (0 : Int) = _
      omega
    exact br_t rfl (br_t (by decide) (xl_go (by omega) (br_t rfl (br_t rfl (yl_go (by omega) ⟨rfl, S hh (by omega)⟩)))))
  · obtain ⟨c, rfl⟩ : ∃ c, nC = c + 1 := ⟨nC - 1, by omega⟩
    have pb := hk11 c rfl
    have h64 := hk9.2.1
    obtain ⟨r, hr, cX, cY⟩ := cm_go (cap := cap) (n := n) (cp := 0) (bd := bd) (lk := lk) (lc := lc) (la := la) (lt := lt) (le := le) (ag := ag) (gt := gt) (ta := ta) (l := l) (st := st) (tg := tg) (f0 := f0) (f1 := f1) (tc := tc) (lg := lg) (hc := ir_h (c + 1)) (yk := lk) (yc := lc) (ya := la) (yt := lt) (ye := le) (er := 0) (mk := fun _ => 0) (ch := ch) (de := de) (si := si) (sP := sP) (sV := sV) (dn := dn) (op := op) hk9 hk2 (by have := pb.1; omega) (by have := pb.2.2.1; omega)
    have x1 : ¬ nI (c + 1) ≤ 0 := nI_nle (by omega) (by omega)
    have y1 : ¬ ir_h (c + 1) = 0 := by rw [ir_h1]; decide
    rcases hr with z | ⟨z, z1, z2, z3⟩
    · subst z
      exact br_t rfl (br_f x1 (cX _ (br_t rfl (br_t rfl (br_f y1 (cY _ (br_t rfl ⟨rfl, J⟩)))))))
    · subst z
      have pe := pe_mk hk9 pb z1 z2 (c + 1) (Nat.le_refl _)
      rw [hk9.2.2.2.2.2.1] at pe
      by_cases h8 : c + 1 < 8
      · exact br_t rfl (br_f x1 (cX _ (br_f (by decide) (xl_go h8 (br_t rfl (br_f y1 (cY _ (br_f (by decide) (yl_go h8 ⟨rfl, S pe h8⟩)))))))))
      · have e8 : nI (c + 1) = 8 := by rw [show c + 1 = 8 by omega]; rfl
        exact br_t rfl (br_f x1 (cX _ (br_f (by decide) (br_t e8 (br_t rfl (br_f y1 (cY _ (br_f (by decide) (br_t e8 ⟨rfl, J⟩)))))))))
theorem i_vc_compile {k : Nat} {u : SX} {v : SY} (I : i_Rel k u v) (hk : k + 5 ≤ 2562) : wpX_compile (fun r u' => wpY_compile (fun r' v' => r' = r ∧ i_Rel (k + 5) u' v') v) u := by
  obtain ⟨ar, cap, n, nT, nA, nC, cp, dn, op, l, bd, lk, lc, la, lt, le, st, tg, f0, f1, kd, tx, ts, ta, gv, gt, rh, ft, fa, ca, vt, ag, tc, lg, ch, de, si, sP, sV, T, A, rfl, rfl, hk1, hk2, hk3, hk4, hk5, hk6, hk7, hk8, hk9, hk10, hk11, hk12⟩ := I
  have J := ir_mk (k := k + 5) (gt := gt) (ag := ag) (tc := tc) (lg := lg) (ch := ch) (de := de) (si := si) (sP := sP) (sV := sV) (lk := lk) (lc := lc) (la := la) (lt := lt) (le := le) ⟨hk1, hk2, hk3, hk4, hk5, hk6, hk7, hk8, hk9, hk10, hk11, hk12⟩
  by_cases h0 : cp = 0
  rotate_left
  · have c0 : ¬ nI cp = 0 := nI_ne0 (by omega) (by omega)
    exact br_f c0 (br_f c0 ⟨rfl, J⟩)
  subst h0
  have hC := hk9.1
  by_cases h1 : nC = 0
  · subst h1
    exact br_t rfl (br_t rfl (br_t rfl (br_t rfl ⟨rfl, J⟩)))
  · obtain ⟨c, rfl⟩ : ∃ c, nC = c + 1 := ⟨nC - 1, by omega⟩
    have pb := hk11 c rfl
    have h64 := hk9.2.1
    obtain ⟨r, hr, cX, cY⟩ := cm_go (cap := cap) (n := n) (cp := 0) (bd := bd) (lk := lk) (lc := lc) (la := la) (lt := lt) (le := le) (ag := ag) (gt := gt) (ta := ta) (l := l) (st := st) (tg := tg) (f0 := f0) (f1 := f1) (tc := tc) (lg := lg) (hc := ir_h (c + 1)) (yk := lk) (yc := lc) (ya := la) (yt := lt) (ye := le) (er := 0) (mk := fun _ => 0) (ch := ch) (de := de) (si := si) (sP := sP) (sV := sV) (dn := dn) (op := op) hk9 hk2 (by have := pb.1; omega) (by have := pb.2.2.1; omega)
    have x1 : ¬ nI (c + 1) = 0 := nI_ne0 (by omega) (by omega)
    have y1 : ¬ ir_h (c + 1) = 0 := by rw [ir_h1]; decide
    rcases hr with z | ⟨z, z1, z2, z3⟩
    · subst z
      exact br_t rfl (br_f x1 (cX _ (br_t rfl (br_t rfl (br_f y1 (cY _ (br_t rfl ⟨rfl, J⟩)))))))
    · subst z
      have pe := pe_mk hk9 pb z1 z2
      refine br_t rfl (br_f x1 (cX _ (br_f (by decide) (nm_r (Int32.sub_eq_add_neg (nI nT) 1) ⟨nT + 1, ln_7 h64 (fun q hq => (hk9.2.2.2.2.2.2.2.1 q hq).2.2) (fun q hq => pe_any hk9 pe hq) (fun ta' hta => ?_) nT (nT + 1) ta (Nat.le_refl _) (by omega) (fun q q1 q2 => by omega)⟩))))
      refine br_t rfl (br_f y1 (cY _ (br_f (by decide) ⟨rfl, ?_⟩)))
      exact ir_mk (k := k + 5) (cp := 1) ⟨hk1, hk2, hk3, hk4, hk5, by omega, hk7, hk8, hk9, fun z => absurd z (by omega), hk11, fun _ => ⟨z1, z2, hta⟩⟩
