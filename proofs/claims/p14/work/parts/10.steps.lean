/-! the steps of a match, on either side -/
section
variable {ar cap n nT nA nC cp dn op : Nat} {bd lk lc la lt le : Int32} {kd tx ts ta gv gt rh ft fa ca vt ag : Nat → Int32}
/-- component: the end -/
theorem xm_end {post : Int32 → St2 → Prop} {p e i l sk N : Nat} {st tg f0 f1 tc lg : Nat → Int32} (hp : p < 64) (he : ta p = nI e) (hi : e ≤ i) (h64 : i ≤ 64) (h : post 1 ((nI ar), (nI cap), (nI n), (nI nT), (nI nA), (nI nC), (nI cp), (nI dn), (nI op), bd, (nI l), lk, lc, la, lt, le, st, tg, f0, f1, kd, tx, ts, ta, gv, gt, rh, ft, fa, ca, vt, ag, tc, lg)) :
    wX_matchPattern_12 post (nI p) (N + 1) (nI sk) (nI i) (nI ar) (nI cap) (nI n) (nI nT) (nI nA) (nI nC) (nI cp) (nI dn) (nI op) bd (nI l) lk lc la lt le st tg f0 f1 kd tx ts ta gv gt rh ft fa ca vt ag tc lg := by
  have c1 : (nI p).toNatClampNeg = p := nI_clamp (by omega)
  rw [wX_matchPattern_12]
  exact ⟨vp_in_nI hp (by omega), br_t (by rw [c1, he]; exact nI_le hi (by omega)) h⟩
theorem xm_skip {post : Int32 → St2 → Prop} {p e i l sk N : Nat} {st tg f0 f1 tc lg : Nat → Int32} (hp : p < 64) (he : ta p = nI e) (h64 : e ≤ 64) (hi : i < e) (hs : i < sk) (hs64 : sk ≤ 64)
    (h : wX_matchPattern_12 post (nI p) N (nI sk) (nI (i + 1)) (nI ar) (nI cap) (nI n) (nI nT) (nI nA) (nI nC) (nI cp) (nI dn) (nI op) bd (nI l) lk lc la lt le st tg f0 f1 kd tx ts ta gv gt rh ft fa ca vt ag tc lg) : wX_matchPattern_12 post (nI p) (N + 1) (nI sk) (nI i) (nI ar) (nI cap) (nI n) (nI nT) (nI nA) (nI nC) (nI cp) (nI dn) (nI op) bd (nI l) lk lc la lt le st tg f0 f1 kd tx ts ta gv gt rh ft fa ca vt ag tc lg := by
  have c1 : (nI p).toNatClampNeg = p := nI_clamp (by omega)
  rw [wX_matchPattern_12]
  exact ⟨vp_in_nI hp (by omega), br_f (by rw [c1, he]; exact nI_ge hi (by omega)) (br_f (nI_ge hs (by omega)) (nm_r (nI_1 i) h))⟩
theorem xm_skips {post : Int32 → St2 → Prop} {p e l sk N : Nat} {st tg f0 f1 tc lg : Nat → Int32} (hp : p < 64) (he : ta p = nI e) (h64 : e ≤ 64) (hs : sk ≤ e)
    (h : wX_matchPattern_12 post (nI p) N (nI sk) (nI sk) (nI ar) (nI cap) (nI n) (nI nT) (nI nA) (nI nC) (nI cp) (nI dn) (nI op) bd (nI l) lk lc la lt le st tg f0 f1 kd tx ts ta gv gt rh ft fa ca vt ag tc lg) : ∀ t i : Nat, i + t = sk → wX_matchPattern_12 post (nI p) (N + t) (nI sk) (nI i) (nI ar) (nI cap) (nI n) (nI nT) (nI nA) (nI nC) (nI cp) (nI dn) (nI op) bd (nI l) lk lc la lt le st tg f0 f1 kd tx ts ta gv gt rh ft fa ca vt ag tc lg := by
  intro t
  induction t with
  | zero => intro i hi; rw [show i = sk by omega]; exact h
  | succ t ih => intro i hi; exact xm_skip hp he h64 (by omega) (by omega) (by omega) (ih (i + 1) (by omega))
theorem xm_leaf {post : Int32 → St2 → Prop} {p e i l sk N : Nat} {st tg f0 f1 tc lg : Nat → Int32} (hp : p < 64) (he : ta p = nI e) (h64 : e ≤ 64) (hi : i < e) (hs : sk ≤ i) (hk : kd i = 0 ∨ kd i = 1)
    (h : wX_matchPattern_12 post (nI p) N (nI sk) (nI (i + 1)) (nI ar) (nI cap) (nI n) (nI nT) (nI nA) (nI nC) (nI cp) (nI dn) (nI op) bd (nI l) lk lc la lt le st tg f0 f1 kd tx ts ta gv gt rh ft fa ca vt ag tc lg) : wX_matchPattern_12 post (nI p) (N + 1) (nI sk) (nI i) (nI ar) (nI cap) (nI n) (nI nT) (nI nA) (nI nC) (nI cp) (nI dn) (nI op) bd (nI l) lk lc la lt le st tg f0 f1 kd tx ts ta gv gt rh ft fa ca vt ag tc lg := by
  have c1 : (nI p).toNatClampNeg = p := nI_clamp (by omega)
  have c2 : (nI i).toNatClampNeg = i := nI_clamp (by omega)
  have v2 : vp_in (nI i) 64 := vp_in_nI (by omega) (by omega)
  rw [wX_matchPattern_12]
  refine ⟨vp_in_nI hp (by omega), br_f (by rw [c1, he]; exact nI_ge hi (by omega)) (br_t (nI_le hs (by omega)) ⟨v2, ?_⟩)⟩
  rcases hk with hk | hk
  · exact nm_r (e' := 0) (by rw [c2]; exact hk) ⟨v2, nm_e (br_f (by decide) (br_f (by decide) (br_f (by decide) (br_f (by decide) (br_f (by decide) (nm_r (nI_1 i) h))))))⟩
  · exact nm_r (e' := 1) (by rw [c2]; exact hk) ⟨v2, nm_e (br_f (by decide) (br_f (by decide) (br_f (by decide) (br_f (by decide) (br_f (by decide) (nm_r (nI_1 i) h))))))⟩
theorem xm_lazy {post : Int32 → St2 → Prop} {p e i f l sk N : Nat} {st tg f0 f1 tc lg : Nat → Int32} (hp : p < 64) (he : ta p = nI e) (h64 : e ≤ 64) (hi : i < e) (hs : sk ≤ i) (hk : kd i = 4) (hf : ta i = nI f)
    (h : wX_matchPattern_12 post (nI p) N (nI f) (nI (i + 1)) (nI ar) (nI cap) (nI n) (nI nT) (nI nA) (nI nC) (nI cp) (nI dn) (nI op) bd (nI l) lk lc la lt le st tg f0 f1 kd tx ts ta gv gt rh ft fa ca vt ag tc lg) : wX_matchPattern_12 post (nI p) (N + 1) (nI sk) (nI i) (nI ar) (nI cap) (nI n) (nI nT) (nI nA) (nI nC) (nI cp) (nI dn) (nI op) bd (nI l) lk lc la lt le st tg f0 f1 kd tx ts ta gv gt rh ft fa ca vt ag tc lg := by
  have c1 : (nI p).toNatClampNeg = p := nI_clamp (by omega)
  have c2 : (nI i).toNatClampNeg = i := nI_clamp (by omega)
  have v2 : vp_in (nI i) 64 := vp_in_nI (by omega) (by omega)
  rw [wX_matchPattern_12]
  exact ⟨vp_in_nI hp (by omega), br_f (by rw [c1, he]; exact nI_ge hi (by omega)) (br_t (nI_le hs (by omega)) ⟨v2, nm_r (by rw [c2]; exact hk) ⟨v2, nm_e (br_t rfl ⟨v2, nm_r (by rw [c2]; exact hf) (br_f (by decide) (br_f (by decide) (br_f (by decide) (br_f (by decide) (nm_r (nI_1 i) h)))))⟩)⟩⟩)⟩
/-- a token that forces: what comes behind the FORCE -/
theorem xm_force {post : Int32 → St2 → Prop} {p e i c l l' sk N : Nat} {r : Int32} {st tg f0 f1 tc lg st' tg' f0' f1' lg' : Nat → Int32} {lk' : Int32} (hp : p < 64) (he : ta p = nI e) (h64 : e ≤ 64) (hi : i < e) (hs : sk ≤ i) (hk : kd i = 3 ∨ kd i = 2) (hc : tc i = nI c)
    (hF : ∀ post' : Int32 → St2 → Prop, post' r ((nI ar), (nI cap), (nI n), (nI nT), (nI nA), (nI nC), (nI cp), (nI dn), (nI op), bd, (nI l'), lk', lc, la, lt, le, st', tg', f0', f1', kd, tx, ts, ta, gv, gt, rh, ft, fa, ca, vt, ag, tc, lg') → wpX_force post' ((nI ar), (nI cap), (nI n), (nI nT), (nI nA), (nI nC), (nI cp), (nI dn), (nI op), bd, (nI l), lk, lc, la, lt, le, st, tg, f0, f1, kd, tx, ts, ta, gv, gt, rh, ft, fa, ca, vt, ag, tc, lg) (nI c))
    (h0 : r = 0 → post 0 ((nI ar), (nI cap), (nI n), (nI nT), (nI nA), (nI nC), (nI cp), (nI dn), (nI op), bd, (nI l'), lk', lc, la, lt, le, st', tg', f0', f1', kd, tx, ts, ta, gv, gt, rh, ft, fa, ca, vt, ag, tc, lg'))
    (h1 : ¬ r = 0 → wX_matchPattern_87 post (wX_matchPattern_12 post (nI p) N) (nI p) (nI sk) (nI i) (kd i) (nI c) (nI ar) (nI cap) (nI n) (nI nT) (nI nA) (nI nC) (nI cp) (nI dn) (nI op) bd (nI l') lk' lc la lt le st' tg' f0' f1' kd tx ts ta gv gt rh ft fa ca vt ag tc lg') :
    wX_matchPattern_12 post (nI p) (N + 1) (nI sk) (nI i) (nI ar) (nI cap) (nI n) (nI nT) (nI nA) (nI nC) (nI cp) (nI dn) (nI op) bd (nI l) lk lc la lt le st tg f0 f1 kd tx ts ta gv gt rh ft fa ca vt ag tc lg := by
  have c1 : (nI p).toNatClampNeg = p := nI_clamp (by omega)
  have c2 : (nI i).toNatClampNeg = i := nI_clamp (by omega)
  have v2 : vp_in (nI i) 64 := vp_in_nI (by omega) (by omega)
  have K : wX_matchPattern_76 post (wX_matchPattern_12 post (nI p) N) (nI p) (nI sk) (nI i) (kd i) (nI c) (nI ar) (nI cap) (nI n) (nI nT) (nI nA) (nI nC) (nI cp) (nI dn) (nI op) bd (nI l) lk lc la lt le st tg f0 f1 kd tx ts ta gv gt rh ft fa ca vt ag tc lg := by
    unfold wX_matchPattern_76
    refine hF _ ?_
    exact br_c h0 h1
  rw [wX_matchPattern_12]
  refine ⟨vp_in_nI hp (by omega), br_f (by rw [c1, he]; exact nI_ge hi (by omega)) (br_t (nI_le hs (by omega)) ⟨v2, nm_r (e' := kd i) (by rw [c2]) ⟨v2, nm_r (e' := nI c) (by rw [c2]; exact hc) ?_⟩⟩)⟩
  rcases hk with hk | hk
  · exact br_f (by rw [hk]; decide) (br_t hk K)
  · exact br_f (by rw [hk]; decide) (br_f (by rw [hk]; decide) (br_t hk K))
theorem xm_bang {post : Int32 → St2 → Prop} {J : Int32 → Int32 → Int32 → Int32 → Int32 → Int32 → Int32 → Int32 → Int32 → Int32 → Int32 → Int32 → Int32 → Int32 → Int32 → Int32 → Int32 → Int32 → (Nat → Int32) → (Nat → Int32) → (Nat → Int32) → (Nat → Int32) → (Nat → Int32) → (Nat → Int32) → (Nat → Int32) → (Nat → Int32) → (Nat → Int32) → (Nat → Int32) → (Nat → Int32) → (Nat → Int32) → (Nat → Int32) → (Nat → Int32) → (Nat → Int32) → (Nat → Int32) → (Nat → Int32) → (Nat → Int32) → Prop} {p i c l sk : Nat} {x1 : Int32} {st tg f0 f1 tc lg : Nat → Int32} (hi : i + 1 < 64) (h : J (nI sk) (nI (i + 1)) (nI ar) (nI cap) (nI n) (nI nT) (nI nA) (nI nC) (nI cp) (nI dn) (nI op) bd (nI l) lk lc la lt le st tg f0 f1 kd tx ts ta gv gt rh ft fa ca vt ag (upd tc (i + 1) (nI c)) lg) :
    wX_matchPattern_87 post J x1 (nI sk) (nI i) 3 (nI c) (nI ar) (nI cap) (nI n) (nI nT) (nI nA) (nI nC) (nI cp) (nI dn) (nI op) bd (nI l) lk lc la lt le st tg f0 f1 kd tx ts ta gv gt rh ft fa ca vt ag tc lg := by
  have e1 : nI i + 1 = nI (i + 1) := nI_1 i
  have c2 : (nI i + 1).toNatClampNeg = i + 1 := by rw [e1]; exact nI_clamp (by omega)
  have v2 : vp_in (nI i + 1) 64 := by rw [e1]; exact vp_in_nI hi (by omega)
  exact br_t rfl ⟨v2, nm_r (e' := upd tc (i + 1) (nI c)) (by rw [c2]) (br_f (by decide) (nm_r e1 h))⟩
theorem xm_ne {post : Int32 → St2 → Prop} {J : Int32 → Int32 → Int32 → Int32 → Int32 → Int32 → Int32 → Int32 → Int32 → Int32 → Int32 → Int32 → Int32 → Int32 → Int32 → Int32 → Int32 → Int32 → (Nat → Int32) → (Nat → Int32) → (Nat → Int32) → (Nat → Int32) → (Nat → Int32) → (Nat → Int32) → (Nat → Int32) → (Nat → Int32) → (Nat → Int32) → (Nat → Int32) → (Nat → Int32) → (Nat → Int32) → (Nat → Int32) → (Nat → Int32) → (Nat → Int32) → (Nat → Int32) → (Nat → Int32) → (Nat → Int32) → Prop} {p i c l sk : Nat} {x1 : Int32} {st tg f0 f1 tc lg : Nat → Int32} (hc : c < 32) (hi : i < 64) (hne : ¬ tg c = tx i) (h : post 0 ((nI ar), (nI cap), (nI n), (nI nT), (nI nA), (nI nC), (nI cp), (nI dn), (nI op), bd, (nI l), lk, lc, la, lt, le, st, tg, f0, f1, kd, tx, ts, ta, gv, gt, rh, ft, fa, ca, vt, ag, tc, lg)) :
    wX_matchPattern_87 post J x1 (nI sk) (nI i) 2 (nI c) (nI ar) (nI cap) (nI n) (nI nT) (nI nA) (nI nC) (nI cp) (nI dn) (nI op) bd (nI l) lk lc la lt le st tg f0 f1 kd tx ts ta gv gt rh ft fa ca vt ag tc lg := by
  have c1 : (nI c).toNatClampNeg = c := nI_clamp (by omega)
  have c2 : (nI i).toNatClampNeg = i := nI_clamp (by omega)
  exact br_f (by decide) (br_t rfl ⟨vp_in_nI hc (by omega), vp_in_nI hi (by omega), br_f (by rw [c1, c2]; exact hne) h⟩)
theorem xm_con {post : Int32 → St2 → Prop} {J : Int32 → Int32 → Int32 → Int32 → Int32 → Int32 → Int32 → Int32 → Int32 → Int32 → Int32 → Int32 → Int32 → Int32 → Int32 → Int32 → Int32 → Int32 → (Nat → Int32) → (Nat → Int32) → (Nat → Int32) → (Nat → Int32) → (Nat → Int32) → (Nat → Int32) → (Nat → Int32) → (Nat → Int32) → (Nat → Int32) → (Nat → Int32) → (Nat → Int32) → (Nat → Int32) → (Nat → Int32) → (Nat → Int32) → (Nat → Int32) → (Nat → Int32) → (Nat → Int32) → (Nat → Int32) → Prop} {p i c l sk : Nat} {x1 : Int32} {st tg f0 f1 tc tc' lg : Nat → Int32} (hc : c < 32) (hi : i < 64) (heq : tg c = tx i)
    (hH : ∀ post' : St2 → Prop, post' ((nI ar), (nI cap), (nI n), (nI nT), (nI nA), (nI nC), (nI cp), (nI dn), (nI op), bd, (nI l), lk, lc, la, lt, le, st, tg, f0, f1, kd, tx, ts, ta, gv, gt, rh, ft, fa, ca, vt, ag, tc', lg) → wpX_handFieldsOn post' ((nI ar), (nI cap), (nI n), (nI nT), (nI nA), (nI nC), (nI cp), (nI dn), (nI op), bd, (nI l), lk, lc, la, lt, le, st, tg, f0, f1, kd, tx, ts, ta, gv, gt, rh, ft, fa, ca, vt, ag, tc, lg) (nI i) (nI c)) (h : J (nI sk) (nI (i + 1)) (nI ar) (nI cap) (nI n) (nI nT) (nI nA) (nI nC) (nI cp) (nI dn) (nI op) bd (nI l) lk lc la lt le st tg f0 f1 kd tx ts ta gv gt rh ft fa ca vt ag tc' lg) :
    wX_matchPattern_87 post J x1 (nI sk) (nI i) 2 (nI c) (nI ar) (nI cap) (nI n) (nI nT) (nI nA) (nI nC) (nI cp) (nI dn) (nI op) bd (nI l) lk lc la lt le st tg f0 f1 kd tx ts ta gv gt rh ft fa ca vt ag tc lg := by
  have c1 : (nI c).toNatClampNeg = c := nI_clamp (by omega)
  have c2 : (nI i).toNatClampNeg = i := nI_clamp (by omega)
  refine br_f (by decide) (br_t rfl ⟨vp_in_nI hc (by omega), vp_in_nI hi (by omega), br_t (by rw [c1, c2]; exact heq) (hH _ ?_)⟩)
  exact nm_r (nI_1 i) h
theorem xh_0 {post : St2 → Prop} {i c l : Nat} {st tg f0 f1 tc lg : Nat → Int32} (hi : i < 64) (hs : ts i = 0) (h : post ((nI ar), (nI cap), (nI n), (nI nT), (nI nA), (nI nC), (nI cp), (nI dn), (nI op), bd, (nI l), lk, lc, la, lt, le, st, tg, f0, f1, kd, tx, ts, ta, gv, gt, rh, ft, fa, ca, vt, ag, tc, lg)) : wpX_handFieldsOn post ((nI ar), (nI cap), (nI n), (nI nT), (nI nA), (nI nC), (nI cp), (nI dn), (nI op), bd, (nI l), lk, lc, la, lt, le, st, tg, f0, f1, kd, tx, ts, ta, gv, gt, rh, ft, fa, ca, vt, ag, tc, lg) (nI i) (nI c) := by
  have c2 : (nI i).toNatClampNeg = i := nI_clamp (by omega)
  have v2 : vp_in (nI i) 64 := vp_in_nI hi (by omega)
  exact ⟨v2, br_t (by rw [c2, hs]; decide) ⟨v2, br_f (by rw [c2, hs]; decide) h⟩⟩
theorem xh_1 {post : St2 → Prop} {i c l : Nat} {st tg f0 f1 tc lg : Nat → Int32} (hi : i + 1 < 64) (hc : c < 32) (hs : ts i = 1) (h : post ((nI ar), (nI cap), (nI n), (nI nT), (nI nA), (nI nC), (nI cp), (nI dn), (nI op), bd, (nI l), lk, lc, la, lt, le, st, tg, f0, f1, kd, tx, ts, ta, gv, gt, rh, ft, fa, ca, vt, ag, (upd tc (i + 1) (f0 c)), lg)) : wpX_handFieldsOn post ((nI ar), (nI cap), (nI n), (nI nT), (nI nA), (nI nC), (nI cp), (nI dn), (nI op), bd, (nI l), lk, lc, la, lt, le, st, tg, f0, f1, kd, tx, ts, ta, gv, gt, rh, ft, fa, ca, vt, ag, tc, lg) (nI i) (nI c) := by
  have c1 : (nI c).toNatClampNeg = c := nI_clamp (by omega)
  have c2 : (nI i).toNatClampNeg = i := nI_clamp (by omega)
  have v2 : vp_in (nI i) 64 := vp_in_nI (by omega) (by omega)
  have e1 : nI i + 1 = nI (i + 1) := nI_1 i
  have c3 : (nI i + 1).toNatClampNeg = i + 1 := by rw [e1]; exact nI_clamp (by omega)
  have v3 : vp_in (nI i + 1) 64 := by rw [e1]; exact vp_in_nI hi (by omega)
  exact ⟨v2, br_f (by rw [c2, hs]; decide) ⟨vp_in_nI hc (by omega), v3, nm_r (e' := upd tc (i + 1) (f0 c)) (by rw [c1, c3]) ⟨v2, br_f (by rw [c2, hs]; decide) h⟩⟩⟩
theorem xh_2 {post : St2 → Prop} {i c f l : Nat} {st tg f0 f1 tc lg : Nat → Int32} (hi : i + 1 < 64) (hc : c < 32) (hs : ts i = 2) (hf : ta (i + 1) = nI f) (hf64 : f < 64) (h : post ((nI ar), (nI cap), (nI n), (nI nT), (nI nA), (nI nC), (nI cp), (nI dn), (nI op), bd, (nI l), lk, lc, la, lt, le, st, tg, f0, f1, kd, tx, ts, ta, gv, gt, rh, ft, fa, ca, vt, ag, (upd (upd tc (i + 1) (f0 c)) f (f1 c)), lg)) : wpX_handFieldsOn post ((nI ar), (nI cap), (nI n), (nI nT), (nI nA), (nI nC), (nI cp), (nI dn), (nI op), bd, (nI l), lk, lc, la, lt, le, st, tg, f0, f1, kd, tx, ts, ta, gv, gt, rh, ft, fa, ca, vt, ag, tc, lg) (nI i) (nI c) := by
  have c1 : (nI c).toNatClampNeg = c := nI_clamp (by omega)
  have c2 : (nI i).toNatClampNeg = i := nI_clamp (by omega)
  have v1 : vp_in (nI c) 32 := vp_in_nI hc (by omega)
  have v2 : vp_in (nI i) 64 := vp_in_nI (by omega) (by omega)
  have e1 : nI i + 1 = nI (i + 1) := nI_1 i
  have c3 : (nI i + 1).toNatClampNeg = i + 1 := by rw [e1]; exact nI_clamp (by omega)
  have v3 : vp_in (nI i + 1) 64 := by rw [e1]; exact vp_in_nI hi (by omega)
  have c4 : (ta (nI i + 1).toNatClampNeg).toNatClampNeg = f := by rw [c3, hf]; exact nI_clamp (by omega)
  have v4 : vp_in (ta (nI i + 1).toNatClampNeg) 64 := by rw [c3, hf]; exact vp_in_nI hf64 (by omega)
  exact ⟨v2, br_f (by rw [c2, hs]; decide) ⟨v1, v3, nm_r (e' := upd tc (i + 1) (f0 c)) (by rw [c1, c3]) ⟨v2, br_t (by rw [c2, hs]) ⟨v3, v1, v4, nm_r (e' := upd (upd tc (i + 1) (f0 c)) f (f1 c)) (by rw [c1, c4]) h⟩⟩⟩⟩
end
