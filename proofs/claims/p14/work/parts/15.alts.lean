/-! the alternatives of a clause in lockstep -/
def rv_ok (c : Nat) (lk la lt le er K q6 q7 q8 q9 q10 : Int32) : Prop :=
  (lk = 5 ∧ lt = -1 ∧ le = -1 ∧ er = 0 ∧ K = 1 ∧ q6 = -1 ∧ q7 = -1 ∧ q8 = -1 ∧ q9 = -1 ∧ q10 = 0) ∨ (lk = K ∧ K ≠ 5 ∧ K ≠ 1 ∧ q6 = nI c ∧ q7 = la ∧ q8 = lt ∧ q9 = le ∧ q10 = 1 ∧ (K ≠ 0 → lt = -1 ∧ le = -1))
theorem fo_6 {e : Nat} (h : e = 2 ∨ e = 3 ∨ e = 4) : fo_k e 5 = nI e ∧ ¬ nI e = 5 ∧ ¬ nI e = 1 ∧ ¬ nI e = 0 ∧ e ≠ 0 := by
  rcases h with h | h | h <;> subst h <;> exact ⟨by decide, by decide, by decide, by decide, by decide⟩
theorem nI_nm1 {d : Nat} (h : d < 2 ^ 31) : ¬ nI d = -1 := fun z => by
  have := nI_pos (n := d) h
  rw [z] at this
  exact this (by decide)
section
variable {ar cap n nT nA nC cp dn op : Nat} {bd lk lc la lt le : Int32} {kd tx ts ta gv gt rh ft fa ca vt ag : Nat → Int32}
theorem xt_x {post : St2 → Prop} {c i N l : Nat} {st tg f0 f1 tc lg : Nat → Int32} (hc8 : c < 8) (h5 : ¬ lk = 5) (h : post ((nI ar), (nI cap), (nI n), (nI nT), (nI nA), (nI nC), (nI cp), (nI dn), (nI op), bd, (nI l), lk, lc, la, lt, le, st, tg, f0, f1, kd, tx, ts, ta, gv, gt, rh, ft, fa, ca, vt, ag, tc, lg)) : wX_tryAlternatives_2 post (nI c) (N + 1) (nI i) (nI ar) (nI cap) (nI n) (nI nT) (nI nA) (nI nC) (nI cp) (nI dn) (nI op) bd (nI l) lk lc la lt le st tg f0 f1 kd tx ts ta gv gt rh ft fa ca vt ag tc lg := by
  rw [wX_tryAlternatives_2]
  exact ⟨vp_in_nI hc8 (by omega), br_c (fun _ => h) (fun _ => br_f h5 h)⟩
/-- the alternative is taken -/
theorem ch_1 {c i l : Nat} {T A E : Nat → Nat} {st tg f0 f1 lg tc ch de si sP sV : Nat → Int32} (hn : n ≤ 32) (hpg : pg_ok ar nC nT nA kd tx ts vt ft fa ca gv rh T A) (hc8 : c < nC) (cx : cx_ok nT (T c) (T (c + 1)) kd tx ts ta E) (hi : A c + i < A (c + 1))
    (hok : hp_ok n st tg f0 f1) (hl : l + cu_n (hp_u st (fun _ => 0)) n ≤ 32) (hB : bs_I n (T c) (T (c + 1)) kd tx E tc de si) :
    ∃ (l' : Nat) (st' tg' f0' f1' lg' tc' ch' de' si' sP' sV' : Nat → Int32) (lk' lt' le' er' : Int32), hp_ok n st' tg' f0' f1' ∧ l' ≤ 32 ∧ lk' ≠ 5 ∧ lk' ≠ 1 ∧ (lk' ≠ 0 → lt' = -1 ∧ le' = -1) ∧
      (∀ post : St2 → Prop, post ((nI ar), (nI cap), (nI n), (nI nT), (nI nA), (nI nC), (nI cp), (nI dn), (nI op), bd, (nI l'), lk', lc, (nI i), lt', le', st', tg', f0', f1', kd, tx, ts, ta, gv, gt, rh, ft, fa, ca, vt, ag, tc', lg') → wpX_choose post ((nI ar), (nI cap), (nI n), (nI nT), (nI nA), (nI nC), (nI cp), (nI dn), (nI op), bd, (nI l), 5, lc, (nI i), (-1), (-1), st, tg, f0, f1, kd, tx, ts, ta, gv, gt, rh, ft, fa, ca, vt, ag, tc, lg) (nI c) (nI (A c + i))) := by
  have o := hpg.2.2.2.2.2.2.2.2 c hc8
  have hC := hpg.1
  have hA16 := hpg.2.2.1
  have oA := o.2.2.2.1
  obtain ⟨_, rr, hr11, hrr, hrv⟩ := o.2.2.2.2.2.2.2.2.2 (A c + i) (by omega) hi
  have c1 : (nI c).toNatClampNeg = c := nI_clamp (by omega)
  have vc : vp_in (nI c) 8 := vp_in_nI (by omega) (by omega)
  have cj : (nI (A c + i)).toNatClampNeg = A c + i := nI_clamp (by omega)
  have vj : vp_in (nI (A c + i)) 16 := vp_in_nI (by omega) (by omega)
  have eR : rh (nI (A c + i)).toNatClampNeg = nI rr := by rw [cj]; exact hrr
  have e7 : nI (A c + i) - fa (nI c).toNatClampNeg = nI i := by
    rw [c1, o.2.2.2.2.2.1, pk_sub (by omega)]
    exact congrArg nI (by omega)
  by_cases h8 : rr < 8
  · obtain ⟨w, w1, w2, w3, w4⟩ := hrv h8
    obtain ⟨e, d, l', st', tg', f0', f1', lg', tc', ch', de', si', sP', sV', ho, hX⟩ := dd_go (ar := ar) (cap := cap) (nT := nT) (nA := nA) (nC := nC) (cp := cp) (dn := dn) (op := op) (bd := bd) (kd := kd) (tx := tx) (ts := ts) (ta := ta) (gv := gv) (gt := gt) (rh := rh) (ft := ft) (fa := fa) (ca := ca) (vt := vt) (ag := ag) (lc := lc) (la := nI i) (lt := -1) (le := -1) (lg := lg) (ch := ch) (sP := sP) (sV := sV) hn hpg hc8 cx w1 w2 w3 h8 w4 hok hl hB
    have r8 : rh (nI (A c + i)).toNatClampNeg < 8 := by rw [eR]; exact nI_lt (b := 8) h8 (by omega)
    by_cases ez : e = 0
    · subst ez
      obtain ⟨hdn, _, _⟩ := ho.2.2.2 rfl
      have cd : (nI d).toNatClampNeg = d := nI_clamp (by omega)
      have vd : vp_in (nI d) 32 := vp_in_nI (by omega) (by omega)
      refine ⟨l', st', tg', f0', f1', lg', tc', ch', de', si', sP', sV', 0, tg' d, nI d, 0, ho.1, ho.2.1, by decide, by decide, fun z => absurd rfl z, fun post hp => ?_⟩
      · refine ⟨vj, br_t r8 ⟨vj, hX _ _ eR ?_⟩⟩
        exact br_f (nI_nm1 (by omega)) ⟨vd, nm_r (e' := tg' d) (by show tg' (nI d).toNatClampNeg = _; rw [cd]) hp⟩
    · have h6 := fo_6 (e := e) (by have := ho.2.2.1; omega)
      have dr : do_r e d = -1 := if_neg ez
      refine ⟨l', st', tg', f0', f1', lg', tc', ch', de', si', sP', sV', nI e, -1, -1, nI e, ho.1, ho.2.1, h6.2.1, h6.2.2.1, fun _ => ⟨rfl, rfl⟩, fun post hp => ?_⟩
      · refine ⟨vj, br_t r8 ⟨vj, hX _ _ eR ?_⟩⟩
        rw [← h6.1] at hp
        exact br_t dr hp
  · have r8 : ¬ rh (nI (A c + i)).toNatClampNeg < 8 := by rw [eR]; exact nI_nlt (b := 8) (by omega) (by omega)
    refine ⟨l, st, tg, f0, f1, lg, tc, ch, de, si, sP, sV, 0, nI rr - 8, -1, 0, hok, by omega, by decide, by decide, fun z => absurd rfl z, fun post hp => ?_⟩
    · exact ⟨vj, br_f r8 ⟨vj, nm_r (e' := nI rr - 8) (by rw [eR]) hp⟩⟩
theorem al_1 {c : Nat} {T A E : Nat → Nat} (hn : n ≤ 32) (hpg : pg_ok ar nC nT nA kd tx ts vt ft fa ca gv rh T A) (hc8 : c < nC) (cx : cx_ok nT (T c) (T (c + 1)) kd tx ts ta E) :
    ∀ (r i l : Nat) (la : Int32) (st tg f0 f1 lg tc ch de si sP sV : Nat → Int32), A c + i + r = A (c + 1) → hp_ok n st tg f0 f1 → l + cu_n (hp_u st (fun _ => 0)) n ≤ 32 → bs_I n (T c) (T (c + 1)) kd tx E tc de si →
      ∃ (l' : Nat) (st' tg' f0' f1' lg' tc' ch' de' si' sP' sV' : Nat → Int32) (lk' la' lt' le' er' K q6 q7 q8 q9 q10 : Int32), hp_ok n st' tg' f0' f1' ∧ l' ≤ 32 ∧ (lk' = 5 → l' + cu_n (hp_u st' (fun _ => 0)) n ≤ 32) ∧ rv_ok c lk' la' lt' le' er' K q6 q7 q8 q9 q10 ∧
      (∀ (post : St2 → Prop) (N : Nat), r + 1 < N → post ((nI ar), (nI cap), (nI n), (nI nT), (nI nA), (nI nC), (nI cp), (nI dn), (nI op), bd, (nI l'), lk', (nI c), la', lt', le', st', tg', f0', f1', kd, tx, ts, ta, gv, gt, rh, ft, fa, ca, vt, ag, tc', lg') → wX_tryAlternatives_2 post (nI c) N (nI i) (nI ar) (nI cap) (nI n) (nI nT) (nI nA) (nI nC) (nI cp) (nI dn) (nI op) bd (nI l) 5 (nI c) la (-1) (-1) st tg f0 f1 kd tx ts ta gv gt rh ft fa ca vt ag tc lg) := by
  intro r
  have o := hpg.2.2.2.2.2.2.2.2 c hc8
  have hC := hpg.1
  have hA16 := hpg.2.2.1
  have oA := o.2.2.2.1
  have c1 : (nI c).toNatClampNeg = c := nI_clamp (by omega)
  have vc : vp_in (nI c) 8 := vp_in_nI (by omega) (by omega)
  have eca : ca (nI c).toNatClampNeg = nI (A (c + 1) - A c) := by rw [c1]; exact o.2.2.2.2.2.2.1
  induction r with
  | zero =>
    intro i l la st tg f0 f1 lg tc ch de si sP sV hir hok hl hB
    refine ⟨l, st, tg, f0, f1, lg, tc, ch, de, si, sP, sV, 5, la, -1, -1, 0, 1, -1, -1, -1, -1, 0, hok, by omega, fun _ => hl, Or.inl ⟨rfl, rfl, rfl, rfl, rfl, rfl, rfl, rfl, rfl, rfl⟩, fun post N hN hp => ?_⟩
    · obtain ⟨N, rfl⟩ : ∃ N', N = N' + 1 := ⟨N - 1, by omega⟩
      rw [wX_tryAlternatives_2]
      exact ⟨vc, br_t (by rw [eca]; exact nI_le (by omega) (by omega)) hp⟩
  | succ r ih =>
    intro i l la st tg f0 f1 lg tc ch de si sP sV hir hok hl hB
    obtain ⟨hgv, _⟩ := o.2.2.2.2.2.2.2.2.2 (A c + i) (by omega) (by omega)
    have cj : (nI (A c + i)).toNatClampNeg = A c + i := nI_clamp (by omega)
    have vj : vp_in (nI (A c + i)) 16 := vp_in_nI (by omega) (by omega)
    have e3 : fa (nI c).toNatClampNeg + nI i = nI (A c + i) := by rw [c1, o.2.2.2.2.2.1, nI_add]
    have e7 : nI (A c + i) - fa (nI c).toNatClampNeg = nI i := by
      rw [c1, o.2.2.2.2.2.1, pk_sub (by omega)]
      exact congrArg nI (by omega)
    have nca : ¬ ca (nI c).toNatClampNeg ≤ nI i := by rw [eca]; exact nI_ge (by omega) (by omega)
    have nae : ¬ nI (A (c + 1)) ≤ nI (A c + i) := nI_ge (by omega) (by omega)
    rcases hgv with hg | ⟨x, hx8, hgx, w, w1, w2, w3, w4⟩
    · -- no guard
      obtain ⟨l', st', tg', f0', f1', lg', tc', ch', de', si', sP', sV', lk', lt', le', er', k1, k2, k3, k4, k5, hX⟩ := ch_1 (ar := ar) (cap := cap) (nT := nT) (nA := nA) (nC := nC) (cp := cp) (dn := dn) (op := op) (bd := bd) (kd := kd) (tx := tx) (ts := ts) (ta := ta) (gv := gv) (gt := gt) (rh := rh) (ft := ft) (fa := fa) (ca := ca) (vt := vt) (ag := ag) (lc := nI c) (lg := lg) (ch := ch) (sP := sP) (sV := sV) hn hpg hc8 cx (show A c + i < A (c + 1) by omega) hok hl hB
      have eG : gv (nI (A c + i)).toNatClampNeg = -1 := by rw [cj]; exact hg
      refine ⟨l', st', tg', f0', f1', lg', tc', ch', de', si', sP', sV', lk', nI i, lt', le', er', lk', nI c, nI i, lt', le', 1, k1, k2, fun z => absurd z k3, Or.inr ⟨rfl, k3, k4, rfl, rfl, rfl, rfl, rfl, k5⟩, fun post N hN hp => ?_⟩
      · obtain ⟨N, rfl⟩ : ∃ N', N = N' + 2 := ⟨N - 2, by omega⟩
        rw [wX_tryAlternatives_2]
        refine ⟨vc, br_f nca (br_t rfl ⟨vc, nm_r e3 ⟨vj, br_t eG (br_f (by decide) (hX _ ?_))⟩⟩)⟩
        exact nm_r (nI_1 i) (xt_x (by omega) k3 hp)
    · obtain ⟨e, d, l1, st1, tg1, f01, f11, lg1, tc1, ch1, de1, si1, sP1, sV1, ho, dX⟩ := dd_go (ar := ar) (cap := cap) (nT := nT) (nA := nA) (nC := nC) (cp := cp) (dn := dn) (op := op) (bd := bd) (kd := kd) (tx := tx) (ts := ts) (ta := ta) (gv := gv) (gt := gt) (rh := rh) (ft := ft) (fa := fa) (ca := ca) (vt := vt) (ag := ag) (lc := nI c) (la := nI i) (lt := -1) (le := -1) (lg := lg) (ch := ch) (sP := sP) (sV := sV) hn hpg hc8 cx w1 w2 w3 hx8 w4 hok hl hB
      have eG : gv (nI (A c + i)).toNatClampNeg = nI x := by rw [cj]; exact hgx
      have nG : ¬ gv (nI (A c + i)).toNatClampNeg = -1 := by rw [eG]; exact nI_nm1 (by omega)
      by_cases ez : e = 0
      · subst ez
        obtain ⟨hdn, hl1, hsy⟩ := ho.2.2.2 rfl
        have hB1 := bs_p hB hsy
        have cd : (nI d).toNatClampNeg = d := nI_clamp (by omega)
        have vd : vp_in (nI d) 32 := vp_in_nI (by omega) (by omega)
        by_cases ht : tg1 d = gt (A c + i)
        · -- the guard holds
          have eT : tg1 (nI d).toNatClampNeg = gt (nI (A c + i)).toNatClampNeg := by rw [cd, cj]; exact ht
          obtain ⟨l', st', tg', f0', f1', lg', tc', ch', de', si', sP', sV', lk', lt', le', er', k1, k2, k3, k4, k5, hX⟩ := ch_1 (ar := ar) (cap := cap) (nT := nT) (nA := nA) (nC := nC) (cp := cp) (dn := dn) (op := op) (bd := bd) (kd := kd) (tx := tx) (ts := ts) (ta := ta) (gv := gv) (gt := gt) (rh := rh) (ft := ft) (fa := fa) (ca := ca) (vt := vt) (ag := ag) (lc := nI c) (lg := lg1) (ch := ch1) (sP := sP1) (sV := sV1) hn hpg hc8 cx (show A c + i < A (c + 1) by omega) ho.1 hl1 hB1
          refine ⟨l', st', tg', f0', f1', lg', tc', ch', de', si', sP', sV', lk', nI i, lt', le', er', lk', nI c, nI i, lt', le', 1, k1, k2, fun z => absurd z k3, Or.inr ⟨rfl, k3, k4, rfl, rfl, rfl, rfl, rfl, k5⟩, fun post N hN hp => ?_⟩
          · obtain ⟨N, rfl⟩ : ∃ N', N = N' + 2 := ⟨N - 2, by omega⟩
            rw [wX_tryAlternatives_2]
            refine ⟨vc, br_f nca (br_t rfl ⟨vc, nm_r e3 ⟨vj, br_f nG ⟨vj, dX _ _ eG ?_⟩⟩⟩)⟩
            refine br_f (nI_nm1 (by omega)) ⟨vd, vj, br_t eT (br_f (by decide) (hX _ ?_))⟩
            exact nm_r (nI_1 i) (xt_x (by omega) k3 hp)
        · -- the guard fails
          have eT : ¬ tg1 (nI d).toNatClampNeg = gt (nI (A c + i)).toNatClampNeg := by rw [cd, cj]; exact ht
          obtain ⟨l', st', tg', f0', f1', lg', tc', ch', de', si', sP', sV', lk', la', lt', le', er', K, q6, q7, q8, q9, q10, k1, k2, k3, k4, hX⟩ := ih (i + 1) l1 (nI i) st1 tg1 f01 f11 lg1 tc1 ch1 de1 si1 sP1 sV1 (by omega) ho.1 hl1 hB1
          refine ⟨l', st', tg', f0', f1', lg', tc', ch', de', si', sP', sV', lk', la', lt', le', er', K, q6, q7, q8, q9, q10, k1, k2, k3, k4, fun post N hN hp => ?_⟩
          · obtain ⟨N, rfl⟩ : ∃ N', N = N' + 1 := ⟨N - 1, by omega⟩
            have hX' := hX post N (by omega) hp
            rw [wX_tryAlternatives_2]
            refine ⟨vc, br_f nca (br_t rfl ⟨vc, nm_r e3 ⟨vj, br_f nG ⟨vj, dX _ _ eG ?_⟩⟩⟩)⟩
            exact br_f (nI_nm1 (by omega)) ⟨vd, vj, br_f eT (br_t rfl (nm_r (nI_1 i) hX'))⟩
      · -- the guard's demand ended the run
        have h6 := fo_6 (e := e) (by have := ho.2.2.1; omega)
        have dr : do_r e d = -1 := if_neg ez
        refine ⟨l1, st1, tg1, f01, f11, lg1, tc1, ch1, de1, si1, sP1, sV1, nI e, nI i, -1, -1, nI e, nI e, nI c, nI i, -1, -1, 1, ho.1, ho.2.1, fun z => absurd z h6.2.1, Or.inr ⟨rfl, h6.2.1, h6.2.2.1, rfl, rfl, rfl, rfl, rfl, fun _ => ⟨rfl, rfl⟩⟩, fun post N hN hp => ?_⟩
        · obtain ⟨N, rfl⟩ : ∃ N', N = N' + 2 := ⟨N - 2, by omega⟩
          rw [← h6.1] at hp
          rw [wX_tryAlternatives_2]
          refine ⟨vc, br_f nca (br_t rfl ⟨vc, nm_r e3 ⟨vj, br_f nG ⟨vj, dX _ _ eG ?_⟩⟩⟩)⟩
          exact br_t dr (br_t rfl (nm_r (nI_1 i) (xt_x (by omega) (by rw [h6.1]; exact h6.2.1) hp)))
end
