/-! a run in lockstep -/
section
variable {ar cap n nT nA nC cp dn op : Nat} {bd lk lc la lt le : Int32} {kd tx ts ta gv gt rh ft fa ca vt ag : Nat → Int32}
theorem xr_fin {post : Int32 → St2 → Prop} {x5 : Int32} {N l : Nat} {st tg f0 f1 tc lg : Nat → Int32} (h5 : ¬ lk = 5) (h : post lk ((nI ar), (nI cap), (nI n), (nI nT), (nI nA), (nI nC), (nI cp), (nI dn), (nI op), bd, (nI l), lk, lc, la, lt, le, st, tg, f0, f1, kd, tx, ts, ta, gv, gt, rh, ft, fa, ca, vt, ag, tc, lg)) : wX_run_72 post (N + 1) x5 (nI ar) (nI cap) (nI n) (nI nT) (nI nA) (nI nC) (nI cp) (nI dn) (nI op) bd (nI l) lk lc la lt le st tg f0 f1 kd tx ts ta gv gt rh ft fa ca vt ag tc lg := by
  rw [wX_run_72]
  exact br_c (fun _ => br_f h5 h) (fun _ => br_f h5 (br_f h5 h))
theorem rn_1 {T A E : Nat → Nat} (hn : n ≤ 32) (hpg : pg_ok ar nC nT nA kd tx ts vt ft fa ca gv rh T A) (hpe : pe_ok ar nC kd tx T) (hE : ∀ q, q < nT → ta q = nI (E q) ∧ ht_E (tk_f kd tx) q (E q)) (har : ar ≤ 3) (hA : ∀ i, i < ar → ∃ a, a < n ∧ ag i = nI a) :
    ∀ (r c l : Nat) (lc la : Int32) (st tg f0 f1 lg tc ch de si sP sV : Nat → Int32), c + r = nC → hp_ok n st tg f0 f1 → l + cu_n (hp_u st (fun _ => 0)) n ≤ 32 →
      ∃ (l' : Nat) (st' tg' f0' f1' lg' tc' ch' de' si' sP' sV' : Nat → Int32) (lk' lc' la' lt' le' : Int32), hp_ok n st' tg' f0' f1' ∧ l' ≤ 32 ∧
      (∀ (post : Int32 → St2 → Prop) (N : Nat), r + 1 < N → post lk' ((nI ar), (nI cap), (nI n), (nI nT), (nI nA), (nI nC), (nI cp), (nI dn), (nI op), bd, (nI l'), lk', lc', la', lt', le', st', tg', f0', f1', kd, tx, ts, ta, gv, gt, rh, ft, fa, ca, vt, ag, tc', lg') → wX_run_72 post N (nI c) (nI ar) (nI cap) (nI n) (nI nT) (nI nA) (nI nC) (nI cp) (nI dn) (nI op) bd (nI l) 5 lc la (-1) (-1) st tg f0 f1 kd tx ts ta gv gt rh ft fa ca vt ag tc lg) := by
  intro r
  have hC := hpg.1
  induction r with
  | zero =>
    intro c l lc la st tg f0 f1 lg tc ch de si sP sV hcr hok hl
    refine ⟨l, st, tg, f0, f1, lg, tc, ch, de, si, sP, sV, 1, -1, -1, -1, -1, hok, by omega, fun post N hN hp => ?_⟩
    · obtain ⟨N, rfl⟩ : ∃ N', N = N' + 1 := ⟨N - 1, by omega⟩
      rw [wX_run_72]
      exact br_t (nI_le (by omega) (by omega)) (br_t rfl hp)
  | succ r ih =>
    intro c l lc la st tg f0 f1 lg tc ch de si sP sV hcr hok hl
    have hc8 : c < nC := by omega
    have cx := pg_cx hpg hpe hE hc8
    have o := hpg.2.2.2.2.2.2.2.2 c hc8
    have c1 : (nI c).toNatClampNeg = c := nI_clamp (by omega)
    have vc : vp_in (nI c) 8 := vp_in_nI (by omega) (by omega)
    have eF : ft (nI c).toNatClampNeg = nI (T c) := by rw [c1]; exact o.2.2.2.2.1
    have nC1 : ¬ nI nC ≤ nI c := nI_ge (by omega) (by omega)
    obtain ⟨bo, e, l1, st1, tg1, f01, f11, lg1, tc1, ch1, de1, si1, sP1, sV1, ho, raX⟩ := ra_1 (ar := ar) (cap := cap) (nT := nT) (nA := nA) (nC := nC) (cp := cp) (dn := dn) (op := op) (bd := bd) (kd := kd) (tx := tx) (ts := ts) (ta := ta) (gv := gv) (gt := gt) (rh := rh) (ft := ft) (fa := fa) (ca := ca) (vt := vt) (ag := ag) (lc := nI c) (la := -1) (lt := -1) (le := -1) hn hpg hpe hc8 cx har hA ar 0 (T c) l st tg f0 f1 lg tc ch de si sP sV (by omega) (Nat.le_refl _) o.1 (by rw [o.2.2.2.2.2.2.2.1]; omega) hok hl (fun q q1 q2 => by omega)
    obtain ⟨hok1, hl1, he1, hv1, hbo⟩ := ho
    rcases hbo with hb0 | ⟨hb1, he0, hB⟩
    · subst hb0
      by_cases ez : e = 0
      · -- the next clause
        subst ez
        obtain ⟨l', st', tg', f0', f1', lg', tc', ch', de', si', sP', sV', lk', lc', la', lt', le', k1, k2, hX⟩ := ih (c + 1) l1 (nI c) (-1) st1 tg1 f01 f11 lg1 tc1 ch1 de1 si1 sP1 sV1 (by omega) hok1 (hv1 rfl)
        refine ⟨l', st', tg', f0', f1', lg', tc', ch', de', si', sP', sV', lk', lc', la', lt', le', k1, k2, fun post N hN hp => ?_⟩
        · obtain ⟨N, rfl⟩ : ∃ N', N = N' + 1 := ⟨N - 1, by omega⟩
          have hX' := hX post N (by omega) hp
          rw [wX_run_72]
          refine br_f nC1 (br_t rfl ⟨vc, nm_r eF ⟨_, raX _ _ (Nat.lt_succ_self _) ?_⟩⟩)
          exact br_t rfl (nm_r (nI_1 c) hX')
      · -- an error
        have h6 := fo_6 (e := e) (by omega)
        refine ⟨l1, st1, tg1, f01, f11, lg1, tc1, ch1, de1, si1, sP1, sV1, nI e, nI c, -1, -1, -1, hok1, hl1, fun post N hN hp => ?_⟩
        · obtain ⟨N, rfl⟩ : ∃ N', N = N' + 2 := ⟨N - 2, by omega⟩
          rw [← h6.1] at hp
          rw [wX_run_72]
          refine br_f nC1 (br_t rfl ⟨vc, nm_r eF ⟨_, raX _ _ (Nat.lt_succ_self _) ?_⟩⟩)
          exact br_t rfl (nm_r (nI_1 c) (xr_fin (by rw [h6.1]; exact h6.2.1) hp))
    · subst hb1
      subst he0
      obtain ⟨l2, st2, tg2, f02, f12, lg2, tc2, ch2, de2, si2, sP2, sV2, lk2, la2, lt2, le2, er2, K, q6, q7, q8, q9, q10, a1, a2, a3, a4, alX⟩ := al_1 (ar := ar) (cap := cap) (nT := nT) (nA := nA) (nC := nC) (cp := cp) (dn := dn) (op := op) (bd := bd) (kd := kd) (tx := tx) (ts := ts) (ta := ta) (gv := gv) (gt := gt) (rh := rh) (ft := ft) (fa := fa) (ca := ca) (vt := vt) (ag := ag) hn hpg hc8 cx (A (c + 1) - A c) 0 l1 (-1) st1 tg1 f01 f11 lg1 tc1 ch1 de1 si1 sP1 sV1 (by have := o.2.2.1; omega) hok1 (hv1 rfl) hB
      rcases a4 with ⟨b1, b2, b3, b4, b5, b6, b7, b8, b9, b10⟩ | ⟨b1, b2, b3, b4, b5, b6, b7, b8, b9⟩
      · subst b1 b2 b3 b4 b5 b6 b7 b8 b9 b10
        obtain ⟨l', st', tg', f0', f1', lg', tc', ch', de', si', sP', sV', lk', lc', la', lt', le', k1, k2, hX⟩ := ih (c + 1) l2 (nI c) la2 st2 tg2 f02 f12 lg2 tc2 ch2 de2 si2 sP2 sV2 (by omega) a1 (a3 rfl)
        refine ⟨l', st', tg', f0', f1', lg', tc', ch', de', si', sP', sV', lk', lc', la', lt', le', k1, k2, fun post N hN hp => ?_⟩
        · obtain ⟨N, rfl⟩ : ∃ N', N = N' + 1 := ⟨N - 1, by omega⟩
          have hX' := hX post N (by omega) hp
          rw [wX_run_72]
          refine br_f nC1 (br_t rfl ⟨vc, nm_r eF ⟨_, raX _ _ (Nat.lt_succ_self _) ?_⟩⟩)
          refine br_f (by decide) ⟨A (c + 1) - A c + 2, alX _ _ (by omega) ?_⟩
          exact nm_r (nI_1 c) hX'
      · subst b1 b4 b5 b6 b7 b8
        refine ⟨l2, st2, tg2, f02, f12, lg2, tc2, ch2, de2, si2, sP2, sV2, lk2, nI c, q7, q8, q9, a1, a2, fun post N hN hp => ?_⟩
        · obtain ⟨N, rfl⟩ : ∃ N', N = N' + 2 := ⟨N - 2, by omega⟩
          rw [wX_run_72]
          refine br_f nC1 (br_t rfl ⟨vc, nm_r eF ⟨_, raX _ _ (Nat.lt_succ_self _) ?_⟩⟩)
          refine br_f (by decide) ⟨A (c + 1) - A c + 2, alX _ _ (by omega) ?_⟩
          exact nm_r (nI_1 c) (xr_fin b2 hp)
/-- the component's links -/
theorem ln_17 {post : St2 → Prop} {J : Int32 → (Nat → Int32) → (Nat → Int32) → (Nat → Int32) → (Nat → Int32) → (Nat → Int32) → (Nat → Int32) → (Nat → Int32) → (Nat → Int32) → (Nat → Int32) → (Nat → Int32) → (Nat → Int32) → (Nat → Int32) → (Nat → Int32) → (Nat → Int32) → (Nat → Int32) → (Nat → Int32) → (Nat → Int32) → (Nat → Int32) → Prop} {t l : Nat} {e0 : Nat} {st tg f0 f1 tc lg : Nat → Int32} (h64 : nT ≤ 64) (ht : t < nT) (hs : ts t = nI (tk_f kd tx t)) (he0 : e0 ≤ nT) (hE0 : ht_E (tk_f kd tx) t e0)
    (hI : ∀ q, t < q → q < nT → ∃ e, e ≤ nT ∧ ta q = nI e ∧ ht_E (tk_f kd tx) q e)
    (hJ : J (nI t + (-1)) st tg f0 f1 kd tx ts (upd ta t (nI e0)) gv gt rh ft fa ca vt ag tc lg) :
    ∀ (k s a N : Nat), s + k = tk_f kd tx t → k < N → ln_A (tk_f kd tx) t s a → wX_linkTokens_17 post J (nI t) (nI ar) (nI cap) (nI n) (nI nT) (nI nA) (nI nC) (nI cp) (nI dn) (nI op) bd (nI l) lk lc la lt le st tg f0 f1 kd tx ts ta gv gt rh ft fa ca vt ag tc lg N (nI a) (nI s) := by
  intro k
  have ct : (nI t).toNatClampNeg = t := nI_clamp (by omega)
  have vt' : vp_in (nI t) 64 := vp_in_nI (by omega) (by omega)
  have f2 := tk_f2 kd tx t
  have eS : ts (nI t).toNatClampNeg = nI (tk_f kd tx t) := by rw [ct]; exact hs
  induction k with
  | zero =>
    intro s a N h1 h2 h3
    obtain ⟨N, rfl⟩ : ∃ N', N = N' + 1 := ⟨N - 1, by omega⟩
    have e1 : s = tk_f kd tx t := by omega
    subst e1
    have e2 := ht_uniq (ln_e h3) hE0
    subst e2
    rw [wX_linkTokens_17]
    exact ⟨vt', br_t (by rw [eS]; exact nI_le (Nat.le_refl _) (by omega)) ⟨vt', nm_r (e' := upd ta t (nI a)) (by rw [ct]) (nm_e hJ)⟩⟩
  | succ k ih =>
    intro s a N h1 h2 h3
    obtain ⟨N, rfl⟩ : ∃ N', N = N' + 1 := ⟨N - 1, by omega⟩
    have a1 := ln_lt h3 (by omega) hE0
    obtain ⟨e, e1, e2, e3⟩ := hI a h3.1 (by omega)
    have ca' : (nI a).toNatClampNeg = a := nI_clamp (by omega)
    rw [wX_linkTokens_17]
    exact ⟨vt', br_f (by rw [eS]; exact nI_ge (by omega) (by omega)) ⟨vp_in_nI (by omega) (by omega), nm_r (e' := nI e) (by rw [ca']; exact e2) (nm_r (nI_1 s) (ih (s + 1) e N (by omega) (by omega) (ln_s h3 e3)))⟩⟩
theorem ln_7 {post : St2 → Prop} {l : Nat} {st tg f0 f1 tc lg : Nat → Int32} (h64 : nT ≤ 64) (hs : ∀ q, q < nT → ts q = nI (tk_f kd tx q)) (hE : ∀ q, q < nT → ∃ e, e ≤ nT ∧ ht_E (tk_f kd tx) q e)
    (hp : ∀ ta' : Nat → Int32, (∀ q, q < nT → ∃ e, e ≤ nT ∧ ta' q = nI e ∧ ht_E (tk_f kd tx) q e) → post ((nI ar), (nI cap), (nI n), (nI nT), (nI nA), (nI nC), (nI cp), (nI dn), (nI op), bd, (nI l), lk, lc, la, lt, le, st, tg, f0, f1, kd, tx, ts, ta', gv, gt, rh, ft, fa, ca, vt, ag, tc, lg)) :
    ∀ (t N : Nat) (ta : Nat → Int32), t ≤ nT → t < N → (∀ q, t ≤ q → q < nT → ∃ e, e ≤ nT ∧ ta q = nI e ∧ ht_E (tk_f kd tx) q e) → wX_linkTokens_7 post (nI ar) (nI cap) (nI n) (nI nT) (nI nA) (nI nC) (nI cp) (nI dn) (nI op) bd (nI l) lk lc la lt le N (nI t + (-1)) st tg f0 f1 kd tx ts ta gv gt rh ft fa ca vt ag tc lg := by
  intro t
  induction t with
  | zero =>
    intro N ta h1 h2 h3
    obtain ⟨N, rfl⟩ : ∃ N', N = N' + 1 := ⟨N - 1, by omega⟩
    rw [wX_linkTokens_7]
    exact br_t (by decide) (hp ta (fun q hq => h3 q (by omega) hq))
  | succ t ih =>
    intro N ta h1 h2 h3
    obtain ⟨N, rfl⟩ : ∃ N', N = N' + 1 := ⟨N - 1, by omega⟩
    obtain ⟨e0, e1, e2⟩ := hE t (by omega)
    rw [wX_linkTokens_7, pk_m1]
    refine br_f (nI_pos (by omega)) (nm_r (nI_1 t) ⟨tk_f kd tx t + 1, ln_17 h64 (by omega) (hs t (by omega)) e1 e2 (fun q q1 q2 => h3 q (by omega) q2) (ih N (upd ta t (nI e0)) (by omega) (by omega) (fun q q1 q2 => ?_)) (tk_f kd tx t) 0 (t + 1) (tk_f kd tx t + 1) (by omega) (by omega) (ln_0 _ t)⟩)
    by_cases e : q = t
    · subst e
      exact ⟨e0, e1, pk_us, e2⟩
    · rw [pk_un e]
      exact h3 q (by omega) q2
end
