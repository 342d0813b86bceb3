/-! a demand in lockstep -/
def do_r (e d : Nat) : Int32 := if e = 0 then nI d else -1
def do_ok (n b eC : Nat) (kd tx tc0 de0 si0 : Nat → Int32) (e d l : Nat) (st tg f0 f1 tc de si : Nat → Int32) : Prop :=
  hp_ok n st tg f0 f1 ∧ l ≤ 32 ∧ (e = 0 ∨ e = 2 ∨ e = 3 ∨ e = 4) ∧ (e = 0 → d < n ∧ l + cu_n (hp_u st (fun _ => 0)) n ≤ 32 ∧ ∀ q, b ≤ q → q < eC → sy_q n kd tx tc0 de0 si0 q → sy_q n kd tx tc de si q)
theorem fo_5 {e : Nat} (h : e = 2 ∨ e = 3) : ¬ fo_k e 5 = 5 ∧ ¬ nI e = 0 ∧ e ≠ 0 := by
  rcases h with h | h <;> subst h <;> exact ⟨by decide, by decide, by decide⟩
section
variable {ar cap n nT nA nC cp dn op : Nat} {bd lk lc la lt le : Int32} {kd tx ts ta gv gt rh ft fa ca vt ag : Nat → Int32}
theorem dd_1 {b eC w x : Nat} {E : Nat → Nat} (hn : n ≤ 32) (cx : cx_ok nT b eC kd tx ts ta E) (hbw : b ≤ w) (hwe : w < eC) (hkw : kd w = 1) (hx8 : x < 8) (hxw : tx w = nI x) :
    ∀ (r i l : Nat) (st tg f0 f1 lg tc ch de si sP sV : Nat → Int32), i + r = w → b ≤ i → hp_ok n st tg f0 f1 → l + cu_n (hp_u st (fun _ => 0)) n ≤ 32 → dm_I n b eC kd tx E w i tc de si →
      ∃ (e d l' : Nat) (st' tg' f0' f1' lg' tc' ch' de' si' sP' sV' : Nat → Int32), do_ok n b eC kd tx tc de si e d l' st' tg' f0' f1' tc' de' si' ∧
      (∀ (post : Int32 → St2 → Prop) (N : Nat), r < N → post (do_r e d) ((nI ar), (nI cap), (nI n), (nI nT), (nI nA), (nI nC), (nI cp), (nI dn), (nI op), bd, (nI l'), (fo_k e 5), lc, la, lt, le, st', tg', f0', f1', kd, tx, ts, ta, gv, gt, rh, ft, fa, ca, vt, ag, tc', lg') → wX_demand_20 post (nI w) N (nI i) (nI ar) (nI cap) (nI n) (nI nT) (nI nA) (nI nC) (nI cp) (nI dn) (nI op) bd (nI l) 5 lc la lt le st tg f0 f1 kd tx ts ta gv gt rh ft fa ca vt ag tc lg) := by
  intro r
  have h64 := cx.1
  have heC := cx.2.1
  have cw : (nI w).toNatClampNeg = w := nI_clamp (by omega)
  induction r with
  | zero =>
    intro i l st tg f0 f1 lg tc ch de si sP sV hir hbi hok hl hD
    have ei : i = w := by omega
    subst ei
    have sy := dm_e hD hbw hwe
    obtain ⟨d, hdn, hd⟩ := sy.2.2
    have sd := sy.2.1 hkw
    rw [hd, hxw] at sd
    obtain ⟨e1, l1, st1, tg1, f01, f11, lg1, ch1, hfo, fX⟩ := fc_go (ar := ar) (cap := cap) (nT := nT) (nA := nA) (nC := nC) (cp := cp) (dn := dn) (op := op) (bd := bd) (lk := 5) (lc := lc) (la := la) (lt := lt) (le := le) (kd := kd) (tx := tx) (ts := ts) (ta := ta) (gv := gv) (gt := gt) (rh := rh) (ft := ft) (fa := fa) (ca := ca) (vt := vt) (ag := ag) (tc := tc) (lg := lg) (ch := ch) (de := de) (si := si) (sP := sP) (sV := sV) hn hok hdn hl
    obtain ⟨hok1, hl1, he1, hv1⟩ := hfo
    refine ⟨e1, d, l1, st1, tg1, f01, f11, lg1, tc, ch1, de, si, sP, sV, ⟨hok1, hl1, by omega, fun z => ⟨hdn, (hv1 z).2, fun q _ _ h => h⟩⟩, fun post N hN hp => ?_⟩
    · obtain ⟨N, rfl⟩ : ∃ N', N = N' + 1 := ⟨N - 1, by omega⟩
      rw [wX_demand_20]
      refine br_t (nI_le (Nat.le_refl _) (by omega)) ⟨vp_in_nI (by omega) (by omega), nm_r (e' := nI d) (by rw [cw]; exact hd) (fX _ ?_)⟩
      by_cases ez : e1 = 0
      · subst ez
        exact br_f (by decide) hp
      · have fr : fo_r e1 = 0 := if_neg ez
        have dr : do_r e1 d = -1 := if_neg ez
        rw [dr] at hp
        exact br_t fr hp
  | succ r ih =>
    intro i l st tg f0 f1 lg tc ch de si sP sV hir hbi hok hl hD
    have ci := cx.2.2 i hbi (by omega)
    have cI : (nI i).toNatClampNeg = i := nI_clamp (by omega)
    have vi : vp_in (nI i) 64 := vp_in_nI (by omega) (by omega)
    have nw : ¬ nI w ≤ nI i := nI_ge (by omega) (by omega)
    by_cases hk : kd i = 4
    · have eK : kd (nI i).toNatClampNeg = 4 := by rw [cI]; exact hk
      have eT : ta (nI i).toNatClampNeg = nI (E i) := by rw [cI]; exact ci.2.2.1
      have hlt := ci.1.1
      by_cases hw : w < E i
      · -- a lazy ancestor
        have hs := (@mt_k kd tx i).2.2.2.2 hk
        have h1 := ht_1 hs ci.1
        have ci1 := cx.2.2 (i + 1) (by omega) (by omega)
        have hE1 : E (i + 1) = E i := ht_uniq ci1.1 h1.2
        have sy := dm_at cx hD hbi (by omega) hwe hw
        obtain ⟨c, hcn, hc0⟩ := sy.2.2
        have hsi := sy.1 hk
        rw [hc0] at hsi
        obtain ⟨bo, e1, l1, st1, tg1, f01, f11, lg1, tc1, ch1, de1, si1, sP1, sV1, hmo, mX⟩ := mt_go (ar := ar) (cap := cap) (nT := nT) (nA := nA) (nC := nC) (cp := cp) (dn := dn) (op := op) (bd := bd) (lk := 5) (lc := lc) (la := la) (lt := lt) (le := le) (kd := kd) (tx := tx) (ts := ts) (ta := ta) (gv := gv) (gt := gt) (rh := rh) (ft := ft) (fa := fa) (ca := ca) (vt := vt) (ag := ag) (lg := lg) (tc := tc) (ch := ch) (de := de) (si := si) (sP := sP) (sV := sV) hn cx (show b ≤ i + 1 by omega) (by omega) hcn hok hl
        obtain ⟨hok1, hl1, he1, hv1, hbo⟩ := hmo
        have e1i : nI i + 1 = nI (i + 1) := nI_1 i
        have eC0 : tc (nI i).toNatClampNeg = nI c := by rw [cI]; exact hc0
        have eS0 : si (nI i).toNatClampNeg = nI c := by rw [cI]; exact hsi
        have nT1 : ¬ ta (nI i).toNatClampNeg ≤ nI w := by rw [eT]; exact nI_ge hw (by omega)
        rcases hbo with hb0 | ⟨hb1, he0, hp1, hp2⟩
        · subst hb0
          by_cases ez : e1 = 0
          · subst ez
            refine ⟨4, 0, l1, st1, tg1, f01, f11, lg1, tc1, ch1, de1, si1, sP1, sV1, ⟨hok1, hl1, by omega, fun z => absurd z (by decide)⟩, fun post N hN hp => ?_⟩
            · obtain ⟨N, rfl⟩ : ∃ N', N = N' + 1 := ⟨N - 1, by omega⟩
              rw [wX_demand_20]
              refine br_f nw ⟨vi, br_t eK ⟨vi, br_f nT1 (br_f (by decide) ⟨vi, ?_⟩)⟩⟩
              rw [e1i, eC0]
              refine mX _ ?_
              exact br_t rfl (br_t rfl hp)
          · have h23 : e1 = 2 ∨ e1 = 3 := by omega
            have f5 := fo_5 h23
            have dr : do_r e1 0 = -1 := if_neg ez
            refine ⟨e1, 0, l1, st1, tg1, f01, f11, lg1, tc1, ch1, de1, si1, sP1, sV1, ⟨hok1, hl1, by omega, fun z => absurd z ez⟩, fun post N hN hp => ?_⟩
            · obtain ⟨N, rfl⟩ : ∃ N', N = N' + 1 := ⟨N - 1, by omega⟩
              rw [dr] at hp
              rw [wX_demand_20]
              refine br_f nw ⟨vi, br_t eK ⟨vi, br_f nT1 (br_f (by decide) ⟨vi, ?_⟩)⟩⟩
              rw [e1i, eC0]
              refine mX _ ?_
              exact br_t rfl (br_f f5.1 hp)
        · subst hb1
          subst he0
          obtain ⟨e, d, l', st', tg', f0', f1', lg', tc', ch', de', si', sP', sV', ho, hX⟩ := ih (i + 1) l1 st1 tg1 f01 f11 lg1 tc1 ch1 de1 si1 sP1 sV1 (by omega) (by omega) hok1 (hv1 rfl) (dm_m hD hbi hE1 hp1 hp2)
          refine ⟨e, d, l', st', tg', f0', f1', lg', tc', ch', de', si', sP', sV', ⟨ho.1, ho.2.1, ho.2.2.1, fun z => ⟨(ho.2.2.2 z).1, (ho.2.2.2 z).2.1, fun q q1 q2 q3 => (ho.2.2.2 z).2.2 q q1 q2 (hp1 q q1 q2 q3)⟩⟩, fun post N hN hp => ?_⟩
          · obtain ⟨N, rfl⟩ : ∃ N', N = N' + 1 := ⟨N - 1, by omega⟩
            have hX' := hX post N (by omega) hp
            rw [wX_demand_20]
            refine br_f nw ⟨vi, br_t eK ⟨vi, br_f nT1 (br_f (by decide) ⟨vi, ?_⟩)⟩⟩
            rw [e1i, eC0]
            refine mX _ ?_
            exact br_f (by decide) (nm_e hX')
      · -- a lazy token that ends before
        obtain ⟨e, d, l', st', tg', f0', f1', lg', tc', ch', de', si', sP', sV', ho, hX⟩ := ih (i + 1) l st tg f0 f1 lg tc ch de si sP sV (by omega) (by omega) hok hl (dm_s hD (fun z => hw z.2))
        refine ⟨e, d, l', st', tg', f0', f1', lg', tc', ch', de', si', sP', sV', ho, fun post N hN hp => ?_⟩
        · obtain ⟨N, rfl⟩ : ∃ N', N = N' + 1 := ⟨N - 1, by omega⟩
          rw [wX_demand_20]
          exact br_f nw ⟨vi, br_t eK ⟨vi, br_t (by rw [eT]; exact nI_le (by omega) (by omega)) (br_t rfl (nm_r (nI_1 i) (hX post N (by omega) hp)))⟩⟩
    · have eK : ¬ kd (nI i).toNatClampNeg = 4 := by rw [cI]; exact hk
      obtain ⟨e, d, l', st', tg', f0', f1', lg', tc', ch', de', si', sP', sV', ho, hX⟩ := ih (i + 1) l st tg f0 f1 lg tc ch de si sP sV (by omega) (by omega) hok hl (dm_s hD (fun z => hk z.1))
      refine ⟨e, d, l', st', tg', f0', f1', lg', tc', ch', de', si', sP', sV', ho, fun post N hN hp => ?_⟩
      · obtain ⟨N, rfl⟩ : ∃ N', N = N' + 1 := ⟨N - 1, by omega⟩
        rw [wX_demand_20]
        exact br_f nw ⟨vi, br_f eK (br_t rfl (nm_r (nI_1 i) (hX post N (by omega) hp)))⟩
/-- DEMAND(x) in clause c: one outcome for both -/
theorem dd_go {ar' c x w l : Nat} {T A E : Nat → Nat} {st tg f0 f1 lg tc ch de si sP sV : Nat → Int32} (hn : n ≤ 32) (hpg : pg_ok ar' nC nT nA kd tx ts vt ft fa ca gv rh T A) (hc8 : c < nC) (cx : cx_ok nT (T c) (T (c + 1)) kd tx ts ta E)
    (hbw : T c ≤ w) (hwe : w < T (c + 1)) (hkw : kd w = 1) (hx8 : x < 8) (hxw : tx w = nI x) (hok : hp_ok n st tg f0 f1) (hl : l + cu_n (hp_u st (fun _ => 0)) n ≤ 32) (hB : bs_I n (T c) (T (c + 1)) kd tx E tc de si) :
    ∃ (e d l' : Nat) (st' tg' f0' f1' lg' tc' ch' de' si' sP' sV' : Nat → Int32), do_ok n (T c) (T (c + 1)) kd tx tc de si e d l' st' tg' f0' f1' tc' de' si' ∧
      (∀ (post : Int32 → St2 → Prop) (a : Int32), a = nI x → post (do_r e d) ((nI ar), (nI cap), (nI n), (nI nT), (nI nA), (nI nC), (nI cp), (nI dn), (nI op), bd, (nI l'), (fo_k e 5), lc, la, lt, le, st', tg', f0', f1', kd, tx, ts, ta, gv, gt, rh, ft, fa, ca, vt, ag, tc', lg') → wpX_demand post ((nI ar), (nI cap), (nI n), (nI nT), (nI nA), (nI nC), (nI cp), (nI dn), (nI op), bd, (nI l), 5, lc, la, lt, le, st, tg, f0, f1, kd, tx, ts, ta, gv, gt, rh, ft, fa, ca, vt, ag, tc, lg) (nI c) a) := by
  obtain ⟨e, d, l', st', tg', f0', f1', lg', tc', ch', de', si', sP', sV', ho, hX⟩ := dd_1 (ar := ar) (cap := cap) (nT := nT) (nA := nA) (nC := nC) (cp := cp) (dn := dn) (op := op) (bd := bd) (lc := lc) (la := la) (lt := lt) (le := le) (kd := kd) (tx := tx) (ts := ts) (ta := ta) (gv := gv) (gt := gt) (rh := rh) (ft := ft) (fa := fa) (ca := ca) (vt := vt) (ag := ag) hn cx hbw hwe hkw hx8 hxw (w - T c) (T c) l st tg f0 f1 lg tc ch de si sP sV (by omega) (Nat.le_refl _) hok hl (dm_0 hB)
  have hC := hpg.1
  have h64 := cx.1
  have heC := cx.2.1
  have o := hpg.2.2.2.2.2.2.2.2 c hc8
  have c1 : (nI c).toNatClampNeg = c := nI_clamp (by omega)
  have vc : vp_in (nI c) 8 := vp_in_nI (by omega) (by omega)
  have e1 : nI c * 8 + nI x = nI (8 * c + x) := by
    rw [show (8 : Int32) = nI 8 from rfl, pk_mul, nI_add, Nat.mul_comm]
  have c2 : (nI c * 8 + nI x).toNatClampNeg = 8 * c + x := by rw [e1]; exact nI_clamp (by omega)
  have v2 : vp_in (nI c * 8 + nI x) 64 := by rw [e1]; exact vp_in_nI (by omega) (by omega)
  have hv := (o.2.2.2.2.2.2.2.2.1 w hbw hwe).2 hkw
  rw [hxw, nI_clamp (by omega)] at hv
  refine ⟨e, d, l', st', tg', f0', f1', lg', tc', ch', de', si', sP', sV', ho, fun post a ha hp => ?_⟩
  · subst ha
    exact ⟨v2, nm_r (e' := nI w) (by rw [c2]; exact hv) ⟨vc, nm_r (e' := nI (T c)) (by rw [c1]; exact o.2.2.2.2.1) ⟨_, hX post _ (Nat.lt_succ_self _) hp⟩⟩⟩
end
