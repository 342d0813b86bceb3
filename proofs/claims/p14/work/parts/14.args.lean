/-! the arguments of a clause in lockstep -/
def ao_ok (n b eC : Nat) (kd tx : Nat → Int32) (E : Nat → Nat) (bo e l : Nat) (st tg f0 f1 tc de si : Nat → Int32) : Prop :=
  hp_ok n st tg f0 f1 ∧ l ≤ 32 ∧ (e = 0 ∨ e = 2 ∨ e = 3) ∧ (e = 0 → l + cu_n (hp_u st (fun _ => 0)) n ≤ 32) ∧ (bo = 0 ∨ (bo = 1 ∧ e = 0 ∧ bs_I n b eC kd tx E tc de si))
section
variable {ar cap n nT nA nC cp dn op : Nat} {bd lk lc la lt le : Int32} {kd tx ts ta gv gt rh ft fa ca vt ag : Nat → Int32}
theorem ra_1 {c : Nat} {T A E : Nat → Nat} (hn : n ≤ 32) (hpg : pg_ok ar nC nT nA kd tx ts vt ft fa ca gv rh T A) (hpe : pe_ok ar nC kd tx T) (hc8 : c < nC) (cx : cx_ok nT (T c) (T (c + 1)) kd tx ts ta E) (har : ar ≤ 3) (hA : ∀ i, i < ar → ∃ a, a < n ∧ ag i = nI a) :
    ∀ (r i p l : Nat) (st tg f0 f1 lg tc ch de si sP sV : Nat → Int32), i + r = ar → T c ≤ p → p ≤ T (c + 1) → ht_h (tk_f kd tx) p = -((ar * c : Nat) : Int) - i → hp_ok n st tg f0 f1 → l + cu_n (hp_u st (fun _ => 0)) n ≤ 32 → ag_I n (T c) kd tx E p tc de si →
      ∃ (bo e l' : Nat) (st' tg' f0' f1' lg' tc' ch' de' si' sP' sV' : Nat → Int32), ao_ok n (T c) (T (c + 1)) kd tx E bo e l' st' tg' f0' f1' tc' de' si' ∧
      (∀ (post : Int32 → St2 → Prop) (N : Nat), r < N → post (nI bo) ((nI ar), (nI cap), (nI n), (nI nT), (nI nA), (nI nC), (nI cp), (nI dn), (nI op), bd, (nI l'), (fo_k e 5), lc, la, lt, le, st', tg', f0', f1', kd, tx, ts, ta, gv, gt, rh, ft, fa, ca, vt, ag, tc', lg') → wX_matchArguments_9 post N (nI p) (nI i) (nI ar) (nI cap) (nI n) (nI nT) (nI nA) (nI nC) (nI cp) (nI dn) (nI op) bd (nI l) 5 lc la lt le st tg f0 f1 kd tx ts ta gv gt rh ft fa ca vt ag tc lg) := by
  intro r
  have h64 := cx.1
  have heC := cx.2.1
  induction r with
  | zero =>
    intro i p l st tg f0 f1 lg tc ch de si sP sV hir h1 h2 hh hok hl hG
    have ei : i = ar := by omega
    subst ei
    have ep := pa_end hpg hc8 h1 h2 hh
    subst ep
    refine ⟨1, 0, l, st, tg, f0, f1, lg, tc, ch, de, si, sP, sV, ⟨hok, by omega, Or.inl rfl, fun _ => hl, Or.inr ⟨rfl, rfl, hG⟩⟩, fun post N hN hp => ?_⟩
    · obtain ⟨N, rfl⟩ : ∃ N', N = N' + 1 := ⟨N - 1, by omega⟩
      rw [wX_matchArguments_9]
      exact br_t (nI_le (Nat.le_refl _) (by omega)) hp
  | succ r ih =>
    intro i p l st tg f0 f1 lg tc ch de si sP sV hir h1 h2 hh hok hl hG
    have hlt := pa_lt hpg hpe hc8 h2 hh (by omega)
    obtain ⟨a, han, ha⟩ := hA i (by omega)
    have cpp := cx.2.2 p h1 hlt
    obtain ⟨bo, e, l1, st1, tg1, f01, f11, lg1, tc1, ch1, de1, si1, sP1, sV1, hmo, mX⟩ := mt_go (ar := ar) (cap := cap) (nT := nT) (nA := nA) (nC := nC) (cp := cp) (dn := dn) (op := op) (bd := bd) (lk := 5) (lc := lc) (la := la) (lt := lt) (le := le) (kd := kd) (tx := tx) (ts := ts) (ta := ta) (gv := gv) (gt := gt) (rh := rh) (ft := ft) (fa := fa) (ca := ca) (vt := vt) (ag := ag) (lg := lg) (tc := tc) (ch := ch) (de := de) (si := si) (sP := sP) (sV := sV) hn cx h1 hlt han hok hl
    obtain ⟨hok1, hl1, he1, hv1, hbo⟩ := hmo
    have cI : (nI i).toNatClampNeg = i := nI_clamp (by omega)
    have cP : (nI p).toNatClampNeg = p := nI_clamp (by omega)
    have vI : vp_in (nI i) 3 := vp_in_nI (by omega) (by omega)
    have vP : vp_in (nI p) 64 := vp_in_nI (by omega) (by omega)
    have ni : ¬ nI ar ≤ nI i := nI_ge (by omega) (by omega)
    have eA : ag (nI i).toNatClampNeg = nI a := by rw [cI]; exact ha
    have eT : ta (nI p).toNatClampNeg = nI (E p) := by rw [cP]; exact cpp.2.2.1
    have hsplit : ∀ (G0 G1 G2 : Prop), (ag 0 = nI a → G0) → (ag 1 = nI a → G1) → (ag 2 = nI a → G2) → (nI i = 0 → G0) ∧ (¬ nI i = 0 → (nI i = 1 → G1) ∧ (¬ nI i = 1 → G2)) := by
      intro G0 G1 G2 g0 g1 g2
      have : i = 0 ∨ i = 1 ∨ i = 2 := by omega
      rcases this with z | z | z <;> subst z
      · exact br_t rfl (g0 ha)
      · exact br_f (by decide) (br_t rfl (g1 ha))
      · exact br_f (by decide) (br_f (by decide) (g2 ha))
    rcases hbo with hb0 | ⟨hb1, he0, hp1, hp2⟩
    · subst hb0
      refine ⟨0, e, l1, st1, tg1, f01, f11, lg1, tc1, ch1, de1, si1, sP1, sV1, ⟨hok1, hl1, he1, hv1, Or.inl rfl⟩, fun post N hN hp => ?_⟩
      · obtain ⟨N, rfl⟩ : ∃ N', N = N' + 1 := ⟨N - 1, by omega⟩
        rw [wX_matchArguments_9]
        refine br_f ni ⟨vI, ?_⟩
        rw [eA]
        refine mX _ ?_
        exact br_t rfl hp
    · subst hb1
      subst he0
      obtain ⟨bo, e, l', st', tg', f0', f1', lg', tc', ch', de', si', sP', sV', ho, hX⟩ := ih (i + 1) (E p) l1 st1 tg1 f01 f11 lg1 tc1 ch1 de1 si1 sP1 sV1 (by omega) (by have := cpp.1.1; omega) cpp.2.1 (by have := ht_val cpp.1; omega) hok1 (hv1 rfl) (ag_s hG h1 h2 hp1 hp2)
      refine ⟨bo, e, l', st', tg', f0', f1', lg', tc', ch', de', si', sP', sV', ho, fun post N hN hp => ?_⟩
      · obtain ⟨N, rfl⟩ : ∃ N', N = N' + 1 := ⟨N - 1, by omega⟩
        have hX' := hX post N (by omega) hp
        rw [wX_matchArguments_9]
        refine br_f ni ⟨vI, ?_⟩
        rw [eA]
        refine mX _ ?_
        exact br_f (by decide) ⟨vP, nm_r eT (nm_r (nI_1 i) hX')⟩
end
