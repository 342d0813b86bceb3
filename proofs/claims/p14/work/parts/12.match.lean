/-! a match in lockstep -/
def mo_ok (n b eC p : Nat) (kd tx : Nat → Int32) (E : Nat → Nat) (tc0 de0 si0 : Nat → Int32) (bo e l : Nat) (st tg f0 f1 tc de si : Nat → Int32) : Prop :=
  hp_ok n st tg f0 f1 ∧ l ≤ 32 ∧ (e = 0 ∨ e = 2 ∨ e = 3) ∧ (e = 0 → l + cu_n (hp_u st (fun _ => 0)) n ≤ 32) ∧
  (bo = 0 ∨ (bo = 1 ∧ e = 0 ∧ (∀ q, b ≤ q → q < eC → sy_q n kd tx tc0 de0 si0 q → sy_q n kd tx tc de si q) ∧ (∀ q, vs_q kd E p (E p) q → sy_q n kd tx tc de si q)))
theorem mt_k {kd tx : Nat → Int32} {i : Nat} : (kd i = 0 → tk_f kd tx i = 0) ∧ (kd i = 1 → tk_f kd tx i = 0) ∧ (kd i = 2 → tk_f kd tx i = tk_a (tx i)) ∧ (kd i = 3 → tk_f kd tx i = 1) ∧ (kd i = 4 → tk_f kd tx i = 1) := by
  unfold tk_f tk_s
  refine ⟨fun h => ?_, fun h => ?_, fun h => ?_, fun h => ?_, fun h => ?_⟩ <;> rw [h] <;> rfl
/-- a step that only goes on to the next token -/
theorem mi_1 {n b e p i : Nat} {kd tx : Nat → Int32} {E : Nat → Nat} {tc0 dn0 si0 tc dn si tc' dn' si' : Nat → Int32}
    (h : mi_I n b e kd tx E p i tc0 dn0 si0 tc dn si) (hb : b ≤ p) (hp : p ≤ i) (hie : i < e) (h4 : kd i ≠ 4)
    (hY : sy_q n kd tx tc' dn' si' i)
    (hS : ∀ q, b ≤ q → q < e → q ≠ i → si' q = si q ∧ (kd q = 1 → dn' (tx q).toNatClampNeg = dn (tx q).toNatClampNeg))
    (hT : ∀ q, ¬ pd_q (tk_f kd tx) (E p) (i + 1) q → tc' q = tc q) : mi_I n b e kd tx E p (i + 1) tc0 dn0 si0 tc' dn' si' :=
  mi_s h hb hp (by omega) hie (fun q h1 h2 => by omega) (fun q h1 h2 => by omega) (fun r h1 h2 h3 => by
    have : r = i := by omega
    subst this; exact absurd h3 h4) hY hS hT
section
variable {ar cap n nT nA nC cp dn op : Nat} {bd lk lc la lt le : Int32} {kd tx ts ta gv gt rh ft fa ca vt ag : Nat → Int32}
theorem mt_1 {b eC p : Nat} {E : Nat → Nat} {tc0 de0 si0 : Nat → Int32} (hn : n ≤ 32) (cx : cx_ok nT b eC kd tx ts ta E) (hb : b ≤ p) (hpe : p < eC) :
    ∀ (r i k it sk l : Nat) (st tg f0 f1 lg tc ch de si sP sV : Nat → Int32), i + r = E p → p ≤ i → it ≤ i - p → sk ≤ i → hp_ok n st tg f0 f1 → l + cu_n (hp_u st (fun _ => 0)) n ≤ 32 →
      mk_S (tk_f kd tx) n p i k sP sV tc → mi_I n b eC kd tx E p i tc0 de0 si0 tc de si →
      ∃ (bo e l' : Nat) (st' tg' f0' f1' lg' tc' ch' de' si' sP' sV' : Nat → Int32), mo_ok n b eC p kd tx E tc0 de0 si0 bo e l' st' tg' f0' f1' tc' de' si' ∧
      (∀ (post : Int32 → St2 → Prop) (N : Nat), r < N → post (nI bo) ((nI ar), (nI cap), (nI n), (nI nT), (nI nA), (nI nC), (nI cp), (nI dn), (nI op), bd, (nI l'), (fo_k e lk), lc, la, lt, le, st', tg', f0', f1', kd, tx, ts, ta, gv, gt, rh, ft, fa, ca, vt, ag, tc', lg') → wX_matchPattern_12 post (nI p) N (nI sk) (nI i) (nI ar) (nI cap) (nI n) (nI nT) (nI nA) (nI nC) (nI cp) (nI dn) (nI op) bd (nI l) lk lc la lt le st tg f0 f1 kd tx ts ta gv gt rh ft fa ca vt ag tc lg) := by
  intro r
  induction r using Nat.strongRecOn with
  | ind r ih =>
  intro i k it sk l st tg f0 f1 lg tc ch de si sP sV hir hpi hit hsk hok hl hS hI
  have cpp := cx.2.2 p hb hpe
  have h64 := cx.1
  have heC := cx.2.1
  have hEp := cpp.2.1
  have hEp1 := cpp.1.1
  rcases Nat.eq_zero_or_pos r with hr | hr
  · -- the end
    subst hr
    have ei : i = E p := by omega
    subst ei
    have k0 := mk_end hS cpp.1
    subst k0
    have me := mi_e hI
    refine ⟨1, 0, l, st, tg, f0, f1, lg, tc, ch, de, si, sP, sV, ⟨hok, by omega, Or.inl rfl, fun _ => hl, Or.inr ⟨rfl, rfl, me.1, me.2⟩⟩, fun post N hN hp => ?_⟩
    · obtain ⟨N, rfl⟩ : ∃ N', N = N' + 1 := ⟨N - 1, by omega⟩
      exact xm_end (by omega) cpp.2.2.1 (Nat.le_refl _) (by omega) hp
  have hie : i < E p := by omega
  obtain ⟨k, rfl⟩ := mk_pos hS cpp.1 hpi hie
  obtain ⟨hP, hV, c, hcn, hc0⟩ := mk_top hS
  rw [hc0] at hV
  have ci := cx.2.2 i (by omega) (by omega)
  have hEi : E i ≤ E p := ht_nest cpp.1 hpi hie ci.1
  have hroom := mk_room (tk_f2 kd tx) hS hpi
  have hk64 : k < 64 := by omega
  have hit64 : it < 64 := by omega
  have hiT : i < nT := by omega
  obtain ⟨kk, hkk, ekk⟩ := ci.2.2.2.2.1
  have mk5 := @mt_k kd tx i
  have hkc : kk = 0 ∨ kk = 1 ∨ kk = 4 ∨ (kk = 3 ∨ kk = 2) := by omega
  rcases hkc with z | z | z | hforce
  · -- WILD
    subst z
    have hk : kd i = 0 := ekk
    have hs := mk5.1 hk
    have I1 : mi_I n b eC kd tx E p (i + 1) tc0 de0 si0 tc de si := mi_1 hI hb hpi (by omega) (by rw [hk]; decide) ⟨fun z => absurd z (by rw [hk]; decide), fun z => absurd z (by rw [hk]; decide), c, hcn, hc0⟩ (fun q _ _ _ => ⟨rfl, fun _ => rfl⟩) (fun q _ => rfl)
    obtain ⟨bo, e, l', st', tg', f0', f1', lg', tc', ch', de', si', sP', sV', ho, hX⟩ := ih (r - 1) (by omega) (i + 1) k (it + 1) sk l st tg f0 f1 lg tc ch de si sP sV (by omega) (by omega) (by omega) (by omega) hok hl (mk_pop hS (ht_0 hs)) I1
    refine ⟨bo, e, l', st', tg', f0', f1', lg', tc', ch', de', si', sP', sV', ho, fun post N hN hp => ?_⟩
    · obtain ⟨N, rfl⟩ : ∃ N', N = N' + 1 := ⟨N - 1, by omega⟩
      exact xm_leaf (by omega) cpp.2.2.1 (by omega) hie hsk (Or.inl hk) (hX post N (by omega) hp)
  · -- VAR
    subst z
    have hk : kd i = 1 := ekk
    have hs := mk5.2.1 hk
    obtain ⟨x, hx8, hx⟩ := ci.2.2.2.2.2.1 (Or.inl hk)
    have I1 : mi_I n b eC kd tx E p (i + 1) tc0 de0 si0 tc (upd de x (nI c)) si := by
      refine mi_1 hI hb hpi (by omega) (by rw [hk]; decide) ⟨fun z => absurd z (by rw [hk]; decide), fun _ => ?_, c, hcn, hc0⟩ (fun q q1 q2 q3 => ⟨rfl, fun q4 => ?_⟩) (fun q _ => rfl)
      · rw [hx, nI_clamp (by omega), pk_us, hc0]
      · refine pk_un fun q5 => ?_
        have cq := cx.2.2 q q1 q2
        obtain ⟨y, hy8, hy⟩ := cq.2.2.2.2.2.1 (Or.inl q4)
        rw [hy, nI_clamp (by omega)] at q5
        subst q5
        exact q3 (ci.2.2.2.2.2.2 hk q q1 q2 q4 (hy.trans hx.symm))
    obtain ⟨bo, e, l', st', tg', f0', f1', lg', tc', ch', de', si', sP', sV', ho, hX⟩ := ih (r - 1) (by omega) (i + 1) k (it + 1) sk l st tg f0 f1 lg tc ch (upd de x (nI c)) si sP sV (by omega) (by omega) (by omega) (by omega) hok hl (mk_pop hS (ht_0 hs)) I1
    refine ⟨bo, e, l', st', tg', f0', f1', lg', tc', ch', de', si', sP', sV', ho, fun post N hN hp => ?_⟩
    · obtain ⟨N, rfl⟩ : ∃ N', N = N' + 1 := ⟨N - 1, by omega⟩
      exact xm_leaf (by omega) cpp.2.2.1 (by omega) hie hsk (Or.inr hk) (hX post N (by omega) hp)
  · -- LAZY
    subst z
    have hk : kd i = 4 := ekk
    have hlt := ci.1.1
    have I1 : mi_I n b eC kd tx E p (E i) tc0 de0 si0 tc de (upd si i (nI c)) := by
      refine mi_s hI hb hpi hlt (by omega) (fun q _ _ => ⟨hk, Nat.le_refl _⟩) (fun q q1 q2 => ht_le ci.1 (by omega) q2) (fun r' r1 r2 r3 => ?_) ⟨fun _ => ?_, fun z => absurd z (by rw [hk]; decide), c, hcn, hc0⟩ (fun q q1 q2 q3 => ⟨pk_un q3, fun _ => rfl⟩) (fun q _ => rfl)
      · exact ht_nest ci.1 r1 r2 (cx.2.2 r' (by omega) (by omega)).1
      · rw [pk_us, hc0]
    obtain ⟨bo, e, l', st', tg', f0', f1', lg', tc', ch', de', si', sP', sV', ho, hX⟩ := ih (r - (E i - i)) (by omega) (E i) k (it + 1) (E i) l st tg f0 f1 lg tc ch de (upd si i (nI c)) sP sV (by omega) (by omega) (by omega) (by omega) hok hl (mk_pop hS ci.1) I1
    refine ⟨bo, e, l', st', tg', f0', f1', lg', tc', ch', de', si', sP', sV', ho, fun post N hN hp => ?_⟩
    · obtain ⟨N, rfl⟩ : ∃ N', N = (N' + (E i - (i + 1))) + 1 := ⟨N - 1 - (E i - (i + 1)), by omega⟩
      exact xm_lazy (by omega) cpp.2.2.1 (by omega) hie hsk hk ci.2.2.1 (xm_skips (by omega) cpp.2.2.1 (by omega) hEi (hX post N (by omega) hp) (E i - (i + 1)) (i + 1) (by omega))
  · -- BANG or CON
    have hk2 : kd i = 3 ∨ kd i = 2 := by
      rcases hforce with z | z <;> subst z
      · exact Or.inl ekk
      · exact Or.inr ekk
    have hk4 : kd i ≠ 4 := by rcases hk2 with z | z <;> rw [z] <;> decide
    have hk1 : kd i ≠ 1 := by rcases hk2 with z | z <;> rw [z] <;> decide
    obtain ⟨e1, l1, st1, tg1, f01, f11, lg1, ch1, hfo, fX⟩ := fc_go (ar := ar) (cap := cap) (nT := nT) (nA := nA) (nC := nC) (cp := cp) (dn := dn) (op := op) (bd := bd) (lk := lk) (lc := lc) (la := la) (lt := lt) (le := le) (kd := kd) (tx := tx) (ts := ts) (ta := ta) (gv := gv) (gt := gt) (rh := rh) (ft := ft) (fa := fa) (ca := ca) (vt := vt) (ag := ag) (tc := tc) (lg := lg) (ch := ch) (de := de) (si := si) (sP := sP) (sV := sV) hn hok hcn hl
    obtain ⟨hok1, hl1, he1, hv1⟩ := hfo
    by_cases ez : e1 = 0
    · subst ez
      obtain ⟨hst1, hl1'⟩ := hv1 rfl
      have hSY : sy_q n kd tx tc de si i := ⟨fun z => absurd z hk4, fun z => absurd z hk1, c, hcn, hc0⟩
      rcases hk2 with hk | hk
      · -- BANG
        have hs := mk5.2.2.2.1 hk
        have h1 := ht_1 hs ci.1
        have I1 : mi_I n b eC kd tx E p (i + 1) tc0 de0 si0 (upd tc (i + 1) (nI c)) de si := by
          have t0 : upd tc (i + 1) (nI c) i = tc i := pk_un (by omega)
          refine mi_1 hI hb hpi (by omega) hk4 ⟨fun z => absurd z hk4, fun z => absurd z hk1, c, hcn, by rw [t0]; exact hc0⟩ (fun q _ _ _ => ⟨rfl, fun _ => rfl⟩) (fun q q1 => pk_un fun q2 => q1 ?_)
          subst q2
          exact ⟨Nat.le_refl _, by omega, fun r1 r2 r3 => by omega⟩
        obtain ⟨bo, e, l', st', tg', f0', f1', lg', tc', ch', de', si', sP', sV', ho, hX⟩ := ih (r - 1) (by omega) (i + 1) (k + 1) (it + 1) sk l1 st1 tg1 f01 f11 lg1 (upd tc (i + 1) (nI c)) ch1 de si (upd sP k (nI (i + 1))) (upd sV k (nI c)) (by omega) (by omega) (by omega) (by omega) hok1 hl1' (mk_1 hS hs hcn) I1
        refine ⟨bo, e, l', st', tg', f0', f1', lg', tc', ch', de', si', sP', sV', ho, fun post N hN hp => ?_⟩
        · obtain ⟨N, rfl⟩ : ∃ N', N = N' + 1 := ⟨N - 1, by omega⟩
          refine xm_force (by omega) cpp.2.2.1 (by omega) hie hsk (Or.inl hk) hc0 fX (fun z => absurd z (by decide)) (fun _ => ?_)
          rw [hk]
          exact xm_bang (p := p) (by omega) (hX post N (by omega) hp)
      · -- CON
        have hs := mk5.2.2.1 hk
        by_cases heq : tg1 c = tx i
        · have hfl := (hok1 c hcn).2.1 (Or.inl hst1)
          rw [heq] at hfl
          rcases tk_c (tx i) with ⟨ha, _⟩ | ⟨ha, h4, _⟩ | ⟨ha, h4, h6⟩
          · -- no field
            rw [ha] at hs
            have I1 : mi_I n b eC kd tx E p (i + 1) tc0 de0 si0 tc de si := mi_1 hI hb hpi (by omega) hk4 hSY (fun q _ _ _ => ⟨rfl, fun _ => rfl⟩) (fun q _ => rfl)
            obtain ⟨bo, e, l', st', tg', f0', f1', lg', tc', ch', de', si', sP', sV', ho, hX⟩ := ih (r - 1) (by omega) (i + 1) k (it + 1) sk l1 st1 tg1 f01 f11 lg1 tc ch1 de si sP sV (by omega) (by omega) (by omega) (by omega) hok1 hl1' (mk_pop hS (ht_0 hs)) I1
            refine ⟨bo, e, l', st', tg', f0', f1', lg', tc', ch', de', si', sP', sV', ho, fun post N hN hp => ?_⟩
            · obtain ⟨N, rfl⟩ : ∃ N', N = N' + 1 := ⟨N - 1, by omega⟩
              refine xm_force (by omega) cpp.2.2.1 (by omega) hie hsk (Or.inr hk) hc0 fX (fun z => absurd z (by decide)) (fun _ => ?_)
              rw [hk]
              exact xm_con (p := p) (tc' := tc) (by omega) (by omega) heq (fun post' h' => xh_0 (by omega) (by rw [ci.2.2.2.1, hs]; rfl) h') (hX post N (by omega) hp)
          · -- one field
            obtain ⟨c1, hc1, ec1⟩ := hfl.1 h4
            rw [ha] at hs
            have h1 := ht_1 hs ci.1
            have I1 : mi_I n b eC kd tx E p (i + 1) tc0 de0 si0 (upd tc (i + 1) (nI c1)) de si := by
              have t0 : upd tc (i + 1) (nI c1) i = tc i := pk_un (by omega)
              refine mi_1 hI hb hpi (by omega) hk4 ⟨fun z => absurd z hk4, fun z => absurd z hk1, c, hcn, by rw [t0]; exact hc0⟩ (fun q _ _ _ => ⟨rfl, fun _ => rfl⟩) (fun q q1 => pk_un fun q2 => q1 ?_)
              subst q2
              exact ⟨Nat.le_refl _, by omega, fun r1 r2 r3 => by omega⟩
            obtain ⟨bo, e, l', st', tg', f0', f1', lg', tc', ch', de', si', sP', sV', ho, hX⟩ := ih (r - 1) (by omega) (i + 1) (k + 1) (it + 1) sk l1 st1 tg1 f01 f11 lg1 (upd tc (i + 1) (nI c1)) ch1 de si (upd sP k (nI (i + 1))) (upd sV k (nI c1)) (by omega) (by omega) (by omega) (by omega) hok1 hl1' (mk_1 hS hs hc1) I1
            refine ⟨bo, e, l', st', tg', f0', f1', lg', tc', ch', de', si', sP', sV', ho, fun post N hN hp => ?_⟩
            · obtain ⟨N, rfl⟩ : ∃ N', N = N' + 1 := ⟨N - 1, by omega⟩
              refine xm_force (by omega) cpp.2.2.1 (by omega) hie hsk (Or.inr hk) hc0 fX (fun z => absurd z (by decide)) (fun _ => ?_)
              rw [hk]
              exact xm_con (p := p) (tc' := upd tc (i + 1) (nI c1)) (by omega) (by omega) heq (fun post' h' => xh_1 (by omega) (by omega) (by rw [ci.2.2.2.1, hs]; rfl) (by rw [ec1]; exact h')) (hX post N (by omega) hp)
          · -- two fields
            obtain ⟨c1, hc1, ec1⟩ := hfl.1 h4
            obtain ⟨c2, hc2, ec2⟩ := hfl.2 h6
            rw [ha] at hs
            have ci1 := cx.2.2 (i + 1) (by omega) (by
              rcases Nat.lt_or_ge (i + 1) (E i) with z | z
              · omega
              · have v := ht_val ci.1
                have : E i = i + 1 := by have := ci.1.1; omega
                rw [this, ht_s, hs] at v
                omega)
            have h2 := ht_2 hs ci.1 ci1.1
            have I1 : mi_I n b eC kd tx E p (i + 1) tc0 de0 si0 (upd (upd tc (i + 1) (nI c1)) (E (i + 1)) (nI c2)) de si := by
              have t0 : upd (upd tc (i + 1) (nI c1)) (E (i + 1)) (nI c2) i = tc i := by rw [pk_un (by omega), pk_un (by omega)]
              refine mi_1 hI hb hpi (by omega) hk4 ⟨fun z => absurd z hk4, fun z => absurd z hk1, c, hcn, by rw [t0]; exact hc0⟩ (fun q _ _ _ => ⟨rfl, fun _ => rfl⟩) (fun q q1 => ?_)
              have q2 : q ≠ E (i + 1) := fun z => q1 (by
                subst z
                refine ⟨by omega, by omega, fun r1 r2 r3 => ?_⟩
                have a := ht_le ci1.1 r2 r3
                have b2 := ht_val ci1.1
                omega)
              have q3 : q ≠ i + 1 := fun z => q1 (by
                subst z
                exact ⟨Nat.le_refl _, by omega, fun r1 r2 r3 => by omega⟩)
              rw [pk_un q2, pk_un q3]
            obtain ⟨bo, e, l', st', tg', f0', f1', lg', tc', ch', de', si', sP', sV', ho, hX⟩ := ih (r - 1) (by omega) (i + 1) (k + 2) (it + 1) sk l1 st1 tg1 f01 f11 lg1 (upd (upd tc (i + 1) (nI c1)) (E (i + 1)) (nI c2)) ch1 de si (upd (upd sP k (nI (E (i + 1)))) (k + 1) (nI (i + 1))) (upd (upd sV k (nI c2)) (k + 1) (nI c1)) (by omega) (by omega) (by omega) (by omega) hok1 hl1' (mk_2 hS hs ci1.1 hc1 hc2) I1
            have hroom2 := mk_room (tk_f2 kd tx) (mk_2 hS hs ci1.1 hc1 hc2) (show p ≤ i + 1 by omega)
            refine ⟨bo, e, l', st', tg', f0', f1', lg', tc', ch', de', si', sP', sV', ho, fun post N hN hp => ?_⟩
            · obtain ⟨N, rfl⟩ : ∃ N', N = N' + 1 := ⟨N - 1, by omega⟩
              refine xm_force (by omega) cpp.2.2.1 (by omega) hie hsk (Or.inr hk) hc0 fX (fun z => absurd z (by decide)) (fun _ => ?_)
              rw [hk]
              exact xm_con (p := p) (tc' := upd (upd tc (i + 1) (nI c1)) (E (i + 1)) (nI c2)) (by omega) (by omega) heq (fun post' h' => xh_2 (by omega) (by omega) (by rw [ci.2.2.2.1, hs]; rfl) ci1.2.2.1 (by omega) (by rw [ec1, ec2]; exact h')) (hX post N (by omega) hp)
        · -- the tag differs
          refine ⟨0, 0, l1, st1, tg1, f01, f11, lg1, tc, ch1, de, si, sP, sV, ⟨hok1, hl1, Or.inl rfl, fun _ => hl1', Or.inl rfl⟩, fun post N hN hp => ?_⟩
          · obtain ⟨N, rfl⟩ : ∃ N', N = N' + 1 := ⟨N - 1, by omega⟩
            refine xm_force (by omega) cpp.2.2.1 (by omega) hie hsk (Or.inr hk) hc0 fX (fun z => absurd z (by decide)) (fun _ => ?_)
            rw [hk]
            exact xm_ne (p := p) (by omega) (by omega) heq hp
    · -- the FORCE ended the run
      have fr : fo_r e1 = 0 := if_neg ez
      refine ⟨0, e1, l1, st1, tg1, f01, f11, lg1, tc, ch1, de, si, sP, sV, ⟨hok1, hl1, he1, fun z => absurd z ez, Or.inl rfl⟩, fun post N hN hp => ?_⟩
      · obtain ⟨N, rfl⟩ : ∃ N', N = N' + 1 := ⟨N - 1, by omega⟩
        exact xm_force (by omega) cpp.2.2.1 (by omega) hie hsk hk2 hc0 fX (fun _ => hp) (fun z => absurd fr z)
/-- MATCH(p, c): one outcome for both -/
theorem mt_go {b eC p c l : Nat} {E : Nat → Nat} {st tg f0 f1 lg tc ch de si sP sV : Nat → Int32} (hn : n ≤ 32) (cx : cx_ok nT b eC kd tx ts ta E) (hb : b ≤ p) (hpe : p < eC) (hcn : c < n) (hok : hp_ok n st tg f0 f1) (hl : l + cu_n (hp_u st (fun _ => 0)) n ≤ 32) :
    ∃ (bo e l' : Nat) (st' tg' f0' f1' lg' tc' ch' de' si' sP' sV' : Nat → Int32), mo_ok n b eC p kd tx E tc de si bo e l' st' tg' f0' f1' tc' de' si' ∧
      (∀ (post : Int32 → St2 → Prop), post (nI bo) ((nI ar), (nI cap), (nI n), (nI nT), (nI nA), (nI nC), (nI cp), (nI dn), (nI op), bd, (nI l'), (fo_k e lk), lc, la, lt, le, st', tg', f0', f1', kd, tx, ts, ta, gv, gt, rh, ft, fa, ca, vt, ag, tc', lg') → wpX_matchPattern post ((nI ar), (nI cap), (nI n), (nI nT), (nI nA), (nI nC), (nI cp), (nI dn), (nI op), bd, (nI l), lk, lc, la, lt, le, st, tg, f0, f1, kd, tx, ts, ta, gv, gt, rh, ft, fa, ca, vt, ag, tc, lg) (nI p) (nI c)) := by
  have cpp := cx.2.2 p hb hpe
  have h64 := cx.1
  have heC := cx.2.1
  have c1 : (nI p).toNatClampNeg = p := nI_clamp (by omega)
  obtain ⟨bo, e, l', st', tg', f0', f1', lg', tc', ch', de', si', sP', sV', ho, hX⟩ := mt_1 (ar := ar) (cap := cap) (nT := nT) (nA := nA) (nC := nC) (cp := cp) (dn := dn) (op := op) (bd := bd) (lk := lk) (lc := lc) (la := la) (lt := lt) (le := le) (kd := kd) (tx := tx) (ts := ts) (ta := ta) (gv := gv) (gt := gt) (rh := rh) (ft := ft) (fa := fa) (ca := ca) (vt := vt) (ag := ag) (tc0 := tc) (de0 := de) (si0 := si) hn cx hb hpe (E p - p) p 1 0 p l st tg f0 f1 lg (upd tc p (nI c)) ch de si (upd sP 0 (nI p)) (upd sV 0 (nI c)) (by have := cpp.1.1; omega) (Nat.le_refl _) (by omega) (Nat.le_refl _) hok hl (mk_0 hcn) (mi_0 _ cpp.1.1)
  refine ⟨bo, e, l', st', tg', f0', f1', lg', tc', ch', de', si', sP', sV', ho, fun post hp => ⟨vp_in_nI (by omega) (by omega), nm_r (e' := upd tc p (nI c)) (by rw [c1]) ⟨_, hX post _ (Nat.lt_succ_self _) hp⟩⟩⟩
end
