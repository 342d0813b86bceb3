/-! FORCE in lockstep: the walk along the indirections -/
def fi_I (n c l0 m d : Nat) (w : Int64) (st mk ch lg : Nat → Int32) : Prop :=
  d < n ∧ l0 + m + cu_n (hp_u st mk) n ≤ 32 ∧ (∀ i, i < m → ch i = lg (l0 + i) ∧ ∃ e, e < n ∧ ch i = nI e) ∧ (∀ j, mk j ≠ 0 → ∃ i, i < m ∧ ch i = nI j ∧ j < n) ∧ (c = d ∨ ∃ i, i < m ∧ ch i = nI c) ∧ (∀ j, j < 32 → (bl w j = false ↔ mk j = 0))
def fo_ok (n c e l : Nat) (st tg f0 f1 : Nat → Int32) : Prop := hp_ok n st tg f0 f1 ∧ l ≤ 32 ∧ (e = 0 ∨ e = 2 ∨ e = 3) ∧ (e = 0 → st c = 0 ∧ l + cu_n (hp_u st (fun _ => 0)) n ≤ 32)
def fo_k (e : Nat) (lk : Int32) : Int32 := if e = 0 then lk else nI e
def fo_r (e : Nat) : Int32 := if e = 0 then 1 else 0
theorem fi_mk {n m : Nat} {mk ch : Nat → Int32} (hn : n ≤ 32) (h : ∀ j, mk j ≠ 0 → ∃ i, i < m ∧ ch i = nI j ∧ j < n) : fw_a ch 0 mk m = fun _ => 0 := by
  funext j
  rcases fw_dec ch j m with ⟨i, hi, z⟩ | k
  · have e1 := fw_in (g := ch) (v := 0) (a := mk) hi
    rw [z] at e1; exact e1
  · rw [fw_out k]
    by_cases e : mk j = 0
    · exact e
    · obtain ⟨i, h1, h2, h3⟩ := h j e
      exact absurd (by rw [h2]; exact nI_clamp (by omega)) (k i h1)
theorem fi_st {n c m d : Nat} {st ch : Nat → Int32} (hn : n ≤ 32) (hc : c < n) (h : c = d ∨ ∃ i, i < m ∧ ch i = nI c) (h0 : st d = 0) : fw_a ch 0 st m c = 0 := by
  rcases h with h | ⟨i, h1, h2⟩
  · subst h
    have := fw_self (g := ch) (a := st) (d := c) m
    rw [h0] at this; exact this
  · have e1 := fw_in (g := ch) (v := 0) (a := st) h1
    rw [h2, nI_clamp (by omega)] at e1; exact e1
section
variable {ar cap n nT nA nC cp dn op : Nat} {bd lk lc la lt le : Int32} {kd tx ts ta gv gt rh ft fa ca vt ag : Nat → Int32}
/-- what both sides do from here on: one outcome -/
def fc_P (ar cap n nT nA nC cp dn op : Nat) (bd lk lc la lt le : Int32) (kd tx ts ta gv gt rh ft fa ca vt ag st tg f0 f1 tc de si sP sV : Nat → Int32) (c l0 m d : Nat) (w : Int64) (mk ch lg : Nat → Int32) (F : Nat) : Prop :=
  ∃ (e l' : Nat) (st' tg' f0' f1' lg' ch' : Nat → Int32), fo_ok n c e l' st' tg' f0' f1' ∧
   (∀ (post : Int32 → St2 → Prop) (N : Nat), F ≤ N → post (fo_r e) ((nI ar), (nI cap), (nI n), (nI nT), (nI nA), (nI nC), (nI cp), (nI dn), (nI op), bd, (nI l'), (fo_k e lk), lc, la, lt, le, st', tg', f0', f1', kd, tx, ts, ta, gv, gt, rh, ft, fa, ca, vt, ag, tc, lg') → wX_force_13 post (nI l0) (nI ar) (nI cap) (nI n) (nI nT) (nI nA) (nI nC) (nI cp) (nI dn) (nI op) bd lk lc la lt le N w (nI d) (nI m) (nI (l0 + m)) st tg f0 f1 kd tx ts ta gv gt rh ft fa ca vt ag tc lg)
theorem fc_base {st tg f0 f1 tc de si sP sV mk ch lg : Nat → Int32} {c l0 m d : Nat} {w : Int64} (hn : n ≤ 32) (hok : hp_ok n st tg f0 f1) (hcn : c < n) (h : fi_I n c l0 m d w st mk ch lg) (hb : ¬ (st d = 2 ∧ mk d = 0)) :
    fc_P ar cap n nT nA nC cp dn op bd lk lc la lt le kd tx ts ta gv gt rh ft fa ca vt ag st tg f0 f1 tc de si sP sV c l0 m d w mk ch lg 3 := by
  obtain ⟨hd, hl, hch, hmk, hcd, hbw⟩ := h
  obtain ⟨s, hs, es⟩ := (hok d hd).1
  have c1 : (nI d).toNatClampNeg = d := nI_clamp (by omega)
  have c2 : (nI (l0 + m)).toNatClampNeg = l0 + m := nI_clamp (by omega)
  have v1 : vp_in (nI d) 32 := vp_in_nI (by omega) (by omega)
  have x6 : ¬ (32 : Int32) < nI m := nI_nlt (a := 32) (b := m) (by omega) (by omega)
  have p0 : ¬ nI d < 0 := nI_pos (by omega)
  have pn : nI d < nI n := nI_lt hd (by omega)
  have hg : ∀ j, j < m → ∃ e, e < n ∧ ch j = nI e := fun j hj => (hch j hj).2
  by_cases h0 : st d = 0
  · -- a VALUE
    have gc : ∀ (v : Int32) (a : Nat → Int32), fw_a (fun j => lg (l0 + j)) v a m = fw_a ch v a m := fun v a => fw_cong (fun i hi => (hch i hi).1.symm)
    have e0 : st (nI d).toNatClampNeg = 0 := by rw [c1]; exact h0
    refine ⟨0, l0 + m, fw_a ch 0 st m, fw_a ch (tg d) tg m, fw_a ch (f0 d) f0 m, fw_a ch (f1 d) f1 m, lg, ch, ⟨fw_ok hok hd h0, by omega, Or.inl rfl, fun _ => ⟨fi_st hn hcn hcd h0, ?_⟩⟩, fun post N hN hp => ?_⟩
    · have := fw_cnt (n := n) (m := m) (g := ch) (st := st) (mk := mk) (fun j hj h => by
        obtain ⟨i, i1, i2, i3⟩ := hmk j h
        exact ⟨i, i1, by rw [i2]; exact nI_clamp (by omega)⟩)
      omega
    · obtain ⟨N, rfl⟩ : ∃ N', N = N' + 1 := ⟨N - 1, by omega⟩
      rw [wX_force_13]
      refine br_f x6 ⟨v1, br_t e0 ⟨m + 1, fx_2 (by omega) (by omega) (fun j hj => ?_) m 0 (m + 1) (by omega) (by omega) ?_⟩⟩
      · obtain ⟨e, e1, e2⟩ := hg j (by omega)
        exact ⟨e, by omega, by rw [← (hch j (by omega)).1]; exact e2⟩
      · rw [Nat.zero_add, gc, gc, gc, gc]
        exact hp
  · have n0 : ¬ st (nI d).toNatClampNeg = 0 := by rw [c1]; exact h0
    by_cases hm : mk d = 0
    · have cp := cu_pos (p := hp_u st mk) hd (decide_eq_true ⟨h0, hm⟩)
      have b0 : ((w >>> ((nI d).toInt64 &&& 63)) &&& 1) = 0 := (bl_iff (by omega)).mpr ((hbw d (by omega)).mpr hm)
      have m0 : mk (nI d).toNatClampNeg = 0 := by rw [c1]; exact hm
      have vL : vp_in (nI (l0 + m)) 32 := vp_in_nI (by omega) (by omega)
      have nL : ¬ (32 : Int32) ≤ nI (l0 + m) := nI_ge (b := 32) (by omega) (by omega)
      have eL : upd lg (nI (l0 + m)).toNatClampNeg (nI d) = upd lg (l0 + m) (nI d) := by rw [c2]
      by_cases h3 : st d = 3
      · -- a BOTTOM
        have e3 : st (nI d).toNatClampNeg = 3 := by rw [c1]; exact h3
        have n1 : ¬ st (nI d).toNatClampNeg = 1 := by rw [e3]; decide
        refine ⟨2, l0 + m + 1, st, tg, f0, f1, upd lg (l0 + m) (nI d), ch, ⟨hok, by omega, Or.inr (Or.inl rfl), fun z => absurd z (by decide)⟩, fun post N hN hp => ?_⟩
        · obtain ⟨N, rfl⟩ : ∃ N', N = N' + 1 := ⟨N - 1, by omega⟩
          rw [wX_force_13]
          exact br_f x6 ⟨v1, br_f n0 (br_t b0 ⟨vL, nm_r eL (nm_r (nI_1 (l0 + m)) ⟨v1, br_t e3 hp⟩)⟩)⟩
      · have h1 : st d = 1 := by
          have : s = 0 ∨ s = 1 ∨ s = 2 ∨ s = 3 := by omega
          rcases this with z | z | z | z
          · subst z; exact absurd es h0
          · subst z; exact es
          · subst z; exact absurd ⟨es, hm⟩ hb
          · subst z; exact absurd es h3
        -- a THUNK
        have e1 : st (nI d).toNatClampNeg = 1 := by rw [c1]; exact h1
        have n3 : ¬ st (nI d).toNatClampNeg = 3 := by rw [e1]; decide
        have eS : upd st (nI d).toNatClampNeg 0 = upd st d 0 := by rw [c1]
        have hok1 : hp_ok n (upd st d 0) tg f0 f1 := by
          intro c' hc'
          rcases ud_or (f := st) (k := d) (v := 0) c' with ⟨z, y⟩ | ⟨z, y⟩
          · subst z
            rw [y]
            exact ⟨⟨0, by omega, rfl⟩, fun _ => (hok c' hc').2.1 (Or.inr h1), fun q => absurd q (by decide)⟩
          · rw [y]; exact hok c' hc'
        have gc : ∀ (v : Int32) (a : Nat → Int32), a d = v → fw_a (fun j => upd lg (l0 + m) (nI d) (l0 + j)) v a (m + 1) = fw_a ch v a m := fun v a hv => by
          rw [fw_s]
          show upd _ (upd lg (l0 + m) (nI d) (l0 + m)).toNatClampNeg v = _
          rw [pk_us, c1, fw_cong (g' := ch) (fun i hi => by show upd lg (l0 + m) (nI d) (l0 + i) = _; rw [pk_un (by omega)]; exact (hch i hi).1.symm)]
          refine ud_same ?_
          have := fw_self (g := ch) (a := a) (d := d) m
          rw [hv] at this; exact this
        refine ⟨0, l0 + m + 1, fw_a ch 0 (upd st d 0) m, fw_a ch (tg d) tg m, fw_a ch (f0 d) f0 m, fw_a ch (f1 d) f1 m, upd lg (l0 + m) (nI d), ch, ⟨fw_ok hok1 hd pk_us, by omega, Or.inl rfl, fun _ => ⟨fi_st hn hcn hcd pk_us, ?_⟩⟩, fun post N hN hp => ?_⟩
        · have a1 := fw_cnt (n := n) (m := m) (g := ch) (st := upd st d 0) (mk := mk) (fun j hj h => by
            obtain ⟨i, i1, i2, i3⟩ := hmk j h
            exact ⟨i, i1, by rw [i2]; exact nI_clamp (by omega)⟩)
          have a2 := cu_drop (p := hp_u st mk) (q := hp_u (upd st d 0) mk) (a := d) (decide_eq_true ⟨h0, hm⟩) (decide_eq_false (fun z => z.1 pk_us)) hd (fun k hk z => by
            have z := of_decide_eq_true z
            rcases ud_or (f := st) (k := d) (v := 0) k with ⟨_, y⟩ | ⟨_, y⟩
            · exact absurd y z.1
            · exact decide_eq_true ⟨by rw [← y]; exact z.1, z.2⟩)
          omega
        · obtain ⟨N, rfl⟩ : ∃ N', N = N' + 2 := ⟨N - 2, by omega⟩
          have x7 : ¬ (32 : Int32) < nI (m + 1) := nI_nlt (a := 32) (b := m + 1) (by omega) (by omega)
          rw [wX_force_13]
          refine br_f x6 ⟨v1, br_f n0 (br_t b0 ⟨vL, nm_r eL (nm_r (nI_1 (l0 + m)) ⟨v1, br_f n3 ⟨v1, br_t e1 ⟨v1, nm_r eS (nm_r (nI_1 m) ?_)⟩⟩⟩)⟩)⟩
          rw [wX_force_13]
          refine br_f x7 ⟨v1, br_t (by rw [c1]; exact pk_us) ⟨m + 2, fx_2 (l := l0 + m + 1) (st := upd st d 0) (by omega) (by omega) (fun j hj => ?_) (m + 1) 0 (m + 2) (by omega) (by omega) ?_⟩⟩
          · rcases Nat.lt_or_ge j m with z | z
            · obtain ⟨e, e1, e2⟩ := hg j z
              exact ⟨e, by omega, by rw [pk_un (by omega), ← (hch j z).1]; exact e2⟩
            · have : j = m := by omega
              subst this
              exact ⟨d, by omega, pk_us⟩
          · rw [Nat.zero_add, gc _ _ pk_us, gc _ _ rfl, gc _ _ rfl, gc _ _ rfl]
            exact hp
    · -- marked
      have b1 : ¬ ((w >>> ((nI d).toInt64 &&& 63)) &&& 1) = 0 := fun z => hm ((hbw d (by omega)).mp ((bl_iff (by omega)).mp z))
      have m1 : ¬ mk (nI d).toNatClampNeg = 0 := by rw [c1]; exact hm
      refine ⟨3, l0 + m, st, tg, f0, f1, lg, ch, ⟨hok, by omega, Or.inr (Or.inr rfl), fun z => absurd z (by decide)⟩, fun post N hN hp => ?_⟩
      · obtain ⟨N, rfl⟩ : ∃ N', N = N' + 1 := ⟨N - 1, by omega⟩
        rw [wX_force_13]
        exact br_f x6 ⟨v1, br_f n0 (br_f b1 hp)⟩
theorem fc_1 {st tg f0 f1 tc de si sP sV : Nat → Int32} {c l0 : Nat} (hn : n ≤ 32) (hok : hp_ok n st tg f0 f1) (hcn : c < n) : ∀ (u m d : Nat) (w : Int64) (mk ch lg : Nat → Int32), cu_n (hp_u st mk) n ≤ u → fi_I n c l0 m d w st mk ch lg →
    fc_P ar cap n nT nA nC cp dn op bd lk lc la lt le kd tx ts ta gv gt rh ft fa ca vt ag st tg f0 f1 tc de si sP sV c l0 m d w mk ch lg (u + 3) := by
  intro u
  induction u with
  | zero =>
    intro m d w mk ch lg hu h
    refine fc_base hn hok hcn h (fun z => ?_)
    have := cu_pos (p := hp_u st mk) h.1 (decide_eq_true ⟨by rw [z.1]; decide, z.2⟩)
    omega
  | succ u ih =>
    intro m d w mk ch lg hu h
    by_cases hb : st d = 2 ∧ mk d = 0
    · obtain ⟨hd, hl, hch, hmk, hcd, hbw⟩ := h
      obtain ⟨h2, hm⟩ := hb
      obtain ⟨d', hd', ed⟩ := (hok d hd).2.2 h2
      have h0 : st d ≠ 0 := by rw [h2]; decide
      have cpo := cu_pos (p := hp_u st mk) hd (decide_eq_true ⟨h0, hm⟩)
      have cd := cu_drop (p := hp_u st mk) (q := hp_u st (upd mk d 1)) (a := d) (decide_eq_true ⟨h0, hm⟩) (decide_eq_false (fun z => absurd z.2 (by rw [pk_us]; decide))) hd (fun k hk z => by
            have z := of_decide_eq_true z
            rcases ud_or (f := mk) (k := d) (v := 1) k with ⟨_, y⟩ | ⟨_, y⟩
            · exact absurd z.2 (by rw [y]; decide)
            · exact decide_eq_true ⟨z.1, by rw [← y]; exact z.2⟩)
      have c1 : (nI d).toNatClampNeg = d := nI_clamp (by omega)
      have c2 : (nI (l0 + m)).toNatClampNeg = l0 + m := nI_clamp (by omega)
      have c3 : (nI m).toNatClampNeg = m := nI_clamp (by omega)
      have v1 : vp_in (nI d) 32 := vp_in_nI (by omega) (by omega)
      have vm : vp_in (nI m) 32 := vp_in_nI (by omega) (by omega)
      have x6 : ¬ (32 : Int32) < nI m := nI_nlt (a := 32) (b := m) (by omega) (by omega)
      have p0 : ¬ nI d < 0 := nI_pos (by omega)
      have pn : nI d < nI n := nI_lt hd (by omega)
      have n0 : ¬ st (nI d).toNatClampNeg = 0 := by rw [c1]; exact h0
      have n1 : ¬ st (nI d).toNatClampNeg = 1 := by rw [c1, h2]; decide
      have n3 : ¬ st (nI d).toNatClampNeg = 3 := by rw [c1, h2]; decide
      have b0 : ((w >>> ((nI d).toInt64 &&& 63)) &&& 1) = 0 := (bl_iff (by omega)).mpr ((hbw d (by omega)).mpr hm)
      have m0 : mk (nI d).toNatClampNeg = 0 := by rw [c1]; exact hm
      have vL : vp_in (nI (l0 + m)) 32 := vp_in_nI (by omega) (by omega)
      have nL : ¬ (32 : Int32) ≤ nI (l0 + m) := nI_ge (b := 32) (by omega) (by omega)
      have nM : ¬ (32 : Int32) ≤ nI m := nI_ge (b := 32) (by omega) (by omega)
      have eL : upd lg (nI (l0 + m)).toNatClampNeg (nI d) = upd lg (l0 + m) (nI d) := by rw [c2]
      have eM : upd mk (nI d).toNatClampNeg (vp_nar .boolean 1) = upd mk d 1 := by rw [c1, nb_1]
      have eC : upd ch (nI m).toNatClampNeg (nI d) = upd ch m (nI d) := by rw [c3]
      have eD : f0 (nI d).toNatClampNeg = nI d' := by rw [c1]; exact ed
      have I' : fi_I n c l0 (m + 1) d' (w ||| ((1 : Int64) <<< ((nI d).toInt64 &&& 63))) st (upd mk d 1) (upd ch m (nI d)) (upd lg (l0 + m) (nI d)) := by
        refine ⟨hd', by omega, fun i hi => ?_, fun j hj => ?_, ?_, fun j hj => ?_⟩
        · by_cases e : i = m
          · subst e
            rw [pk_us, pk_us]
            exact ⟨rfl, d, hd, rfl⟩
          · rw [pk_un e, pk_un (by omega)]
            exact hch i (by omega)
        · rcases ud_or (f := mk) (k := d) (v := 1) j with ⟨z, y⟩ | ⟨z, y⟩
          · subst z
            exact ⟨m, by omega, pk_us, hd⟩
          · rw [y] at hj
            obtain ⟨i, i1, i2, i3⟩ := hmk j hj
            exact ⟨i, by omega, by rw [pk_un (by omega)]; exact i2, i3⟩
        · rcases hcd with z | ⟨i, i1, i2⟩
          · subst z
            exact Or.inr ⟨m, by omega, pk_us⟩
          · exact Or.inr ⟨i, by omega, by rw [pk_un (by omega)]; exact i2⟩
        · rw [bl_or (by omega) (by omega)]
          have := hbw j hj
          rcases ud_or (f := mk) (k := d) (v := 1) j with ⟨z, y⟩ | ⟨z, y⟩
          · rw [y]
            simp [z]
          · rw [y, ← this]
            simp [z]
      obtain ⟨e, l', st', tg', f0', f1', lg', ch', ho, hX⟩ := ih (m + 1) d' _ _ _ _ (by omega) I'
      refine ⟨e, l', st', tg', f0', f1', lg', ch', ho, fun post N hN hp => ?_⟩
      · obtain ⟨N, rfl⟩ : ∃ N', N = N' + 1 := ⟨N - 1, by omega⟩
        rw [wX_force_13]
        exact br_f x6 ⟨v1, br_f n0 (br_t b0 ⟨vL, nm_r eL (nm_r (nI_1 (l0 + m)) ⟨v1, br_f n3 ⟨v1, br_f n1 (nm_e ⟨v1, nm_r eD (nm_r (nI_1 m) (hX post N (by omega) hp))⟩)⟩⟩)⟩)⟩
    · obtain ⟨e, l', st', tg', f0', f1', lg', ch', ho, hX⟩ := fc_base (ar := ar) (cap := cap) (nT := nT) (nA := nA) (nC := nC) (cp := cp) (dn := dn) (op := op) (bd := bd) (lk := lk) (lc := lc) (la := la) (lt := lt) (le := le) (kd := kd) (tx := tx) (ts := ts) (ta := ta) (gv := gv) (gt := gt) (rh := rh) (ft := ft) (fa := fa) (ca := ca) (vt := vt) (ag := ag) (tc := tc) (de := de) (si := si) (sP := sP) (sV := sV) hn hok hcn h hb
      exact ⟨e, l', st', tg', f0', f1', lg', ch', ho, fun post N hN hp => hX post N (by omega) hp⟩
/-- FORCE(c): one outcome for both -/
theorem fc_go (hn : n ≤ 32) {c l : Nat} {st tg f0 f1 tc lg ch de si sP sV : Nat → Int32} (hok : hp_ok n st tg f0 f1) (hcn : c < n) (hl : l + cu_n (hp_u st (fun _ => 0)) n ≤ 32) :
    ∃ (e l' : Nat) (st' tg' f0' f1' lg' ch' : Nat → Int32), fo_ok n c e l' st' tg' f0' f1' ∧
     (∀ (post : Int32 → St2 → Prop), post (fo_r e) ((nI ar), (nI cap), (nI n), (nI nT), (nI nA), (nI nC), (nI cp), (nI dn), (nI op), bd, (nI l'), (fo_k e lk), lc, la, lt, le, st', tg', f0', f1', kd, tx, ts, ta, gv, gt, rh, ft, fa, ca, vt, ag, tc, lg') → wpX_force post ((nI ar), (nI cap), (nI n), (nI nT), (nI nA), (nI nC), (nI cp), (nI dn), (nI op), bd, (nI l), lk, lc, la, lt, le, st, tg, f0, f1, kd, tx, ts, ta, gv, gt, rh, ft, fa, ca, vt, ag, tc, lg) (nI c)) := by
  have I : fi_I n c l 0 c 0 st (fun _ => 0) ch lg :=
    ⟨hcn, by rw [Nat.add_zero]; exact hl, fun i hi => by omega, fun j hj => absurd rfl hj, Or.inl rfl, fun j _ => ⟨fun _ => rfl, fun _ => bl_0 j⟩⟩
  obtain ⟨e, l', st', tg', f0', f1', lg', ch', ho, hX⟩ := fc_1 (ar := ar) (cap := cap) (nT := nT) (nA := nA) (nC := nC) (cp := cp) (dn := dn) (op := op) (bd := bd) (lk := lk) (lc := lc) (la := la) (lt := lt) (le := le) (kd := kd) (tx := tx) (ts := ts) (ta := ta) (gv := gv) (gt := gt) (rh := rh) (ft := ft) (fa := fa) (ca := ca) (vt := vt) (ag := ag) (tc := tc) (de := de) (si := si) (sP := sP) (sV := sV) hn hok hcn _ 0 c 0 _ ch lg (Nat.le_refl _) I
  exact ⟨e, l', st', tg', f0', f1', lg', ch', ho, fun post hp => ⟨_, hX post _ (Nat.le_refl _) hp⟩⟩
end
