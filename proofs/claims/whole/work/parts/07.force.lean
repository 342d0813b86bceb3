/-! FORCE in lockstep -/
theorem nb_0 : vp_nar .boolean 0 = 0 := rfl
theorem nb_1 : vp_nar .boolean 1 = 1 := rfl
section
variable {ar cap n nT nA nC cp dn op : Nat} {bd lk lc la lt le hc yk yc ya yt ye : Int32} {kd tx ts ta gv gt rh ft fa ca vt ag : Nat → Int32}
/-- the component's second loop: the log's entries from l0 take d's value -/
theorem fx_2 {post : Int32 → SX → Prop} {l0 l d : Nat} {st tg f0 f1 tc lg : Nat → Int32} (hd : d < 32) (hl : l ≤ 32) (hg : ∀ j, l0 + j < l → ∃ e, e < 32 ∧ lg (l0 + j) = nI e) :
    ∀ (k m N : Nat), l0 + m + k = l → k < N →
      post 1 ((nI ar), (nI cap), (nI n), (nI nT), (nI nA), (nI nC), (nI cp), (nI dn), (nI op), bd, (nI l), lk, lc, la, lt, le, (fw_a (fun j => lg (l0 + j)) 0 st (m + k)), (fw_a (fun j => lg (l0 + j)) (tg d) tg (m + k)), (fw_a (fun j => lg (l0 + j)) (f0 d) f0 (m + k)), (fw_a (fun j => lg (l0 + j)) (f1 d) f1 (m + k)), kd, tx, ts, ta, gv, gt, rh, ft, fa, ca, vt, ag, tc, lg) →
      wX_force_134 post (nI d) (nI ar) (nI cap) (nI n) (nI nT) (nI nA) (nI nC) (nI cp) (nI dn) (nI op) bd (nI l) lk lc la lt le N (nI (l0 + m)) (fw_a (fun j => lg (l0 + j)) 0 st m) (fw_a (fun j => lg (l0 + j)) (tg d) tg m) (fw_a (fun j => lg (l0 + j)) (f0 d) f0 m) (fw_a (fun j => lg (l0 + j)) (f1 d) f1 m) kd tx ts ta gv gt rh ft fa ca vt ag tc lg := by
  intro k
  induction k with
  | zero =>
    intro m N h1 h2 hp
    obtain ⟨N, rfl⟩ : ∃ N', N = N' + 1 := ⟨N - 1, by omega⟩
    rw [wX_force_134]
    exact br_t (nI_le (by omega) (by omega)) hp
  | succ k ih =>
    intro m N h1 h2 hp
    obtain ⟨N, rfl⟩ : ∃ N', N = N' + 1 := ⟨N - 1, by omega⟩
    obtain ⟨e, he, hge⟩ := hg m (by omega)
    have c1 : (nI (l0 + m)).toNatClampNeg = l0 + m := nI_clamp (by omega)
    have c2 : (nI d).toNatClampNeg = d := nI_clamp (by omega)
    have v1 : vp_in (nI (l0 + m)) 32 := vp_in_nI (by omega) (by omega)
    have v2 : vp_in (nI d) 32 := vp_in_nI hd (by omega)
    have v3 : vp_in (nI e) 32 := vp_in_nI he (by omega)
    have s1 : ∀ (v : Int32) (a : Nat → Int32), upd (fw_a (fun j => lg (l0 + j)) v a m) (nI e).toNatClampNeg v = fw_a (fun j => lg (l0 + j)) v a (m + 1) := fun v a => by
      rw [fw_s]
      show _ = upd _ (lg (l0 + m)).toNatClampNeg v
      rw [hge]
    have s2 : ∀ a : Nat → Int32, upd (fw_a (fun j => lg (l0 + j)) (a d) a m) (nI e).toNatClampNeg ((fw_a (fun j => lg (l0 + j)) (a d) a m) (nI d).toNatClampNeg) = fw_a (fun j => lg (l0 + j)) (a d) a (m + 1) := fun a => by
      rw [c2, fw_self, s1]
    rw [wX_force_134]
    refine br_f (nI_ge (by omega) (by omega)) ⟨v1, nm_r (e' := nI e) (by rw [c1]; exact hge) ⟨v3, nm_r (s1 0 st) ⟨v2, v3, nm_r (s2 tg) ⟨v2, v3, nm_r (s2 f0) ⟨v2, v3, nm_r (s2 f1) (nm_r (nI_1 (l0 + m)) ?_)⟩⟩⟩⟩⟩
    exact ih (m + 1) N (by omega) (by omega) (by rw [show m + 1 + k = m + (k + 1) by omega]; exact hp)
/-- the reference's second loop after an end that is a VALUE -/
theorem fy_2 {post : SY → Prop} {d l t : Nat} {er : Int32} {st tg f0 f1 mk ch lg de si sP sV : Nat → Int32} (hd : d < 32) (ht : t ≤ 32) (hg : ∀ j, j < t → ∃ e, e < 32 ∧ ch j = nI e) :
    ∀ (k m N : Nat), m + k = t → k < N →
      post ((nI ar), (nI cap), (nI n), (nI nC), (nI nT), (nI nA), (nI cp), hc, (nI dn), (nI op), bd, (nI l), yk, yc, ya, yt, ye, er, (fw_a ch 0 st (m + k)), (fw_a ch (tg d) tg (m + k)), (fw_a ch (f0 d) f0 (m + k)), (fw_a ch (f1 d) f1 (m + k)), (fw_a ch 0 mk (m + k)), ch, kd, tx, ft, fa, gv, gt, rh, lg, de, si, sP, sV) →
      wY_force_207 post (nI t) (nI d) 1 (nI ar) (nI cap) (nI n) (nI nC) (nI nT) (nI nA) (nI cp) hc (nI dn) (nI op) bd (nI l) yk yc ya yt ye er N (nI m) (fw_a ch 0 st m) (fw_a ch (tg d) tg m) (fw_a ch (f0 d) f0 m) (fw_a ch (f1 d) f1 m) (fw_a ch 0 mk m) ch kd tx ft fa gv gt rh lg de si sP sV := by
  intro k
  induction k with
  | zero =>
    intro m N h1 h2 hp
    obtain ⟨N, rfl⟩ : ∃ N', N = N' + 1 := ⟨N - 1, by omega⟩
    rw [wY_force_207]
    exact br_t (nI_le (by omega) (by omega)) hp
  | succ k ih =>
    intro m N h1 h2 hp
    obtain ⟨N, rfl⟩ : ∃ N', N = N' + 1 := ⟨N - 1, by omega⟩
    obtain ⟨e, he, hge⟩ := hg m (by omega)
    have c1 : (nI m).toNatClampNeg = m := nI_clamp (by omega)
    have c2 : (nI d).toNatClampNeg = d := nI_clamp (by omega)
    have v1 : vp_in (nI m) 32 := vp_in_nI (by omega) (by omega)
    have v2 : vp_in (nI d) 32 := vp_in_nI hd (by omega)
    have v3 : vp_in (nI e) 32 := vp_in_nI he (by omega)
    have s1 : ∀ (v : Int32) (a : Nat → Int32), upd (fw_a ch v a m) (nI e).toNatClampNeg v = fw_a ch v a (m + 1) := fun v a => by
      rw [fw_s, hge]
    have s2 : ∀ a : Nat → Int32, upd (fw_a ch (a d) a m) (nI e).toNatClampNeg ((fw_a ch (a d) a m) (nI d).toNatClampNeg) = fw_a ch (a d) a (m + 1) := fun a => by
      rw [c2, fw_self, s1]
    rw [wY_force_207]
    refine br_f (nI_ge (by omega) (by omega)) ⟨v1, nm_r (e' := nI e) (by rw [c1]; exact hge) ⟨v3, nm_r (e' := fw_a ch 0 mk (m + 1)) (by rw [nb_0]; exact s1 0 mk) (br_f (by decide) ⟨v3, nm_r (s1 0 st) ⟨v2, v3, nm_r (s2 tg) ⟨v2, v3, nm_r (s2 f0) ⟨v2, v3, nm_r (s2 f1) (nm_r (nI_1 m) ?_)⟩⟩⟩⟩)⟩⟩
    exact ih (m + 1) N (by omega) (by omega) (by rw [show m + 1 + k = m + (k + 1) by omega]; exact hp)
/-- and after an error: the marks alone are taken away -/
theorem fy_3 {post : SY → Prop} {l t : Nat} {er d : Int32} {st tg f0 f1 mk ch lg de si sP sV : Nat → Int32} (ht : t ≤ 32) (hg : ∀ j, j < t → ∃ e, e < 32 ∧ ch j = nI e) :
    ∀ (k m N : Nat), m + k = t → k < N →
      post ((nI ar), (nI cap), (nI n), (nI nC), (nI nT), (nI nA), (nI cp), hc, (nI dn), (nI op), bd, (nI l), yk, yc, ya, yt, ye, er, st, tg, f0, f1, (fw_a ch 0 mk (m + k)), ch, kd, tx, ft, fa, gv, gt, rh, lg, de, si, sP, sV) → wY_force_207 post (nI t) d 0 (nI ar) (nI cap) (nI n) (nI nC) (nI nT) (nI nA) (nI cp) hc (nI dn) (nI op) bd (nI l) yk yc ya yt ye er N (nI m) st tg f0 f1 (fw_a ch 0 mk m) ch kd tx ft fa gv gt rh lg de si sP sV := by
  intro k
  induction k with
  | zero =>
    intro m N h1 h2 hp
    obtain ⟨N, rfl⟩ : ∃ N', N = N' + 1 := ⟨N - 1, by omega⟩
    rw [wY_force_207]
    exact br_t (nI_le (by omega) (by omega)) hp
  | succ k ih =>
    intro m N h1 h2 hp
    obtain ⟨N, rfl⟩ : ∃ N', N = N' + 1 := ⟨N - 1, by omega⟩
    obtain ⟨e, he, hge⟩ := hg m (by omega)
    have c1 : (nI m).toNatClampNeg = m := nI_clamp (by omega)
    have v1 : vp_in (nI m) 32 := vp_in_nI (by omega) (by omega)
    have v3 : vp_in (nI e) 32 := vp_in_nI he (by omega)
    rw [wY_force_207]
    refine br_f (nI_ge (by omega) (by omega)) ⟨v1, nm_r (e' := nI e) (by rw [c1]; exact hge) ⟨v3, nm_r (e' := fw_a ch 0 mk (m + 1)) (by rw [nb_0, fw_s, hge]) (br_t rfl (nm_r (nI_1 m) ?_))⟩⟩
    exact ih (m + 1) N (by omega) (by omega) (by rw [show m + 1 + k = m + (k + 1) by omega]; exact hp)
end
