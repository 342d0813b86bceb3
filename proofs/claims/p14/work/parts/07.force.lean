/-! FORCE in lockstep -/
theorem nb_0 : vp_nar .boolean 0 = 0 := rfl
theorem nb_1 : vp_nar .boolean 1 = 1 := rfl
section
variable {ar cap n nT nA nC cp dn op : Nat} {bd lk lc la lt le : Int32} {kd tx ts ta gv gt rh ft fa ca vt ag : Nat → Int32}
/-- the component's second loop: the log's entries from l0 take d's value -/
theorem fx_2 {post : Int32 → St2 → Prop} {l0 l d : Nat} {st tg f0 f1 tc lg : Nat → Int32} (hd : d < 32) (hl : l ≤ 32) (hg : ∀ j, l0 + j < l → ∃ e, e < 32 ∧ lg (l0 + j) = nI e) :
    ∀ (k m N : Nat), l0 + m + k = l → k < N →
      post 1 ((nI ar), (nI cap), (nI n), (nI nT), (nI nA), (nI nC), (nI cp), (nI dn), (nI op), bd, (nI l), lk, lc, la, lt, le, (fw_a (fun j => lg (l0 + j)) 0 st (m + k)), (fw_a (fun j => lg (l0 + j)) (tg d) tg (m + k)), (fw_a (fun j => lg (l0 + j)) (f0 d) f0 (m + k)), (fw_a (fun j => lg (l0 + j)) (f1 d) f1 (m + k)), kd, tx, ts, ta, gv, gt, rh, ft, fa, ca, vt, ag, tc, lg) →
      wX_force_134 post (nI d) (nI ar) (nI cap) (nI n) (nI nT) (nI nA) (nI nC) (nI cp) (nI dn) (nI op) bd (nI l) lk lc la lt le N (nI (l0 + m)) (fw_a (fun j => lg (l0 + j)) 0 st m) (fw_a (fun j => lg (l0 + j)) (tg d) tg m) (fw_a (fun j => lg (l0 + j)) (f0 d) f0 m) (fw_a (fun j => lg (l0 + j)) (f1 d) f1 m) kd tx ts ta gv gt rh ft fa ca vt ag tc lg := by
  intro k
  induction k with
  | zero =>
    intro m N h1 h2 hp
    obtain ⟨N, rfl⟩ : ∃ N', N = N' + 1 := ⟨N - 1, by omega⟩
    rw [wX_force_134]
    exact br_t (nI_le (by omega) (by omega)) hp
  | succ k ih =>
    intro m N h1 h2 hp
    obtain ⟨N, rfl⟩ : ∃ N', N = N' + 1 := ⟨N - 1, by omega⟩
    obtain ⟨e, he, hge⟩ := hg m (by omega)
    have c1 : (nI (l0 + m)).toNatClampNeg = l0 + m := nI_clamp (by omega)
    have c2 : (nI d).toNatClampNeg = d := nI_clamp (by omega)
    have v1 : vp_in (nI (l0 + m)) 32 := vp_in_nI (by omega) (by omega)
    have v2 : vp_in (nI d) 32 := vp_in_nI hd (by omega)
    have v3 : vp_in (nI e) 32 := vp_in_nI he (by omega)
    have s1 : ∀ (v : Int32) (a : Nat → Int32), upd (fw_a (fun j => lg (l0 + j)) v a m) (nI e).toNatClampNeg v = fw_a (fun j => lg (l0 + j)) v a (m + 1) := fun v a => by
      rw [fw_s]
      show _ = upd _ (lg (l0 + m)).toNatClampNeg v
      rw [hge]
    have s2 : ∀ a : Nat → Int32, upd (fw_a (fun j => lg (l0 + j)) (a d) a m) (nI e).toNatClampNeg ((fw_a (fun j => lg (l0 + j)) (a d) a m) (nI d).toNatClampNeg) = fw_a (fun j => lg (l0 + j)) (a d) a (m + 1) := fun a => by
      rw [c2, fw_self, s1]
    rw [wX_force_134]
    refine br_f (nI_ge (by omega) (by omega)) ⟨v1, nm_r (e' := nI e) (by rw [c1]; exact hge) ⟨v3, nm_r (s1 0 st) ⟨v2, v3, nm_r (s2 tg) ⟨v2, v3, nm_r (s2 f0) ⟨v2, v3, nm_r (s2 f1) (nm_r (nI_1 (l0 + m)) ?_)⟩⟩⟩⟩⟩
    exact ih (m + 1) N (by omega) (by omega) (by rw [show m + 1 + k = m + (k + 1) by omega]; exact hp)
end
