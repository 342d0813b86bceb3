/-! the calls that only read: one answer each -/
theorem om_last {u : St2} (I : xr_ok u) (v1 : Int32) : ∃ r : Int32, ∀ post : Int32 → Prop, post r → wpX_last post u v1 := by
  obtain ⟨ar, cap, n, nT, nA, nC, cp, dn, op, l, bd, lk, lc, la, lt, le, st, tg, f0, f1, kd, tx, ts, ta, gv, gt, rh, ft, fa, ca, vt, ag, tc, lg, T, A, rfl, hk1, hk2, hk3, hk4, hk5, hk6, hk7, hk8, hk9, hk10, hk11, hk12⟩ := I
  by_cases h0 : v1 < 0
  · exact ⟨-1, fun post hp => br_t h0 hp⟩
  · by_cases h5 : 5 < v1
    · exact ⟨-1, fun post hp => br_f h0 (br_t h5 hp)⟩
    · obtain ⟨j, hj, rfl⟩ := nI_of2 (M := 5) (n := 5) (by decide) h0 (Int32.not_lt.mp h5)
      have hc : j = 0 ∨ j = 1 ∨ j = 2 ∨ j = 3 ∨ j = 4 ∨ j = 5 := by omega
      rcases hc with z | z | z | z | z | z <;> subst z
      · exact ⟨lk, fun post hp => br_f h0 (br_f h5 (br_t rfl hp))⟩
      · exact ⟨lc, fun post hp => br_f h0 (br_f h5 (br_f (by decide) (br_t rfl hp)))⟩
      · exact ⟨la, fun post hp => br_f h0 (br_f h5 (br_f (by decide) (br_f (by decide) (br_t rfl hp))))⟩
      · exact ⟨lt, fun post hp => br_f h0 (br_f h5 (br_f (by decide) (br_f (by decide) (br_f (by decide) (br_t rfl hp)))))⟩
      · exact ⟨le, fun post hp => br_f h0 (br_f h5 (br_f (by decide) (br_f (by decide) (br_f (by decide) (br_f (by decide) (br_t rfl hp))))))⟩
      · exact ⟨nI l, fun post hp => br_f h0 (br_f h5 (br_f (by decide) (br_f (by decide) (br_f (by decide) (br_f (by decide) (br_f (by decide) (br_t rfl hp)))))))⟩
theorem om_logAt {u : St2} (I : xr_ok u) (v1 : Int32) : ∃ r : Int32, ∀ post : Int32 → Prop, post r → wpX_logAt post u v1 := by
  obtain ⟨ar, cap, n, nT, nA, nC, cp, dn, op, l, bd, lk, lc, la, lt, le, st, tg, f0, f1, kd, tx, ts, ta, gv, gt, rh, ft, fa, ca, vt, ag, tc, lg, T, A, rfl, hk1, hk2, hk3, hk4, hk5, hk6, hk7, hk8, hk9, hk10, hk11, hk12⟩ := I
  by_cases h0 : v1 < 0
  · exact ⟨-1, fun post hp => br_t h0 hp⟩
  · obtain ⟨j, hj, rfl⟩ := nI_of h0
    by_cases hl : l ≤ j
    · exact ⟨-1, fun post hp => br_f h0 (br_t (nI_le hl hj) hp)⟩
    · exact ⟨_, fun post hp => br_f h0 (br_f (nI_ge (by omega) (by omega)) ⟨vp_in_nI (by omega) (by omega), hp⟩)⟩
theorem om_cellInfo {u : St2} (I : xr_ok u) (v1 : Int32) (v2 : Int32) : ∃ r : Int32, ∀ post : Int32 → Prop, post r → wpX_cellInfo post u v1 v2 := by
  obtain ⟨ar, cap, n, nT, nA, nC, cp, dn, op, l, bd, lk, lc, la, lt, le, st, tg, f0, f1, kd, tx, ts, ta, gv, gt, rh, ft, fa, ca, vt, ag, tc, lg, T, A, rfl, hk1, hk2, hk3, hk4, hk5, hk6, hk7, hk8, hk9, hk10, hk11, hk12⟩ := I
  by_cases h0 : v1 < 0
  · exact ⟨-1, fun post hp => br_t h0 (br_t rfl hp)⟩
  · obtain ⟨j, hj, rfl⟩ := nI_of h0
    by_cases hl : n ≤ j
    · exact ⟨-1, fun post hp => br_f h0 (br_t (nI_le hl hj) (br_t rfl hp))⟩
    · have a : ¬ nI n ≤ nI j := nI_ge (by omega) (by omega)
      have v : vp_in (nI j) 32 := vp_in_nI (by omega) (by omega)
      by_cases g0 : v2 < 0
      · exact ⟨-1, fun post hp => br_f h0 (br_f a (br_f (by decide) (br_t g0 hp)))⟩
      · by_cases g3 : 3 < v2
        · exact ⟨-1, fun post hp => br_f h0 (br_f a (br_f (by decide) (br_f g0 (br_t g3 hp))))⟩
        · obtain ⟨i, hi, rfl⟩ := nI_of2 (M := 3) (n := 3) (by decide) g0 (Int32.not_lt.mp g3)
          have hc : i = 0 ∨ i = 1 ∨ i = 2 ∨ i = 3 := by omega
          rcases hc with z | z | z | z <;> subst z
          · exact ⟨_, fun post hp => br_f h0 (br_f a (br_f (by decide) (br_f g0 (br_f g3 (br_t rfl ⟨v, hp⟩)))))⟩
          · exact ⟨_, fun post hp => br_f h0 (br_f a (br_f (by decide) (br_f g0 (br_f g3 (br_f (by decide) (br_t rfl ⟨v, hp⟩))))))⟩
          · exact ⟨_, fun post hp => br_f h0 (br_f a (br_f (by decide) (br_f g0 (br_f g3 (br_f (by decide) (br_f (by decide) (br_t rfl ⟨v, hp⟩)))))))⟩
          · exact ⟨_, fun post hp => br_f h0 (br_f a (br_f (by decide) (br_f g0 (br_f g3 (br_f (by decide) (br_f (by decide) (br_f (by decide) (br_t rfl ⟨v, hp⟩))))))))⟩
theorem om_progInfo {u : St2} (I : xr_ok u) (v1 : Int32) : ∃ r : Int32, ∀ post : Int32 → Prop, post r → wpX_progInfo post u v1 := by
  obtain ⟨ar, cap, n, nT, nA, nC, cp, dn, op, l, bd, lk, lc, la, lt, le, st, tg, f0, f1, kd, tx, ts, ta, gv, gt, rh, ft, fa, ca, vt, ag, tc, lg, T, A, rfl, hk1, hk2, hk3, hk4, hk5, hk6, hk7, hk8, hk9, hk10, hk11, hk12⟩ := I
  have hC8 := hk9.1
  by_cases h0 : v1 < 0
  · exact ⟨-1, fun post hp => br_t h0 hp⟩
  · by_cases h7 : 7 < v1
    · exact ⟨-1, fun post hp => br_f h0 (br_t h7 hp)⟩
    · obtain ⟨j, hj, rfl⟩ := nI_of2 (M := 7) (n := 7) (by decide) h0 (Int32.not_lt.mp h7)
      have hc : j = 0 ∨ j = 1 ∨ j = 2 ∨ j = 3 ∨ j = 4 ∨ j = 5 ∨ j = 6 ∨ j = 7 := by omega
      rcases hc with z | z | z | z | z | z | z | z <;> subst z
      · exact ⟨nI nC, fun post hp => br_f h0 (br_f h7 (br_t rfl hp))⟩
      · exact ⟨nI nT, fun post hp => br_f h0 (br_f h7 (br_f (by decide) (br_t rfl hp)))⟩
      · exact ⟨nI nA, fun post hp => br_f h0 (br_f h7 (br_f (by decide) (br_f (by decide) (br_t rfl hp))))⟩
      · by_cases c0 : nI cp = 0
        · exact ⟨0, fun post hp => br_f h0 (br_f h7 (br_f (by decide) (br_f (by decide) (br_f (by decide) (br_t rfl (br_t c0 hp))))))⟩
        · exact ⟨1, fun post hp => br_f h0 (br_f h7 (br_f (by decide) (br_f (by decide) (br_f (by decide) (br_t rfl (br_f c0 hp))))))⟩
      · exact ⟨nI dn, fun post hp => br_f h0 (br_f h7 (br_f (by decide) (br_f (by decide) (br_f (by decide) (br_f (by decide) (br_t rfl hp))))))⟩
      · exact ⟨nI op, fun post hp => br_f h0 (br_f h7 (br_f (by decide) (br_f (by decide) (br_f (by decide) (br_f (by decide) (br_f (by decide) (br_t rfl hp)))))))⟩
      · exact ⟨bd, fun post hp => br_f h0 (br_f h7 (br_f (by decide) (br_f (by decide) (br_f (by decide) (br_f (by decide) (br_f (by decide) (br_f (by decide) (br_t rfl hp))))))))⟩
      · by_cases c0 : nC = 0
        · have c1 : nI nC = 0 := by rw [c0]; rfl
          exact ⟨0, fun post hp => br_f h0 (br_f h7 (br_f (by decide) (br_f (by decide) (br_f (by decide) (br_f (by decide) (br_f (by decide) (br_f (by decide) (br_f (by decide) (br_t rfl (br_t c1 hp))))))))))⟩
        · obtain ⟨c, rfl⟩ : ∃ c, nC = c + 1 := ⟨nC - 1, by omega⟩
          have c1 : ¬ nI (c + 1) = 0 := nI_ne0 (by omega) (by omega)
          have e1 : nI (c + 1) - 1 = nI c := nI_pred c
          have v : vp_in (nI (c + 1) - 1) 8 := by rw [e1]; exact vp_in_nI (by omega) (by omega)
          exact ⟨_, fun post hp => br_f h0 (br_f h7 (br_f (by decide) (br_f (by decide) (br_f (by decide) (br_f (by decide) (br_f (by decide) (br_f (by decide) (br_f (by decide) (br_t rfl (br_f c1 ⟨v, hp⟩))))))))))⟩
