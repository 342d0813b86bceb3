/-! the calls that only read -/
theorem i_vc_last {k : Nat} {u : SX} {v : SY} (I : i_Rel k u v) (hk : k + 5 ≤ 2562) (v1 : Int32) : wpX_last (fun r => wpY_last (fun r' => r' = r ∧ i_Rel (k + 5) u v) v v1) u v1 := by
  obtain ⟨ar, cap, n, nT, nA, nC, cp, dn, op, l, bd, lk, lc, la, lt, le, st, tg, f0, f1, kd, tx, ts, ta, gv, gt, rh, ft, fa, ca, vt, ag, tc, lg, ch, de, si, sP, sV, T, A, rfl, rfl, hk1, hk2, hk3, hk4, hk5, hk6, hk7, hk8, hk9, hk10, hk11, hk12⟩ := I
  have J := ir_mk (k := k + 5) (gt := gt) (ag := ag) (tc := tc) (lg := lg) (ch := ch) (de := de) (si := si) (sP := sP) (sV := sV) (lk := lk) (lc := lc) (la := la) (lt := lt) (le := le) ⟨hk1, hk2, hk3, hk4, hk5, hk6, hk7, hk8, hk9, hk10, hk11, hk12⟩
  by_cases h0 : v1 < 0
  · exact br_t h0 (br_f (fun z => absurd h0 (by rw [z]; decide)) (br_f (fun z => absurd h0 (by rw [z]; decide)) (br_f (fun z => absurd h0 (by rw [z]; decide)) (br_f (fun z => absurd h0 (by rw [z]; decide)) (br_f (fun z => absurd h0 (by rw [z]; decide)) (br_f (fun z => absurd h0 (by rw [z]; decide)) (⟨rfl, J⟩)))))))
  · by_cases h5 : 5 < v1
    · exact br_f h0 (br_t h5 (br_f (fun z => absurd h5 (by rw [z]; decide)) (br_f (fun z => absurd h5 (by rw [z]; decide)) (br_f (fun z => absurd h5 (by rw [z]; decide)) (br_f (fun z => absurd h5 (by rw [z]; decide)) (br_f (fun z => absurd h5 (by rw [z]; decide)) (br_f (fun z => absurd h5 (by rw [z]; decide)) (⟨rfl, J⟩))))))))
    · obtain ⟨j, hj, rfl⟩ := nI_of2 (M := 5) (n := 5) (by decide) h0 (Int32.not_lt.mp h5)
      have hc : j = 0 ∨ j = 1 ∨ j = 2 ∨ j = 3 ∨ j = 4 ∨ j = 5 := by omega
      rcases hc with z | z | z | z | z | z <;> subst z
      · exact br_f h0 (br_f h5 (br_t rfl (br_t rfl ⟨rfl, J⟩)))
      · exact br_f h0 (br_f h5 (br_f (by decide) (br_t rfl (br_f (by decide) (br_t rfl ⟨rfl, J⟩)))))
      · exact br_f h0 (br_f h5 (br_f (by decide) (br_f (by decide) (br_t rfl (br_f (by decide) (br_f (by decide) (br_t rfl ⟨rfl, J⟩)))))))
      · exact br_f h0 (br_f h5 (br_f (by decide) (br_f (by decide) (br_f (by decide) (br_t rfl (br_f (by decide) (br_f (by decide) (br_f (by decide) (br_t rfl ⟨rfl, J⟩)))))))))
      · exact br_f h0 (br_f h5 (br_f (by decide) (br_f (by decide) (br_f (by decide) (br_f (by decide) (br_t rfl (br_f (by decide) (br_f (by decide) (br_f (by decide) (br_f (by decide) (br_t rfl ⟨rfl, J⟩)))))))))))
      · exact br_f h0 (br_f h5 (br_f (by decide) (br_f (by decide) (br_f (by decide) (br_f (by decide) (br_f (by decide) (br_t rfl (br_f (by decide) (br_f (by decide) (br_f (by decide) (br_f (by decide) (br_f (by decide) (br_t rfl ⟨rfl, J⟩)))))))))))))
theorem i_vc_logAt {k : Nat} {u : SX} {v : SY} (I : i_Rel k u v) (hk : k + 5 ≤ 2562) (v1 : Int32) : wpX_logAt (fun r => wpY_logAt (fun r' => r' = r ∧ i_Rel (k + 5) u v) v v1) u v1 := by
  obtain ⟨ar, cap, n, nT, nA, nC, cp, dn, op, l, bd, lk, lc, la, lt, le, st, tg, f0, f1, kd, tx, ts, ta, gv, gt, rh, ft, fa, ca, vt, ag, tc, lg, ch, de, si, sP, sV, T, A, rfl, rfl, hk1, hk2, hk3, hk4, hk5, hk6, hk7, hk8, hk9, hk10, hk11, hk12⟩ := I
  have J := ir_mk (k := k + 5) (gt := gt) (ag := ag) (tc := tc) (lg := lg) (ch := ch) (de := de) (si := si) (sP := sP) (sV := sV) (lk := lk) (lc := lc) (la := la) (lt := lt) (le := le) ⟨hk1, hk2, hk3, hk4, hk5, hk6, hk7, hk8, hk9, hk10, hk11, hk12⟩
  by_cases h0 : v1 < 0
  · exact br_t h0 (br_t h0 ⟨rfl, J⟩)
  · obtain ⟨j, hj, rfl⟩ := nI_of h0
    by_cases hl : l ≤ j
    · have a := nI_le hl hj
      exact br_f h0 (br_t a (br_f h0 (br_t a ⟨rfl, J⟩)))
    · have a : ¬ nI l ≤ nI j := nI_ge (by omega) (by omega)
      have v : vp_in (nI j) 32 := vp_in_nI (by omega) (by omega)
      exact br_f h0 (br_f a ⟨v, br_f h0 (br_f a (br_t (nI_lt (b := 32) (by omega) (by omega)) ⟨v, rfl, J⟩))⟩)
theorem i_vc_cellInfo {k : Nat} {u : SX} {v : SY} (I : i_Rel k u v) (hk : k + 5 ≤ 2562) (v1 : Int32) (v2 : Int32) : wpX_cellInfo (fun r => wpY_cellInfo (fun r' => r' = r ∧ i_Rel (k + 5) u v) v v1 v2) u v1 v2 := by
  obtain ⟨ar, cap, n, nT, nA, nC, cp, dn, op, l, bd, lk, lc, la, lt, le, st, tg, f0, f1, kd, tx, ts, ta, gv, gt, rh, ft, fa, ca, vt, ag, tc, lg, ch, de, si, sP, sV, T, A, rfl, rfl, hk1, hk2, hk3, hk4, hk5, hk6, hk7, hk8, hk9, hk10, hk11, hk12⟩ := I
  have J := ir_mk (k := k + 5) (gt := gt) (ag := ag) (tc := tc) (lg := lg) (ch := ch) (de := de) (si := si) (sP := sP) (sV := sV) (lk := lk) (lc := lc) (la := la) (lt := lt) (le := le) ⟨hk1, hk2, hk3, hk4, hk5, hk6, hk7, hk8, hk9, hk10, hk11, hk12⟩
  by_cases h0 : v1 < 0
  · exact br_t h0 (br_t rfl (br_t h0 ⟨rfl, J⟩))
  · obtain ⟨j, hj, rfl⟩ := nI_of h0
    by_cases hl : n ≤ j
    · exact br_f h0 (br_t (nI_le hl hj) (br_t rfl (br_f h0 (br_f (nI_nlt hl hj) ⟨rfl, J⟩))))
    · have a : ¬ nI n ≤ nI j := nI_ge (by omega) (by omega)
      have a' : nI j < nI n := nI_lt (by omega) (by omega)
      have v : vp_in (nI j) 32 := vp_in_nI (by omega) (by omega)
      refine br_f h0 (br_f a (br_f (by decide) ?_))
      by_cases g0 : v2 < 0
      · exact br_t g0 (br_f h0 (br_t a' (br_f (fun z => absurd g0 (by rw [z]; decide)) (br_f (fun z => absurd g0 (by rw [z]; decide)) (br_f (fun z => absurd g0 (by rw [z]; decide)) (br_f (fun z => absurd g0 (by rw [z]; decide)) (⟨rfl, J⟩)))))))
      · by_cases g3 : 3 < v2
        · exact br_f g0 (br_t g3 (br_f h0 (br_t a' (br_f (fun z => absurd g3 (by rw [z]; decide)) (br_f (fun z => absurd g3 (by rw [z]; decide)) (br_f (fun z => absurd g3 (by rw [z]; decide)) (br_f (fun z => absurd g3 (by rw [z]; decide)) (⟨rfl, J⟩))))))))
        · obtain ⟨i, hi, rfl⟩ := nI_of2 (M := 3) (n := 3) (by decide) g0 (Int32.not_lt.mp g3)
          have hc : i = 0 ∨ i = 1 ∨ i = 2 ∨ i = 3 := by omega
          rcases hc with z | z | z | z <;> subst z
          · exact br_f g0 (br_f g3 (br_t rfl ⟨v, br_f h0 (br_t a' (br_t rfl ⟨v, rfl, J⟩))⟩))
          · exact br_f g0 (br_f g3 (br_f (by decide) (br_t rfl ⟨v, br_f h0 (br_t a' (br_f (by decide) (br_t rfl ⟨v, rfl, J⟩)))⟩)))
          · exact br_f g0 (br_f g3 (br_f (by decide) (br_f (by decide) (br_t rfl ⟨v, br_f h0 (br_t a' (br_f (by decide) (br_f (by decide) (br_t rfl ⟨v, rfl, J⟩))))⟩))))
          · exact br_f g0 (br_f g3 (br_f (by decide) (br_f (by decide) (br_f (by decide) (br_t rfl ⟨v, br_f h0 (br_t a' (br_f (by decide) (br_f (by decide) (br_f (by decide) (br_t rfl ⟨v, rfl, J⟩)))))⟩)))))
theorem i_vc_progInfo {k : Nat} {u : SX} {v : SY} (I : i_Rel k u v) (hk : k + 5 ≤ 2562) (v1 : Int32) : wpX_progInfo (fun r => wpY_progInfo (fun r' => r' = r ∧ i_Rel (k + 5) u v) v v1) u v1 := by
  obtain ⟨ar, cap, n, nT, nA, nC, cp, dn, op, l, bd, lk, lc, la, lt, le, st, tg, f0, f1, kd, tx, ts, ta, gv, gt, rh, ft, fa, ca, vt, ag, tc, lg, ch, de, si, sP, sV, T, A, rfl, rfl, hk1, hk2, hk3, hk4, hk5, hk6, hk7, hk8, hk9, hk10, hk11, hk12⟩ := I
  have J := ir_mk (k := k + 5) (gt := gt) (ag := ag) (tc := tc) (lg := lg) (ch := ch) (de := de) (si := si) (sP := sP) (sV := sV) (lk := lk) (lc := lc) (la := la) (lt := lt) (le := le) ⟨hk1, hk2, hk3, hk4, hk5, hk6, hk7, hk8, hk9, hk10, hk11, hk12⟩
  by_cases h0 : v1 < 0
  · exact br_t h0 (br_f (fun z => absurd h0 (by rw [z]; decide)) (br_f (fun z => absurd h0 (by rw [z]; decide)) (br_f (fun z => absurd h0 (by rw [z]; decide)) (br_f (fun z => absurd h0 (by rw [z]; decide)) (br_f (fun z => absurd h0 (by rw [z]; decide)) (br_f (fun z => absurd h0 (by rw [z]; decide)) (br_f (fun z => absurd h0 (by rw [z]; decide)) (br_f (fun z => absurd h0 (by rw [z]; decide)) (⟨rfl, J⟩)))))))))
  · by_cases h7 : 7 < v1
    · exact br_f h0 (br_t h7 (br_f (fun z => absurd h7 (by rw [z]; decide)) (br_f (fun z => absurd h7 (by rw [z]; decide)) (br_f (fun z => absurd h7 (by rw [z]; decide)) (br_f (fun z => absurd h7 (by rw [z]; decide)) (br_f (fun z => absurd h7 (by rw [z]; decide)) (br_f (fun z => absurd h7 (by rw [z]; decide)) (br_f (fun z => absurd h7 (by rw [z]; decide)) (br_f (fun z => absurd h7 (by rw [z]; decide)) (⟨rfl, J⟩))))))))))
    · obtain ⟨j, hj, rfl⟩ := nI_of2 (M := 7) (n := 7) (by decide) h0 (Int32.not_lt.mp h7)
      have hc : j = 0 ∨ j = 1 ∨ j = 2 ∨ j = 3 ∨ j = 4 ∨ j = 5 ∨ j = 6 ∨ j = 7 := by omega
      have hC8 := hk9.1
      have q : ∀ (x y z w : Int32), (nC = 0 → w = z) → (¬ nC = 0 → w = y) → x = w → (ir_h nC = 0 → z = x ∧ i_Rel (k + 5) ((nI ar), (nI cap), (nI n), (nI nT), (nI nA), (nI nC), (nI cp), (nI dn), (nI op), bd, (nI l), lk, lc, la, lt, le, st, tg, f0, f1, kd, tx, ts, ta, gv, gt, rh, ft, fa, ca, vt, ag, tc, lg) ((nI ar), (nI cap), (nI n), (nI nC), (nI nT), (nI nA), (nI cp), (ir_h nC), (nI dn), (nI op), bd, (nI l), lk, lc, la, lt, le, 0, st, tg, f0, f1, (fun _ => 0), ch, kd, tx, ft, fa, gv, gt, rh, lg, de, si, sP, sV)) ∧ (¬ ir_h nC = 0 → y = x ∧ i_Rel (k + 5) ((nI ar), (nI cap), (nI n), (nI nT), (nI nA), (nI nC), (nI cp), (nI dn), (nI op), bd, (nI l), lk, lc, la, lt, le, st, tg, f0, f1, kd, tx, ts, ta, gv, gt, rh, ft, fa, ca, vt, ag, tc, lg) ((nI ar), (nI cap), (nI n), (nI nC), (nI nT), (nI nA), (nI cp), (ir_h nC), (nI dn), (nI op), bd, (nI l), lk, lc, la, lt, le, 0, st, tg, f0, f1, (fun _ => 0), ch, kd, tx, ft, fa, gv, gt, rh, lg, de, si, sP, sV)) := by
        intro x y z w w1 w2 w3
        by_cases c0 : nC = 0
        · exact br_t (if_pos c0) ⟨by rw [w3, w1 c0], J⟩
        · exact br_f (by unfold ir_h; rw [if_neg c0]; decide) ⟨by rw [w3, w2 c0], J⟩
      rcases hc with z | z | z | z | z | z | z | z <;> subst z
      · exact br_f h0 (br_f h7 (br_t rfl (br_t rfl ⟨rfl, J⟩)))
      · exact br_f h0 (br_f h7 (br_f (by decide) (br_t rfl (br_f (by decide) (br_t rfl ⟨rfl, J⟩)))))
      · exact br_f h0 (br_f h7 (br_f (by decide) (br_f (by decide) (br_t rfl (br_f (by decide) (br_f (by decide) (br_t rfl ⟨rfl, J⟩)))))))
      · by_cases c0 : nI cp = 0
        · exact br_f h0 (br_f h7 (br_f (by decide) (br_f (by decide) (br_f (by decide) (br_t rfl (br_t c0 (br_f (by decide) (br_f (by decide) (br_f (by decide) (br_t rfl (br_t c0 ⟨rfl, J⟩)))))))))))
        · exact br_f h0 (br_f h7 (br_f (by decide) (br_f (by decide) (br_f (by decide) (br_t rfl (br_f c0 (br_f (by decide) (br_f (by decide) (br_f (by decide) (br_t rfl (br_f c0 ⟨rfl, J⟩)))))))))))
      · exact br_f h0 (br_f h7 (br_f (by decide) (br_f (by decide) (br_f (by decide) (br_f (by decide) (br_t rfl (br_f (by decide) (br_f (by decide) (br_f (by decide) (br_f (by decide) (br_t rfl (q _ _ _ (nI dn) (fun c0 => by rw [(hk10 c0).1]; rfl) (fun _ => rfl) rfl))))))))))))
      · exact br_f h0 (br_f h7 (br_f (by decide) (br_f (by decide) (br_f (by decide) (br_f (by decide) (br_f (by decide) (br_t rfl (br_f (by decide) (br_f (by decide) (br_f (by decide) (br_f (by decide) (br_f (by decide) (br_t rfl (q _ _ _ (nI op) (fun c0 => by rw [(hk10 c0).2.1]; rfl) (fun _ => rfl) rfl))))))))))))))
      · exact br_f h0 (br_f h7 (br_f (by decide) (br_f (by decide) (br_f (by decide) (br_f (by decide) (br_f (by decide) (br_f (by decide) (br_t rfl (br_f (by decide) (br_f (by decide) (br_f (by decide) (br_f (by decide) (br_f (by decide) (br_f (by decide) (br_t rfl (q _ _ _ bd (fun c0 => by rw [(hk10 c0).2.2.1]) (fun _ => rfl) rfl))))))))))))))))
      · by_cases c0 : nC = 0
        · have c1 : nI nC = 0 := by rw [c0]; rfl
          exact br_f h0 (br_f h7 (br_f (by decide) (br_f (by decide) (br_f (by decide) (br_f (by decide) (br_f (by decide) (br_f (by decide) (br_f (by decide) (br_t rfl (br_t c1 (br_f (by decide) (br_f (by decide) (br_f (by decide) (br_f (by decide) (br_f (by decide) (br_f (by decide) (br_f (by decide) (br_t rfl (br_t (if_pos c0) ⟨rfl, J⟩)))))))))))))))))))
        · obtain ⟨c, rfl⟩ : ∃ c, nC = c + 1 := ⟨nC - 1, by omega⟩
          have c1 : ¬ nI (c + 1) = 0 := nI_ne0 (by omega) (by omega)
          have o := hk9.2.2.2.2.2.2.2.2 c (by omega)
          have hnA := hk9.2.2.2.2.2.2.1
          have h16 := hk9.2.2.1
          have e1 : nI (c + 1) - 1 = nI c := nI_pred c
          have e2 : (nI (c + 1) - 1).toNatClampNeg = c := by rw [e1]; exact nI_clamp (by omega)
          have v : vp_in (nI (c + 1) - 1) 8 := by rw [e1]; exact vp_in_nI (by omega) (by omega)
          have e3 : nI nA - fa (nI (c + 1) - 1).toNatClampNeg = ca (nI (c + 1) - 1).toNatClampNeg := by
            rw [e2, o.2.2.2.2.2.1, o.2.2.2.2.2.2.1, hnA, pk_sub (by have := o.2.2.1; omega)]
          exact br_f h0 (br_f h7 (br_f (by decide) (br_f (by decide) (br_f (by decide) (br_f (by decide) (br_f (by decide) (br_f (by decide) (br_f (by decide) (br_t rfl (br_f c1 ⟨v, br_f (by decide) (br_f (by decide) (br_f (by decide) (br_f (by decide) (br_f (by decide) (br_f (by decide) (br_f (by decide) (br_t rfl (br_f (by unfold ir_h; rw [if_neg (by omega)]; decide) ⟨v, e3, J⟩))))))))⟩))))))))))
