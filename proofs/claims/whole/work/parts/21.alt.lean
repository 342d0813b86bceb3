/-! alt -/
section
variable {ar cap n nT nA nC cp dn op : Nat} {bd lk lc la lt le hc yk yc ya yt ye : Int32} {kd tx ts ta gv gt rh ft fa ca vt ag : Nat → Int32}
theorem xa_91 {post : Int32 → SX → Prop} {c l : Nat} {x1 x2 x3 : Int32} {st tg f0 f1 tc lg : Nat → Int32} (hA : nA < 16) (hC : c < 8)
    (h : post 1 ((nI ar), (nI cap), (nI n), (nI nT), (nI (nA + 1)), (nI (c + 1)), (nI cp), (nI dn), (nI op), bd, (nI l), lk, lc, la, lt, le, st, tg, f0, f1, kd, tx, ts, ta, (upd gv nA x1), (upd gt nA x2), (upd rh nA x3), ft, fa, (upd ca c (ca c + 1)), vt, ag, tc, lg)) : wX_alt_91 post x1 x2 x3 (nI ar) (nI cap) (nI n) (nI nT) (nI nA) (nI (c + 1)) (nI cp) (nI dn) (nI op) bd (nI l) lk lc la lt le st tg f0 f1 kd tx ts ta gv gt rh ft fa ca vt ag tc lg := by
  have cA : (nI nA).toNatClampNeg = nA := nI_clamp (by omega)
  have v : vp_in (nI nA) 16 := vp_in_nI hA (by omega)
  have e1 : nI (c + 1) - 1 = nI c := nI_pred c
  have e2 : (nI (c + 1) - 1).toNatClampNeg = c := by rw [e1]; exact nI_clamp (by omega)
  have v8 : vp_in (nI (c + 1) - 1) 8 := by rw [e1]; exact vp_in_nI hC (by omega)
  exact ⟨v, nm_r (e' := upd gv nA x1) (by rw [cA]) ⟨v, nm_r (e' := upd gt nA x2) (by rw [cA]) ⟨v, nm_r (e' := upd rh nA x3) (by rw [cA]) (nm_r (nI_1 nA) ⟨v8, v8, nm_r (e' := upd ca c (ca c + 1)) (by rw [e2]) h⟩)⟩⟩⟩
theorem ya_112 {post : Int32 → SY → Prop} {l : Nat} {x1 x2 x3 er : Int32} {st tg f0 f1 mk ch lg de si sP sV : Nat → Int32} (hA : nA < 16)
    (h : post 1 ((nI ar), (nI cap), (nI n), (nI nC), (nI nT), (nI (nA + 1)), (nI cp), hc, (nI dn), (nI op), bd, (nI l), yk, yc, ya, yt, ye, er, st, tg, f0, f1, mk, ch, kd, tx, ft, fa, (upd gv nA x1), (upd gt nA x2), (upd rh nA x3), lg, de, si, sP, sV)) : wY_alt_112 post x1 x2 x3 (nI ar) (nI cap) (nI n) (nI nC) (nI nT) (nI nA) (nI cp) hc (nI dn) (nI op) bd (nI l) yk yc ya yt ye er st tg f0 f1 mk ch kd tx ft fa gv gt rh lg de si sP sV := by
  have cA : (nI nA).toNatClampNeg = nA := nI_clamp (by omega)
  have v : vp_in (nI nA) 16 := vp_in_nI hA (by omega)
  exact ⟨v, nm_r (e' := upd gv nA x1) (by rw [cA]) ⟨v, nm_r (e' := upd gt nA x2) (by rw [cA]) ⟨v, nm_r (e' := upd rh nA x3) (by rw [cA]) (nm_r (nI_1 nA) h)⟩⟩⟩
end
theorem al_78 {x : Int32} : (8 ≤ x ↔ 7 < x) := by
  rw [Int32.le_iff_toInt_le, Int32.lt_iff_toInt_lt]
  rw [show (8 : Int32).toInt = 8 from by decide, show (7 : Int32).toInt = 7 from by decide]
  omega
theorem i_vc_alt {k : Nat} {u : SX} {v : SY} (I : i_Rel k u v) (hk : k + 5 ≤ 2562) (v1 : Int32) (v2 : Int32) (v3 : Int32) : wpX_alt (fun r u' => wpY_alt (fun r' v' => r' = r ∧ i_Rel (k + 5) u' v') v v1 v2 v3) u v1 v2 v3 := by
  obtain ⟨ar, cap, n, nT, nA, nC, cp, dn, op, l, bd, lk, lc, la, lt, le, st, tg, f0, f1, kd, tx, ts, ta, gv, gt, rh, ft, fa, ca, vt, ag, tc, lg, ch, de, si, sP, sV, T, A, rfl, rfl, hk1, hk2, hk3, hk4, hk5, hk6, hk7, hk8, hk9, hk10, hk11, hk12⟩ := I
  have J := ir_mk (k := k + 5) (gt := gt) (ag := ag) (tc := tc) (lg := lg) (ch := ch) (de := de) (si := si) (sP := sP) (sV := sV) (lk := lk) (lc := lc) (la := la) (lt := lt) (le := le) ⟨hk1, hk2, hk3, hk4, hk5, hk6, hk7, hk8, hk9, hk10, hk11, hk12⟩
  by_cases h0 : cp = 0
  rotate_left
  · have c0 : ¬ nI cp = 0 := nI_ne0 (by omega) (by omega)
    exact br_f c0 (br_f c0 ⟨rfl, J⟩)
  subst h0
  have hC := hk9.1
  by_cases h1 : nC = 0
  · subst h1
    exact br_t rfl (br_t rfl (br_t rfl (br_t rfl ⟨rfl, J⟩)))
  obtain ⟨c, rfl⟩ : ∃ c, nC = c + 1 := ⟨nC - 1, by omega⟩
  have pb := hk11 c rfl
  have x1 : ¬ nI (c + 1) = 0 := nI_ne0 (by omega) (by omega)
  have y1 : ¬ ir_h (c + 1) = 0 := by rw [ir_h1]; decide
  by_cases h2 : nI dn < nI ar
  · exact br_t rfl (br_f x1 (br_t h2 (br_t rfl (br_f y1 (br_t h2 ⟨rfl, J⟩)))))
  by_cases h3 : nI nA = 16
  · exact br_t rfl (br_f x1 (br_f h2 (br_t h3 (br_t rfl (br_f y1 (br_f h2 (br_t h3 ⟨rfl, J⟩)))))))
  have h16 := hk9.2.2.1
  have hA : nA < 16 := by
    rcases Nat.lt_or_ge nA 16 with z | z
    · exact z
    · exact absurd (by rw [show nA = 16 by omega]; rfl) h3
  -- the two sides when guard and right side are good
  have R : (v1 = -1 ∨ ∃ x, x < 8 ∧ v1 = nI x ∧ vr_in kd tx (T c) nT x) → ∀ (PX : ∀ post : Int32 → SX → Prop, wX_alt_65 post v1 v2 v3 (nI ar) (nI cap) (nI n) (nI nT) (nI nA) (nI (c + 1)) (nI 0) (nI dn) (nI op) bd (nI l) lk lc la lt le st tg f0 f1 kd tx ts ta gv gt rh ft fa ca vt ag tc lg → wpX_alt post ((nI ar), (nI cap), (nI n), (nI nT), (nI nA), (nI (c + 1)), (nI 0), (nI dn), (nI op), bd, (nI l), lk, lc, la, lt, le, st, tg, f0, f1, kd, tx, ts, ta, gv, gt, rh, ft, fa, ca, vt, ag, tc, lg) v1 v2 v3)
      (PY : ∀ post : Int32 → SY → Prop, wY_alt_81 post v1 v2 v3 (nI ar) (nI cap) (nI n) (nI (c + 1)) (nI nT) (nI nA) (nI 0) (ir_h (c + 1)) (nI dn) (nI op) bd (nI l) lk lc la lt le 0 st tg f0 f1 (fun _ => 0) ch kd tx ft fa gv gt rh lg de si sP sV → wpY_alt post ((nI ar), (nI cap), (nI n), (nI (c + 1)), (nI nT), (nI nA), (nI 0), (ir_h (c + 1)), (nI dn), (nI op), bd, (nI l), lk, lc, la, lt, le, 0, st, tg, f0, f1, (fun _ => 0), ch, kd, tx, ft, fa, gv, gt, rh, lg, de, si, sP, sV) v1 v2 v3),
      wpX_alt (fun r u' => wpY_alt (fun r' v' => r' = r ∧ i_Rel (k + 5) u' v') ((nI ar), (nI cap), (nI n), (nI (c + 1)), (nI nT), (nI nA), (nI 0), (ir_h (c + 1)), (nI dn), (nI op), bd, (nI l), lk, lc, la, lt, le, 0, st, tg, f0, f1, (fun _ => 0), ch, kd, tx, ft, fa, gv, gt, rh, lg, de, si, sP, sV) v1 v2 v3) ((nI ar), (nI cap), (nI n), (nI nT), (nI nA), (nI (c + 1)), (nI 0), (nI dn), (nI op), bd, (nI l), lk, lc, la, lt, le, st, tg, f0, f1, kd, tx, ts, ta, gv, gt, rh, ft, fa, ca, vt, ag, tc, lg) v1 v2 v3 := by
    intro hg PX PY
    have S : (∃ y, y ≤ 11 ∧ v3 = nI y ∧ (y < 8 → vr_in kd tx (T c) nT y)) → i_Rel (k + 5) ((nI ar), (nI cap), (nI n), (nI nT), (nI (nA + 1)), (nI (c + 1)), (nI 0), (nI dn), (nI op), bd, (nI l), lk, lc, la, lt, le, st, tg, f0, f1, kd, tx, ts, ta, (upd gv nA v1), (upd gt nA v2), (upd rh nA v3), ft, fa, (upd ca c (ca c + 1)), vt, ag, tc, lg) ((nI ar), (nI cap), (nI n), (nI (c + 1)), (nI nT), (nI (nA + 1)), (nI 0), (ir_h (c + 1)), (nI dn), (nI op), bd, (nI l), lk, lc, la, lt, le, 0, st, tg, f0, f1, (fun _ => 0), ch, kd, tx, ft, fa, (upd gv nA v1), (upd gt nA v2), (upd rh nA v3), lg, de, si, sP, sV) := fun hr =>
      ir_mk (k := k + 5) ⟨hk1, hk2, hk3, hk4, hk5, hk6, hk7, hk8, pg_alt hk9 hA hg hr, fun z => absurd z (by omega), hk11, hk12⟩
    by_cases r0 : v3 < 0
    · exact PX _ (br_t r0 (PY _ (br_t r0 ⟨rfl, J⟩)))
    by_cases r11 : 11 < v3
    · exact PX _ (br_f r0 (br_t r11 (PY _ (br_f r0 (br_f (Int32.not_le.mpr r11) ⟨rfl, J⟩)))))
    obtain ⟨y, hy, rfl⟩ := nI_of2 (M := 11) (n := 11) (by decide) r0 (Int32.not_lt.mp r11)
    have r11' := Int32.not_lt.mp r11
    by_cases r8 : 8 ≤ nI y
    · have hy8 : ¬ y < 8 := fun z => nI_ge (b := 8) z (by omega) r8
      exact PX _ (br_f r0 (br_f r11 (br_t r8 (xa_91 hA (by omega) (PY _ (br_f r0 (br_t r11' (br_t (al_78.mp r8) (ya_112 hA ⟨rfl, S ⟨y, hy, rfl, fun z => absurd z hy8⟩⟩)))))))))
    · have hy8 : y < 8 := by
        rcases Nat.lt_or_ge y 8 with z | z
        · exact z
        · exact absurd (nI_le (a := 8) z (by omega)) r8
      have r7 : ¬ 7 < nI y := fun z => r8 (al_78.mpr z)
      by_cases rb : ((bd >>> (nI y &&& 31)) &&& 1) = 0
      · exact PX _ (br_f r0 (br_f r11 (br_f r8 (br_t rb (br_t rfl (PY _ (br_f r0 (br_t r11' (br_f r7 (br_t rb ⟨rfl, J⟩))))))))))
      · have hb : bt bd y = true := ts_nf (fun z => rb ((bd_iff (by omega)).mpr z))
        exact PX _ (br_f r0 (br_f r11 (br_f r8 (br_f rb (br_f (by decide) (xa_91 hA (by omega) (PY _ (br_f r0 (br_t r11' (br_f r7 (br_f rb (ya_112 hA ⟨rfl, S ⟨y, hy, rfl, fun _ => (pb.2.2.2.2 y hy8).mp hb⟩⟩))))))))))))
  by_cases g1 : v1 = -1
  · exact R (Or.inl g1) (fun post h => br_t rfl (br_f x1 (br_f h2 (br_f h3 (br_t g1 h))))) (fun post h => br_t rfl (br_f y1 (br_f h2 (br_f h3 (br_t g1 (br_t g1 h))))))
  by_cases g0 : v1 < 0
  · exact br_t rfl (br_f x1 (br_f h2 (br_f h3 (br_f g1 (br_t g0 (br_t rfl (br_t rfl (br_f y1 (br_f h2 (br_f h3 (br_f g1 (br_t g0 ⟨rfl, J⟩))))))))))))
  by_cases g8 : 8 ≤ v1
  · have g7 := al_78.mp g8
    exact br_t rfl (br_f x1 (br_f h2 (br_f h3 (br_f g1 (br_f g0 (br_t g8 (br_t rfl (br_t rfl (br_f y1 (br_f h2 (br_f h3 (br_f g1 (br_f g0 (br_t g7 ⟨rfl, J⟩))))))))))))))
  have g7 : ¬ 7 < v1 := fun z => g8 (al_78.mpr z)
  obtain ⟨x, hx, rfl⟩ := nI_of2 (M := 7) (n := 7) (by decide) g0 (Int32.not_lt.mp g7)
  by_cases gb : ((bd >>> (nI x &&& 31)) &&& 1) = 0
  · exact br_t rfl (br_f x1 (br_f h2 (br_f h3 (br_f g1 (br_f g0 (br_f g8 (br_f (by decide) (br_t gb (br_t rfl (br_t rfl (br_f y1 (br_f h2 (br_f h3 (br_f g1 (br_f g0 (br_f g7 (br_t gb ⟨rfl, J⟩)))))))))))))))))
  have hb : bt bd x = true := ts_nf (fun z => gb ((bd_iff (by omega)).mpr z))
  by_cases ht : ¬ v2 < 0 ∧ ¬ 7 < v2
  · exact R (Or.inr ⟨x, by omega, rfl, (pb.2.2.2.2 x (by omega)).mp hb⟩) (fun post h => br_t rfl (br_f x1 (br_f h2 (br_f h3 (br_f g1 (br_f g0 (br_f g8 (br_f (by decide) (br_f gb (br_f (by decide) (tg_1 ht.1 ht.2 (br_f (by decide) h)))))))))))) (fun post h => br_t rfl (br_f y1 (br_f h2 (br_f h3 (br_f g1 (br_f g0 (br_f g7 (br_f gb (br_f g1 (ty_1 ht.1 ht.2 h))))))))))
  · exact br_t rfl (br_f x1 (br_f h2 (br_f h3 (br_f g1 (br_f g0 (br_f g8 (br_f (by decide) (br_f gb (br_f (by decide) (tg_0 ht (br_t rfl (br_t rfl (br_f y1 (br_f h2 (br_f h3 (br_f g1 (br_f g0 (br_f g7 (br_f gb (br_f g1 (ty_0 ht ⟨rfl, J⟩)))))))))))))))))))))
