/-! alt -/
section
variable {ar cap n nT nA nC cp dn op : Nat} {bd lk lc la lt le : Int32} {kd tx ts ta gv gt rh ft fa ca vt ag : Nat → Int32}
theorem xa_91 {post : Int32 → St2 → Prop} {c l : Nat} {x1 x2 x3 : Int32} {st tg f0 f1 tc lg : Nat → Int32} (hA : nA < 16) (hC : c < 8)
    (h : post 1 ((nI ar), (nI cap), (nI n), (nI nT), (nI (nA + 1)), (nI (c + 1)), (nI cp), (nI dn), (nI op), bd, (nI l), lk, lc, la, lt, le, st, tg, f0, f1, kd, tx, ts, ta, (upd gv nA x1), (upd gt nA x2), (upd rh nA x3), ft, fa, (upd ca c (ca c + 1)), vt, ag, tc, lg)) : wX_alt_91 post x1 x2 x3 (nI ar) (nI cap) (nI n) (nI nT) (nI nA) (nI (c + 1)) (nI cp) (nI dn) (nI op) bd (nI l) lk lc la lt le st tg f0 f1 kd tx ts ta gv gt rh ft fa ca vt ag tc lg := by
  have cA : (nI nA).toNatClampNeg = nA := nI_clamp (by omega)
  have v : vp_in (nI nA) 16 := vp_in_nI hA (by omega)
  have e1 : nI (c + 1) - 1 = nI c := nI_pred c
  have e2 : (nI (c + 1) - 1).toNatClampNeg = c := by rw [e1]; exact nI_clamp (by omega)
  have v8 : vp_in (nI (c + 1) - 1) 8 := by rw [e1]; exact vp_in_nI hC (by omega)
  exact ⟨v, nm_r (e' := upd gv nA x1) (by rw [cA]) ⟨v, nm_r (e' := upd gt nA x2) (by rw [cA]) ⟨v, nm_r (e' := upd rh nA x3) (by rw [cA]) (nm_r (nI_1 nA) ⟨v8, v8, nm_r (e' := upd ca c (ca c + 1)) (by rw [e2]) h⟩)⟩⟩⟩
end
theorem al_78 {x : Int32} : (8 ≤ x ↔ 7 < x) := by
  rw [Int32.le_iff_toInt_le, Int32.lt_iff_toInt_lt]
  rw [show (8 : Int32).toInt = 8 from by decide, show (7 : Int32).toInt = 7 from by decide]
  omega
theorem om_alt {u : St2} (I : xr_ok u) (v1 : Int32) (v2 : Int32) (v3 : Int32) : ∃ (r : Int32) (u' : St2), xr_ok u' ∧ ∀ post : Int32 → St2 → Prop, post r u' → wpX_alt post u v1 v2 v3 := by
  obtain ⟨ar, cap, n, nT, nA, nC, cp, dn, op, l, bd, lk, lc, la, lt, le, st, tg, f0, f1, kd, tx, ts, ta, gv, gt, rh, ft, fa, ca, vt, ag, tc, lg, T, A, rfl, hk1, hk2, hk3, hk4, hk5, hk6, hk7, hk8, hk9, hk10, hk11, hk12⟩ := I
  have J := xr_mk (gt := gt) (ag := ag) (tc := tc) (lg := lg) (lk := lk) (lc := lc) (la := la) (lt := lt) (le := le) ⟨hk1, hk2, hk3, hk4, hk5, hk6, hk7, hk8, hk9, hk10, hk11, hk12⟩
  by_cases h0 : cp = 0
  rotate_left
  · have c0 : ¬ nI cp = 0 := nI_ne0 (by omega) (by omega)
    exact ⟨0, _, J, fun post hp => br_f c0 hp⟩
  subst h0
  have hC := hk9.1
  by_cases h1 : nC = 0
  · subst h1
    exact ⟨0, _, J, fun post hp => br_t rfl (br_t rfl hp)⟩
  obtain ⟨c, rfl⟩ : ∃ c, nC = c + 1 := ⟨nC - 1, by omega⟩
  have pb := hk11 c rfl
  have x1 : ¬ nI (c + 1) = 0 := nI_ne0 (by omega) (by omega)
  by_cases h2 : nI dn < nI ar
  · exact ⟨0, _, J, fun post hp => br_t rfl (br_f x1 (br_t h2 hp))⟩
  by_cases h3 : nI nA = 16
  · exact ⟨0, _, J, fun post hp => br_t rfl (br_f x1 (br_f h2 (br_t h3 hp)))⟩
  have h16 := hk9.2.2.1
  have hA : nA < 16 := by
    rcases Nat.lt_or_ge nA 16 with z | z
    · exact z
    · exact absurd (by rw [show nA = 16 by omega]; rfl) h3
  have R : (v1 = -1 ∨ ∃ x, x < 8 ∧ v1 = nI x ∧ vr_in kd tx (T c) nT x) → ∀ (PX : ∀ post : Int32 → St2 → Prop, wX_alt_65 post v1 v2 v3 (nI ar) (nI cap) (nI n) (nI nT) (nI nA) (nI (c + 1)) (nI 0) (nI dn) (nI op) bd (nI l) lk lc la lt le st tg f0 f1 kd tx ts ta gv gt rh ft fa ca vt ag tc lg → wpX_alt post ((nI ar), (nI cap), (nI n), (nI nT), (nI nA), (nI (c + 1)), (nI 0), (nI dn), (nI op), bd, (nI l), lk, lc, la, lt, le, st, tg, f0, f1, kd, tx, ts, ta, gv, gt, rh, ft, fa, ca, vt, ag, tc, lg) v1 v2 v3),
      ∃ (r : Int32) (u' : St2), xr_ok u' ∧ ∀ post : Int32 → St2 → Prop, post r u' → wpX_alt post ((nI ar), (nI cap), (nI n), (nI nT), (nI nA), (nI (c + 1)), (nI 0), (nI dn), (nI op), bd, (nI l), lk, lc, la, lt, le, st, tg, f0, f1, kd, tx, ts, ta, gv, gt, rh, ft, fa, ca, vt, ag, tc, lg) v1 v2 v3 := by
    intro hg PX
    have S : (∃ y, y ≤ 11 ∧ v3 = nI y ∧ (y < 8 → vr_in kd tx (T c) nT y)) → xr_ok ((nI ar), (nI cap), (nI n), (nI nT), (nI (nA + 1)), (nI (c + 1)), (nI 0), (nI dn), (nI op), bd, (nI l), lk, lc, la, lt, le, st, tg, f0, f1, kd, tx, ts, ta, (upd gv nA v1), (upd gt nA v2), (upd rh nA v3), ft, fa, (upd ca c (ca c + 1)), vt, ag, tc, lg) := fun hr =>
      xr_mk ⟨hk1, hk2, hk3, hk4, hk5, hk6, hk7, hk8, pg_alt hk9 hA hg hr, fun z => absurd z (by omega), hk11, hk12⟩
    by_cases r0 : v3 < 0
    · exact ⟨0, _, J, fun post hp => PX _ (br_t r0 hp)⟩
    by_cases r11 : 11 < v3
    · exact ⟨0, _, J, fun post hp => PX _ (br_f r0 (br_t r11 hp))⟩
    obtain ⟨y, hy, rfl⟩ := nI_of2 (M := 11) (n := 11) (by decide) r0 (Int32.not_lt.mp r11)
    by_cases r8 : 8 ≤ nI y
    · have hy8 : ¬ y < 8 := fun z => nI_ge (b := 8) z (by omega) r8
      exact ⟨1, _, S ⟨y, hy, rfl, fun z => absurd z hy8⟩, fun post hp => PX _ (br_f r0 (br_f r11 (br_t r8 (xa_91 hA (by omega) hp))))⟩
    · have hy8 : y < 8 := by
        rcases Nat.lt_or_ge y 8 with z | z
        · exact z
        · exact absurd (nI_le (a := 8) z (by omega)) r8
      by_cases rb : ((bd >>> (nI y &&& 31)) &&& 1) = 0
      · exact ⟨0, _, J, fun post hp => PX _ (br_f r0 (br_f r11 (br_f r8 (br_t rb (br_t rfl hp)))))⟩
      · have hb : bt bd y = true := ts_nf (fun z => rb ((bd_iff (by omega)).mpr z))
        exact ⟨1, _, S ⟨y, hy, rfl, fun _ => (pb.2.2.2.2 y hy8).mp hb⟩, fun post hp => PX _ (br_f r0 (br_f r11 (br_f r8 (br_f rb (br_f (by decide) (xa_91 hA (by omega) hp))))))⟩
  by_cases g1 : v1 = -1
  · exact R (Or.inl g1) (fun post h => br_t rfl (br_f x1 (br_f h2 (br_f h3 (br_t g1 h)))))
  by_cases g0 : v1 < 0
  · exact ⟨0, _, J, fun post hp => br_t rfl (br_f x1 (br_f h2 (br_f h3 (br_f g1 (br_t g0 (br_t rfl hp))))))⟩
  by_cases g8 : 8 ≤ v1
  · exact ⟨0, _, J, fun post hp => br_t rfl (br_f x1 (br_f h2 (br_f h3 (br_f g1 (br_f g0 (br_t g8 (br_t rfl hp)))))))⟩
  have g7 : ¬ 7 < v1 := fun z => g8 (al_78.mpr z)
  obtain ⟨x, hx, rfl⟩ := nI_of2 (M := 7) (n := 7) (by decide) g0 (Int32.not_lt.mp g7)
  by_cases gb : ((bd >>> (nI x &&& 31)) &&& 1) = 0
  · exact ⟨0, _, J, fun post hp => br_t rfl (br_f x1 (br_f h2 (br_f h3 (br_f g1 (br_f g0 (br_f g8 (br_f (by decide) (br_t gb (br_t rfl hp)))))))))⟩
  have hb : bt bd x = true := ts_nf (fun z => gb ((bd_iff (by omega)).mpr z))
  by_cases ht : ¬ v2 < 0 ∧ ¬ 7 < v2
  · exact R (Or.inr ⟨x, by omega, rfl, (pb.2.2.2.2 x (by omega)).mp hb⟩) (fun post h => br_t rfl (br_f x1 (br_f h2 (br_f h3 (br_f g1 (br_f g0 (br_f g8 (br_f (by decide) (br_f gb (br_f (by decide) (tg_1 ht.1 ht.2 (br_f (by decide) h))))))))))))
  · exact ⟨0, _, J, fun post hp => br_t rfl (br_f x1 (br_f h2 (br_f h3 (br_f g1 (br_f g0 (br_f g8 (br_f (by decide) (br_f gb (br_f (by decide) (tg_0 ht (br_t rfl hp)))))))))))⟩
