/-! pat -/
section
variable {ar cap n nT nA nC cp dn op : Nat} {bd lk lc la lt le : Int32} {kd tx ts ta gv gt rh ft fa ca vt ag : Nat → Int32}
theorem xp_124 {post : Int32 → St2 → Prop} {l s : Nat} {x1 x2 : Int32} {st tg f0 f1 tc lg : Nat → Int32} (hT : nT < 64) (hop : op ≤ 100) (hs : s ≤ 2)
    (h : post 1 ((nI ar), (nI cap), (nI n), (nI (nT + 1)), (nI nA), (nI nC), (nI cp), (nI (if (if op = 0 then 1 else op) - 1 + s = 0 then dn + 1 else dn)), (nI ((if op = 0 then 1 else op) - 1 + s)), bd, (nI l), lk, lc, la, lt, le, st, tg, f0, f1, (upd kd nT x1), (upd tx nT x2), (upd ts nT (nI s)), ta, gv, gt, rh, ft, fa, ca, vt, ag, tc, lg)) : wX_pat_124 post x1 x2 (nI s) (nI ar) (nI cap) (nI n) (nI nT) (nI nA) (nI nC) (nI cp) (nI dn) (nI op) bd (nI l) lk lc la lt le st tg f0 f1 kd tx ts ta gv gt rh ft fa ca vt ag tc lg := by
  have c : (nI nT).toNatClampNeg = nT := nI_clamp (by omega)
  have v : vp_in (nI nT) 64 := vp_in_nI hT (by omega)
  have K : ∀ o' : Nat, o' = (if op = 0 then 1 else op) → wX_pat_180 post (nI s) (nI o') (nI ar) (nI cap) (nI n) (nI (nT + 1)) (nI nA) (nI nC) (nI cp) (nI dn) (nI op) bd (nI l) lk lc la lt le st tg f0 f1 (upd kd nT x1) (upd tx nT x2) (upd ts nT (nI s)) ta gv gt rh ft fa ca vt ag tc lg := by
    intro o' ho
    rw [← ho] at h
    have o1 : 1 ≤ o' ∧ o' ≤ 100 := by
      rw [ho]
      split <;> omega
    obtain ⟨o'', rfl⟩ : ∃ x, o' = x + 1 := ⟨o' - 1, by omega⟩
    rw [Nat.add_sub_cancel] at h
    refine nm_r (e' := nI (o'' + s)) (by rw [nI_pred, nI_add]) ?_
    by_cases z : o'' + s = 0
    · rw [if_pos z] at h
      exact br_t (by rw [z]; rfl) (nm_r (nI_1 dn) h)
    · rw [if_neg z] at h
      exact br_f (nI_ne0 (by omega) (by omega)) h
  refine ⟨v, nm_r (e' := upd kd nT x1) (by rw [c]) ⟨v, nm_r (e' := upd tx nT x2) (by rw [c]) ⟨v, nm_r (e' := upd ts nT (nI s)) (by rw [c]) (nm_r (nI_1 nT) ?_)⟩⟩⟩
  by_cases z : op = 0
  · exact br_t (by rw [z]; rfl) (K 1 (by rw [if_pos z]))
  · exact br_f (nI_ne0 (by omega) (by omega)) (K op (by rw [if_neg z]))
end
theorem om_pat {u : St2} (I : xr_ok u) (v1 : Int32) (v2 : Int32) : ∃ (r : Int32) (u' : St2), xr_ok u' ∧ ∀ post : Int32 → St2 → Prop, post r u' → wpX_pat post u v1 v2 := by
  obtain ⟨ar, cap, n, nT, nA, nC, cp, dn, op, l, bd, lk, lc, la, lt, le, st, tg, f0, f1, kd, tx, ts, ta, gv, gt, rh, ft, fa, ca, vt, ag, tc, lg, T, A, rfl, hk1, hk2, hk3, hk4, hk5, hk6, hk7, hk8, hk9, hk10, hk11, hk12⟩ := I
  have J := xr_mk (gt := gt) (ag := ag) (tc := tc) (lg := lg) (lk := lk) (lc := lc) (la := la) (lt := lt) (le := le) ⟨hk1, hk2, hk3, hk4, hk5, hk6, hk7, hk8, hk9, hk10, hk11, hk12⟩
  by_cases h0 : cp = 0
  rotate_left
  · have c0 : ¬ nI cp = 0 := nI_ne0 (by omega) (by omega)
    exact ⟨0, _, J, fun post hp => br_f c0 hp⟩
  subst h0
  have hC := hk9.1
  by_cases h1 : nC = 0
  · subst h1
    exact ⟨0, _, J, fun post hp => br_t rfl (br_t rfl hp)⟩
  obtain ⟨c, rfl⟩ : ∃ c, nC = c + 1 := ⟨nC - 1, by omega⟩
  have pb := hk11 c rfl
  have x1 : ¬ nI (c + 1) = 0 := nI_ne0 (by omega) (by omega)
  by_cases h2 : nI dn = nI ar
  · exact ⟨0, _, J, fun post hp => br_t rfl (br_f x1 (br_t h2 hp))⟩
  by_cases h3 : v1 < 0
  · exact ⟨0, _, J, fun post hp => br_t rfl (br_f x1 (br_f h2 (br_t h3 hp)))⟩
  by_cases h4 : 4 < v1
  · exact ⟨0, _, J, fun post hp => br_t rfl (br_f x1 (br_f h2 (br_f h3 (br_t h4 hp))))⟩
  by_cases h5 : nI nT = 64
  · exact ⟨0, _, J, fun post hp => br_t rfl (br_f x1 (br_f h2 (br_f h3 (br_f h4 (br_t h5 hp)))))⟩
  have h64 := hk9.2.1
  have hT : nT < 64 := by
    rcases Nat.lt_or_ge nT 64 with z | z
    · exact z
    · exact absurd (by rw [show nT = 64 by omega]; rfl) h5
  have hdn : dn < ar := by
    have a := pb.1
    rcases Nat.lt_or_ge dn ar with z | z
    · exact z
    · exact absurd (by rw [show dn = ar by omega]) h2
  have hop : op ≤ 100 := by have := pb.2.2.1; omega
  have s2 := tk_s2 v1 v2
  have oc := hk9.2.2.2.2.2.2.2.2 c (by omega)
  have htn : T c ≤ nT := by have := oc.1; rw [hk9.2.2.2.2.2.1] at this; exact this
  obtain ⟨j, hj, ej⟩ := nI_of2 (M := 4) (n := 4) (by decide) h3 (Int32.not_lt.mp h4)
  have S : ∀ (bd' : Int32) (vt' : Nat → Int32), ((v1 = 1 ∨ v1 = 2) → ∃ y, y < 8 ∧ v2 = nI y) → (∀ y, y < 8 → (bt bd' y = true ↔ (bt bd y = true ∨ (v1 = 1 ∧ v2 = nI y)))) →
      ((v1 ≠ 1 ∧ vt' = vt) ∨ (v1 = 1 ∧ vt' = upd vt (8 * c + v2.toNatClampNeg) (nI nT) ∧ ∀ y, y < 8 → v2 = nI y → ¬ vr_in kd tx (T c) nT y)) →
      xr_ok ((nI ar), (nI cap), (nI n), (nI (nT + 1)), (nI nA), (nI (c + 1)), (nI 0), (nI (if (if op = 0 then 1 else op) - 1 + tk_s v1 v2 = 0 then dn + 1 else dn)), (nI ((if op = 0 then 1 else op) - 1 + tk_s v1 v2)), bd', (nI l), lk, lc, la, lt, le, st, tg, f0, f1, (upd kd nT v1), (upd tx nT v2), (upd ts nT (nI (tk_s v1 v2))), ta, gv, gt, rh, ft, fa, ca, vt', ag, tc, lg) := fun bd' vt' g1 g2 g3 => by
    have p := pb_pat pb htn hdn g2
    refine xr_mk ⟨hk1, hk2, hk3, hk4, hk5, hk6, hk7, hk8, pg_pat hk9 hT ⟨j, hj, ej⟩ g1 p.2 g3, fun z => absurd z (by omega), fun c' hc' => ?_, fun z => absurd z (by omega)⟩
    have : c' = c := by omega
    subst this
    rw [pg_un (by omega)]
    exact p.1
  by_cases k1 : v1 = 1
  · -- a variable
    have k2 : ¬ v1 = 2 := by rw [k1]; decide
    by_cases g0 : v2 < 0
    · exact ⟨0, _, J, fun post hp => br_t rfl (br_f x1 (br_f h2 (br_f h3 (br_f h4 (br_f h5 (br_t k1 (br_t g0 (br_t rfl hp))))))))⟩
    by_cases g8 : 8 ≤ v2
    · exact ⟨0, _, J, fun post hp => br_t rfl (br_f x1 (br_f h2 (br_f h3 (br_f h4 (br_f h5 (br_t k1 (br_f g0 (br_t g8 (br_t rfl hp)))))))))⟩
    have g7 : ¬ 7 < v2 := fun z => g8 (al_78.mpr z)
    obtain ⟨x, hx, rfl⟩ := nI_of2 (M := 7) (n := 7) (by decide) g0 (Int32.not_lt.mp g7)
    by_cases gb : ((bd >>> (nI x &&& 31)) &&& 1) = 0
    · have hb : bt bd x = false := (bd_iff (by omega)).mp gb
      have cx' : (nI x).toNatClampNeg = x := nI_clamp (by omega)
      have e1 : (nI (c + 1) - 1) * 8 + nI x = nI (8 * c + x) := by
        rw [nI_pred, show (8 : Int32) = nI 8 from rfl, pk_mul, nI_add, Nat.mul_comm]
      have v2' : vp_in ((nI (c + 1) - 1) * 8 + nI x) 64 := by rw [e1]; exact vp_in_nI (by omega) (by omega)
      have c2 : ((nI (c + 1) - 1) * 8 + nI x).toNatClampNeg = 8 * c + (nI x).toNatClampNeg := by rw [e1, cx']; exact nI_clamp (by omega)
      have W := S (bd ||| ((1 : Int32) <<< (nI x &&& 31))) (upd vt (8 * c + (nI x).toNatClampNeg) (nI nT)) (fun _ => ⟨x, by omega, rfl⟩) (fun y hy => by
          rw [bd_or (by omega) (by omega), Bool.or_eq_true, decide_eq_true_eq]
          constructor
          · rintro (z | z)
            · exact Or.inl z
            · exact Or.inr ⟨k1, by rw [z]⟩
          · rintro (z | ⟨_, z⟩)
            · exact Or.inl z
            · exact Or.inr ((nI_eq (by omega) (by omega)).mp z).symm) (Or.inr ⟨k1, rfl, fun y hy hxy hv => by
          have := (nI_eq (by omega) (by omega)).mp hxy
          subst this
          have := (pb.2.2.2.2 x hy).mpr hv
          rw [hb] at this
          exact absurd this (by decide)⟩)
      refine ⟨1, _, W, fun post hp => ?_⟩
      exact br_t rfl (br_f x1 (br_f h2 (br_f h3 (br_f h4 (br_f h5 (br_t k1 (br_f g0 (br_f g8 (br_f (by decide) (br_t gb (br_t rfl (br_f k2 (sm_sx (br_t k1 (nm_e ⟨v2', nm_r (e' := upd vt (8 * c + (nI x).toNatClampNeg) (nI nT)) (by rw [c2]) (xp_124 hT hop s2 hp)⟩)))))))))))))))
    · exact ⟨0, _, J, fun post hp => br_t rfl (br_f x1 (br_f h2 (br_f h3 (br_f h4 (br_f h5 (br_t k1 (br_f g0 (br_f g8 (br_f (by decide) (br_f gb (br_f (by decide) hp)))))))))))⟩
  · have g2 : ∀ y, y < 8 → (bt bd y = true ↔ (bt bd y = true ∨ (v1 = 1 ∧ v2 = nI y))) := fun y _ => ⟨Or.inl, fun z => z.elim id (fun w => absurd w.1 k1)⟩
    by_cases k2 : v1 = 2
    · by_cases ht : ¬ v2 < 0 ∧ ¬ 7 < v2
      · obtain ⟨x, hx, ex⟩ := nI_of2 (M := 7) (n := 7) (by decide) ht.1 (Int32.not_lt.mp ht.2)
        refine ⟨1, _, S bd vt (fun _ => ⟨x, by omega, ex⟩) g2 (Or.inl ⟨k1, rfl⟩), fun post hp => ?_⟩
        exact br_t rfl (br_f x1 (br_f h2 (br_f h3 (br_f h4 (br_f h5 (br_f k1 (br_t k2 (tg_1 ht.1 ht.2 (br_f (by decide) (sm_sx (br_f k1 (xp_124 hT hop s2 hp))))))))))))
      · exact ⟨0, _, J, fun post hp => br_t rfl (br_f x1 (br_f h2 (br_f h3 (br_f h4 (br_f h5 (br_f k1 (br_t k2 (tg_0 ht (br_t rfl hp)))))))))⟩
    · refine ⟨1, _, S bd vt (fun z => absurd z (fun w => w.elim k1 k2)) g2 (Or.inl ⟨k1, rfl⟩), fun post hp => ?_⟩
      exact br_t rfl (br_f x1 (br_f h2 (br_f h3 (br_f h4 (br_f h5 (br_f k1 (br_f k2 (sm_sx (br_f k1 (xp_124 hT hop s2 hp))))))))))
