/-! pat -/
section
variable {ar cap n nT nA nC cp dn op : Nat} {bd lk lc la lt le hc yk yc ya yt ye : Int32} {kd tx ts ta gv gt rh ft fa ca vt ag : Nat → Int32}
theorem xp_124 {post : Int32 → SX → Prop} {l s : Nat} {x1 x2 : Int32} {st tg f0 f1 tc lg : Nat → Int32} (hT : nT < 64) (hop : op ≤ 100) (hs : s ≤ 2)
    (h : post 1 ((nI ar), (nI cap), (nI n), (nI (nT + 1)), (nI nA), (nI nC), (nI cp), (nI (if (if op = 0 then 1 else op) - 1 + s = 0 then dn + 1 else dn)), (nI ((if op = 0 then 1 else op) - 1 + s)), bd, (nI l), lk, lc, la, lt, le, st, tg, f0, f1, (upd kd nT x1), (upd tx nT x2), (upd ts nT (nI s)), ta, gv, gt, rh, ft, fa, ca, vt, ag, tc, lg)) : wX_pat_124 post x1 x2 (nI s) (nI ar) (nI cap) (nI n) (nI nT) (nI nA) (nI nC) (nI cp) (nI dn) (nI op) bd (nI l) lk lc la lt le st tg f0 f1 kd tx ts ta gv gt rh ft fa ca vt ag tc lg := by
  have c : (nI nT).toNatClampNeg = nT := nI_clamp (by omega)
  have v : vp_in (nI nT) 64 := vp_in_nI hT (by omega)
  have K : ∀ o' : Nat, o' = (if op = 0 then 1 else op) → wX_pat_180 post (nI s) (nI o') (nI ar) (nI cap) (nI n) (nI (nT + 1)) (nI nA) (nI nC) (nI cp) (nI dn) (nI op) bd (nI l) lk lc la lt le st tg f0 f1 (upd kd nT x1) (upd tx nT x2) (upd ts nT (nI s)) ta gv gt rh ft fa ca vt ag tc lg := by
    intro o' ho
    rw [← ho] at h
    have o1 : 1 ≤ o' ∧ o' ≤ 100 := by
      rw [ho]
      split <;> omega
    obtain ⟨o'', rfl⟩ : ∃ x, o' = x + 1 := ⟨o' - 1, by omega⟩
    rw [Nat.add_sub_cancel] at h
    refine nm_r (e' := nI (o'' + s)) (by rw [nI_pred, nI_add]) ?_
    by_cases z : o'' + s = 0
    · rw [if_pos z] at h
      exact br_t (by rw [z]; rfl) (nm_r (nI_1 dn) h)
    · rw [if_neg z] at h
      exact br_f (nI_ne0 (by omega) (by omega)) h
  refine ⟨v, nm_r (e' := upd kd nT x1) (by rw [c]) ⟨v, nm_r (e' := upd tx nT x2) (by rw [c]) ⟨v, nm_r (e' := upd ts nT (nI s)) (by rw [c]) (nm_r (nI_1 nT) ?_)⟩⟩⟩
  by_cases z : op = 0
  · exact br_t (by rw [z]; rfl) (K 1 (by rw [if_pos z]))
  · exact br_f (nI_ne0 (by omega) (by omega)) (K op (by rw [if_neg z]))
theorem yp_170 {post : Int32 → SY → Prop} {l o' : Nat} {x1 x2 er : Int32} {st tg f0 f1 mk ch lg de si sP sV : Nat → Int32} (hT : nT < 64) (ho : o' ≤ 200)
    (h : post 1 ((nI ar), (nI cap), (nI n), (nI nC), (nI (nT + 1)), (nI nA), (nI cp), hc, (nI (if o' = 0 then dn + 1 else dn)), (nI o'), bd, (nI l), yk, yc, ya, yt, ye, er, st, tg, f0, f1, mk, ch, (upd kd nT x1), (upd tx nT x2), ft, fa, gv, gt, rh, lg, de, si, sP, sV)) : wY_pat_170 post x1 x2 (nI ar) (nI cap) (nI n) (nI nC) (nI nT) (nI nA) (nI cp) hc (nI dn) (nI o') bd (nI l) yk yc ya yt ye er st tg f0 f1 mk ch kd tx ft fa gv gt rh lg de si sP sV := by
  have c : (nI nT).toNatClampNeg = nT := nI_clamp (by omega)
  have v : vp_in (nI nT) 64 := vp_in_nI hT (by omega)
  refine ⟨v, nm_r (e' := upd kd nT x1) (by rw [c]) ⟨v, nm_r (e' := upd tx nT x2) (by rw [c]) (nm_r (nI_1 nT) ?_)⟩⟩
  by_cases z : o' = 0
  · rw [if_pos z] at h
    exact br_t (by rw [z]; rfl) (nm_r (nI_1 dn) h)
  · rw [if_neg z] at h
    exact br_f (nI_ne0 (by omega) (by omega)) h
/-- the reference's counting, from 92 on -/
theorem yp_92 {post : Int32 → SY → Prop} {l : Nat} {x1 x2 er : Int32} {st tg f0 f1 mk ch lg de si sP sV : Nat → Int32} (hop : op ≤ 100)
    (h : wY_pat_153 post x1 x2 (nI ar) (nI cap) (nI n) (nI nC) (nI nT) (nI nA) (nI cp) hc (nI dn) (nI ((if op = 0 then 1 else op) - 1 + tk_s x1 x2)) bd (nI l) yk yc ya yt ye er st tg f0 f1 mk ch kd tx ft fa gv gt rh lg de si sP sV) : wY_pat_92 post x1 x2 (nI ar) (nI cap) (nI n) (nI nC) (nI nT) (nI nA) (nI cp) hc (nI dn) (nI op) bd (nI l) yk yc ya yt ye er st tg f0 f1 mk ch kd tx ft fa gv gt rh lg de si sP sV := by
  have K : ∀ o' : Nat, o' = (if op = 0 then 1 else op) → wY_pat_104 post x1 x2 (nI ar) (nI cap) (nI n) (nI nC) (nI nT) (nI nA) (nI cp) hc (nI dn) (nI o') bd (nI l) yk yc ya yt ye er st tg f0 f1 mk ch kd tx ft fa gv gt rh lg de si sP sV := by
    intro o' ho
    rw [← ho] at h
    have o1 : 1 ≤ o' ∧ o' ≤ 100 := by
      rw [ho]
      split <;> omega
    obtain ⟨o'', rfl⟩ : ∃ x, o' = x + 1 := ⟨o' - 1, by omega⟩
    rw [Nat.add_sub_cancel] at h
    refine nm_r (e' := nI o'') (nI_pred o'') ?_
    by_cases k2 : x1 = 2
    · have : tk_s x1 x2 = tk_a x2 := if_pos k2
      rw [this] at h
      refine br_t k2 (sm_fy (nm_r (nI_add o'' (tk_a x2)) ?_))
      exact br_f (by rw [k2]; decide) (br_f (by rw [k2]; decide) h)
    · refine br_f k2 ?_
      by_cases k3 : x1 = 3
      · have : tk_s x1 x2 = 1 := by unfold tk_s; rw [if_neg k2, if_pos k3]
        rw [this] at h
        exact br_t k3 (nm_r (nI_1 o'') h)
      · by_cases k4 : x1 = 4
        · have : tk_s x1 x2 = 1 := by unfold tk_s; rw [if_neg k2, if_neg k3, if_pos k4]
          rw [this] at h
          exact br_f k3 (br_t k4 (nm_r (nI_1 o'') h))
        · have : tk_s x1 x2 = 0 := by unfold tk_s; rw [if_neg k2, if_neg k3, if_neg k4]
          rw [this] at h
          exact br_f k3 (br_f k4 h)
  by_cases z : op = 0
  · exact br_t (by rw [z]; rfl) (K 1 (by rw [if_pos z]))
  · exact br_f (nI_ne0 (by omega) (by omega)) (K op (by rw [if_neg z]))
end
theorem i_vc_pat {k : Nat} {u : SX} {v : SY} (I : i_Rel k u v) (hk : k + 5 ≤ 2562) (v1 : Int32) (v2 : Int32) : wpX_pat (fun r u' => wpY_pat (fun r' v' => r' = r ∧ i_Rel (k + 5) u' v') v v1 v2) u v1 v2 := by
  obtain ⟨ar, cap, n, nT, nA, nC, cp, dn, op, l, bd, lk, lc, la, lt, le, st, tg, f0, f1, kd, tx, ts, ta, gv, gt, rh, ft, fa, ca, vt, ag, tc, lg, ch, de, si, sP, sV, T, A, rfl, rfl, hk1, hk2, hk3, hk4, hk5, hk6, hk7, hk8, hk9, hk10, hk11, hk12⟩ := I
  have J := ir_mk (k := k + 5) (gt := gt) (ag := ag) (tc := tc) (lg := lg) (ch := ch) (de := de) (si := si) (sP := sP) (sV := sV) (lk := lk) (lc := lc) (la := la) (lt := lt) (le := le) ⟨hk1, hk2, hk3, hk4, hk5, hk6, hk7, hk8, hk9, hk10, hk11, hk12⟩
  by_cases h0 : cp = 0
  rotate_left
  · have c0 : ¬ nI cp = 0 := nI_ne0 (by omega) (by omega)
    exact br_f c0 (br_f c0 ⟨rfl, J⟩)
  subst h0
  have hC := hk9.1
  by_cases h1 : nC = 0
  · subst h1
    exact br_t rfl (br_t rfl (br_t rfl (br_t rfl ⟨rfl, J⟩)))
  obtain ⟨c, rfl⟩ : ∃ c, nC = c + 1 := ⟨nC - 1, by omega⟩
  have pb := hk11 c rfl
  have x1 : ¬ nI (c + 1) = 0 := nI_ne0 (by omega) (by omega)
  have y1 : ¬ ir_h (c + 1) = 0 := by rw [ir_h1]; decide
  by_cases h2 : nI dn = nI ar
  · exact br_t rfl (br_f x1 (br_t h2 (br_t rfl (br_f y1 (br_t h2 ⟨rfl, J⟩)))))
  by_cases h3 : v1 < 0
  · exact br_t rfl (br_f x1 (br_f h2 (br_t h3 (br_t rfl (br_f y1 (br_f h2 (br_t h3 ⟨rfl, J⟩)))))))
  by_cases h4 : 4 < v1
  · exact br_t rfl (br_f x1 (br_f h2 (br_f h3 (br_t h4 (br_t rfl (br_f y1 (br_f h2 (br_f h3 (br_t h4 ⟨rfl, J⟩)))))))))
  by_cases h5 : nI nT = 64
  · exact br_t rfl (br_f x1 (br_f h2 (br_f h3 (br_f h4 (br_t h5 (br_t rfl (br_f y1 (br_f h2 (br_f h3 (br_f h4 (br_t h5 ⟨rfl, J⟩)))))))))))
  have h64 := hk9.2.1
  have hT : nT < 64 := by
    rcases Nat.lt_or_ge nT 64 with z | z
    · exact z
    · exact absurd (by rw [show nT = 64 by omega]; rfl) h5
  have hdn : dn < ar := by
    have a := pb.1
    rcases Nat.lt_or_ge dn ar with z | z
    · exact z
    · exact absurd (by rw [show dn = ar by omega]) h2
  have hop : op ≤ 100 := by have := pb.2.2.1; omega
  have s2 := tk_s2 v1 v2
  have oc := hk9.2.2.2.2.2.2.2.2 c (by omega)
  have htn : T c ≤ nT := by have := oc.1; rw [hk9.2.2.2.2.2.1] at this; exact this
  obtain ⟨j, hj, ej⟩ := nI_of2 (M := 4) (n := 4) (by decide) h3 (Int32.not_lt.mp h4)
  -- the token is written
  have S : ∀ (bd' : Int32) (vt' : Nat → Int32), ((v1 = 1 ∨ v1 = 2) → ∃ y, y < 8 ∧ v2 = nI y) → (∀ y, y < 8 → (bt bd' y = true ↔ (bt bd y = true ∨ (v1 = 1 ∧ v2 = nI y)))) →
      ((v1 ≠ 1 ∧ vt' = vt) ∨ (v1 = 1 ∧ vt' = upd vt (8 * c + v2.toNatClampNeg) (nI nT) ∧ ∀ y, y < 8 → v2 = nI y → ¬ vr_in kd tx (T c) nT y)) →
      i_Rel (k + 5) ((nI ar), (nI cap), (nI n), (nI (nT + 1)), (nI nA), (nI (c + 1)), (nI 0), (nI (if (if op = 0 then 1 else op) - 1 + tk_s v1 v2 = 0 then dn + 1 else dn)), (nI ((if op = 0 then 1 else op) - 1 + tk_s v1 v2)), bd', (nI l), lk, lc, la, lt, le, st, tg, f0, f1, (upd kd nT v1), (upd tx nT v2), (upd ts nT (nI (tk_s v1 v2))), ta, gv, gt, rh, ft, fa, ca, vt', ag, tc, lg) ((nI ar), (nI cap), (nI n), (nI (c + 1)), (nI (nT + 1)), (nI nA), (nI 0), (ir_h (c + 1)), (nI (if (if op = 0 then 1 else op) - 1 + tk_s v1 v2 = 0 then dn + 1 else dn)), (nI ((if op = 0 then 1 else op) - 1 + tk_s v1 v2)), bd', (nI l), lk, lc, la, lt, le, 0, st, tg, f0, f1, (fun _ => 0), ch, (upd kd nT v1), (upd tx nT v2), ft, fa, gv, gt, rh, lg, de, si, sP, sV) := fun bd' vt' g1 g2 g3 => by
    have p := pb_pat pb htn hdn g2
    refine ir_mk (k := k + 5) ⟨hk1, hk2, hk3, hk4, hk5, hk6, hk7, hk8, pg_pat hk9 hT ⟨j, hj, ej⟩ g1 p.2 g3, fun z => absurd z (by omega), fun c' hc' => ?_, fun z => absurd z (by omega)⟩
    have : c' = c := by omega
    subst this
    rw [pg_un (by omega)]
    exact p.1
  by_cases k1 : v1 = 1
  · -- a variable
    have k2 : ¬ v1 = 2 := by rw [k1]; decide
    by_cases g0 : v2 < 0
    · exact br_t rfl (br_f x1 (br_f h2 (br_f h3 (br_f h4 (br_f h5 (br_t k1 (br_t g0 (br_t rfl (br_t rfl (br_f y1 (br_f h2 (br_f h3 (br_f h4 (br_f h5 (br_t k1 (br_t g0 ⟨rfl, J⟩))))))))))))))))
    by_cases g8 : 8 ≤ v2
    · have g7 := al_78.mp g8
      exact br_t rfl (br_f x1 (br_f h2 (br_f h3 (br_f h4 (br_f h5 (br_t k1 (br_f g0 (br_t g8 (br_t rfl (br_t rfl (br_f y1 (br_f h2 (br_f h3 (br_f h4 (br_f h5 (br_t k1 (br_f g0 (br_t g7 ⟨rfl, J⟩))))))))))))))))))
    have g7 : ¬ 7 < v2 := fun z => g8 (al_78.mpr z)
    obtain ⟨x, hx, rfl⟩ := nI_of2 (M := 7) (n := 7) (by decide) g0 (Int32.not_lt.mp g7)
    by_cases gb : ((bd >>> (nI x &&& 31)) &&& 1) = 0
    · have hb : bt bd x = false := (bd_iff (by omega)).mp gb
      have cx' : (nI x).toNatClampNeg = x := nI_clamp (by omega)
      have e1 : (nI (c + 1) - 1) * 8 + nI x = nI (8 * c + x) := by
        rw [nI_pred, show (8 : Int32) = nI 8 from rfl, pk_mul, nI_add, Nat.mul_comm]
      have v2' : vp_in ((nI (c + 1) - 1) * 8 + nI x) 64 := by rw [e1]; exact vp_in_nI (by omega) (by omega)
      have c2 : ((nI (c + 1) - 1) * 8 + nI x).toNatClampNeg = 8 * c + (nI x).toNatClampNeg := by rw [e1, cx']; exact nI_clamp (by omega)
      have W := S (bd ||| ((1 : Int32) <<< (nI x &&& 31))) (upd vt (8 * c + (nI x).toNatClampNeg) (nI nT)) (fun _ => ⟨x, by omega, rfl⟩) (fun y hy => by
          rw [bd_or (by omega) (by omega), Bool.or_eq_true, decide_eq_true_eq]
          constructor
          · rintro (z | z)
            · exact Or.inl z
            · exact Or.inr ⟨k1, by rw [z]⟩
          · rintro (z | ⟨_, z⟩)
            · exact Or.inl z
            · exact Or.inr ((nI_eq (by omega) (by omega)).mp z).symm) (Or.inr ⟨k1, rfl, fun y hy hxy hv => by
          have := (nI_eq (by omega) (by omega)).mp hxy
          subst this
          have := (pb.2.2.2.2 x hy).mpr hv
          rw [hb] at this
          exact absurd this (by decide)⟩)
      refine br_t rfl (br_f x1 (br_f h2 (br_f h3 (br_f h4 (br_f h5 (br_t k1 (br_f g0 (br_f g8 (br_f (by decide) (br_t gb (br_t rfl (br_f k2 (sm_sx (br_t k1 (nm_e ⟨v2', nm_r (e' := upd vt (8 * c + (nI x).toNatClampNeg) (nI nT)) (by rw [c2]) (xp_124 hT hop s2 ?_)⟩)))))))))))))))
      exact br_t rfl (br_f y1 (br_f h2 (br_f h3 (br_f h4 (br_f h5 (br_t k1 (br_f g0 (br_f g7 (br_t gb (br_f k2 (yp_92 hop (br_t k1 (nm_e (yp_170 hT (by split <;> omega) ⟨rfl, W⟩))))))))))))))
    · exact br_t rfl (br_f x1 (br_f h2 (br_f h3 (br_f h4 (br_f h5 (br_t k1 (br_f g0 (br_f g8 (br_f (by decide) (br_f gb (br_f (by decide) (br_t rfl (br_f y1 (br_f h2 (br_f h3 (br_f h4 (br_f h5 (br_t k1 (br_f g0 (br_f g7 (br_f gb ⟨rfl, J⟩)))))))))))))))))))))
  · have g2 : ∀ y, y < 8 → (bt bd y = true ↔ (bt bd y = true ∨ (v1 = 1 ∧ v2 = nI y))) := fun y _ => ⟨Or.inl, fun z => z.elim id (fun w => absurd w.1 k1)⟩
    by_cases k2 : v1 = 2
    · by_cases ht : ¬ v2 < 0 ∧ ¬ 7 < v2
      · obtain ⟨x, hx, ex⟩ := nI_of2 (M := 7) (n := 7) (by decide) ht.1 (Int32.not_lt.mp ht.2)
        have W := S bd vt (fun _ => ⟨x, by omega, ex⟩) g2 (Or.inl ⟨k1, rfl⟩)
        refine br_t rfl (br_f x1 (br_f h2 (br_f h3 (br_f h4 (br_f h5 (br_f k1 (br_t k2 (tg_1 ht.1 ht.2 (br_f (by decide) (sm_sx (br_f k1 (xp_124 hT hop s2 ?_))))))))))))
        exact br_t rfl (br_f y1 (br_f h2 (br_f h3 (br_f h4 (br_f h5 (br_f k1 (br_t k2 (ty_1 ht.1 ht.2 (yp_92 hop (br_f k1 (yp_170 hT (by split <;> omega) ⟨rfl, W⟩)))))))))))
      · exact br_t rfl (br_f x1 (br_f h2 (br_f h3 (br_f h4 (br_f h5 (br_f k1 (br_t k2 (tg_0 ht (br_t rfl (br_t rfl (br_f y1 (br_f h2 (br_f h3 (br_f h4 (br_f h5 (br_f k1 (br_t k2 (ty_0 ht ⟨rfl, J⟩))))))))))))))))))
    · have W := S bd vt (fun z => absurd z (fun w => w.elim k1 k2)) g2 (Or.inl ⟨k1, rfl⟩)
      refine br_t rfl (br_f x1 (br_f h2 (br_f h3 (br_f h4 (br_f h5 (br_f k1 (br_f k2 (sm_sx (br_f k1 (xp_124 hT hop s2 ?_))))))))))
      exact br_t rfl (br_f y1 (br_f h2 (br_f h3 (br_f h4 (br_f h5 (br_f k1 (br_f k2 (yp_92 hop (br_f k1 (yp_170 hT (by split <;> omega) ⟨rfl, W⟩))))))))))
