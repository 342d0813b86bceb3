/-! what a state of the class keeps -/
def ir_ok (ar cap n nT nA nC cp dn op l : Nat) (bd : Int32) (st tg f0 f1 kd tx ts ta gv rh ft fa ca vt : Nat → Int32) (T A : Nat → Nat) : Prop :=
  1 ≤ ar ∧ ar ≤ 3 ∧ 8 ≤ cap ∧ cap ≤ 32 ∧ n ≤ cap ∧ cp ≤ 1 ∧ l ≤ 32 ∧ hp_ok n st tg f0 f1 ∧ pg_ok ar nC nT nA kd tx ts vt ft fa ca gv rh T A ∧
  (nC = 0 → dn = 0 ∧ op = 0 ∧ bd = 0 ∧ cp = 0) ∧ (∀ c, nC = c + 1 → pb_ok ar c (T c) nT dn op bd kd tx) ∧
  (cp = 1 → dn = ar ∧ op = 0 ∧ ∀ q, q < nT → ∃ e, e ≤ nT ∧ ta q = nI e ∧ ht_E (tk_f kd tx) q e)
def xr_ok (u : St2) : Prop :=
  ∃ (ar cap n nT nA nC cp dn op l : Nat) (bd lk lc la lt le : Int32) (st tg f0 f1 kd tx ts ta gv gt rh ft fa ca vt ag tc lg : Nat → Int32) (T A : Nat → Nat), u = ((nI ar), (nI cap), (nI n), (nI nT), (nI nA), (nI nC), (nI cp), (nI dn), (nI op), bd, (nI l), lk, lc, la, lt, le, st, tg, f0, f1, kd, tx, ts, ta, gv, gt, rh, ft, fa, ca, vt, ag, tc, lg) ∧ ir_ok ar cap n nT nA nC cp dn op l bd st tg f0 f1 kd tx ts ta gv rh ft fa ca vt T A
theorem xr_mk {ar cap n nT nA nC cp dn op l : Nat} {bd lk lc la lt le : Int32} {st tg f0 f1 kd tx ts ta gv gt rh ft fa ca vt ag tc lg : Nat → Int32} {T A : Nat → Nat} (h : ir_ok ar cap n nT nA nC cp dn op l bd st tg f0 f1 kd tx ts ta gv rh ft fa ca vt T A) : xr_ok ((nI ar), (nI cap), (nI n), (nI nT), (nI nA), (nI nC), (nI cp), (nI dn), (nI op), bd, (nI l), lk, lc, la, lt, le, st, tg, f0, f1, kd, tx, ts, ta, gv, gt, rh, ft, fa, ca, vt, ag, tc, lg) := ⟨ar, cap, n, nT, nA, nC, cp, dn, op, l, bd, lk, lc, la, lt, le, st, tg, f0, f1, kd, tx, ts, ta, gv, gt, rh, ft, fa, ca, vt, ag, tc, lg, T, A, rfl, h⟩
theorem ir_cl (k : Int32) (lo hi : Nat) (h1 : lo ≤ hi) (h2 : hi < 2 ^ 31) : ∃ a, lo ≤ a ∧ a ≤ hi ∧ ∀ G : Int32 → Prop, G (nI a) → (nI lo ≤ k → (k ≤ nI hi → G k) ∧ (¬ k ≤ nI hi → G (nI hi))) ∧ (¬ nI lo ≤ k → G (nI lo)) := by
  by_cases a : nI lo ≤ k
  · by_cases b : k ≤ nI hi
    · have c : ¬ k < 0 := fun z => absurd (Int32.lt_of_le_of_lt a z) (nI_pos (by omega))
      obtain ⟨j, hj, rfl⟩ := nI_of c
      rw [nI_leI (by omega) hj] at a
      rw [nI_leI hj h2] at b
      exact ⟨j, a, b, fun G g => br_t (nI_le a hj) (br_t (nI_le b h2) g)⟩
    · exact ⟨hi, h1, Nat.le_refl _, fun G g => br_t a (br_f b g)⟩
  · exact ⟨lo, Nat.le_refl _, h1, fun G g => br_f a g⟩
theorem om_init (k0 k1 : Int32) : ∃ u', xr_ok u' ∧ ∀ post : St2 → Prop, post u' → wpX_init post 18 619 (0, 0, 0, 0, 0, 0, 0, 0, 0, 0, 0, 0, 0, 0, 0, 0) k0 k1 := by
  obtain ⟨a, a1, a2, hA⟩ := ir_cl k0 1 3 (by omega) (by omega)
  obtain ⟨b, b1, b2, hB⟩ := ir_cl k1 8 32 (by omega) (by omega)
  have hA' : ∀ post : Int32 → Prop, post (nI a) → wpX_clamp post () k0 1 3 := fun post h => hA post h
  have hB' : ∀ post : Int32 → Prop, post (nI b) → wpX_clamp post () k1 8 32 := fun post h => hB post h
  refine ⟨_, xr_mk (ar := a) (cap := b) (n := 0) (nT := 0) (nA := 0) (nC := 0) (cp := 0) (dn := 0) (op := 0) (l := 0) (bd := 0) (lk := 5) (lc := -1) (la := -1) (lt := -1) (le := -1) (st := fun _ => 0) (tg := fun _ => 0) (f0 := fun _ => 0) (f1 := fun _ => 0) (kd := fun _ => 0) (tx := fun _ => 0) (ts := fun _ => 0) (ta := fun _ => 0) (gv := fun _ => 0) (gt := fun _ => 0) (rh := fun _ => 0) (ft := fun _ => 0) (fa := fun _ => 0) (ca := fun _ => 0) (vt := fun _ => 0) (ag := fun _ => 0) (tc := fun _ => 0) (lg := fun _ => 0) (T := fun _ => 0) (A := fun _ => 0) ⟨a1, a2, b1, b2, by omega, by omega, by omega, fun c hc => absurd hc (by omega), pg_0, fun _ => ⟨rfl, rfl, rfl, rfl⟩, fun c hc => absurd hc (by omega), fun h => absurd h (by omega)⟩, fun post hp => ?_⟩
  refine ⟨by omega, by omega, by omega, by omega, by omega, by omega, by omega, by omega, by omega, by omega, by omega, by omega, by omega, by omega, by omega, by omega, by omega, by omega, by omega, by omega, by omega, by omega, by omega, by omega, by omega, by omega, by omega, by omega, by omega, by omega, by omega, by omega, by omega, by omega, by omega, by omega, hA' _ (hB' _ ?_)⟩
  exact hp
