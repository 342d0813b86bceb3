/-! the relation -/
def ir_h (nC : Nat) : Int32 := if nC = 0 then 0 else 1
def ir_ok (ar cap n nT nA nC cp dn op l : Nat) (bd : Int32) (st tg f0 f1 kd tx ts ta gv rh ft fa ca vt : Nat → Int32) (T A : Nat → Nat) : Prop :=
  1 ≤ ar ∧ ar ≤ 3 ∧ 8 ≤ cap ∧ cap ≤ 32 ∧ n ≤ cap ∧ cp ≤ 1 ∧ l ≤ 32 ∧ hp_ok n st tg f0 f1 ∧ pg_ok ar nC nT nA kd tx ts vt ft fa ca gv rh T A ∧
  (nC = 0 → dn = 0 ∧ op = 0 ∧ bd = 0 ∧ cp = 0) ∧ (∀ c, nC = c + 1 → pb_ok ar c (T c) nT dn op bd kd tx) ∧
  (cp = 1 → dn = ar ∧ op = 0 ∧ ∀ q, q < nT → ∃ e, e ≤ nT ∧ ta q = nI e ∧ ht_E (tk_f kd tx) q e)
def i_Rel (k : Nat) (u : SX) (v : SY) : Prop :=
  ∃ (ar cap n nT nA nC cp dn op l : Nat) (bd lk lc la lt le : Int32) (st tg f0 f1 kd tx ts ta gv gt rh ft fa ca vt ag tc lg ch de si sP sV : Nat → Int32) (T A : Nat → Nat), u = ((nI ar), (nI cap), (nI n), (nI nT), (nI nA), (nI nC), (nI cp), (nI dn), (nI op), bd, (nI l), lk, lc, la, lt, le, st, tg, f0, f1, kd, tx, ts, ta, gv, gt, rh, ft, fa, ca, vt, ag, tc, lg) ∧ v = ((nI ar), (nI cap), (nI n), (nI nC), (nI nT), (nI nA), (nI cp), (ir_h nC), (nI dn), (nI op), bd, (nI l), lk, lc, la, lt, le, 0, st, tg, f0, f1, (fun _ => 0), ch, kd, tx, ft, fa, gv, gt, rh, lg, de, si, sP, sV) ∧ ir_ok ar cap n nT nA nC cp dn op l bd st tg f0 f1 kd tx ts ta gv rh ft fa ca vt T A
theorem ir_mk {k : Nat} {ar cap n nT nA nC cp dn op l : Nat} {bd lk lc la lt le : Int32} {st tg f0 f1 kd tx ts ta gv gt rh ft fa ca vt ag tc lg ch de si sP sV : Nat → Int32} {T A : Nat → Nat} (h : ir_ok ar cap n nT nA nC cp dn op l bd st tg f0 f1 kd tx ts ta gv rh ft fa ca vt T A) : i_Rel k ((nI ar), (nI cap), (nI n), (nI nT), (nI nA), (nI nC), (nI cp), (nI dn), (nI op), bd, (nI l), lk, lc, la, lt, le, st, tg, f0, f1, kd, tx, ts, ta, gv, gt, rh, ft, fa, ca, vt, ag, tc, lg) ((nI ar), (nI cap), (nI n), (nI nC), (nI nT), (nI nA), (nI cp), (ir_h nC), (nI dn), (nI op), bd, (nI l), lk, lc, la, lt, le, 0, st, tg, f0, f1, (fun _ => 0), ch, kd, tx, ft, fa, gv, gt, rh, lg, de, si, sP, sV) := ⟨ar, cap, n, nT, nA, nC, cp, dn, op, l, bd, lk, lc, la, lt, le, st, tg, f0, f1, kd, tx, ts, ta, gv, gt, rh, ft, fa, ca, vt, ag, tc, lg, ch, de, si, sP, sV, T, A, rfl, rfl, h⟩
theorem i_up {k : Nat} {u : SX} {v : SY} (h : i_Rel k u v) : i_Rel (k + 5) u v := h
theorem ir_cl (k : Int32) (lo hi : Nat) (h1 : lo ≤ hi) (h2 : hi < 2 ^ 31) : ∃ a, lo ≤ a ∧ a ≤ hi ∧ ∀ G : Int32 → Prop, G (nI a) → (nI lo ≤ k → (k ≤ nI hi → G k) ∧ (¬ k ≤ nI hi → G (nI hi))) ∧ (¬ nI lo ≤ k → G (nI lo)) := by
  by_cases a : nI lo ≤ k
  · by_cases b : k ≤ nI hi
    · have c : ¬ k < 0 := fun z => absurd (Int32.lt_of_le_of_lt a z) (nI_pos (by omega))
      obtain ⟨j, hj, rfl⟩ := nI_of c
      rw [nI_leI (by omega) hj] at a
      rw [nI_leI hj h2] at b
      exact ⟨j, a, b, fun G g => br_t (nI_le a hj) (br_t (nI_le b h2) g)⟩
    · exact ⟨hi, h1, Nat.le_refl _, fun G g => br_t a (br_f b g)⟩
  · exact ⟨lo, Nat.le_refl _, h1, fun G g => br_f a g⟩
theorem i_vc0 (k0 : Int32) (k1 : Int32) : wpX_init (fun u => wpY_init (fun v => i_Rel 2 u v) k0 k1) k0 k1 := by
  obtain ⟨a, a1, a2, hA⟩ := ir_cl k0 1 3 (by omega) (by omega)
  obtain ⟨b, b1, b2, hB⟩ := ir_cl k1 8 32 (by omega) (by omega)
  have hA' : ∀ post : Int32 → Prop, post (nI a) → wpX_clamp post k0 1 3 := fun post h => hA post h
  have hB' : ∀ post : Int32 → Prop, post (nI b) → wpX_clamp post k1 8 32 := fun post h => hB post h
  unfold wpX_init
  refine hA' _ (hB' _ ?_)
  unfold wpY_init
  refine hA (fun z => wY_init_168 _ k1 z 0 0 0 0 0 0 0 0 0 0 0 0 0 0 0 0 0 0 (fun _ => 0) (fun _ => 0) (fun _ => 0) (fun _ => 0) (fun _ => 0) (fun _ => 0) (fun _ => 0) (fun _ => 0) (fun _ => 0) (fun _ => 0) (fun _ => 0) (fun _ => 0) (fun _ => 0) (fun _ => 0) (fun _ => 0) (fun _ => 0) (fun _ => 0) (fun _ => 0) ) ?_
  unfold wY_init_168
  refine hB (fun z => wY_init_195 _ z (nI a) 0 0 0 0 0 0 0 0 0 0 0 0 0 0 0 0 0 (fun _ => 0) (fun _ => 0) (fun _ => 0) (fun _ => 0) (fun _ => 0) (fun _ => 0) (fun _ => 0) (fun _ => 0) (fun _ => 0) (fun _ => 0) (fun _ => 0) (fun _ => 0) (fun _ => 0) (fun _ => 0) (fun _ => 0) (fun _ => 0) (fun _ => 0) (fun _ => 0) ) ?_
  exact ir_mk (k := 2) (ar := a) (cap := b) (n := 0) (nT := 0) (nA := 0) (nC := 0) (cp := 0) (dn := 0) (op := 0) (l := 0) (T := fun _ => 0) (A := fun _ => 0) ⟨a1, a2, b1, b2, by omega, by omega, by omega, fun c hc => absurd hc (by omega), pg_0, fun _ => ⟨rfl, rfl, rfl, rfl⟩, fun c hc => absurd hc (by omega), fun h => absurd h (by omega)⟩
theorem i_vc_clearHeap {k : Nat} {u : SX} {v : SY} (I : i_Rel k u v) (hk : k + 5 ≤ 2562) : wpX_clearHeap (fun u' => wpY_clearHeap (fun v' => i_Rel (k + 5) u' v') v) u := by
  obtain ⟨ar, cap, n, nT, nA, nC, cp, dn, op, l, bd, lk, lc, la, lt, le, st, tg, f0, f1, kd, tx, ts, ta, gv, gt, rh, ft, fa, ca, vt, ag, tc, lg, ch, de, si, sP, sV, T, A, rfl, rfl, hk1, hk2, hk3, hk4, hk5, hk6, hk7, hk8, hk9, hk10, hk11, hk12⟩ := I
  exact ir_mk (k := k + 5) (n := 0) ⟨hk1, hk2, hk3, hk4, by omega, hk6, hk7, fun c hc => absurd hc (by omega), hk9, hk10, hk11, hk12⟩
theorem i_vc_resetProgram {k : Nat} {u : SX} {v : SY} (I : i_Rel k u v) (hk : k + 5 ≤ 2562) : wpX_resetProgram (fun u' => wpY_resetProgram (fun v' => i_Rel (k + 5) u' v') v) u := by
  obtain ⟨ar, cap, n, nT, nA, nC, cp, dn, op, l, bd, lk, lc, la, lt, le, st, tg, f0, f1, kd, tx, ts, ta, gv, gt, rh, ft, fa, ca, vt, ag, tc, lg, ch, de, si, sP, sV, T, A, rfl, rfl, hk1, hk2, hk3, hk4, hk5, hk6, hk7, hk8, hk9, hk10, hk11, hk12⟩ := I
  exact ir_mk (k := k + 5) (nT := 0) (nA := 0) (nC := 0) (cp := 0) (dn := 0) (op := 0) (bd := 0) (T := fun _ => 0) (A := fun _ => 0) ⟨hk1, hk2, hk3, hk4, hk5, by omega, hk7, hk8, pg_0, fun _ => ⟨rfl, rfl, rfl, rfl⟩, fun c hc => absurd hc (by omega), fun h => absurd h (by omega)⟩
