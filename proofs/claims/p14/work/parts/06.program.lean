/-! the program: what the relation keeps of it, and how each call of the builder keeps it -/
def vr_in (kd tx : Nat → Int32) (b e x : Nat) : Prop := ∃ q, b ≤ q ∧ q < e ∧ kd q = 1 ∧ tx q = nI x
/-- of clause c: its tokens are T c .. T (c + 1) - 1, its alternatives A c .. A (c + 1) - 1 -/
def pg_c (ar nT nA : Nat) (kd tx vt ft fa ca gv rh : Nat → Int32) (c t t' a a' : Nat) : Prop :=
  t ≤ t' ∧ t' ≤ nT ∧ a ≤ a' ∧ a' ≤ nA ∧ ft c = nI t ∧ fa c = nI a ∧ ca c = nI (a' - a) ∧ ht_h (tk_f kd tx) t = -((ar * c : Nat) : Int) ∧
  (∀ q, t ≤ q → q < t' → -((ar * (c + 1) : Nat) : Int) < ht_h (tk_f kd tx) q ∧ (kd q = 1 → vt (8 * c + (tx q).toNatClampNeg) = nI q)) ∧
  (∀ j, a ≤ j → j < a' → (gv j = -1 ∨ ∃ x, x < 8 ∧ gv j = nI x ∧ vr_in kd tx t t' x) ∧ ∃ r, r ≤ 11 ∧ rh j = nI r ∧ (r < 8 → vr_in kd tx t t' r))
def pg_t (kd tx ts : Nat → Int32) (q : Nat) : Prop := (∃ k, k ≤ 4 ∧ kd q = nI k) ∧ ((kd q = 1 ∨ kd q = 2) → ∃ x, x < 8 ∧ tx q = nI x) ∧ ts q = nI (tk_f kd tx q)
def pg_ok (ar nC nT nA : Nat) (kd tx ts vt ft fa ca gv rh : Nat → Int32) (T A : Nat → Nat) : Prop :=
  nC ≤ 8 ∧ nT ≤ 64 ∧ nA ≤ 16 ∧ T 0 = 0 ∧ A 0 = 0 ∧ T nC = nT ∧ A nC = nA ∧ (∀ q, q < nT → pg_t kd tx ts q) ∧
  ∀ c, c < nC → pg_c ar nT nA kd tx vt ft fa ca gv rh c (T c) (T (c + 1)) (A c) (A (c + 1))
/-- of the clause that is being written, begun at token t -/
def pb_ok (ar c t nT dn op : Nat) (bd : Int32) (kd tx : Nat → Int32) : Prop :=
  dn ≤ ar ∧ (op = 0 ∨ dn < ar) ∧ op ≤ nT + 1 ∧ ht_h (tk_f kd tx) nT = -((ar * c : Nat) : Int) - dn + (if op = 0 then 0 else (op : Int) - 1) ∧ ∀ x, x < 8 → (bt bd x = true ↔ vr_in kd tx t nT x)
theorem pg_h {kd tx : Nat → Int32} {nT q : Nat} {k x : Int32} (hq : q ≤ nT) : ht_h (tk_f (upd kd nT k) (upd tx nT x)) q = ht_h (tk_f kd tx) q :=
  ht_cong (fun r hr => by unfold tk_f; rw [pk_un (by omega), pk_un (by omega)])
theorem pg_hn {kd tx : Nat → Int32} {nT : Nat} {k x : Int32} : ht_h (tk_f (upd kd nT k) (upd tx nT x)) (nT + 1) = ht_h (tk_f kd tx) nT + (tk_s k x : Int) - 1 := by
  rw [ht_s, pg_h (Nat.le_refl _)]
  unfold tk_f
  rw [pk_us, pk_us]
theorem vr_k {kd tx : Nat → Int32} {nT b e x : Nat} {k v : Int32} (he : e ≤ nT) : vr_in (upd kd nT k) (upd tx nT v) b e x ↔ vr_in kd tx b e x := by
  constructor
  · rintro ⟨q, h1, h2, h3, h4⟩
    rw [pk_un (by omega)] at h3 h4
    exact ⟨q, h1, h2, h3, h4⟩
  · rintro ⟨q, h1, h2, h3, h4⟩
    exact ⟨q, h1, h2, by rw [pk_un (by omega)]; exact h3, by rw [pk_un (by omega)]; exact h4⟩
theorem vr_n {kd tx : Nat → Int32} {nT b x : Nat} {k v : Int32} (hb : b ≤ nT) : vr_in (upd kd nT k) (upd tx nT v) b (nT + 1) x ↔ (vr_in kd tx b nT x ∨ (k = 1 ∧ v = nI x)) := by
  constructor
  · rintro ⟨q, h1, h2, h3, h4⟩
    by_cases e : q = nT
    · subst e
      rw [pk_us] at h3 h4
      exact Or.inr ⟨h3, h4⟩
    · rw [pk_un e] at h3 h4
      exact Or.inl ⟨q, h1, by omega, h3, h4⟩
  · rintro (⟨q, h1, h2, h3, h4⟩ | ⟨h3, h4⟩)
    · exact ⟨q, h1, by omega, by rw [pk_un (by omega)]; exact h3, by rw [pk_un (by omega)]; exact h4⟩
    · exact ⟨nT, hb, by omega, by rw [pk_us]; exact h3, by rw [pk_us]; exact h4⟩
def pg_u (f : Nat → Nat) (k v j : Nat) : Nat := if j = k then v else f j
theorem pg_us {f : Nat → Nat} {k v : Nat} : pg_u f k v k = v := if_pos rfl
theorem pg_un {f : Nat → Nat} {k v j : Nat} (h : j ≠ k) : pg_u f k v j = f j := if_neg h
theorem pg_0 {ar : Nat} {kd tx ts vt ft fa ca gv rh : Nat → Int32} : pg_ok ar 0 0 0 kd tx ts vt ft fa ca gv rh (fun _ => 0) (fun _ => 0) :=
  ⟨by omega, by omega, by omega, rfl, rfl, rfl, rfl, fun q h => by omega, fun c h => by omega⟩
theorem pg_up {ar nT nT' nA nA' c t t' a a' : Nat} {kd tx vt ft fa ca gv rh : Nat → Int32} (h : pg_c ar nT nA kd tx vt ft fa ca gv rh c t t' a a') (h1 : nT ≤ nT') (h2 : nA ≤ nA') : pg_c ar nT' nA' kd tx vt ft fa ca gv rh c t t' a a' := by
  obtain ⟨a1, a2, a3, a4, r⟩ := h
  exact ⟨a1, by omega, a3, by omega, r⟩
/-- clause() -/
theorem pg_cl {ar nC nT nA : Nat} {kd tx ts vt ft fa ca gv rh : Nat → Int32} {T A : Nat → Nat} (h : pg_ok ar nC nT nA kd tx ts vt ft fa ca gv rh T A) (hC : nC < 8) (hh : ht_h (tk_f kd tx) nT = -((ar * nC : Nat) : Int)) :
    pg_ok ar (nC + 1) nT nA kd tx ts vt (upd ft nC (nI nT)) (upd fa nC (nI nA)) (upd ca nC 0) gv rh (pg_u T (nC + 1) nT) (pg_u A (nC + 1) nA) := by
  obtain ⟨h1, h2, h3, h4, h5, h6, h7, h8, h9⟩ := h
  refine ⟨by omega, h2, h3, by rw [pg_un (by omega)]; exact h4, by rw [pg_un (by omega)]; exact h5, pg_us, pg_us, h8, fun c hc => ?_⟩
  rw [pg_un (show c ≠ nC + 1 by omega), pg_un (show c ≠ nC + 1 by omega)]
  by_cases e : c = nC
  · subst e
    rw [pg_us, pg_us, h6, h7]
    refine ⟨Nat.le_refl _, Nat.le_refl _, Nat.le_refl _, Nat.le_refl _, pk_us, pk_us, ?_, hh, fun q q1 q2 => by omega, fun j j1 j2 => by omega⟩
    rw [pk_us, Nat.sub_self]; rfl
  · rw [pg_un (show c + 1 ≠ nC + 1 by omega), pg_un (show c + 1 ≠ nC + 1 by omega)]
    obtain ⟨a1, a2, a3, a4, a5, a6, a7, r⟩ := h9 c (by omega)
    exact ⟨a1, a2, a3, a4, by rw [pk_un e]; exact a5, by rw [pk_un e]; exact a6, by rw [pk_un e]; exact a7, r⟩
/-- pat(k, x) -/
theorem pg_pat {ar c nT nA : Nat} {kd tx ts vt vt' ft fa ca gv rh : Nat → Int32} {T A : Nat → Nat} {k x : Int32} (h : pg_ok ar (c + 1) nT nA kd tx ts vt ft fa ca gv rh T A) (hT : nT < 64)
    (hk : ∃ j, j ≤ 4 ∧ k = nI j) (hx : (k = 1 ∨ k = 2) → ∃ y, y < 8 ∧ x = nI y) (hh : -((ar * (c + 1) : Nat) : Int) < ht_h (tk_f kd tx) nT)
    (hv : (k ≠ 1 ∧ vt' = vt) ∨ (k = 1 ∧ vt' = upd vt (8 * c + x.toNatClampNeg) (nI nT) ∧ ∀ y, y < 8 → x = nI y → ¬ vr_in kd tx (T c) nT y)) :
    pg_ok ar (c + 1) (nT + 1) nA (upd kd nT k) (upd tx nT x) (upd ts nT (nI (tk_s k x))) vt' ft fa ca gv rh (pg_u T (c + 1) (nT + 1)) A := by
  obtain ⟨h1, h2, h3, h4, h5, h6, h7, h8, h9⟩ := h
  refine ⟨h1, by omega, h3, by rw [pg_un (by omega)]; exact h4, h5, pg_us, h7, fun q hq => ?_, fun d hd => ?_⟩
  · by_cases e : q = nT
    · subst e
      unfold pg_t tk_f
      rw [pk_us, pk_us, pk_us]
      exact ⟨hk, hx, rfl⟩
    · have o := h8 q (by omega)
      unfold pg_t tk_f at o ⊢
      rw [pk_un e, pk_un e, pk_un e]
      exact o
  · have o := h9 d hd
    rw [pg_un (show d ≠ c + 1 by omega)]
    -- the variable places of the elder tokens stay
    have V : ∀ q, T d ≤ q → q < T (d + 1) → kd q = 1 → vt' (8 * d + (tx q).toNatClampNeg) = nI q := by
      intro q q1 q2 q3
      have p := (o.2.2.2.2.2.2.2.2.1 q q1 q2).2 q3
      rcases hv with ⟨_, e⟩ | ⟨e1, e2, e3⟩
      · rw [e]; exact p
      · obtain ⟨z, z1, z2⟩ := (h8 q (by have := o.2.1; omega)).2.1 (Or.inl q3)
        obtain ⟨y, y1, y2⟩ := hx (Or.inl e1)
        rw [e2, pk_un]
        · exact p
        · rw [z2, y2, nI_clamp (by omega), nI_clamp (by omega)]
          intro w
          by_cases f : d = c
          · subst f
            have : z = y := by omega
            subst this
            exact e3 z z1 y2 ⟨q, q1, by have := o.2.1; omega, q3, z2⟩
          · omega
    obtain ⟨a1, a2, a3, a4, a5, a6, a7, a8, a9, a10⟩ := o
    by_cases e : d = c
    · subst e
      rw [pg_us]
      rw [h6] at a1 V a9 a10
      refine ⟨by omega, by omega, a3, a4, a5, a6, a7, by rw [pg_h a1]; exact a8, fun q q1 q2 => ?_, fun j j1 j2 => ?_⟩
      · by_cases f : q = nT
        · subst f
          rw [pg_h (Nat.le_refl _), pk_us, pk_us]
          refine ⟨hh, fun g => ?_⟩
          rcases hv with ⟨e1, _⟩ | ⟨_, e2, _⟩
          · exact absurd g e1
          · rw [e2, pk_us]
        · rw [pg_h (by omega), pk_un f, pk_un f]
          exact ⟨(a9 q q1 (by omega)).1, V q q1 (by omega)⟩
      · obtain ⟨b1, r, r1, r2, r3⟩ := a10 j j1 j2
        refine ⟨?_, r, r1, r2, fun g => (vr_n a1).mpr (Or.inl (r3 g))⟩
        rcases b1 with b1 | ⟨y, y1, y2, y3⟩
        · exact Or.inl b1
        · exact Or.inr ⟨y, y1, y2, (vr_n a1).mpr (Or.inl y3)⟩
    · rw [pg_un (show d + 1 ≠ c + 1 by omega)]
      refine ⟨a1, by omega, a3, a4, a5, a6, a7, by rw [pg_h (by omega)]; exact a8, fun q q1 q2 => ?_, fun j j1 j2 => ?_⟩
      · rw [pg_h (by omega), pk_un (by omega), pk_un (by omega)]
        exact ⟨(a9 q q1 q2).1, V q q1 q2⟩
      · obtain ⟨b1, r, r1, r2, r3⟩ := a10 j j1 j2
        refine ⟨?_, r, r1, r2, fun g => (vr_k a2).mpr (r3 g)⟩
        rcases b1 with b1 | ⟨y, y1, y2, y3⟩
        · exact Or.inl b1
        · exact Or.inr ⟨y, y1, y2, (vr_k a2).mpr y3⟩
/-- the clause that is being written, after pat(k, x) -/
theorem pb_pat {ar c t nT dn op : Nat} {bd bd' : Int32} {kd tx : Nat → Int32} {k x : Int32} (h : pb_ok ar c t nT dn op bd kd tx) (ht : t ≤ nT) (hd : dn < ar)
    (hb : ∀ y, y < 8 → (bt bd' y = true ↔ (bt bd y = true ∨ (k = 1 ∧ x = nI y)))) :
    pb_ok ar c t (nT + 1) (if (if op = 0 then 1 else op) - 1 + tk_s k x = 0 then dn + 1 else dn) ((if op = 0 then 1 else op) - 1 + tk_s k x) bd' (upd kd nT k) (upd tx nT x) ∧ -((ar * (c + 1) : Nat) : Int) < ht_h (tk_f kd tx) nT := by
  obtain ⟨h1, h2, h3, h4, h5⟩ := h
  have s2 := tk_s2 k x
  have m : ar * (c + 1) = ar * c + ar := Nat.mul_succ ar c
  have hb' : ∀ y, y < 8 → (bt bd' y = true ↔ vr_in (upd kd nT k) (upd tx nT x) t (nT + 1) y) := fun y hy => by
    rw [vr_n ht, hb y hy, h5 y hy]
  generalize hs : tk_s k x = s at *
  refine ⟨⟨?_, ?_, ?_, ?_, hb'⟩, ?_⟩
  · by_cases e : op = 0
    · rw [if_pos e]
      split <;> omega
    · rw [if_neg e]
      split <;> omega
  · by_cases e : op = 0
    · rw [if_pos e]
      split <;> omega
    · rw [if_neg e]
      split <;> omega
  · by_cases e : op = 0
    · rw [if_pos e]; omega
    · rw [if_neg e]; omega
  · rw [pg_hn, h4, hs]
    by_cases e : op = 0
    · rw [if_pos e, if_pos e]
      by_cases z : s = 0
      · rw [if_pos (by omega), if_pos (by omega)]; omega
      · rw [if_neg (by omega), if_neg (by omega)]; omega
    · rw [if_neg e, if_neg e]
      by_cases z : op - 1 + s = 0
      · rw [if_pos z, if_pos z]; omega
      · rw [if_neg z, if_neg z]; omega
  · rw [m, h4]
    split <;> omega
/-- alt(g, w, r) -/
theorem pg_alt {ar c nT nA : Nat} {kd tx ts vt ft fa ca gv rh : Nat → Int32} {T A : Nat → Nat} {g r : Int32} (h : pg_ok ar (c + 1) nT nA kd tx ts vt ft fa ca gv rh T A) (hA : nA < 16)
    (hg : g = -1 ∨ ∃ x, x < 8 ∧ g = nI x ∧ vr_in kd tx (T c) nT x) (hr : ∃ y, y ≤ 11 ∧ r = nI y ∧ (y < 8 → vr_in kd tx (T c) nT y)) :
    pg_ok ar (c + 1) nT (nA + 1) kd tx ts vt ft fa (upd ca c (ca c + 1)) (upd gv nA g) (upd rh nA r) T (pg_u A (c + 1) (nA + 1)) := by
  obtain ⟨h1, h2, h3, h4, h5, h6, h7, h8, h9⟩ := h
  refine ⟨h1, h2, by omega, h4, by rw [pg_un (by omega)]; exact h5, h6, pg_us, h8, fun d hd => ?_⟩
  obtain ⟨a1, a2, a3, a4, a5, a6, a7, a8, a9, a10⟩ := h9 d hd
  rw [pg_un (show d ≠ c + 1 by omega)]
  by_cases e : d = c
  · subst e
    rw [pg_us]
    rw [h7] at a3 a4 a7 a10
    refine ⟨a1, a2, by omega, by omega, a5, a6, ?_, a8, a9, fun j j1 j2 => ?_⟩
    · rw [pk_us, a7, nI_1]
      exact congrArg nI (by omega)
    · by_cases f : j = nA
      · subst f
        rw [pk_us, pk_us, h6]
        exact ⟨hg, hr⟩
      · rw [pk_un f, pk_un f]
        exact a10 j j1 (by omega)
  · rw [pg_un (show d + 1 ≠ c + 1 by omega)]
    refine ⟨a1, a2, a3, by omega, a5, a6, by rw [pk_un e]; exact a7, a8, a9, fun j j1 j2 => ?_⟩
    rw [pk_un (by omega), pk_un (by omega)]
    exact a10 j j1 j2
/-- the program is whole: every clause ends where its heights say, and every token's pattern has its end there -/
def pe_ok (ar nC : Nat) (kd tx : Nat → Int32) (T : Nat → Nat) : Prop := ∀ c, c ≤ nC → ht_h (tk_f kd tx) (T c) = -((ar * c : Nat) : Int)
theorem pe_mk {ar c nT nA dn op : Nat} {bd : Int32} {kd tx ts vt ft fa ca gv rh : Nat → Int32} {T A : Nat → Nat} (h : pg_ok ar (c + 1) nT nA kd tx ts vt ft fa ca gv rh T A) (hb : pb_ok ar c (T c) nT dn op bd kd tx) (h1 : dn = ar) (h2 : op = 0) : pe_ok ar (c + 1) kd tx T := by
  intro d hd
  by_cases e : d = c + 1
  · subst e
    rw [h.2.2.2.2.2.1, hb.2.2.2.1, if_pos h2, h1, Nat.mul_succ]
    omega
  · exact (h.2.2.2.2.2.2.2.2 d (by omega)).2.2.2.2.2.2.2.1
/-- which clause a token is of -/
theorem pg_of {nC nT : Nat} {T : Nat → Nat} (h0 : T 0 = 0) (hn : T nC = nT) {q : Nat} (hq : q < nT) : ∃ c, c < nC ∧ T c ≤ q ∧ q < T (c + 1) := by
  subst hn
  induction nC with
  | zero => omega
  | succ n ih =>
    rcases Nat.lt_or_ge q (T n) with z | z
    · obtain ⟨c, h1, h2⟩ := ih z
      exact ⟨c, by omega, h2⟩
    · exact ⟨n, by omega, z, hq⟩
theorem pe_end {ar nC nT nA : Nat} {kd tx ts vt ft fa ca gv rh : Nat → Int32} {T A : Nat → Nat} (h : pg_ok ar nC nT nA kd tx ts vt ft fa ca gv rh T A) (he : pe_ok ar nC kd tx T) {c q : Nat} (hc : c < nC) (h1 : T c ≤ q) (h2 : q < T (c + 1)) :
    ∃ e, e ≤ T (c + 1) ∧ ht_E (tk_f kd tx) q e := by
  have o := h.2.2.2.2.2.2.2.2 c hc
  have a := (o.2.2.2.2.2.2.2.2.1 q h1 h2).1
  have b := he (c + 1) (by omega)
  exact ht_ex h2 (by omega)
theorem pe_any {ar nC nT nA : Nat} {kd tx ts vt ft fa ca gv rh : Nat → Int32} {T A : Nat → Nat} (h : pg_ok ar nC nT nA kd tx ts vt ft fa ca gv rh T A) (he : pe_ok ar nC kd tx T) {q : Nat} (hq : q < nT) :
    ∃ e, e ≤ nT ∧ ht_E (tk_f kd tx) q e := by
  obtain ⟨c, c1, c2, c3⟩ := pg_of h.2.2.2.1 h.2.2.2.2.2.1 hq
  obtain ⟨e, e1, e2⟩ := pe_end h he c1 c2 c3
  exact ⟨e, by have := (h.2.2.2.2.2.2.2.2 c c1).2.1; omega, e2⟩
/-- the static facts of a clause of a compiled program -/
theorem pg_cx {ar nC nT nA : Nat} {kd tx ts ta vt ft fa ca gv rh : Nat → Int32} {T A E : Nat → Nat} (h : pg_ok ar nC nT nA kd tx ts vt ft fa ca gv rh T A) (he : pe_ok ar nC kd tx T)
    (hE : ∀ q, q < nT → ta q = nI (E q) ∧ ht_E (tk_f kd tx) q (E q)) {c : Nat} (hc : c < nC) : cx_ok nT (T c) (T (c + 1)) kd tx ts ta E := by
  have o := h.2.2.2.2.2.2.2.2 c hc
  have o2 := o.2.1
  refine ⟨h.2.1, o2, fun q q1 q2 => ?_⟩
  have t := h.2.2.2.2.2.2.2.1 q (by omega)
  obtain ⟨e, e1, e2⟩ := pe_end h he hc q1 q2
  have f := hE q (by omega)
  have g := ht_uniq e2 f.2
  refine ⟨f.2, by omega, f.1, t.2.2, t.1, t.2.1, fun k q' r1 r2 r3 r4 => ?_⟩
  have a := (o.2.2.2.2.2.2.2.2.1 q q1 q2).2 k
  have b := (o.2.2.2.2.2.2.2.2.1 q' r1 r2).2 r3
  rw [r4, a] at b
  have h64 := h.2.1
  exact ((nI_eq (by omega) (by omega)).mp b).symm
/-- the arguments' patterns: the i-th starts at p -/
theorem pa_lt {ar nC nT nA : Nat} {kd tx ts vt ft fa ca gv rh : Nat → Int32} {T A : Nat → Nat} (h : pg_ok ar nC nT nA kd tx ts vt ft fa ca gv rh T A) (he : pe_ok ar nC kd tx T) {c p i : Nat} (hc : c < nC) (h2 : p ≤ T (c + 1))
    (hp : ht_h (tk_f kd tx) p = -((ar * c : Nat) : Int) - i) (hi : i < ar) : p < T (c + 1) := by
  have b := he (c + 1) (by omega)
  rcases Nat.lt_or_ge p (T (c + 1)) with z | z
  · exact z
  · have : p = T (c + 1) := by omega
    subst this
    rw [Nat.mul_succ] at b
    omega
theorem pa_end {ar nC nT nA : Nat} {kd tx ts vt ft fa ca gv rh : Nat → Int32} {T A : Nat → Nat} (h : pg_ok ar nC nT nA kd tx ts vt ft fa ca gv rh T A) {c p : Nat} (hc : c < nC) (h1 : T c ≤ p) (h2 : p ≤ T (c + 1))
    (hp : ht_h (tk_f kd tx) p = -((ar * c : Nat) : Int) - ar) : p = T (c + 1) := by
  rcases Nat.lt_or_ge p (T (c + 1)) with z | z
  · have a := ((h.2.2.2.2.2.2.2.2 c hc).2.2.2.2.2.2.2.2.1 p h1 z).1
    rw [Nat.mul_succ] at a
    omega
  · omega
