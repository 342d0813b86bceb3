/-! the reference's steps of a match -/
section
variable {ar cap n nT nA nC cp dn op : Nat} {bd lk lc la lt le hc yk yc ya yt ye : Int32} {kd tx ts ta gv gt rh ft fa ca vt ag : Nat → Int32}
theorem ym_end {post : Int32 → SY → Prop} {it : Int32} {l N : Nat} {st tg f0 f1 ch lg de si sP sV : Nat → Int32} (h : post 1 ((nI ar), (nI cap), (nI n), (nI nC), (nI nT), (nI nA), (nI cp), hc, (nI dn), (nI op), bd, (nI l), yk, yc, ya, yt, ye, 0, st, tg, f0, f1, (fun _ => 0), ch, kd, tx, ft, fa, gv, gt, rh, lg, de, si, sP, sV)) : wY_match_19 post (N + 1) 0 it (nI ar) (nI cap) (nI n) (nI nC) (nI nT) (nI nA) (nI cp) hc (nI dn) (nI op) bd (nI l) yk yc ya yt ye 0 st tg f0 f1 (fun _ => 0) ch kd tx ft fa gv gt rh lg de si sP sV := by
  rw [wY_match_19]
  exact br_c (fun _ => h) (fun _ => br_t (by decide) h)
theorem ym_wild {post : Int32 → SY → Prop} {i k it c l N : Nat} {st tg f0 f1 ch lg de si sP sV : Nat → Int32} (h64 : nT ≤ 64) (hi : i < nT) (hit : it < 64) (hk64 : k < 64) (hP : sP k = nI i) (hV : sV k = nI c) (hk : kd i = 0)
    (h : wY_match_19 post N (nI (k)) (nI (it + 1)) (nI ar) (nI cap) (nI n) (nI nC) (nI nT) (nI nA) (nI cp) hc (nI dn) (nI op) bd (nI l) yk yc ya yt ye 0 st tg f0 f1 (fun _ => 0) ch kd tx ft fa gv gt rh lg de si sP sV) : wY_match_19 post (N + 1) (nI (k + 1)) (nI (it)) (nI ar) (nI cap) (nI n) (nI nC) (nI nT) (nI nA) (nI cp) hc (nI dn) (nI op) bd (nI l) yk yc ya yt ye 0 st tg f0 f1 (fun _ => 0) ch kd tx ft fa gv gt rh lg de si sP sV := by
  have ck : (nI k).toNatClampNeg = k := nI_clamp (by omega)
  have ci : (nI i).toNatClampNeg = i := nI_clamp (by omega)
  have vk : vp_in (nI k) 64 := vp_in_nI (by omega) (by omega)
  have vi : vp_in (nI i) 64 := vp_in_nI (by omega) (by omega)
  have a1 : ¬ (64 : Int32) ≤ nI it := nI_ge (b := 64) hit (by omega)
  have a2 : ¬ nI (k + 1) ≤ 0 := nI_nle (by omega) (by omega)
  have a3 : ¬ nI i < 0 := nI_pos (by omega)
  have a4 : nI i < nI nT := nI_lt hi (by omega)
  have eP : sP (nI k).toNatClampNeg = nI i := by rw [ck]; exact hP
  have eV : sV (nI k).toNatClampNeg = nI c := by rw [ck]; exact hV
  have eK : kd (nI i).toNatClampNeg = kd i := by rw [ci]
  rw [wY_match_19]
  exact br_f a1 (br_f a2 (nm_r (pk_m1 k) ⟨vk, nm_r eP ⟨vk, nm_r eV (br_f a3 (br_t a4 ⟨vi, nm_r eK (br_f (by rw [hk]; decide) (br_f (by rw [hk]; decide) (br_f (by rw [hk]; decide) (br_f (by rw [hk]; decide) (nm_r (nI_1 it) h)))))⟩))⟩⟩))
theorem ym_var {post : Int32 → SY → Prop} {i k it c l N : Nat} {st tg f0 f1 ch lg de si sP sV : Nat → Int32} (h64 : nT ≤ 64) (hi : i < nT) (hit : it < 64) (hk64 : k < 64) (hP : sP k = nI i) (hV : sV k = nI c) {x : Nat} (hk : kd i = 1) (hx : x < 8) (ht : tx i = nI x)
    (h : wY_match_19 post N (nI (k)) (nI (it + 1)) (nI ar) (nI cap) (nI n) (nI nC) (nI nT) (nI nA) (nI cp) hc (nI dn) (nI op) bd (nI l) yk yc ya yt ye 0 st tg f0 f1 (fun _ => 0) ch kd tx ft fa gv gt rh lg (upd de x (nI c)) si sP sV) : wY_match_19 post (N + 1) (nI (k + 1)) (nI (it)) (nI ar) (nI cap) (nI n) (nI nC) (nI nT) (nI nA) (nI cp) hc (nI dn) (nI op) bd (nI l) yk yc ya yt ye 0 st tg f0 f1 (fun _ => 0) ch kd tx ft fa gv gt rh lg de si sP sV := by
  have ck : (nI k).toNatClampNeg = k := nI_clamp (by omega)
  have ci : (nI i).toNatClampNeg = i := nI_clamp (by omega)
  have vk : vp_in (nI k) 64 := vp_in_nI (by omega) (by omega)
  have vi : vp_in (nI i) 64 := vp_in_nI (by omega) (by omega)
  have a1 : ¬ (64 : Int32) ≤ nI it := nI_ge (b := 64) hit (by omega)
  have a2 : ¬ nI (k + 1) ≤ 0 := nI_nle (by omega) (by omega)
  have a3 : ¬ nI i < 0 := nI_pos (by omega)
  have a4 : nI i < nI nT := nI_lt hi (by omega)
  have eP : sP (nI k).toNatClampNeg = nI i := by rw [ck]; exact hP
  have eV : sV (nI k).toNatClampNeg = nI c := by rw [ck]; exact hV
  have eK : kd (nI i).toNatClampNeg = kd i := by rw [ci]
  rw [wY_match_19]
  exact br_f a1 (br_f a2 (nm_r (pk_m1 k) ⟨vk, nm_r eP ⟨vk, nm_r eV (br_f a3 (br_t a4 ⟨vi, nm_r eK (br_t hk ⟨vi, nm_r (e' := nI x) (by rw [ci]; exact ht) (br_f (nI_pos (by omega)) (br_f (nI_ge (b := 8) hx (by omega)) ⟨vp_in_nI hx (by omega), nm_r (e' := upd de x (nI c)) (by rw [nI_clamp (by omega)]) (nm_r (nI_1 it) h)⟩))⟩)⟩))⟩⟩))
theorem ym_lazy {post : Int32 → SY → Prop} {i k it c l N : Nat} {st tg f0 f1 ch lg de si sP sV : Nat → Int32} (h64 : nT ≤ 64) (hi : i < nT) (hit : it < 64) (hk64 : k < 64) (hP : sP k = nI i) (hV : sV k = nI c) (hk : kd i = 4)
    (h : wY_match_19 post N (nI (k)) (nI (it + 1)) (nI ar) (nI cap) (nI n) (nI nC) (nI nT) (nI nA) (nI cp) hc (nI dn) (nI op) bd (nI l) yk yc ya yt ye 0 st tg f0 f1 (fun _ => 0) ch kd tx ft fa gv gt rh lg de (upd si i (nI c)) sP sV) : wY_match_19 post (N + 1) (nI (k + 1)) (nI (it)) (nI ar) (nI cap) (nI n) (nI nC) (nI nT) (nI nA) (nI cp) hc (nI dn) (nI op) bd (nI l) yk yc ya yt ye 0 st tg f0 f1 (fun _ => 0) ch kd tx ft fa gv gt rh lg de si sP sV := by
  have ck : (nI k).toNatClampNeg = k := nI_clamp (by omega)
  have ci : (nI i).toNatClampNeg = i := nI_clamp (by omega)
  have vk : vp_in (nI k) 64 := vp_in_nI (by omega) (by omega)
  have vi : vp_in (nI i) 64 := vp_in_nI (by omega) (by omega)
  have a1 : ¬ (64 : Int32) ≤ nI it := nI_ge (b := 64) hit (by omega)
  have a2 : ¬ nI (k + 1) ≤ 0 := nI_nle (by omega) (by omega)
  have a3 : ¬ nI i < 0 := nI_pos (by omega)
  have a4 : nI i < nI nT := nI_lt hi (by omega)
  have eP : sP (nI k).toNatClampNeg = nI i := by rw [ck]; exact hP
  have eV : sV (nI k).toNatClampNeg = nI c := by rw [ck]; exact hV
  have eK : kd (nI i).toNatClampNeg = kd i := by rw [ci]
  rw [wY_match_19]
  exact br_f a1 (br_f a2 (nm_r (pk_m1 k) ⟨vk, nm_r eP ⟨vk, nm_r eV (br_f a3 (br_t a4 ⟨vi, nm_r eK (br_f (by rw [hk]; decide) (br_t hk ⟨vi, nm_r (e' := upd si i (nI c)) (by rw [ci]) (nm_r (nI_1 it) h)⟩))⟩))⟩⟩))
theorem ym_err {post : Int32 → SY → Prop} {i k it c l N : Nat} {st tg f0 f1 ch lg de si sP sV : Nat → Int32} (h64 : nT ≤ 64) (hi : i < nT) (hit : it < 64) (hk64 : k < 64) (hP : sP k = nI i) (hV : sV k = nI c) {st' tg' f0' f1' lg' ch' : Nat → Int32} {l' : Nat} {er' : Int32} (hF : ∀ post' : SY → Prop, post' ((nI ar), (nI cap), (nI n), (nI nC), (nI nT), (nI nA), (nI cp), hc, (nI dn), (nI op), bd, (nI l'), yk, yc, ya, yt, ye, er', st', tg', f0', f1', (fun _ => 0), ch', kd, tx, ft, fa, gv, gt, rh, lg', de, si, sP, sV) → wpY_force post' ((nI ar), (nI cap), (nI n), (nI nC), (nI nT), (nI nA), (nI cp), hc, (nI dn), (nI op), bd, (nI l), yk, yc, ya, yt, ye, 0, st, tg, f0, f1, (fun _ => 0), ch, kd, tx, ft, fa, gv, gt, rh, lg, de, si, sP, sV) (nI c)) (he : ¬ er' = 0) (hk : kd i = 3 ∨ kd i = 2)
    (h : post 0 ((nI ar), (nI cap), (nI n), (nI nC), (nI nT), (nI nA), (nI cp), hc, (nI dn), (nI op), bd, (nI l'), yk, yc, ya, yt, ye, er', st', tg', f0', f1', (fun _ => 0), ch', kd, tx, ft, fa, gv, gt, rh, lg', de, si, sP, sV)) : wY_match_19 post (N + 1) (nI (k + 1)) (nI (it)) (nI ar) (nI cap) (nI n) (nI nC) (nI nT) (nI nA) (nI cp) hc (nI dn) (nI op) bd (nI l) yk yc ya yt ye 0 st tg f0 f1 (fun _ => 0) ch kd tx ft fa gv gt rh lg de si sP sV := by
  have ck : (nI k).toNatClampNeg = k := nI_clamp (by omega)
  have ci : (nI i).toNatClampNeg = i := nI_clamp (by omega)
  have vk : vp_in (nI k) 64 := vp_in_nI (by omega) (by omega)
  have vi : vp_in (nI i) 64 := vp_in_nI (by omega) (by omega)
  have a1 : ¬ (64 : Int32) ≤ nI it := nI_ge (b := 64) hit (by omega)
  have a2 : ¬ nI (k + 1) ≤ 0 := nI_nle (by omega) (by omega)
  have a3 : ¬ nI i < 0 := nI_pos (by omega)
  have a4 : nI i < nI nT := nI_lt hi (by omega)
  have eP : sP (nI k).toNatClampNeg = nI i := by rw [ck]; exact hP
  have eV : sV (nI k).toNatClampNeg = nI c := by rw [ck]; exact hV
  have eK : kd (nI i).toNatClampNeg = kd i := by rw [ci]
  rw [wY_match_19]
  refine br_f a1 (br_f a2 (nm_r (pk_m1 k) ⟨vk, nm_r eP ⟨vk, nm_r eV (br_f a3 (br_t a4 ⟨vi, nm_r eK ?_⟩))⟩⟩))
  rcases hk with hk | hk
  · refine br_f (by rw [hk]; decide) (br_f (by rw [hk]; decide) (br_t hk (hF _ ?_)))
    exact br_f he h
  · refine br_f (by rw [hk]; decide) (br_f (by rw [hk]; decide) (br_f (by rw [hk]; decide) (br_t hk (hF _ ?_))))
    exact br_f he h
theorem ym_bang {post : Int32 → SY → Prop} {i k it c l N : Nat} {st tg f0 f1 ch lg de si sP sV : Nat → Int32} (h64 : nT ≤ 64) (hi : i < nT) (hit : it < 64) (hk64 : k < 64) (hP : sP k = nI i) (hV : sV k = nI c) {st' tg' f0' f1' lg' ch' : Nat → Int32} {l' : Nat} (hF : ∀ post' : SY → Prop, post' ((nI ar), (nI cap), (nI n), (nI nC), (nI nT), (nI nA), (nI cp), hc, (nI dn), (nI op), bd, (nI l'), yk, yc, ya, yt, ye, 0, st', tg', f0', f1', (fun _ => 0), ch', kd, tx, ft, fa, gv, gt, rh, lg', de, si, sP, sV) → wpY_force post' ((nI ar), (nI cap), (nI n), (nI nC), (nI nT), (nI nA), (nI cp), hc, (nI dn), (nI op), bd, (nI l), yk, yc, ya, yt, ye, 0, st, tg, f0, f1, (fun _ => 0), ch, kd, tx, ft, fa, gv, gt, rh, lg, de, si, sP, sV) (nI c)) (hk : kd i = 3)
    (h : wY_match_19 post N (nI (k + 1)) (nI (it + 1)) (nI ar) (nI cap) (nI n) (nI nC) (nI nT) (nI nA) (nI cp) hc (nI dn) (nI op) bd (nI l') yk yc ya yt ye 0 st' tg' f0' f1' (fun _ => 0) ch' kd tx ft fa gv gt rh lg' de si (upd sP k (nI (i + 1))) (upd sV k (nI c))) : wY_match_19 post (N + 1) (nI (k + 1)) (nI (it)) (nI ar) (nI cap) (nI n) (nI nC) (nI nT) (nI nA) (nI cp) hc (nI dn) (nI op) bd (nI l) yk yc ya yt ye 0 st tg f0 f1 (fun _ => 0) ch kd tx ft fa gv gt rh lg de si sP sV := by
  have ck : (nI k).toNatClampNeg = k := nI_clamp (by omega)
  have ci : (nI i).toNatClampNeg = i := nI_clamp (by omega)
  have vk : vp_in (nI k) 64 := vp_in_nI (by omega) (by omega)
  have vi : vp_in (nI i) 64 := vp_in_nI (by omega) (by omega)
  have a1 : ¬ (64 : Int32) ≤ nI it := nI_ge (b := 64) hit (by omega)
  have a2 : ¬ nI (k + 1) ≤ 0 := nI_nle (by omega) (by omega)
  have a3 : ¬ nI i < 0 := nI_pos (by omega)
  have a4 : nI i < nI nT := nI_lt hi (by omega)
  have eP : sP (nI k).toNatClampNeg = nI i := by rw [ck]; exact hP
  have eV : sV (nI k).toNatClampNeg = nI c := by rw [ck]; exact hV
  have eK : kd (nI i).toNatClampNeg = kd i := by rw [ci]
  rw [wY_match_19]
  refine br_f a1 (br_f a2 (nm_r (pk_m1 k) ⟨vk, nm_r eP ⟨vk, nm_r eV (br_f a3 (br_t a4 ⟨vi, nm_r eK (br_f (by rw [hk]; decide) (br_f (by rw [hk]; decide) (br_t hk (hF _ ?_))))⟩))⟩⟩))
  exact br_t rfl (br_f (nI_ge (b := 64) hk64 (by omega)) ⟨vk, nm_r (e' := upd sP k (nI (i + 1))) (by rw [ck, nI_1]) ⟨vk, nm_r (e' := upd sV k (nI c)) (by rw [ck]) (nm_r (nI_1 k) (nm_r (nI_1 it) h))⟩⟩)
theorem ym_ne {post : Int32 → SY → Prop} {i k it c l N : Nat} {st tg f0 f1 ch lg de si sP sV : Nat → Int32} (h64 : nT ≤ 64) (hi : i < nT) (hit : it < 64) (hk64 : k < 64) (hP : sP k = nI i) (hV : sV k = nI c) {st' tg' f0' f1' lg' ch' : Nat → Int32} {l' : Nat} (hF : ∀ post' : SY → Prop, post' ((nI ar), (nI cap), (nI n), (nI nC), (nI nT), (nI nA), (nI cp), hc, (nI dn), (nI op), bd, (nI l'), yk, yc, ya, yt, ye, 0, st', tg', f0', f1', (fun _ => 0), ch', kd, tx, ft, fa, gv, gt, rh, lg', de, si, sP, sV) → wpY_force post' ((nI ar), (nI cap), (nI n), (nI nC), (nI nT), (nI nA), (nI cp), hc, (nI dn), (nI op), bd, (nI l), yk, yc, ya, yt, ye, 0, st, tg, f0, f1, (fun _ => 0), ch, kd, tx, ft, fa, gv, gt, rh, lg, de, si, sP, sV) (nI c)) (hcc : c < 32) (hk : kd i = 2) (hne : ¬ tg' c = tx i)
    (h : post 0 ((nI ar), (nI cap), (nI n), (nI nC), (nI nT), (nI nA), (nI cp), hc, (nI dn), (nI op), bd, (nI l'), yk, yc, ya, yt, ye, 0, st', tg', f0', f1', (fun _ => 0), ch', kd, tx, ft, fa, gv, gt, rh, lg', de, si, sP, sV)) : wY_match_19 post (N + 1) (nI (k + 1)) (nI (it)) (nI ar) (nI cap) (nI n) (nI nC) (nI nT) (nI nA) (nI cp) hc (nI dn) (nI op) bd (nI l) yk yc ya yt ye 0 st tg f0 f1 (fun _ => 0) ch kd tx ft fa gv gt rh lg de si sP sV := by
  have cc : (nI c).toNatClampNeg = c := nI_clamp (by omega)
  have vc : vp_in (nI c) 32 := vp_in_nI hcc (by omega)
  have ck : (nI k).toNatClampNeg = k := nI_clamp (by omega)
  have ci : (nI i).toNatClampNeg = i := nI_clamp (by omega)
  have vk : vp_in (nI k) 64 := vp_in_nI (by omega) (by omega)
  have vi : vp_in (nI i) 64 := vp_in_nI (by omega) (by omega)
  have a1 : ¬ (64 : Int32) ≤ nI it := nI_ge (b := 64) hit (by omega)
  have a2 : ¬ nI (k + 1) ≤ 0 := nI_nle (by omega) (by omega)
  have a3 : ¬ nI i < 0 := nI_pos (by omega)
  have a4 : nI i < nI nT := nI_lt hi (by omega)
  have eP : sP (nI k).toNatClampNeg = nI i := by rw [ck]; exact hP
  have eV : sV (nI k).toNatClampNeg = nI c := by rw [ck]; exact hV
  have eK : kd (nI i).toNatClampNeg = kd i := by rw [ci]
  rw [wY_match_19]
  refine br_f a1 (br_f a2 (nm_r (pk_m1 k) ⟨vk, nm_r eP ⟨vk, nm_r eV (br_f a3 (br_t a4 ⟨vi, nm_r eK (br_f (by rw [hk]; decide) (br_f (by rw [hk]; decide) (br_f (by rw [hk]; decide) (br_t hk (hF _ ?_)))))⟩))⟩⟩))
  exact br_t rfl ⟨vc, vi, br_f (by rw [cc, ci]; exact hne) h⟩
theorem ym_con0 {post : Int32 → SY → Prop} {i k it c l N : Nat} {st tg f0 f1 ch lg de si sP sV : Nat → Int32} (h64 : nT ≤ 64) (hi : i < nT) (hit : it < 64) (hk64 : k < 64) (hP : sP k = nI i) (hV : sV k = nI c) {st' tg' f0' f1' lg' ch' : Nat → Int32} {l' : Nat} (hF : ∀ post' : SY → Prop, post' ((nI ar), (nI cap), (nI n), (nI nC), (nI nT), (nI nA), (nI cp), hc, (nI dn), (nI op), bd, (nI l'), yk, yc, ya, yt, ye, 0, st', tg', f0', f1', (fun _ => 0), ch', kd, tx, ft, fa, gv, gt, rh, lg', de, si, sP, sV) → wpY_force post' ((nI ar), (nI cap), (nI n), (nI nC), (nI nT), (nI nA), (nI cp), hc, (nI dn), (nI op), bd, (nI l), yk, yc, ya, yt, ye, 0, st, tg, f0, f1, (fun _ => 0), ch, kd, tx, ft, fa, gv, gt, rh, lg, de, si, sP, sV) (nI c)) (hcc : c < 32) (hk : kd i = 2) (heq : tg' c = tx i) (ha : tk_a (tx i) = 0)
    (h : wY_match_19 post N (nI (k)) (nI (it + 1)) (nI ar) (nI cap) (nI n) (nI nC) (nI nT) (nI nA) (nI cp) hc (nI dn) (nI op) bd (nI l') yk yc ya yt ye 0 st' tg' f0' f1' (fun _ => 0) ch' kd tx ft fa gv gt rh lg' de si sP sV) : wY_match_19 post (N + 1) (nI (k + 1)) (nI (it)) (nI ar) (nI cap) (nI n) (nI nC) (nI nT) (nI nA) (nI cp) hc (nI dn) (nI op) bd (nI l) yk yc ya yt ye 0 st tg f0 f1 (fun _ => 0) ch kd tx ft fa gv gt rh lg de si sP sV := by
  have cc : (nI c).toNatClampNeg = c := nI_clamp (by omega)
  have vc : vp_in (nI c) 32 := vp_in_nI hcc (by omega)
  have ck : (nI k).toNatClampNeg = k := nI_clamp (by omega)
  have ci : (nI i).toNatClampNeg = i := nI_clamp (by omega)
  have vk : vp_in (nI k) 64 := vp_in_nI (by omega) (by omega)
  have vi : vp_in (nI i) 64 := vp_in_nI (by omega) (by omega)
  have a1 : ¬ (64 : Int32) ≤ nI it := nI_ge (b := 64) hit (by omega)
  have a2 : ¬ nI (k + 1) ≤ 0 := nI_nle (by omega) (by omega)
  have a3 : ¬ nI i < 0 := nI_pos (by omega)
  have a4 : nI i < nI nT := nI_lt hi (by omega)
  have eP : sP (nI k).toNatClampNeg = nI i := by rw [ck]; exact hP
  have eV : sV (nI k).toNatClampNeg = nI c := by rw [ck]; exact hV
  have eK : kd (nI i).toNatClampNeg = kd i := by rw [ci]
  rw [wY_match_19]
  refine br_f a1 (br_f a2 (nm_r (pk_m1 k) ⟨vk, nm_r eP ⟨vk, nm_r eV (br_f a3 (br_t a4 ⟨vi, nm_r eK (br_f (by rw [hk]; decide) (br_f (by rw [hk]; decide) (br_f (by rw [hk]; decide) (br_t hk (hF _ ?_)))))⟩))⟩⟩))
  refine br_t rfl ⟨vc, vi, br_t (by rw [cc, ci]; exact heq) ⟨vi, sm_fy ?_⟩⟩
  rw [ci, ha]
  exact br_f (by decide) (br_t (by decide) (nm_r (nI_1 it) h))
theorem ym_con1 {post : Int32 → SY → Prop} {i k it c l N : Nat} {st tg f0 f1 ch lg de si sP sV : Nat → Int32} (h64 : nT ≤ 64) (hi : i < nT) (hit : it < 64) (hk64 : k < 64) (hP : sP k = nI i) (hV : sV k = nI c) {st' tg' f0' f1' lg' ch' : Nat → Int32} {l' : Nat} (hF : ∀ post' : SY → Prop, post' ((nI ar), (nI cap), (nI n), (nI nC), (nI nT), (nI nA), (nI cp), hc, (nI dn), (nI op), bd, (nI l'), yk, yc, ya, yt, ye, 0, st', tg', f0', f1', (fun _ => 0), ch', kd, tx, ft, fa, gv, gt, rh, lg', de, si, sP, sV) → wpY_force post' ((nI ar), (nI cap), (nI n), (nI nC), (nI nT), (nI nA), (nI cp), hc, (nI dn), (nI op), bd, (nI l), yk, yc, ya, yt, ye, 0, st, tg, f0, f1, (fun _ => 0), ch, kd, tx, ft, fa, gv, gt, rh, lg, de, si, sP, sV) (nI c)) (hcc : c < 32) (hk : kd i = 2) (heq : tg' c = tx i) (ha : tk_a (tx i) = 1)
    (h : wY_match_19 post N (nI (k + 1)) (nI (it + 1)) (nI ar) (nI cap) (nI n) (nI nC) (nI nT) (nI nA) (nI cp) hc (nI dn) (nI op) bd (nI l') yk yc ya yt ye 0 st' tg' f0' f1' (fun _ => 0) ch' kd tx ft fa gv gt rh lg' de si (upd sP k (nI (i + 1))) (upd sV k (f0' c))) : wY_match_19 post (N + 1) (nI (k + 1)) (nI (it)) (nI ar) (nI cap) (nI n) (nI nC) (nI nT) (nI nA) (nI cp) hc (nI dn) (nI op) bd (nI l) yk yc ya yt ye 0 st tg f0 f1 (fun _ => 0) ch kd tx ft fa gv gt rh lg de si sP sV := by
  have cc : (nI c).toNatClampNeg = c := nI_clamp (by omega)
  have vc : vp_in (nI c) 32 := vp_in_nI hcc (by omega)
  have ck : (nI k).toNatClampNeg = k := nI_clamp (by omega)
  have ci : (nI i).toNatClampNeg = i := nI_clamp (by omega)
  have vk : vp_in (nI k) 64 := vp_in_nI (by omega) (by omega)
  have vi : vp_in (nI i) 64 := vp_in_nI (by omega) (by omega)
  have a1 : ¬ (64 : Int32) ≤ nI it := nI_ge (b := 64) hit (by omega)
  have a2 : ¬ nI (k + 1) ≤ 0 := nI_nle (by omega) (by omega)
  have a3 : ¬ nI i < 0 := nI_pos (by omega)
  have a4 : nI i < nI nT := nI_lt hi (by omega)
  have eP : sP (nI k).toNatClampNeg = nI i := by rw [ck]; exact hP
  have eV : sV (nI k).toNatClampNeg = nI c := by rw [ck]; exact hV
  have eK : kd (nI i).toNatClampNeg = kd i := by rw [ci]
  rw [wY_match_19]
  refine br_f a1 (br_f a2 (nm_r (pk_m1 k) ⟨vk, nm_r eP ⟨vk, nm_r eV (br_f a3 (br_t a4 ⟨vi, nm_r eK (br_f (by rw [hk]; decide) (br_f (by rw [hk]; decide) (br_f (by rw [hk]; decide) (br_t hk (hF _ ?_)))))⟩))⟩⟩))
  refine br_t rfl ⟨vc, vi, br_t (by rw [cc, ci]; exact heq) ⟨vi, sm_fy ?_⟩⟩
  rw [ci, ha]
  exact br_f (by decide) (br_f (by decide) (br_f (nI_ge (b := 64) hk64 (by omega)) ⟨vk, nm_r (e' := upd sP k (nI (i + 1))) (by rw [ck, nI_1]) ⟨vc, vk, nm_r (e' := upd sV k (f0' c)) (by rw [ck, cc]) (nm_r (nI_1 k) (nm_r (nI_1 it) h))⟩⟩))
theorem ym_con2 {post : Int32 → SY → Prop} {i k it c l N : Nat} {st tg f0 f1 ch lg de si sP sV : Nat → Int32} (h64 : nT ≤ 64) (hi : i < nT) (hit : it < 64) (hk64 : k < 64) (hP : sP k = nI i) (hV : sV k = nI c) {st' tg' f0' f1' lg' ch' : Nat → Int32} {l' : Nat} (hF : ∀ post' : SY → Prop, post' ((nI ar), (nI cap), (nI n), (nI nC), (nI nT), (nI nA), (nI cp), hc, (nI dn), (nI op), bd, (nI l'), yk, yc, ya, yt, ye, 0, st', tg', f0', f1', (fun _ => 0), ch', kd, tx, ft, fa, gv, gt, rh, lg', de, si, sP, sV) → wpY_force post' ((nI ar), (nI cap), (nI n), (nI nC), (nI nT), (nI nA), (nI cp), hc, (nI dn), (nI op), bd, (nI l), yk, yc, ya, yt, ye, 0, st, tg, f0, f1, (fun _ => 0), ch, kd, tx, ft, fa, gv, gt, rh, lg, de, si, sP, sV) (nI c)) (hcc : c < 32) (hk : kd i = 2) (heq : tg' c = tx i) (ha : tk_a (tx i) = 2) {f : Nat} (hk1 : k + 1 < 64) (hf : ht_E (tk_f kd tx) (i + 1) f) (hfn : f ≤ nT) (hkd : ∀ q, i + 1 ≤ q → q < f → ∃ k, k ≤ 4 ∧ kd q = nI k)
    (h : wY_match_19 post N (nI (k + 2)) (nI (it + 1)) (nI ar) (nI cap) (nI n) (nI nC) (nI nT) (nI nA) (nI cp) hc (nI dn) (nI op) bd (nI l') yk yc ya yt ye 0 st' tg' f0' f1' (fun _ => 0) ch' kd tx ft fa gv gt rh lg' de si (upd (upd sP k (nI f)) (k + 1) (nI (i + 1))) (upd (upd sV k (f1' c)) (k + 1) (f0' c))) : wY_match_19 post (N + 1) (nI (k + 1)) (nI (it)) (nI ar) (nI cap) (nI n) (nI nC) (nI nT) (nI nA) (nI cp) hc (nI dn) (nI op) bd (nI l) yk yc ya yt ye 0 st tg f0 f1 (fun _ => 0) ch kd tx ft fa gv gt rh lg de si sP sV := by
  have cc : (nI c).toNatClampNeg = c := nI_clamp (by omega)
  have vc : vp_in (nI c) 32 := vp_in_nI hcc (by omega)
  have ck : (nI k).toNatClampNeg = k := nI_clamp (by omega)
  have ci : (nI i).toNatClampNeg = i := nI_clamp (by omega)
  have vk : vp_in (nI k) 64 := vp_in_nI (by omega) (by omega)
  have vi : vp_in (nI i) 64 := vp_in_nI (by omega) (by omega)
  have a1 : ¬ (64 : Int32) ≤ nI it := nI_ge (b := 64) hit (by omega)
  have a2 : ¬ nI (k + 1) ≤ 0 := nI_nle (by omega) (by omega)
  have a3 : ¬ nI i < 0 := nI_pos (by omega)
  have a4 : nI i < nI nT := nI_lt hi (by omega)
  have eP : sP (nI k).toNatClampNeg = nI i := by rw [ck]; exact hP
  have eV : sV (nI k).toNatClampNeg = nI c := by rw [ck]; exact hV
  have eK : kd (nI i).toNatClampNeg = kd i := by rw [ci]
  rw [wY_match_19]
  refine br_f a1 (br_f a2 (nm_r (pk_m1 k) ⟨vk, nm_r eP ⟨vk, nm_r eV (br_f a3 (br_t a4 ⟨vi, nm_r eK (br_f (by rw [hk]; decide) (br_f (by rw [hk]; decide) (br_f (by rw [hk]; decide) (br_t hk (hF _ ?_)))))⟩))⟩⟩))
  refine br_t rfl ⟨vc, vi, br_t (by rw [cc, ci]; exact heq) ⟨vi, sm_fy ?_⟩⟩
  rw [ci, ha]
  have ck1 : (nI (k + 1)).toNatClampNeg = k + 1 := nI_clamp (by omega)
  have vk1 : vp_in (nI (k + 1)) 64 := vp_in_nI hk1 (by omega)
  refine br_t rfl (br_f (nI_ge (b := 64) hk64 (by omega)) (ye_go h64 hf hfn hkd ?_ (nI_1 i)))
  refine ⟨vk, nm_r (e' := upd sP k (nI f)) (by rw [ck]) ⟨vc, vk, nm_r (e' := upd sV k (f1' c)) (by rw [ck, cc]) (nm_r (nI_1 k) ?_)⟩⟩
  exact br_f (by decide) (br_f (nI_ge (b := 64) hk1 (by omega)) ⟨vk1, nm_r (e' := upd (upd sP k (nI f)) (k + 1) (nI (i + 1))) (by rw [ck1, nI_1]) ⟨vc, vk1, nm_r (e' := upd (upd sV k (f1' c)) (k + 1) (f0' c)) (by rw [ck1, cc]) (nm_r (nI_1 (k + 1)) (nm_r (nI_1 it) h))⟩⟩)
end
