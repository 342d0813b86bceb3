/-! small methods, and the end of a pattern on the reference's side -/
theorem tk_c (x : Int32) : (tk_a x = 0 ∧ x < 4) ∨ (tk_a x = 1 ∧ ¬ x < 4 ∧ x < 6) ∨ (tk_a x = 2 ∧ ¬ x < 4 ∧ ¬ x < 6) := by
  unfold tk_a
  by_cases h : x < 4
  · rw [if_pos h]; exact Or.inl ⟨rfl, h⟩
  · rw [if_neg h]
    by_cases k : x < 6
    · rw [if_pos k]; exact Or.inr (Or.inl ⟨rfl, h, k⟩)
    · rw [if_neg k]; exact Or.inr (Or.inr ⟨rfl, h, k⟩)
theorem sm_fx {post : Int32 → Prop} {x : Int32} (h : post (nI (tk_a x))) : wpX_fieldsOf post () x := by
  unfold wpX_fieldsOf
  rcases tk_c x with ⟨e, a⟩ | ⟨e, a, b⟩ | ⟨e, a, b⟩
  · rw [e] at h; exact br_f (fun z => absurd a (Int32.not_lt.mpr z)) h
  · rw [e] at h; exact br_t (Int32.not_lt.mp a) (br_f (fun z => absurd b (Int32.not_lt.mpr z)) h)
  · rw [e] at h; exact br_t (Int32.not_lt.mp a) (br_t (Int32.not_lt.mp b) h)
theorem sm_sx {post : Int32 → Prop} {k x : Int32} (h : post (nI (tk_s k x))) : wpX_subpatternsOf post () k x := by
  unfold wpX_subpatternsOf
  unfold tk_s at h
  by_cases h2 : k = 2
  · rw [if_pos h2] at h; exact br_t h2 (sm_fx h)
  · rw [if_neg h2] at h
    by_cases h3 : k = 3
    · rw [if_pos h3] at h; exact br_f h2 (br_t h3 h)
    · rw [if_neg h3] at h
      by_cases h4 : k = 4
      · rw [if_pos h4] at h; exact br_f h2 (br_f h3 (br_t h4 h))
      · rw [if_neg h4] at h; exact br_f h2 (br_f h3 (br_f h4 h))
section
variable {ar cap n nT nA nC cp dn op : Nat} {bd lk lc la lt le : Int32} {kd tx ts ta gv gt rh ft fa ca vt ag : Nat → Int32}
end
