/-! the law's operations, and its loop -/
noncomputable def eg_op (lim x9 x10 : Int32) (G : eg_G) : eg_G :=
  if x9 < 3 ∨ (x9 = 4 ∧ ¬ (x10 &&& 6) = 0) then (if eg_M lim G.1 = 0 then G else eg_play lim (x10 - x10 / nI (eg_M lim G.1) * nI (eg_M lim G.1)) G)
  else if x9 = 3 ∨ x9 = 6 then eg_place ((x10 - x10 / 36 * 36) - 2) (((x10 / 36) - (x10 / 36) / 7 * 7) - 1) G
  else if x9 = 4 then eg_reset (if (x10 &&& 1) = 1 then 1 else 0) G
  else eg_side (x10 - x10 / 3 * 3) G
theorem ls_116 {L kc ks : Nat} {xs : Nat → Int32} {post : Int32 → Prop} {J48 J99 : _} {x2 x5 x6 x7 x9 x10 x11 lim sv : Int32} {G : eg_G} {a b : St2} (hX : eg_R lim G sv b)
    (h : ∀ b', eg_R lim (eg_op lim x9 x10 G) sv b' → J99 (x11 + 1) a.1 a.2.1 a.2.2.1 a.2.2.2.1 a.2.2.2.2.1 a.2.2.2.2.2.1 a.2.2.2.2.2.2.1 a.2.2.2.2.2.2.2.1 a.2.2.2.2.2.2.2.2.1 a.2.2.2.2.2.2.2.2.2.1 a.2.2.2.2.2.2.2.2.2.2.1 a.2.2.2.2.2.2.2.2.2.2.2.1 a.2.2.2.2.2.2.2.2.2.2.2.2.1 a.2.2.2.2.2.2.2.2.2.2.2.2.2.1 a.2.2.2.2.2.2.2.2.2.2.2.2.2.2.1 a.2.2.2.2.2.2.2.2.2.2.2.2.2.2.2.1 a.2.2.2.2.2.2.2.2.2.2.2.2.2.2.2.2.1 a.2.2.2.2.2.2.2.2.2.2.2.2.2.2.2.2.2.1 a.2.2.2.2.2.2.2.2.2.2.2.2.2.2.2.2.2.2 b'.1 b'.2.1 b'.2.2.1 b'.2.2.2.1 b'.2.2.2.2.1 b'.2.2.2.2.2.1 b'.2.2.2.2.2.2.1 b'.2.2.2.2.2.2.2.1 b'.2.2.2.2.2.2.2.2.1 b'.2.2.2.2.2.2.2.2.2.1 b'.2.2.2.2.2.2.2.2.2.2.1 b'.2.2.2.2.2.2.2.2.2.2.2.1 b'.2.2.2.2.2.2.2.2.2.2.2.2.1 b'.2.2.2.2.2.2.2.2.2.2.2.2.2.1 b'.2.2.2.2.2.2.2.2.2.2.2.2.2.2.1 b'.2.2.2.2.2.2.2.2.2.2.2.2.2.2.2.1 b'.2.2.2.2.2.2.2.2.2.2.2.2.2.2.2.2.1 b'.2.2.2.2.2.2.2.2.2.2.2.2.2.2.2.2.2.1 b'.2.2.2.2.2.2.2.2.2.2.2.2.2.2.2.2.2.2) : wL_law_116 post L xs J48 J99 x2 x5 x6 x7 x9 x10 x11 kc ks a.1 a.2.1 a.2.2.1 a.2.2.2.1 a.2.2.2.2.1 a.2.2.2.2.2.1 a.2.2.2.2.2.2.1 a.2.2.2.2.2.2.2.1 a.2.2.2.2.2.2.2.2.1 a.2.2.2.2.2.2.2.2.2.1 a.2.2.2.2.2.2.2.2.2.2.1 a.2.2.2.2.2.2.2.2.2.2.2.1 a.2.2.2.2.2.2.2.2.2.2.2.2.1 a.2.2.2.2.2.2.2.2.2.2.2.2.2.1 a.2.2.2.2.2.2.2.2.2.2.2.2.2.2.1 a.2.2.2.2.2.2.2.2.2.2.2.2.2.2.2.1 a.2.2.2.2.2.2.2.2.2.2.2.2.2.2.2.2.1 a.2.2.2.2.2.2.2.2.2.2.2.2.2.2.2.2.2.1 a.2.2.2.2.2.2.2.2.2.2.2.2.2.2.2.2.2.2 b.1 b.2.1 b.2.2.1 b.2.2.2.1 b.2.2.2.2.1 b.2.2.2.2.2.1 b.2.2.2.2.2.2.1 b.2.2.2.2.2.2.2.1 b.2.2.2.2.2.2.2.2.1 b.2.2.2.2.2.2.2.2.2.1 b.2.2.2.2.2.2.2.2.2.2.1 b.2.2.2.2.2.2.2.2.2.2.2.1 b.2.2.2.2.2.2.2.2.2.2.2.2.1 b.2.2.2.2.2.2.2.2.2.2.2.2.2.1 b.2.2.2.2.2.2.2.2.2.2.2.2.2.2.1 b.2.2.2.2.2.2.2.2.2.2.2.2.2.2.2.1 b.2.2.2.2.2.2.2.2.2.2.2.2.2.2.2.2.1 b.2.2.2.2.2.2.2.2.2.2.2.2.2.2.2.2.2.1 b.2.2.2.2.2.2.2.2.2.2.2.2.2.2.2.2.2.2 := by
  have hM := eg_M_le lim G.1
  unfold eg_op at h
  have play : (x9 < 3 ∨ (x9 = 4 ∧ ¬ (x10 &&& 6) = 0)) → wL_law_138 post L xs J48 J99 x2 x5 x6 x7 x9 x10 x11 kc ks a.1 a.2.1 a.2.2.1 a.2.2.2.1 a.2.2.2.2.1 a.2.2.2.2.2.1 a.2.2.2.2.2.2.1 a.2.2.2.2.2.2.2.1 a.2.2.2.2.2.2.2.2.1 a.2.2.2.2.2.2.2.2.2.1 a.2.2.2.2.2.2.2.2.2.2.1 a.2.2.2.2.2.2.2.2.2.2.2.1 a.2.2.2.2.2.2.2.2.2.2.2.2.1 a.2.2.2.2.2.2.2.2.2.2.2.2.2.1 a.2.2.2.2.2.2.2.2.2.2.2.2.2.2.1 a.2.2.2.2.2.2.2.2.2.2.2.2.2.2.2.1 a.2.2.2.2.2.2.2.2.2.2.2.2.2.2.2.2.1 a.2.2.2.2.2.2.2.2.2.2.2.2.2.2.2.2.2.1 a.2.2.2.2.2.2.2.2.2.2.2.2.2.2.2.2.2.2 b.1 b.2.1 b.2.2.1 b.2.2.2.1 b.2.2.2.2.1 b.2.2.2.2.2.1 b.2.2.2.2.2.2.1 b.2.2.2.2.2.2.2.1 b.2.2.2.2.2.2.2.2.1 b.2.2.2.2.2.2.2.2.2.1 b.2.2.2.2.2.2.2.2.2.2.1 b.2.2.2.2.2.2.2.2.2.2.2.1 b.2.2.2.2.2.2.2.2.2.2.2.2.1 b.2.2.2.2.2.2.2.2.2.2.2.2.2.1 b.2.2.2.2.2.2.2.2.2.2.2.2.2.2.1 b.2.2.2.2.2.2.2.2.2.2.2.2.2.2.2.1 b.2.2.2.2.2.2.2.2.2.2.2.2.2.2.2.2.1 b.2.2.2.2.2.2.2.2.2.2.2.2.2.2.2.2.2.1 b.2.2.2.2.2.2.2.2.2.2.2.2.2.2.2.2.2.2 := by
    intro z
    rw [if_pos z] at h
    unfold wL_law_138
    refine ex_count hX (br_c (fun y => nm_e (h _ ?_)) (fun y => ⟨?_, ex_play hX fun r u' hu' => nm_e (h u' ?_)⟩))
    · have e0 : eg_M lim G.1 = 0 := by
        rw [← nI_0, nI_leI (by omega) (by omega)] at y
        omega
      rw [if_pos e0]; exact hX
    · intro e
      rw [e] at y
      exact y (by decide)
    · have e0 : ¬ eg_M lim G.1 = 0 := by
        intro e
        rw [e] at y
        exact y (by decide)
      rw [if_neg e0]; exact hu'
  have rest : ¬ (x9 < 3 ∨ (x9 = 4 ∧ ¬ (x10 &&& 6) = 0)) → wL_law_164 post L xs J48 J99 x2 x5 x6 x7 x9 x10 x11 kc ks a.1 a.2.1 a.2.2.1 a.2.2.2.1 a.2.2.2.2.1 a.2.2.2.2.2.1 a.2.2.2.2.2.2.1 a.2.2.2.2.2.2.2.1 a.2.2.2.2.2.2.2.2.1 a.2.2.2.2.2.2.2.2.2.1 a.2.2.2.2.2.2.2.2.2.2.1 a.2.2.2.2.2.2.2.2.2.2.2.1 a.2.2.2.2.2.2.2.2.2.2.2.2.1 a.2.2.2.2.2.2.2.2.2.2.2.2.2.1 a.2.2.2.2.2.2.2.2.2.2.2.2.2.2.1 a.2.2.2.2.2.2.2.2.2.2.2.2.2.2.2.1 a.2.2.2.2.2.2.2.2.2.2.2.2.2.2.2.2.1 a.2.2.2.2.2.2.2.2.2.2.2.2.2.2.2.2.2.1 a.2.2.2.2.2.2.2.2.2.2.2.2.2.2.2.2.2.2 b.1 b.2.1 b.2.2.1 b.2.2.2.1 b.2.2.2.2.1 b.2.2.2.2.2.1 b.2.2.2.2.2.2.1 b.2.2.2.2.2.2.2.1 b.2.2.2.2.2.2.2.2.1 b.2.2.2.2.2.2.2.2.2.1 b.2.2.2.2.2.2.2.2.2.2.1 b.2.2.2.2.2.2.2.2.2.2.2.1 b.2.2.2.2.2.2.2.2.2.2.2.2.1 b.2.2.2.2.2.2.2.2.2.2.2.2.2.1 b.2.2.2.2.2.2.2.2.2.2.2.2.2.2.1 b.2.2.2.2.2.2.2.2.2.2.2.2.2.2.2.1 b.2.2.2.2.2.2.2.2.2.2.2.2.2.2.2.2.1 b.2.2.2.2.2.2.2.2.2.2.2.2.2.2.2.2.2.1 b.2.2.2.2.2.2.2.2.2.2.2.2.2.2.2.2.2.2 := by
    intro z
    rw [if_neg z] at h
    have pl : (x9 = 3 ∨ x9 = 6) → wL_law_177 post L xs J48 J99 x2 x5 x6 x7 x9 x10 x11 kc ks a.1 a.2.1 a.2.2.1 a.2.2.2.1 a.2.2.2.2.1 a.2.2.2.2.2.1 a.2.2.2.2.2.2.1 a.2.2.2.2.2.2.2.1 a.2.2.2.2.2.2.2.2.1 a.2.2.2.2.2.2.2.2.2.1 a.2.2.2.2.2.2.2.2.2.2.1 a.2.2.2.2.2.2.2.2.2.2.2.1 a.2.2.2.2.2.2.2.2.2.2.2.2.1 a.2.2.2.2.2.2.2.2.2.2.2.2.2.1 a.2.2.2.2.2.2.2.2.2.2.2.2.2.2.1 a.2.2.2.2.2.2.2.2.2.2.2.2.2.2.2.1 a.2.2.2.2.2.2.2.2.2.2.2.2.2.2.2.2.1 a.2.2.2.2.2.2.2.2.2.2.2.2.2.2.2.2.2.1 a.2.2.2.2.2.2.2.2.2.2.2.2.2.2.2.2.2.2 b.1 b.2.1 b.2.2.1 b.2.2.2.1 b.2.2.2.2.1 b.2.2.2.2.2.1 b.2.2.2.2.2.2.1 b.2.2.2.2.2.2.2.1 b.2.2.2.2.2.2.2.2.1 b.2.2.2.2.2.2.2.2.2.1 b.2.2.2.2.2.2.2.2.2.2.1 b.2.2.2.2.2.2.2.2.2.2.2.1 b.2.2.2.2.2.2.2.2.2.2.2.2.1 b.2.2.2.2.2.2.2.2.2.2.2.2.2.1 b.2.2.2.2.2.2.2.2.2.2.2.2.2.2.1 b.2.2.2.2.2.2.2.2.2.2.2.2.2.2.2.1 b.2.2.2.2.2.2.2.2.2.2.2.2.2.2.2.2.1 b.2.2.2.2.2.2.2.2.2.2.2.2.2.2.2.2.2.1 b.2.2.2.2.2.2.2.2.2.2.2.2.2.2.2.2.2.2 := by
      intro y
      rw [if_pos y] at h
      exact ⟨by decide, by decide, by decide, ex_place hX fun r u' hu' => nm_e (h u' hu')⟩
    refine br_c (fun y => pl (Or.inl y)) (fun y3 => br_c (fun y => pl (Or.inr y)) (fun y6 => br_c (fun y4 => ?_) (fun y4 => ⟨by decide, ex_side hX fun r u' hu' => nm_e (h u' ?_)⟩)))
    · have n36 : ¬ (x9 = 3 ∨ x9 = 6) := by rintro (w | w); exact y3 w; exact y6 w
      rw [if_neg n36, if_pos y4] at h
      refine br_c (fun w => ?_) (fun w => ?_)
      · unfold wL_law_224
        rw [if_pos w] at h
        exact ex_reset hX fun u' hu' => nm_e (h u' hu')
      · unfold wL_law_224
        rw [if_neg w] at h
        exact ex_reset hX fun u' hu' => nm_e (h u' hu')
    · have n36 : ¬ (x9 = 3 ∨ x9 = 6) := by rintro (w | w); exact y3 w; exact y6 w
      rw [if_neg n36, if_neg y4]; exact hu'
  refine br_c (fun y => play (Or.inl y)) (fun y => br_c (fun y4 => br_c (fun w => rest ?_) (fun w => play (Or.inr ⟨y4, w⟩))) (fun y4 => rest ?_))
  · rintro (v | v)
    · exact y v
    · exact v.2 w
  · rintro (v | v)
    · exact y v
    · exact y4 v.1
theorem ls_116_2 {L kc ks : Nat} {xs : Nat → Int32} {post : Int32 → Prop} {J48 J99 : _} {x2 x5 x6 x7 x9 x10 x11 lim sv : Int32} {G : eg_G} {a b : St2} (hX : eg_R lim G sv a)
    (h : ∀ a', eg_R lim (eg_op lim x9 x10 G) sv a' → J99 (x11 + 1) a'.1 a'.2.1 a'.2.2.1 a'.2.2.2.1 a'.2.2.2.2.1 a'.2.2.2.2.2.1 a'.2.2.2.2.2.2.1 a'.2.2.2.2.2.2.2.1 a'.2.2.2.2.2.2.2.2.1 a'.2.2.2.2.2.2.2.2.2.1 a'.2.2.2.2.2.2.2.2.2.2.1 a'.2.2.2.2.2.2.2.2.2.2.2.1 a'.2.2.2.2.2.2.2.2.2.2.2.2.1 a'.2.2.2.2.2.2.2.2.2.2.2.2.2.1 a'.2.2.2.2.2.2.2.2.2.2.2.2.2.2.1 a'.2.2.2.2.2.2.2.2.2.2.2.2.2.2.2.1 a'.2.2.2.2.2.2.2.2.2.2.2.2.2.2.2.2.1 a'.2.2.2.2.2.2.2.2.2.2.2.2.2.2.2.2.2.1 a'.2.2.2.2.2.2.2.2.2.2.2.2.2.2.2.2.2.2 b.1 b.2.1 b.2.2.1 b.2.2.2.1 b.2.2.2.2.1 b.2.2.2.2.2.1 b.2.2.2.2.2.2.1 b.2.2.2.2.2.2.2.1 b.2.2.2.2.2.2.2.2.1 b.2.2.2.2.2.2.2.2.2.1 b.2.2.2.2.2.2.2.2.2.2.1 b.2.2.2.2.2.2.2.2.2.2.2.1 b.2.2.2.2.2.2.2.2.2.2.2.2.1 b.2.2.2.2.2.2.2.2.2.2.2.2.2.1 b.2.2.2.2.2.2.2.2.2.2.2.2.2.2.1 b.2.2.2.2.2.2.2.2.2.2.2.2.2.2.2.1 b.2.2.2.2.2.2.2.2.2.2.2.2.2.2.2.2.1 b.2.2.2.2.2.2.2.2.2.2.2.2.2.2.2.2.2.1 b.2.2.2.2.2.2.2.2.2.2.2.2.2.2.2.2.2.2) : wL_law_116_2 post L xs J48 J99 x2 x5 x6 x7 x9 x10 x11 kc ks a.1 a.2.1 a.2.2.1 a.2.2.2.1 a.2.2.2.2.1 a.2.2.2.2.2.1 a.2.2.2.2.2.2.1 a.2.2.2.2.2.2.2.1 a.2.2.2.2.2.2.2.2.1 a.2.2.2.2.2.2.2.2.2.1 a.2.2.2.2.2.2.2.2.2.2.1 a.2.2.2.2.2.2.2.2.2.2.2.1 a.2.2.2.2.2.2.2.2.2.2.2.2.1 a.2.2.2.2.2.2.2.2.2.2.2.2.2.1 a.2.2.2.2.2.2.2.2.2.2.2.2.2.2.1 a.2.2.2.2.2.2.2.2.2.2.2.2.2.2.2.1 a.2.2.2.2.2.2.2.2.2.2.2.2.2.2.2.2.1 a.2.2.2.2.2.2.2.2.2.2.2.2.2.2.2.2.2.1 a.2.2.2.2.2.2.2.2.2.2.2.2.2.2.2.2.2.2 b.1 b.2.1 b.2.2.1 b.2.2.2.1 b.2.2.2.2.1 b.2.2.2.2.2.1 b.2.2.2.2.2.2.1 b.2.2.2.2.2.2.2.1 b.2.2.2.2.2.2.2.2.1 b.2.2.2.2.2.2.2.2.2.1 b.2.2.2.2.2.2.2.2.2.2.1 b.2.2.2.2.2.2.2.2.2.2.2.1 b.2.2.2.2.2.2.2.2.2.2.2.2.1 b.2.2.2.2.2.2.2.2.2.2.2.2.2.1 b.2.2.2.2.2.2.2.2.2.2.2.2.2.2.1 b.2.2.2.2.2.2.2.2.2.2.2.2.2.2.2.1 b.2.2.2.2.2.2.2.2.2.2.2.2.2.2.2.2.1 b.2.2.2.2.2.2.2.2.2.2.2.2.2.2.2.2.2.1 b.2.2.2.2.2.2.2.2.2.2.2.2.2.2.2.2.2.2 := by
  have hM := eg_M_le lim G.1
  unfold eg_op at h
  have play : (x9 < 3 ∨ (x9 = 4 ∧ ¬ (x10 &&& 6) = 0)) → wL_law_138_2 post L xs J48 J99 x2 x5 x6 x7 x9 x10 x11 kc ks a.1 a.2.1 a.2.2.1 a.2.2.2.1 a.2.2.2.2.1 a.2.2.2.2.2.1 a.2.2.2.2.2.2.1 a.2.2.2.2.2.2.2.1 a.2.2.2.2.2.2.2.2.1 a.2.2.2.2.2.2.2.2.2.1 a.2.2.2.2.2.2.2.2.2.2.1 a.2.2.2.2.2.2.2.2.2.2.2.1 a.2.2.2.2.2.2.2.2.2.2.2.2.1 a.2.2.2.2.2.2.2.2.2.2.2.2.2.1 a.2.2.2.2.2.2.2.2.2.2.2.2.2.2.1 a.2.2.2.2.2.2.2.2.2.2.2.2.2.2.2.1 a.2.2.2.2.2.2.2.2.2.2.2.2.2.2.2.2.1 a.2.2.2.2.2.2.2.2.2.2.2.2.2.2.2.2.2.1 a.2.2.2.2.2.2.2.2.2.2.2.2.2.2.2.2.2.2 b.1 b.2.1 b.2.2.1 b.2.2.2.1 b.2.2.2.2.1 b.2.2.2.2.2.1 b.2.2.2.2.2.2.1 b.2.2.2.2.2.2.2.1 b.2.2.2.2.2.2.2.2.1 b.2.2.2.2.2.2.2.2.2.1 b.2.2.2.2.2.2.2.2.2.2.1 b.2.2.2.2.2.2.2.2.2.2.2.1 b.2.2.2.2.2.2.2.2.2.2.2.2.1 b.2.2.2.2.2.2.2.2.2.2.2.2.2.1 b.2.2.2.2.2.2.2.2.2.2.2.2.2.2.1 b.2.2.2.2.2.2.2.2.2.2.2.2.2.2.2.1 b.2.2.2.2.2.2.2.2.2.2.2.2.2.2.2.2.1 b.2.2.2.2.2.2.2.2.2.2.2.2.2.2.2.2.2.1 b.2.2.2.2.2.2.2.2.2.2.2.2.2.2.2.2.2.2 := by
    intro z
    rw [if_pos z] at h
    unfold wL_law_138_2
    refine ex_count hX (br_c (fun y => nm_e (h _ ?_)) (fun y => ⟨?_, ex_play hX fun r u' hu' => nm_e (h u' ?_)⟩))
    · have e0 : eg_M lim G.1 = 0 := by
        rw [← nI_0, nI_leI (by omega) (by omega)] at y
        omega
      rw [if_pos e0]; exact hX
    · intro e
      rw [e] at y
      exact y (by decide)
    · have e0 : ¬ eg_M lim G.1 = 0 := by
        intro e
        rw [e] at y
        exact y (by decide)
      rw [if_neg e0]; exact hu'
  have rest : ¬ (x9 < 3 ∨ (x9 = 4 ∧ ¬ (x10 &&& 6) = 0)) → wL_law_164_2 post L xs J48 J99 x2 x5 x6 x7 x9 x10 x11 kc ks a.1 a.2.1 a.2.2.1 a.2.2.2.1 a.2.2.2.2.1 a.2.2.2.2.2.1 a.2.2.2.2.2.2.1 a.2.2.2.2.2.2.2.1 a.2.2.2.2.2.2.2.2.1 a.2.2.2.2.2.2.2.2.2.1 a.2.2.2.2.2.2.2.2.2.2.1 a.2.2.2.2.2.2.2.2.2.2.2.1 a.2.2.2.2.2.2.2.2.2.2.2.2.1 a.2.2.2.2.2.2.2.2.2.2.2.2.2.1 a.2.2.2.2.2.2.2.2.2.2.2.2.2.2.1 a.2.2.2.2.2.2.2.2.2.2.2.2.2.2.2.1 a.2.2.2.2.2.2.2.2.2.2.2.2.2.2.2.2.1 a.2.2.2.2.2.2.2.2.2.2.2.2.2.2.2.2.2.1 a.2.2.2.2.2.2.2.2.2.2.2.2.2.2.2.2.2.2 b.1 b.2.1 b.2.2.1 b.2.2.2.1 b.2.2.2.2.1 b.2.2.2.2.2.1 b.2.2.2.2.2.2.1 b.2.2.2.2.2.2.2.1 b.2.2.2.2.2.2.2.2.1 b.2.2.2.2.2.2.2.2.2.1 b.2.2.2.2.2.2.2.2.2.2.1 b.2.2.2.2.2.2.2.2.2.2.2.1 b.2.2.2.2.2.2.2.2.2.2.2.2.1 b.2.2.2.2.2.2.2.2.2.2.2.2.2.1 b.2.2.2.2.2.2.2.2.2.2.2.2.2.2.1 b.2.2.2.2.2.2.2.2.2.2.2.2.2.2.2.1 b.2.2.2.2.2.2.2.2.2.2.2.2.2.2.2.2.1 b.2.2.2.2.2.2.2.2.2.2.2.2.2.2.2.2.2.1 b.2.2.2.2.2.2.2.2.2.2.2.2.2.2.2.2.2.2 := by
    intro z
    rw [if_neg z] at h
    have pl : (x9 = 3 ∨ x9 = 6) → wL_law_177_2 post L xs J48 J99 x2 x5 x6 x7 x9 x10 x11 kc ks a.1 a.2.1 a.2.2.1 a.2.2.2.1 a.2.2.2.2.1 a.2.2.2.2.2.1 a.2.2.2.2.2.2.1 a.2.2.2.2.2.2.2.1 a.2.2.2.2.2.2.2.2.1 a.2.2.2.2.2.2.2.2.2.1 a.2.2.2.2.2.2.2.2.2.2.1 a.2.2.2.2.2.2.2.2.2.2.2.1 a.2.2.2.2.2.2.2.2.2.2.2.2.1 a.2.2.2.2.2.2.2.2.2.2.2.2.2.1 a.2.2.2.2.2.2.2.2.2.2.2.2.2.2.1 a.2.2.2.2.2.2.2.2.2.2.2.2.2.2.2.1 a.2.2.2.2.2.2.2.2.2.2.2.2.2.2.2.2.1 a.2.2.2.2.2.2.2.2.2.2.2.2.2.2.2.2.2.1 a.2.2.2.2.2.2.2.2.2.2.2.2.2.2.2.2.2.2 b.1 b.2.1 b.2.2.1 b.2.2.2.1 b.2.2.2.2.1 b.2.2.2.2.2.1 b.2.2.2.2.2.2.1 b.2.2.2.2.2.2.2.1 b.2.2.2.2.2.2.2.2.1 b.2.2.2.2.2.2.2.2.2.1 b.2.2.2.2.2.2.2.2.2.2.1 b.2.2.2.2.2.2.2.2.2.2.2.1 b.2.2.2.2.2.2.2.2.2.2.2.2.1 b.2.2.2.2.2.2.2.2.2.2.2.2.2.1 b.2.2.2.2.2.2.2.2.2.2.2.2.2.2.1 b.2.2.2.2.2.2.2.2.2.2.2.2.2.2.2.1 b.2.2.2.2.2.2.2.2.2.2.2.2.2.2.2.2.1 b.2.2.2.2.2.2.2.2.2.2.2.2.2.2.2.2.2.1 b.2.2.2.2.2.2.2.2.2.2.2.2.2.2.2.2.2.2 := by
      intro y
      rw [if_pos y] at h
      exact ⟨by decide, by decide, by decide, ex_place hX fun r u' hu' => nm_e (h u' hu')⟩
    refine br_c (fun y => pl (Or.inl y)) (fun y3 => br_c (fun y => pl (Or.inr y)) (fun y6 => br_c (fun y4 => ?_) (fun y4 => ⟨by decide, ex_side hX fun r u' hu' => nm_e (h u' ?_)⟩)))
    · have n36 : ¬ (x9 = 3 ∨ x9 = 6) := by rintro (w | w); exact y3 w; exact y6 w
      rw [if_neg n36, if_pos y4] at h
      refine br_c (fun w => ?_) (fun w => ?_)
      · unfold wL_law_224_2
        rw [if_pos w] at h
        exact ex_reset hX fun u' hu' => nm_e (h u' hu')
      · unfold wL_law_224_2
        rw [if_neg w] at h
        exact ex_reset hX fun u' hu' => nm_e (h u' hu')
    · have n36 : ¬ (x9 = 3 ∨ x9 = 6) := by rintro (w | w); exact y3 w; exact y6 w
      rw [if_neg n36, if_neg y4]; exact hu'
  refine br_c (fun y => play (Or.inl y)) (fun y => br_c (fun y4 => br_c (fun w => rest ?_) (fun w => play (Or.inr ⟨y4, w⟩))) (fun y4 => rest ?_))
  · rintro (v | v)
    · exact y v
    · exact v.2 w
  · rintro (v | v)
    · exact y v
    · exact y4 v.1

noncomputable def eg_cell (lim w : Int32) (G : eg_G) : eg_G := if (w &&& 2147483647) - (w &&& 2147483647) / 8 * 8 = 7 then G else eg_op lim ((w &&& 2147483647) - (w &&& 2147483647) / 8 * 8) ((w &&& 2147483647) / 8) G
def eg_start : eg_G := ((eg_B0 0, 0, 0), (fun _ => 0), 0)
/-- the game after k operations -/
noncomputable def eg_S (lim : Int32) (xs : Nat → Int32) : Nat → eg_G
  | 0 => eg_start
  | k + 1 => eg_cell lim (xs (k + 1)) (eg_S lim xs k)
def eg_okc (k : Nat) (G : eg_G) : Prop := lo_ok G.1.1 ∧ ∃ c, c ≤ k ∧ G.1.2.2 = nI c
theorem eg_okc_up {k : Nat} {G : eg_G} (h : eg_okc k G) : eg_okc (k + 1) G := ⟨h.1, h.2.choose, by have := h.2.choose_spec.1; omega, h.2.choose_spec.2⟩
theorem eg_okc_op {lim x9 x10 : Int32} {k : Nat} {G : eg_G} (h : eg_okc k G) : eg_okc (k + 1) (eg_op lim x9 x10 G) := by
  have h' := eg_okc_up h
  obtain ⟨hok, c, hc, ec⟩ := h
  unfold eg_op
  split
  · split
    · exact h'
    · unfold eg_play
      split
      · rename_i z
        have hlt : (x10 - x10 / nI (eg_M lim G.1) * nI (eg_M lim G.1)).toNatClampNeg < (pp_ls G.1).length := by
          have := z.2
          have hM : eg_M lim G.1 ≤ (pp_ls G.1).length := by unfold eg_M; split <;> omega
          omega
        have hE := (pp_mv_E hlt).1
        refine ⟨lo_ap hok hE, ?_⟩
        show ∃ c, c ≤ k + 1 ∧ (if 0 < dg_C2 (pp_mv G.1 _).2 (pp_mv G.1 _).1 ∨ G.1.1 ((pp_mv G.1 _).2 0) = 1 ∨ G.1.1 ((pp_mv G.1 _).2 0) = 3 then 0 else G.1.2.2 + 1) = nI c
        split
        · exact ⟨0, by omega, rfl⟩
        · exact ⟨c + 1, by omega, by rw [ec]; exact nI_1 c⟩
      · exact h'
  · split
    · unfold eg_place
      split
      · rename_i z
        exact ⟨lo_place hok z.2.1 z.2.2.2.1 z.2.2.2.2, 0, by omega, rfl⟩
      · exact h'
    · split
      · refine ⟨?_, 0, by omega, rfl⟩
        show lo_ok (eg_B0 (if (x10 &&& 1) = 1 then 1 else 0))
        split
        · exact lo_ok1
        · exact lo_ok0
      · unfold eg_side
        split
        · exact ⟨hok, 0, by omega, rfl⟩
        · exact h'
theorem eg_okc_S {lim : Int32} {xs : Nat → Int32} : ∀ k, eg_okc k (eg_S lim xs k) := by
  intro k
  induction k with
  | zero => exact ⟨lo_ok0, 0, Nat.le_refl 0, rfl⟩
  | succ k ih =>
    show eg_okc (k + 1) (eg_cell lim (xs (k + 1)) (eg_S lim xs k))
    unfold eg_cell
    split
    · exact eg_okc_up ih
    · exact eg_okc_op ih
theorem eg_log0 {lim sv : Int32} {P : pp_Pos} {lg lg' : Nat → Int32} {u : St2} (h : eg_R lim (P, lg, 0) sv u) : eg_R lim (P, lg', 0) sv u := by
  obtain ⟨a_neighbours, a_board, a_sides, a_counters, a_mc, a_moveLengths, a_moveSquares, a_path, a_jumped, a_nextDirection, a_wentOn, a_nextMove, a_bestMove, a_bestValue, a_log, e, hN, hB, hS, hat, hl, hn⟩ := h
  exact ⟨a_neighbours, a_board, a_sides, a_counters, a_mc, a_moveLengths, a_moveSquares, a_path, a_jumped, a_nextDirection, a_wentOn, a_nextMove, a_bestMove, a_bestValue, a_log, e, hN, hB, hS, hat, fun i hi => absurd hi (Nat.not_lt_zero i), hn⟩
theorem pp_a_lt {f : Nat → Int} : ∀ n, 0 < n → pp_a f n < n := by
  intro n
  induction n with
  | zero => intro h; exact absurd h (Nat.lt_irrefl 0)
  | succ n ih =>
    intro _
    show (if pp_f f n < f n then n else pp_a f n) < n + 1
    split
    · omega
    · by_cases e : n = 0
      · subst e; exact Nat.succ_pos 0
      · have := ih (by omega); omega
theorem ls_nm1 {i : Nat} (h : i < 2 ^ 31) : ¬ nI i = -1 := by
  intro z
  have := nI_pos h
  rw [z] at this
  exact this (by decide)
/-- one search of the law -/
theorem ls_321 {L kc ks : Nat} {xs : Nat → Int32} {post : Int32 → Prop} {J48 : _} {x5 x6 x7 x11 sv svb : Int32} {G : eg_G} {a b : St2} {l0 D : Nat} (hA : eg_R (nI l0) G sv a) (hB : eg_R (nI l0) G svb b) (hok : eg_okc 900 G) (hl0 : 4 ≤ l0) (hl1 : l0 ≤ 80) (hD1 : 1 ≤ D) (hD3 : D ≤ 3) (hd : ∀ post : Int32 → Prop, post (nI D) → wpX_clamp post () x11 1 3)
    (hno : J48 x5 x6 x7 a.1 a.2.1 a.2.2.1 a.2.2.2.1 a.2.2.2.2.1 a.2.2.2.2.2.1 a.2.2.2.2.2.2.1 a.2.2.2.2.2.2.2.1 a.2.2.2.2.2.2.2.2.1 a.2.2.2.2.2.2.2.2.2.1 a.2.2.2.2.2.2.2.2.2.2.1 a.2.2.2.2.2.2.2.2.2.2.2.1 a.2.2.2.2.2.2.2.2.2.2.2.2.1 a.2.2.2.2.2.2.2.2.2.2.2.2.2.1 a.2.2.2.2.2.2.2.2.2.2.2.2.2.2.1 a.2.2.2.2.2.2.2.2.2.2.2.2.2.2.2.1 a.2.2.2.2.2.2.2.2.2.2.2.2.2.2.2.2.1 a.2.2.2.2.2.2.2.2.2.2.2.2.2.2.2.2.2.1 a.2.2.2.2.2.2.2.2.2.2.2.2.2.2.2.2.2.2 b.1 b.2.1 b.2.2.1 b.2.2.2.1 b.2.2.2.2.1 b.2.2.2.2.2.1 b.2.2.2.2.2.2.1 b.2.2.2.2.2.2.2.1 b.2.2.2.2.2.2.2.2.1 b.2.2.2.2.2.2.2.2.2.1 b.2.2.2.2.2.2.2.2.2.2.1 b.2.2.2.2.2.2.2.2.2.2.2.1 b.2.2.2.2.2.2.2.2.2.2.2.2.1 b.2.2.2.2.2.2.2.2.2.2.2.2.2.1 b.2.2.2.2.2.2.2.2.2.2.2.2.2.2.1 b.2.2.2.2.2.2.2.2.2.2.2.2.2.2.2.1 b.2.2.2.2.2.2.2.2.2.2.2.2.2.2.2.2.1 b.2.2.2.2.2.2.2.2.2.2.2.2.2.2.2.2.2.1 b.2.2.2.2.2.2.2.2.2.2.2.2.2.2.2.2.2.2)
    (hyes : ∀ a' b' sv' GB' svb', eg_R (nI l0) G sv' a' → eg_R (nI l0) (eg_reset 0 GB') svb' b' → J48 x5 1 (x7 + 1) a'.1 a'.2.1 a'.2.2.1 a'.2.2.2.1 a'.2.2.2.2.1 a'.2.2.2.2.2.1 a'.2.2.2.2.2.2.1 a'.2.2.2.2.2.2.2.1 a'.2.2.2.2.2.2.2.2.1 a'.2.2.2.2.2.2.2.2.2.1 a'.2.2.2.2.2.2.2.2.2.2.1 a'.2.2.2.2.2.2.2.2.2.2.2.1 a'.2.2.2.2.2.2.2.2.2.2.2.2.1 a'.2.2.2.2.2.2.2.2.2.2.2.2.2.1 a'.2.2.2.2.2.2.2.2.2.2.2.2.2.2.1 a'.2.2.2.2.2.2.2.2.2.2.2.2.2.2.2.1 a'.2.2.2.2.2.2.2.2.2.2.2.2.2.2.2.2.1 a'.2.2.2.2.2.2.2.2.2.2.2.2.2.2.2.2.2.1 a'.2.2.2.2.2.2.2.2.2.2.2.2.2.2.2.2.2.2 b'.1 b'.2.1 b'.2.2.1 b'.2.2.2.1 b'.2.2.2.2.1 b'.2.2.2.2.2.1 b'.2.2.2.2.2.2.1 b'.2.2.2.2.2.2.2.1 b'.2.2.2.2.2.2.2.2.1 b'.2.2.2.2.2.2.2.2.2.1 b'.2.2.2.2.2.2.2.2.2.2.1 b'.2.2.2.2.2.2.2.2.2.2.2.1 b'.2.2.2.2.2.2.2.2.2.2.2.2.1 b'.2.2.2.2.2.2.2.2.2.2.2.2.2.1 b'.2.2.2.2.2.2.2.2.2.2.2.2.2.2.1 b'.2.2.2.2.2.2.2.2.2.2.2.2.2.2.2.1 b'.2.2.2.2.2.2.2.2.2.2.2.2.2.2.2.2.1 b'.2.2.2.2.2.2.2.2.2.2.2.2.2.2.2.2.2.1 b'.2.2.2.2.2.2.2.2.2.2.2.2.2.2.2.2.2.2) :
    wL_law_321 post L xs J48 (nI l0) x5 x6 x7 x11 (nI D) kc ks a.1 a.2.1 a.2.2.1 a.2.2.2.1 a.2.2.2.2.1 a.2.2.2.2.2.1 a.2.2.2.2.2.2.1 a.2.2.2.2.2.2.2.1 a.2.2.2.2.2.2.2.2.1 a.2.2.2.2.2.2.2.2.2.1 a.2.2.2.2.2.2.2.2.2.2.1 a.2.2.2.2.2.2.2.2.2.2.2.1 a.2.2.2.2.2.2.2.2.2.2.2.2.1 a.2.2.2.2.2.2.2.2.2.2.2.2.2.1 a.2.2.2.2.2.2.2.2.2.2.2.2.2.2.1 a.2.2.2.2.2.2.2.2.2.2.2.2.2.2.2.1 a.2.2.2.2.2.2.2.2.2.2.2.2.2.2.2.2.1 a.2.2.2.2.2.2.2.2.2.2.2.2.2.2.2.2.2.1 a.2.2.2.2.2.2.2.2.2.2.2.2.2.2.2.2.2.2 b.1 b.2.1 b.2.2.1 b.2.2.2.1 b.2.2.2.2.1 b.2.2.2.2.2.1 b.2.2.2.2.2.2.1 b.2.2.2.2.2.2.2.1 b.2.2.2.2.2.2.2.2.1 b.2.2.2.2.2.2.2.2.2.1 b.2.2.2.2.2.2.2.2.2.2.1 b.2.2.2.2.2.2.2.2.2.2.2.1 b.2.2.2.2.2.2.2.2.2.2.2.2.1 b.2.2.2.2.2.2.2.2.2.2.2.2.2.1 b.2.2.2.2.2.2.2.2.2.2.2.2.2.2.1 b.2.2.2.2.2.2.2.2.2.2.2.2.2.2.2.1 b.2.2.2.2.2.2.2.2.2.2.2.2.2.2.2.2.1 b.2.2.2.2.2.2.2.2.2.2.2.2.2.2.2.2.2.1 b.2.2.2.2.2.2.2.2.2.2.2.2.2.2.2.2.2.2 := by
  obtain ⟨ok1, c0, hc0, ec0⟩ := hok
  have h48 := lb_len G.1
  unfold wL_law_321
  refine ex_search hA hD1 hD3 hd (fun _ => br_t rfl hno) (fun hst a' hA' => ?_)
  have hM : eg_M (nI l0) G.1 = (pp_ls G.1).length := if_pos hst
  have hne : ¬ nI (pp_ls G.1).length = 0 := (dg_st_0 hst).1
  have hpos : 0 < (pp_ls G.1).length := by
    apply Classical.byContradiction
    intro z
    have e : (pp_ls G.1).length = 0 := by omega
    rw [e] at hne
    exact hne rfl
  have hi := pp_a_lt (f := pp_ch (nI l0) D 0 G.1) (pp_ls G.1).length hpos
  have hi' : pp_a (pp_ch (nI l0) D 0 G.1) (pp_ls G.1).length < eg_M (nI l0) G.1 := by rw [hM]; exact hi
  refine br_f (ls_nm1 (by omega)) (nm_e (ex_count hA' (ex_sidem hA' (ex_sidem hB (br_t rfl (ex_status hA' (ex_status hB (br_t rfl (ex_draw hA' (ex_draw hB (br_t rfl (ex_count hB (br_t rfl (ex_logn hA' (ex_logn hB (br_t rfl ⟨65, ?_⟩))))))))))))))))
  refine la_412 hA' hB ⟨eg_M (nI l0) G.1 + 1, ?_⟩ 64 0 65 (by omega) (by omega)
  refine la_469 hA' hB hi' (la_574 hA' hi' ?_) _ 0 _ (Nat.zero_add _) (by omega)
  rw [hM]
  refine ex_draw hA' ⟨1000000, ?_⟩
  rw [ec0]
  have m := (lb_main (post := post) (L := L) (xs := xs) (kc := kc) (ks := ks) (x5 := x5) (x7 := x7 + 1) (J48 := J48) (c0 := c0) (D := D) hA' ok1 ec0 (by omega) hl0 hl1 hD1 hD3 hpos rfl (fun b' GB' svb' hb' => hyes a' b' _ GB' svb' hA' hb') 1000000 1000000 (Nat.le_refl _)).1 0 (-1000000) (-1000000) 0 0 0 0 svb b G (Nat.zero_le _) (by omega) hB
  exact m
theorem ls_clamp (x : Int32) : ∃ D, 1 ≤ D ∧ D ≤ 3 ∧ (∀ post : Int32 → Prop, post (nI D) → wpX_clamp post () x 1 3) ∧ ((1 ≤ x → x ≤ 3 → x = nI D) ∧ (1 ≤ x → ¬ x ≤ 3 → D = 3) ∧ (¬ 1 ≤ x → D = 1)) := by
  by_cases a : 1 ≤ x
  · by_cases b : x ≤ 3
    · have hx : ¬ x < 0 := by
        intro z
        rw [Int32.le_iff_toInt_le] at a
        rw [Int32.lt_iff_toInt_lt] at z
        have e1 : (1 : Int32).toInt = 1 := by decide
        have e0 : (0 : Int32).toInt = 0 := by decide
        omega
      obtain ⟨j, hj, rfl⟩ := nI_of hx
      have a' : 1 ≤ j := (nI_leI (a := 1) (by omega) hj).mp a
      have b' : j ≤ 3 := (nI_leI (b := 3) hj (by omega)).mp b
      exact ⟨j, a', b', fun post h => br_t a (br_t b h), fun _ _ => rfl, fun _ z => absurd b z, fun z => absurd a z⟩
    · exact ⟨3, by omega, by omega, fun post h => br_t a (br_f b h), fun _ z => absurd z b, fun _ _ => rfl, fun z => absurd a z⟩
  · exact ⟨1, by omega, by omega, fun post h => br_f a h, fun z _ => absurd z a, fun z _ => absurd z a, fun _ => rfl⟩
theorem ls_m0 {K d m : Nat} (hd : d < 1000) (hm : K + 1000 < m + 1) : K + d < m := by omega
theorem ls_mk {L u m : Nat} (h : ¬ L ≤ u + 1) (hm : (L - (u + 1)) * 1000 + (u - u) < m + 1) : (L - (u + 1 + 1)) * 1000 + 1000 < m + 1 := by
  obtain ⟨k, rfl⟩ : ∃ k, L = u + 1 + 1 + k := ⟨L - (u + 1 + 1), by omega⟩
  have e1 : u + 1 + 1 + k - (u + 1) = k + 1 := by omega
  have e2 : u + 1 + 1 + k - (u + 1 + 1) = k := by omega
  rw [e1, Nat.sub_self, Nat.add_mul, Nat.one_mul, Nat.add_zero] at hm
  rw [e2]
  exact hm
theorem ls_m1 {L u m : Nat} (h : ¬ L ≤ u + 1) (hu : L ≤ 260) (hm : (L - (u + 1)) * 1000 + (u - u) < m + 1) : (L - (u + 1 + 1)) * 1000 + (u + 1 - (u + 1)) < m := by
  rw [Nat.sub_self]
  exact ls_m0 (by decide) (ls_mk h hm)
theorem ls_m2 {L u m : Nat} (h : ¬ L ≤ u + 1) (hu : L ≤ 260) (hm : (L - (u + 1)) * 1000 + (u - u) < m + 1) : (L - (u + 1 + 1)) * 1000 + (u + 1 - 0) < m := by
  rw [Nat.sub_zero]
  exact ls_m0 (by omega) (ls_mk h hm)
theorem ls_m3 {L t u m : Nat} (h : u + 1 < t + 1) (hm : (L - (t + 1)) * 1000 + (t - u) < m + 1) : (L - (t + 1)) * 1000 + (t - (u + 1)) < m := by omega
theorem ls_m4 {L u : Nat} (h : ¬ L ≤ u + 1) (hu : L ≤ 260) : u + 1 ≤ 260 := by omega
/-- the law's loop -/
theorem ls_48 {L kc ks : Nat} {xs : Nat → Int32} {post : Int32 → Prop} {l0 : Nat} (hL : L ≤ 260) (hl0 : 4 ≤ l0) (hl1 : l0 ≤ 80) (hp : post 1) :
    ∀ (m n t u : Nat) (x7 sv svb : Int32) (a b : St2), m ≤ n → u ≤ t → t ≤ 260 → (L - (t + 1)) * 1000 + (t - u) < m → eg_R (nI l0) (eg_S (nI l0) xs t) sv a → eg_R (nI l0) (eg_S (nI l0) xs u) svb b →
      wL_law_48 post L xs (nI l0) kc ks n (nI (t + 1)) (nI (u + 1)) x7 a.1 a.2.1 a.2.2.1 a.2.2.2.1 a.2.2.2.2.1 a.2.2.2.2.2.1 a.2.2.2.2.2.2.1 a.2.2.2.2.2.2.2.1 a.2.2.2.2.2.2.2.2.1 a.2.2.2.2.2.2.2.2.2.1 a.2.2.2.2.2.2.2.2.2.2.1 a.2.2.2.2.2.2.2.2.2.2.2.1 a.2.2.2.2.2.2.2.2.2.2.2.2.1 a.2.2.2.2.2.2.2.2.2.2.2.2.2.1 a.2.2.2.2.2.2.2.2.2.2.2.2.2.2.1 a.2.2.2.2.2.2.2.2.2.2.2.2.2.2.2.1 a.2.2.2.2.2.2.2.2.2.2.2.2.2.2.2.2.1 a.2.2.2.2.2.2.2.2.2.2.2.2.2.2.2.2.2.1 a.2.2.2.2.2.2.2.2.2.2.2.2.2.2.2.2.2.2 b.1 b.2.1 b.2.2.1 b.2.2.2.1 b.2.2.2.2.1 b.2.2.2.2.2.1 b.2.2.2.2.2.2.1 b.2.2.2.2.2.2.2.1 b.2.2.2.2.2.2.2.2.1 b.2.2.2.2.2.2.2.2.2.1 b.2.2.2.2.2.2.2.2.2.2.1 b.2.2.2.2.2.2.2.2.2.2.2.1 b.2.2.2.2.2.2.2.2.2.2.2.2.1 b.2.2.2.2.2.2.2.2.2.2.2.2.2.1 b.2.2.2.2.2.2.2.2.2.2.2.2.2.2.1 b.2.2.2.2.2.2.2.2.2.2.2.2.2.2.2.1 b.2.2.2.2.2.2.2.2.2.2.2.2.2.2.2.2.1 b.2.2.2.2.2.2.2.2.2.2.2.2.2.2.2.2.2.1 b.2.2.2.2.2.2.2.2.2.2.2.2.2.2.2.2.2.2 := by
  intro m
  induction m with
  | zero => intro n t u x7 sv svb a b _ _ _ h; exact absurd h (Nat.not_lt_zero _)
  | succ m ih =>
    intro n t u x7 sv svb a b hmn hut ht hm hA hB
    obtain ⟨n, rfl⟩ : ∃ g, n = g + 1 := ⟨n - 1, by omega⟩
    by_cases hend : L ≤ t + 1
    · exact br_t (nI_le hend (by omega)) hp
    · have eS : eg_S (nI l0) xs (u + 1) = eg_cell (nI l0) (xs (u + 1)) (eg_S (nI l0) xs u) := rfl
      refine br_f (nI_ge (by omega) (by omega)) ⟨vp_in_nI (by omega) (by omega), ?_⟩
      rw [nI_clamp (n := u + 1) (by omega)]
      refine nm_e ⟨by decide, nm_e ⟨by decide, nm_e ?_⟩⟩
      unfold eg_cell at eS
      refine br_c (fun h7 => ?_) (fun h7 => ?_)
      · refine pk_le (t + 1) (u + 1) (fun hle => ?_) (fun hlt => ?_)
        · obtain rfl : u = t := by omega
          rw [if_pos h7] at eS
          have hA1 : eg_R (nI l0) (eg_S (nI l0) xs (u + 1)) sv a := by rw [eS]; exact hA
          have hB1 : eg_R (nI l0) (eg_S (nI l0) xs (u + 1)) svb b := by rw [eS]; exact hB
          refine nm_r (nI_1 (u + 1)) (nm_r (nI_1 (u + 1)) (br_c (fun _ => ⟨by decide, nm_e ?_⟩) (fun _ => ?_)))
          · have okc : eg_okc 900 (eg_S (nI l0) xs (u + 1)) := by
              obtain ⟨o1, c, o2, o3⟩ := eg_okc_S (lim := nI l0) (xs := xs) (u + 1)
              exact ⟨o1, c, by omega, o3⟩
            have hno := ih n (u + 1) (u + 1) x7 sv svb a b (Nat.le_of_succ_le_succ hmn) (Nat.le_refl _) (ls_m4 hend hL) (ls_m1 hend hL hm) hA1 hB1
            have hyes : ∀ (a' b' : St2) (sv' : Int32) (GB' : eg_G) (svb' : Int32), eg_R (nI l0) (eg_S (nI l0) xs (u + 1)) sv' a' → eg_R (nI l0) (eg_reset 0 GB') svb' b' → wL_law_48 post L xs (nI l0) kc ks n (nI (u + 1 + 1)) 1 (x7 + 1) a'.1 a'.2.1 a'.2.2.1 a'.2.2.2.1 a'.2.2.2.2.1 a'.2.2.2.2.2.1 a'.2.2.2.2.2.2.1 a'.2.2.2.2.2.2.2.1 a'.2.2.2.2.2.2.2.2.1 a'.2.2.2.2.2.2.2.2.2.1 a'.2.2.2.2.2.2.2.2.2.2.1 a'.2.2.2.2.2.2.2.2.2.2.2.1 a'.2.2.2.2.2.2.2.2.2.2.2.2.1 a'.2.2.2.2.2.2.2.2.2.2.2.2.2.1 a'.2.2.2.2.2.2.2.2.2.2.2.2.2.2.1 a'.2.2.2.2.2.2.2.2.2.2.2.2.2.2.2.1 a'.2.2.2.2.2.2.2.2.2.2.2.2.2.2.2.2.1 a'.2.2.2.2.2.2.2.2.2.2.2.2.2.2.2.2.2.1 a'.2.2.2.2.2.2.2.2.2.2.2.2.2.2.2.2.2.2 b'.1 b'.2.1 b'.2.2.1 b'.2.2.2.1 b'.2.2.2.2.1 b'.2.2.2.2.2.1 b'.2.2.2.2.2.2.1 b'.2.2.2.2.2.2.2.1 b'.2.2.2.2.2.2.2.2.1 b'.2.2.2.2.2.2.2.2.2.1 b'.2.2.2.2.2.2.2.2.2.2.1 b'.2.2.2.2.2.2.2.2.2.2.2.1 b'.2.2.2.2.2.2.2.2.2.2.2.2.1 b'.2.2.2.2.2.2.2.2.2.2.2.2.2.1 b'.2.2.2.2.2.2.2.2.2.2.2.2.2.2.1 b'.2.2.2.2.2.2.2.2.2.2.2.2.2.2.2.1 b'.2.2.2.2.2.2.2.2.2.2.2.2.2.2.2.2.1 b'.2.2.2.2.2.2.2.2.2.2.2.2.2.2.2.2.2.1 b'.2.2.2.2.2.2.2.2.2.2.2.2.2.2.2.2.2.2 := by
              intro a' b' sv' GB' svb' hA' hB'
              have hB2 : eg_R (nI l0) (eg_S (nI l0) xs 0) svb' b' := eg_log0 (P := (eg_B0 0, 0, 0)) (lg := GB'.2.1) (lg' := fun _ => 0) hB'
              have r := ih n (u + 1) 0 (x7 + 1) sv' svb' a' b' (Nat.le_of_succ_le_succ hmn) (Nat.zero_le _) (ls_m4 hend hL) (ls_m2 hend hL hm) hA' hB2
              exact r
            obtain ⟨D, d1, d3, hd, q1, q2, q3⟩ := ls_clamp ((((xs (u + 1)) &&& 2147483647) / 8) - (((xs (u + 1)) &&& 2147483647) / 8) / 6 * 6 - 1)
            have go := ls_321 (post := post) (L := L) (xs := xs) (kc := kc) (ks := ks) (x5 := nI (u + 1 + 1)) (x6 := nI (u + 1 + 1)) (x7 := x7) (x11 := (((xs (u + 1)) &&& 2147483647) / 8) - (((xs (u + 1)) &&& 2147483647) / 8) / 6 * 6 - 1) (D := D) (J48 := wL_law_48 post L xs (nI l0) kc ks n) hA1 hB1 okc hl0 hl1 d1 d3 hd hno hyes
            refine br_c (fun y1 => br_c (fun y3 => ?_) (fun y3 => ?_)) (fun y1 => ?_)
            · have e := q1 y1 y3
              rw [← e] at go
              exact go
            · obtain rfl := q2 y1 y3
              exact go
            · obtain rfl := q3 y1
              exact go
          · have r := ih n (u + 1) (u + 1) x7 sv svb a b (Nat.le_of_succ_le_succ hmn) (Nat.le_refl _) (ls_m4 hend hL) (ls_m1 hend hL hm) hA1 hB1
            exact r
        · rw [if_pos h7] at eS
          have hB1 : eg_R (nI l0) (eg_S (nI l0) xs (u + 1)) svb b := by rw [eS]; exact hB
          have r := ih n t (u + 1) x7 sv svb a b (Nat.le_of_succ_le_succ hmn) (Nat.le_of_lt_succ hlt) ht (ls_m3 hlt hm) hA hB1
          exact nm_r (nI_1 (u + 1)) r
      · rw [if_neg h7] at eS
        refine pk_le (t + 1) (u + 1) (fun hle => ⟨3, ?_⟩) (fun hlt => ⟨2, ?_⟩)
        · obtain rfl : u = t := by omega
          refine br_f (by decide) (br_t rfl (ls_116_2 hA fun a' hA' => ?_))
          refine br_f (by decide) (br_f (by decide) (ls_116 hB fun b' hB' => ?_))
          rw [← eS] at hA' hB'
          have r := ih n (u + 1) (u + 1) x7 sv svb a' b' (Nat.le_of_succ_le_succ hmn) (Nat.le_refl _) (ls_m4 hend hL) (ls_m1 hend hL hm) hA' hB'
          exact br_t (by decide) (br_t rfl (nm_r (nI_1 (u + 1)) (nm_r (nI_1 (u + 1)) r)))
        · refine br_f (by decide) (br_f (by decide) (ls_116 hB fun b' hB' => ?_))
          rw [← eS] at hB'
          have hne : ¬ nI (u + 1) = nI (t + 1) := fun z => absurd ((nI_eq (by omega) (by omega)).mp z) (Nat.ne_of_lt hlt)
          have r := ih n t (u + 1) x7 sv svb a b' (Nat.le_of_succ_le_succ hmn) (Nat.le_of_lt_succ hlt) ht (ls_m3 hlt hm) hA hB'
          exact br_t (by decide) (br_f hne (nm_r (nI_1 (u + 1)) r))
