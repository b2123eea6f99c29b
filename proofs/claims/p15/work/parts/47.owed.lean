/-! what is owed -/
theorem ls_19 {L : Nat} {xs : Nat → Int32} {x1 : Int32} {l0 : Nat} (hL : L ≤ 260) (hl0 : 4 ≤ l0) (hl1 : l0 ≤ 80) (hc : ∀ post : Int32 → Prop, post (nI l0) → wpX_clamp post () x1 4 80) : wL_law_19 (fun r => r = 1) L xs x1 (nI l0) 0 0 := by
  refine ⟨by omega, by omega, 15, 3084, by omega, by omega, ex_init (by omega) (by omega) hc fun a hA => ?_⟩
  refine ⟨by omega, by omega, 15, 3084, by omega, by omega, ex_init (by omega) (by omega) hc fun b hB => ⟨300000, ?_⟩⟩
  have r := ls_48 (post := fun r => r = 1) (xs := xs) (kc := 0 + 1 + 15 + 1 + 15) (ks := 0 + 19 + 3084 + 19 + 3084) hL hl0 hl1 rfl 300000 300000 0 0 0 0 0 a b (Nat.le_refl _) (Nat.le_refl _) (Nat.zero_le _) (by omega) hA hB
  exact r
theorem ls_raw {x : Int32} : ∃ l0, 4 ≤ l0 ∧ l0 ≤ 80 ∧ (∀ post : Int32 → Prop, post (nI l0) → wpX_clamp post () (x - x / 24 * 24) 4 80) ∧ (4 ≤ x - x / 24 * 24 → x - x / 24 * 24 = nI l0) ∧ (¬ 4 ≤ x - x / 24 * 24 → l0 = 4) := by
  have hr := rem_toInt x 24
  have e24 : (24 : Int32).toInt = 24 := by decide
  rw [e24] at hr
  have hb := tmod_bounds (a := x.toInt) (M := 24) (by decide)
  rw [← hr] at hb
  generalize x - x / 24 * 24 = y at hb
  clear hr e24
  by_cases a : 4 ≤ y
  · have a2 := a
    rw [Int32.le_iff_toInt_le] at a2
    have e4 : (4 : Int32).toInt = 4 := by decide
    have e0 : (0 : Int32).toInt = 0 := by decide
    have hx : ¬ y < 0 := by
      intro z
      rw [Int32.lt_iff_toInt_lt] at z
      omega
    obtain ⟨j, hj, rfl⟩ := nI_of hx
    rw [nI_toInt hj] at hb a2
    have b : nI j ≤ 80 := nI_le (b := 80) (by omega) (by omega)
    exact ⟨j, by omega, by omega, fun post h => br_t a (br_t b h), fun _ => rfl, fun z => absurd a z⟩
  · exact ⟨4, by omega, by omega, fun post h => br_f a h, fun z => absurd z a, fun _ => rfl⟩
theorem ls_go {L : Nat} {xs : Nat → Int32} (hL : L ≤ 260) (x : Int32) : ¬ (24 : Int32) = 0 ∧ ∀ x1_3 : Int32, x1_3 = x - x / 24 * 24 → ((4 ≤ x1_3 → wL_law_19 (fun r => r = 1) L xs x1_3 x1_3 0 0) ∧ (¬ 4 ≤ x1_3 → wL_law_19 (fun r => r = 1) L xs x1_3 4 0 0)) := by
  obtain ⟨l0, h4, h80, hc, h1, h2⟩ := ls_raw (x := x)
  refine ⟨by decide, nm_e (br_c (fun a => ?_) (fun a => ?_))⟩
  · have r := ls_19 (xs := xs) hL h4 h80 hc
    have e := h1 a
    rw [← e] at r
    exact r
  · obtain rfl := h2 a
    exact ls_19 hL h4 h80 hc
theorem i_vc (xs : Nat → Int32) (L : Nat) (hL : L ≤ 260) : wpL_law (fun r => r = 1) L xs := by
  unfold wpL_law
  refine br_c (fun a => ls_go hL 0) (fun a => ⟨?_, ls_go hL _⟩)
  have h0 : 0 < L := by
    apply Classical.byContradiction
    intro z
    obtain rfl : L = 0 := by omega
    exact a (by decide)
  exact vp_in_nI (n := 0) h0 (by omega)
