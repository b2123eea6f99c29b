/-! the law compares the two engines, then the move -/
theorem la_la (t : Nat) : dg_la t + 1 = dg_la (t + 1) := by
  cases t with
  | zero => rfl
  | succ k => exact nI_1 k
def la_fw (sd : Int32) : Int32 := if sd = 0 then 1 else -1
theorem la_ok1 : ∀ d, d < 4 → ((¬ ll_kg 1 = 0 ∨ ll_dr d = 1) ↔ ((1 = 1 → 2 ≤ 3 - d) ∧ (1 = 3 → 3 - d < 2))) := by decide +kernel
theorem la_ok2 : ∀ d, d < 4 → ((¬ ll_kg 2 = 0 ∨ ll_dr d = 1) ↔ ((2 = 1 → 2 ≤ 3 - d) ∧ (2 = 3 → 3 - d < 2))) := by decide +kernel
theorem la_ok3 : ∀ d, d < 4 → ((¬ ll_kg 3 = 0 ∨ ll_dr d = -1) ↔ ((3 = 1 → 2 ≤ 3 - d) ∧ (3 = 3 → 3 - d < 2))) := by decide +kernel
theorem la_ok4 : ∀ d, d < 4 → ((¬ ll_kg 4 = 0 ∨ ll_dr d = -1) ↔ ((4 = 1 → 2 ≤ 3 - d) ∧ (4 = 3 → 3 - d < 2))) := by decide +kernel
theorem la_ok {c d : Nat} {sd : Int32} (ho : dg_own c sd) (hc : c ≤ 4) (hd : d < 4) : (¬ ll_kg c = 0 ∨ ll_dr d = la_fw sd) ↔ dg_ok c (3 - d) := by
  rcases ho with ⟨h1, h2, rfl⟩ | ⟨h1, rfl⟩
  · have : c = 1 ∨ c = 2 := by omega
    rcases this with rfl | rfl
    · exact la_ok1 d hd
    · exact la_ok2 d hd
  · have : c = 3 ∨ c = 4 := by omega
    rcases this with rfl | rfl
    · exact la_ok3 d hd
    · exact la_ok4 d hd
theorem la_foe {c v : Nat} {sd : Int32} (ho : dg_own c sd) (hc : c ≤ 4) (hv : v ≤ 4) : dg_own v (1 - sd) ↔ (¬ v = 0 ∧ ¬ (v ≤ 2 ↔ c ≤ 2)) := by
  have n01 : ¬ (1 : Int32) - 0 = 0 := by decide
  have n11 : ¬ (1 : Int32) - 1 = 1 := by decide
  unfold dg_own
  rcases ho with ⟨h1, h2, rfl⟩ | ⟨h1, rfl⟩
  · constructor
    · rintro (⟨_, _, z⟩ | ⟨z, _⟩)
      · exact absurd z n01
      · omega
    · intro z
      exact Or.inr ⟨by omega, by decide⟩
  · constructor
    · rintro (⟨z1, z2, _⟩ | ⟨_, z⟩)
      · omega
      · exact absurd z n11
    · intro z
      exact Or.inl ⟨by omega, by omega, by decide⟩
theorem la_sd1 {sd : Int32} (h : sd = 0 ∨ sd = 1) : 1 - sd = 0 ∨ 1 - sd = 1 := by
  rcases h with rfl | rfl
  · exact Or.inr (by decide)
  · exact Or.inl (by decide)
theorem la_T2n : ∀ s, s < 32 → ∀ d, d < 4 → dg_T s d < 32 → ¬ dg_T (dg_T s d) d = s := by decide +kernel
theorem la_shr : ∀ z, z < 32 → nI z >>> ((2 : Int32) &&& 31) = nI (z / 4) := by decide +kernel
theorem la_rowD : ∀ a, a < 32 → ∀ d, d < 4 → dg_T a d < 32 → dg_T (dg_T a d) d < 32 → 2 ≤ d → nI (dg_T (dg_T a d) d / 4) - nI (a / 4) = 2 * 1 := by decide +kernel
theorem la_rowU : ∀ a, a < 32 → ∀ d, d < 4 → dg_T a d < 32 → dg_T (dg_T a d) d < 32 → d < 2 → nI (dg_T (dg_T a d) d / 4) - nI (a / 4) = 2 * (-1) := by decide +kernel
theorem la_row {a c d : Nat} {sd : Int32} (ha : a < 32) (hd : d < 4) (h1 : dg_T a d < 32) (h2 : dg_T (dg_T a d) d < 32) (ho : dg_own c sd) (hc : c ≤ 4) (hk : ll_kg c = 0) (hok : dg_ok c d) : nI (dg_T (dg_T a d) d / 4) - nI (a / 4) = 2 * la_fw sd := by
  have hn : ¬ (c = 2 ∨ c = 4) := by
    intro z
    unfold ll_kg at hk
    rw [if_pos z] at hk
    exact absurd hk (by decide)
  rcases ho with ⟨o1, o2, rfl⟩ | ⟨o1, rfl⟩
  · exact la_rowD a ha d hd h1 h2 (hok.1 (by omega))
  · exact la_rowU a ha d hd h1 h2 (hok.2 (by omega))
theorem la_cr {c s : Nat} {sd : Int32} (ho : dg_own c sd) (hc : c ≤ 4) (hk : ll_kg c = 0) : ll_cr sd s = 0 ↔ ¬ dg_cr c s := by
  have hn : ¬ (c = 2 ∨ c = 4) := by
    intro z
    unfold ll_kg at hk
    rw [if_pos z] at hk
    exact absurd hk (by decide)
  unfold ll_cr dg_cr
  rcases ho with ⟨o1, o2, rfl⟩ | ⟨o1, rfl⟩
  · rw [if_pos rfl]
    by_cases z : 28 ≤ s
    · rw [if_pos z]
      exact ⟨fun y => absurd y (by decide), fun y => absurd (Or.inl ⟨by omega, z⟩) y⟩
    · rw [if_neg z]
      exact ⟨fun _ => by omega, fun _ => rfl⟩
  · rw [if_neg (by decide)]
    by_cases z : s < 4
    · rw [if_pos z]
      exact ⟨fun y => absurd y (by decide), fun y => absurd (Or.inr ⟨by omega, z⟩) y⟩
    · rw [if_neg z]
      exact ⟨fun _ => by omega, fun _ => rfl⟩
theorem la_kg_cr {c s : Nat} (hk : ¬ ll_kg c = 0) : ¬ dg_cr c s := by
  unfold ll_kg at hk
  unfold dg_cr
  by_cases z : c = 2 ∨ c = 4
  · omega
  · rw [if_neg z] at hk; exact absurd rfl hk
theorem eg_sq_in {P : pp_Pos} {i k : Nat} (hk : k < (pp_mv P i).1) (h : k < 100) : eg_sq P i (nI k) = nI ((pp_mv P i).2 k) := by
  unfold eg_sq
  rw [nI_clamp (by omega)]
  exact if_pos ⟨nI_pos (by omega), hk⟩
theorem la_412 {L kc ks : Nat} {xs : Nat → Int32} {post : Int32 → Prop} {J48 : _} {x2 x5 x7 x12 x13 x14 lim sv sv' : Int32} {G : eg_G} {a b : St2} (hA : eg_R lim G sv a) (hB : eg_R lim G sv' b)
    (h : ∃ fu, wL_law_469 post L xs J48 x2 x5 x7 x12 x13 x14 kc ks a.1 a.2.1 a.2.2.1 a.2.2.2.1 a.2.2.2.2.1 a.2.2.2.2.2.1 a.2.2.2.2.2.2.1 a.2.2.2.2.2.2.2.1 a.2.2.2.2.2.2.2.2.1 a.2.2.2.2.2.2.2.2.2.1 a.2.2.2.2.2.2.2.2.2.2.1 a.2.2.2.2.2.2.2.2.2.2.2.1 a.2.2.2.2.2.2.2.2.2.2.2.2.1 a.2.2.2.2.2.2.2.2.2.2.2.2.2.1 a.2.2.2.2.2.2.2.2.2.2.2.2.2.2.1 a.2.2.2.2.2.2.2.2.2.2.2.2.2.2.2.1 a.2.2.2.2.2.2.2.2.2.2.2.2.2.2.2.2.1 a.2.2.2.2.2.2.2.2.2.2.2.2.2.2.2.2.2.1 a.2.2.2.2.2.2.2.2.2.2.2.2.2.2.2.2.2.2 b.1 b.2.1 b.2.2.1 b.2.2.2.1 b.2.2.2.2.1 b.2.2.2.2.2.1 b.2.2.2.2.2.2.1 b.2.2.2.2.2.2.2.1 b.2.2.2.2.2.2.2.2.1 b.2.2.2.2.2.2.2.2.2.1 b.2.2.2.2.2.2.2.2.2.2.1 b.2.2.2.2.2.2.2.2.2.2.2.1 b.2.2.2.2.2.2.2.2.2.2.2.2.1 b.2.2.2.2.2.2.2.2.2.2.2.2.2.1 b.2.2.2.2.2.2.2.2.2.2.2.2.2.2.1 b.2.2.2.2.2.2.2.2.2.2.2.2.2.2.2.1 b.2.2.2.2.2.2.2.2.2.2.2.2.2.2.2.2.1 b.2.2.2.2.2.2.2.2.2.2.2.2.2.2.2.2.2.1 b.2.2.2.2.2.2.2.2.2.2.2.2.2.2.2.2.2.2 fu 0) :
    ∀ m q n, q + m = 64 → m < n → wL_law_412 post L xs J48 x2 x5 x7 x12 x13 x14 kc ks a.1 a.2.1 a.2.2.1 a.2.2.2.1 a.2.2.2.2.1 a.2.2.2.2.2.1 a.2.2.2.2.2.2.1 a.2.2.2.2.2.2.2.1 a.2.2.2.2.2.2.2.2.1 a.2.2.2.2.2.2.2.2.2.1 a.2.2.2.2.2.2.2.2.2.2.1 a.2.2.2.2.2.2.2.2.2.2.2.1 a.2.2.2.2.2.2.2.2.2.2.2.2.1 a.2.2.2.2.2.2.2.2.2.2.2.2.2.1 a.2.2.2.2.2.2.2.2.2.2.2.2.2.2.1 a.2.2.2.2.2.2.2.2.2.2.2.2.2.2.2.1 a.2.2.2.2.2.2.2.2.2.2.2.2.2.2.2.2.1 a.2.2.2.2.2.2.2.2.2.2.2.2.2.2.2.2.2.1 a.2.2.2.2.2.2.2.2.2.2.2.2.2.2.2.2.2.2 b.1 b.2.1 b.2.2.1 b.2.2.2.1 b.2.2.2.2.1 b.2.2.2.2.2.1 b.2.2.2.2.2.2.1 b.2.2.2.2.2.2.2.1 b.2.2.2.2.2.2.2.2.1 b.2.2.2.2.2.2.2.2.2.1 b.2.2.2.2.2.2.2.2.2.2.1 b.2.2.2.2.2.2.2.2.2.2.2.1 b.2.2.2.2.2.2.2.2.2.2.2.2.1 b.2.2.2.2.2.2.2.2.2.2.2.2.2.1 b.2.2.2.2.2.2.2.2.2.2.2.2.2.2.1 b.2.2.2.2.2.2.2.2.2.2.2.2.2.2.2.1 b.2.2.2.2.2.2.2.2.2.2.2.2.2.2.2.2.1 b.2.2.2.2.2.2.2.2.2.2.2.2.2.2.2.2.2.1 b.2.2.2.2.2.2.2.2.2.2.2.2.2.2.2.2.2.2 n (nI q) := by
  intro m
  induction m with
  | zero =>
    intro q n hq hn
    obtain ⟨n, rfl⟩ : ∃ g, n = g + 1 := ⟨n - 1, by omega⟩
    obtain rfl : q = 64 := by omega
    exact br_t (nI_le (a := 64) (Nat.le_refl 64) (by omega)) h
  | succ m ih =>
    intro q n hq hn
    obtain ⟨n, rfl⟩ : ∃ g, n = g + 1 := ⟨n - 1, by omega⟩
    have nx := ih (q + 1) n (by omega) (by omega)
    refine br_f (nI_ge (b := 64) (by omega) (by omega)) (ex_loge (by omega) hA (ex_loge (by omega) hB (br_t rfl (pk_le 32 q (fun big => nm_r (nI_1 q) nx) (fun lt => ?_)))))
    exact ex_piece lt hA (ex_piece lt hB (br_t rfl (nm_r (nI_1 q) nx)))
theorem la_479 {L kc ks : Nat} {xs : Nat → Int32} {post : Int32 → Prop} {J48 : _} {J469 : Int32 → Prop} {x2 x5 x7 x12 x13 x14 lim sv sv' : Int32} {G : eg_G} {a b : St2} {i : Nat} (hA : eg_R lim G sv a) (hB : eg_R lim G sv' b) (hi : i < eg_M lim G.1) (h : J469 (nI (i + 1))) :
    ∀ m t n, t + m = 15 → m < n → wL_law_479 post L xs J48 J469 x2 x5 x7 x12 x13 x14 (nI i) kc ks a.1 a.2.1 a.2.2.1 a.2.2.2.1 a.2.2.2.2.1 a.2.2.2.2.2.1 a.2.2.2.2.2.2.1 a.2.2.2.2.2.2.2.1 a.2.2.2.2.2.2.2.2.1 a.2.2.2.2.2.2.2.2.2.1 a.2.2.2.2.2.2.2.2.2.2.1 a.2.2.2.2.2.2.2.2.2.2.2.1 a.2.2.2.2.2.2.2.2.2.2.2.2.1 a.2.2.2.2.2.2.2.2.2.2.2.2.2.1 a.2.2.2.2.2.2.2.2.2.2.2.2.2.2.1 a.2.2.2.2.2.2.2.2.2.2.2.2.2.2.2.1 a.2.2.2.2.2.2.2.2.2.2.2.2.2.2.2.2.1 a.2.2.2.2.2.2.2.2.2.2.2.2.2.2.2.2.2.1 a.2.2.2.2.2.2.2.2.2.2.2.2.2.2.2.2.2.2 b.1 b.2.1 b.2.2.1 b.2.2.2.1 b.2.2.2.2.1 b.2.2.2.2.2.1 b.2.2.2.2.2.2.1 b.2.2.2.2.2.2.2.1 b.2.2.2.2.2.2.2.2.1 b.2.2.2.2.2.2.2.2.2.1 b.2.2.2.2.2.2.2.2.2.2.1 b.2.2.2.2.2.2.2.2.2.2.2.1 b.2.2.2.2.2.2.2.2.2.2.2.2.1 b.2.2.2.2.2.2.2.2.2.2.2.2.2.1 b.2.2.2.2.2.2.2.2.2.2.2.2.2.2.1 b.2.2.2.2.2.2.2.2.2.2.2.2.2.2.2.1 b.2.2.2.2.2.2.2.2.2.2.2.2.2.2.2.2.1 b.2.2.2.2.2.2.2.2.2.2.2.2.2.2.2.2.2.1 b.2.2.2.2.2.2.2.2.2.2.2.2.2.2.2.2.2.2 n (dg_la t) := by
  intro m
  induction m with
  | zero =>
    intro t n ht hn
    obtain ⟨n, rfl⟩ : ∃ g, n = g + 1 := ⟨n - 1, by omega⟩
    obtain rfl : t = 15 := by omega
    exact br_t (nI_le (a := 14) (b := 14) (Nat.le_refl 14) (by omega)) (nm_r (nI_1 i) h)
  | succ m ih =>
    intro t n ht hn
    obtain ⟨n, rfl⟩ : ∃ g, n = g + 1 := ⟨n - 1, by omega⟩
    have nx := ih (t + 1) n (by omega) (by omega)
    have hlt : ¬ (14 : Int32) ≤ dg_la t := by
      cases t with
      | zero => decide
      | succ k => exact nI_ge (b := 14) (by omega) (by omega)
    exact br_f hlt (ex_len hA hi (ex_len hB hi (br_t rfl (ex_sq hA hi (ex_sq hB hi (br_t rfl (nm_r (la_la t) nx)))))))
theorem la_469 {L kc ks : Nat} {xs : Nat → Int32} {post : Int32 → Prop} {J48 : _} {x2 x5 x7 x12 lim sv sv' : Int32} {G : eg_G} {a b : St2} {i : Nat} (hA : eg_R lim G sv a) (hB : eg_R lim G sv' b) (hi : i < eg_M lim G.1)
    (h : wL_law_574 post L xs J48 x2 x5 x7 x12 (nI i) (nI (eg_M lim G.1)) G.1.2.1 (nI (pp_mv G.1 i).1) (la_fw G.1.2.1) kc ks a.1 a.2.1 a.2.2.1 a.2.2.2.1 a.2.2.2.2.1 a.2.2.2.2.2.1 a.2.2.2.2.2.2.1 a.2.2.2.2.2.2.2.1 a.2.2.2.2.2.2.2.2.1 a.2.2.2.2.2.2.2.2.2.1 a.2.2.2.2.2.2.2.2.2.2.1 a.2.2.2.2.2.2.2.2.2.2.2.1 a.2.2.2.2.2.2.2.2.2.2.2.2.1 a.2.2.2.2.2.2.2.2.2.2.2.2.2.1 a.2.2.2.2.2.2.2.2.2.2.2.2.2.2.1 a.2.2.2.2.2.2.2.2.2.2.2.2.2.2.2.1 a.2.2.2.2.2.2.2.2.2.2.2.2.2.2.2.2.1 a.2.2.2.2.2.2.2.2.2.2.2.2.2.2.2.2.2.1 a.2.2.2.2.2.2.2.2.2.2.2.2.2.2.2.2.2.2 b.1 b.2.1 b.2.2.1 b.2.2.2.1 b.2.2.2.2.1 b.2.2.2.2.2.1 b.2.2.2.2.2.2.1 b.2.2.2.2.2.2.2.1 b.2.2.2.2.2.2.2.2.1 b.2.2.2.2.2.2.2.2.2.1 b.2.2.2.2.2.2.2.2.2.2.1 b.2.2.2.2.2.2.2.2.2.2.2.1 b.2.2.2.2.2.2.2.2.2.2.2.2.1 b.2.2.2.2.2.2.2.2.2.2.2.2.2.1 b.2.2.2.2.2.2.2.2.2.2.2.2.2.2.1 b.2.2.2.2.2.2.2.2.2.2.2.2.2.2.2.1 b.2.2.2.2.2.2.2.2.2.2.2.2.2.2.2.2.1 b.2.2.2.2.2.2.2.2.2.2.2.2.2.2.2.2.2.1 b.2.2.2.2.2.2.2.2.2.2.2.2.2.2.2.2.2.2) :
    ∀ m q n, q + m = eg_M lim G.1 → m < n → wL_law_469 post L xs J48 x2 x5 x7 x12 (nI i) (nI (eg_M lim G.1)) kc ks a.1 a.2.1 a.2.2.1 a.2.2.2.1 a.2.2.2.2.1 a.2.2.2.2.2.1 a.2.2.2.2.2.2.1 a.2.2.2.2.2.2.2.1 a.2.2.2.2.2.2.2.2.1 a.2.2.2.2.2.2.2.2.2.1 a.2.2.2.2.2.2.2.2.2.2.1 a.2.2.2.2.2.2.2.2.2.2.2.1 a.2.2.2.2.2.2.2.2.2.2.2.2.1 a.2.2.2.2.2.2.2.2.2.2.2.2.2.1 a.2.2.2.2.2.2.2.2.2.2.2.2.2.2.1 a.2.2.2.2.2.2.2.2.2.2.2.2.2.2.2.1 a.2.2.2.2.2.2.2.2.2.2.2.2.2.2.2.2.1 a.2.2.2.2.2.2.2.2.2.2.2.2.2.2.2.2.2.1 a.2.2.2.2.2.2.2.2.2.2.2.2.2.2.2.2.2.2 b.1 b.2.1 b.2.2.1 b.2.2.2.1 b.2.2.2.2.1 b.2.2.2.2.2.1 b.2.2.2.2.2.2.1 b.2.2.2.2.2.2.2.1 b.2.2.2.2.2.2.2.2.1 b.2.2.2.2.2.2.2.2.2.1 b.2.2.2.2.2.2.2.2.2.2.1 b.2.2.2.2.2.2.2.2.2.2.2.1 b.2.2.2.2.2.2.2.2.2.2.2.2.1 b.2.2.2.2.2.2.2.2.2.2.2.2.2.1 b.2.2.2.2.2.2.2.2.2.2.2.2.2.2.1 b.2.2.2.2.2.2.2.2.2.2.2.2.2.2.2.1 b.2.2.2.2.2.2.2.2.2.2.2.2.2.2.2.2.1 b.2.2.2.2.2.2.2.2.2.2.2.2.2.2.2.2.2.1 b.2.2.2.2.2.2.2.2.2.2.2.2.2.2.2.2.2.2 n (nI q) := by
  have h48 := eg_M_le lim G.1
  intro m
  induction m with
  | zero =>
    intro q n hq hn
    obtain ⟨n, rfl⟩ : ∃ g, n = g + 1 := ⟨n - 1, by omega⟩
    obtain rfl : q = eg_M lim G.1 := by omega
    refine br_t (nI_le (Nat.le_refl _) (by omega)) (br_f (nI_pos (by omega)) (br_t (nI_lt hi (by omega)) (ex_sidem hA (ex_len hA hi ?_))))
    unfold la_fw at h
    refine br_c (fun z => ?_) (fun z => ?_)
    · rw [if_pos z] at h; exact h
    · rw [if_neg z] at h; exact h
  | succ m ih =>
    intro q n hq hn
    obtain ⟨n, rfl⟩ : ∃ g, n = g + 1 := ⟨n - 1, by omega⟩
    refine br_f (nI_ge (by omega) (by omega)) ⟨16, ?_⟩
    exact la_479 hA hB (by omega) (ih (q + 1) n (by omega) (by omega)) 15 0 16 (by omega) (by omega)
