/-! what the kept paths are -/
def pj_J (b : Nat → Nat) (c s0 a n z : Nat) : Prop := ∃ d, d < 4 ∧ dg_ok c d ∧ dg_T a d = n ∧ dg_T n d = z ∧ n < 32 ∧ z < 32 ∧ (¬ b n = 0 ∧ ¬ (b n ≤ 2 ↔ c ≤ 2)) ∧ (b z = 0 ∨ z = s0)
/-- a path of jumps that can't go on -/
def pj_path (b : Nat → Nat) (c s0 : Nat) (e : Nat × (Nat → Nat)) : Prop := e.2 0 = s0 ∧ 2 ≤ e.1 ∧ ∃ j : Nat → Nat,
  (∀ i, i + 1 < e.1 → pj_J b c s0 (e.2 i) (j i) (e.2 (i + 1)) ∧ (i + 2 < e.1 → ¬ dg_cr c (e.2 (i + 1))) ∧ ∀ i', i' < i → j i' ≠ j i) ∧
  (dg_cr c (e.2 (e.1 - 1)) ∨ ∀ d, d < 4 → dg_ok c d → dg_T (e.2 (e.1 - 1)) d < 32 → dg_T (dg_T (e.2 (e.1 - 1)) d) d < 32 → (¬ b (dg_T (e.2 (e.1 - 1)) d) = 0 ∧ ¬ (b (dg_T (e.2 (e.1 - 1)) d) ≤ 2 ↔ c ≤ 2)) → (b (dg_T (dg_T (e.2 (e.1 - 1)) d) d) = 0 ∨ dg_T (dg_T (e.2 (e.1 - 1)) d) d = s0) → ∃ i, i + 1 < e.1 ∧ j i = dg_T (e.2 (e.1 - 1)) d)
theorem dg_sc_all (P : Nat → Prop) (n : Nat) : ∀ d, ¬ dg_sc P n d < d + n → ∀ e, d ≤ e → e < d + n → ¬ P e := by
  induction n with
  | zero => intro d _ e h1 h2; omega
  | succ n ih =>
    intro d h e h1 h2 hP
    by_cases hd : P d
    · rw [dg_sc_y hd] at h; omega
    · rw [dg_sc_n hd] at h
      by_cases he : e = d
      · subst he; exact hd hP
      · exact ih (d + 1) (by omega) e (by omega) (by omega) hP
def pj_I (b : Nat → Nat) (c s0 k : Nat) (q j x : Nat → Nat) (w : Nat → Int32) : Prop :=
  (∀ i, i < k → pj_J b c s0 (q i) (j i) (q (i + 1)) ∧ (i + 1 < k → ¬ dg_cr c (q (i + 1)))) ∧ (∀ i, 1 ≤ i → i ≤ k → w i = 0 → x i = dg_x0 c (q i))
theorem pj_push {b : Nat → Nat} {c s0 k D : Nat} {q j x : Nat → Nat} {w J : Nat → Int32} (h : pj_I b c s0 k q j x w) (hq : q k < 32) (hD : D < 4) (hP : dg_P b J c s0 (q k) D) :
    pj_I b c s0 (k + 1) (dg_u q (k + 1) (dg_T (dg_T (q k) D) D)) (dg_u j k (dg_T (q k) D)) (dg_u (dg_u x k (D + 1)) (k + 1) (dg_x0 c (dg_T (dg_T (q k) D) D))) (upd (upd w k 1) (k + 1) 0) := by
  obtain ⟨h1, h2⟩ := h
  obtain ⟨p1, p2, p3, p4, p5, p6⟩ := hP
  refine ⟨fun i hi => ?_, fun i hi hi2 hw => ?_⟩
  · rw [dg_un (k := k + 1) (i := i) (by omega)]
    by_cases e : i = k
    · subst e
      rw [dg_us, dg_us]
      exact ⟨⟨D, hD, p1, rfl, rfl, p2, p3, p5, p6⟩, fun z => absurd z (by omega)⟩
    · have g := h1 i (by omega)
      rw [dg_un e, dg_un (k := k + 1) (i := i + 1) (by omega)]
      refine ⟨g.1, fun z => ?_⟩
      by_cases e2 : i + 1 = k
      · rw [e2]
        intro hc
        exact dg_cr_none hq hD hc p1 p2
      · exact g.2 (by omega)
  · by_cases e : i = k + 1
    · subst e; rw [dg_us, dg_us]
    · rw [pk_un e] at hw
      by_cases e2 : i = k
      · subst e2; rw [pk_us] at hw; exact absurd hw (by decide)
      · rw [pk_un e2] at hw
        rw [dg_un e, dg_un e, dg_un e2]
        exact h2 i hi (by omega) hw
theorem pj_pop {b : Nat → Nat} {c s0 k : Nat} {q j x : Nat → Nat} {w : Nat → Int32} (h : pj_I b c s0 (k + 1) q j x w) : pj_I b c s0 k q j x w :=
  ⟨fun i hi => ⟨(h.1 i (by omega)).1, fun z => (h.1 i (by omega)).2 (by omega)⟩, fun i h1 h2 => h.2 i h1 (by omega)⟩
theorem pj_run (b : Nat → Nat) (c s0 : Nat) : ∀ (n k1 : Nat) (q j x y : Nat → Nat) (w J : Nat → Int32), dg_K c s0 k1 q j x y w J → (∀ k, k1 = k + 1 → pj_I b c s0 k q j x w) → ∀ e, e ∈ dg_run b c s0 n k1 q j x w J → pj_path b c s0 e := by
  intro n
  induction n with
  | zero => intro k1 q j x y w J _ _ e he; rw [dg_run] at he; exact absurd he List.not_mem_nil
  | succ n ih =>
    intro k1 q j x y w J hK hI e he
    cases k1 with
    | zero => rw [dg_run_0] at he; exact absurd he List.not_mem_nil
    | succ k =>
      obtain ⟨hg, hw⟩ := hK k rfl
      have hp := hI k rfl
      obtain ⟨hq, hpar, hdr⟩ := hg.2.1 k (Nat.le_refl k)
      by_cases hD : dg_D b c s0 J (q k) (x k) < 4
      · rw [dg_run_push rfl hD] at he
        have kp := dg_K_push hK rfl hD
        refine ih _ _ _ _ _ _ _ kp.2.2.2 (fun k' e' => ?_) e he
        obtain rfl : k' = k + 1 := by omega
        exact pj_push hp hq hD kp.1
      · rw [dg_run_pop hD] at he
        rcases List.mem_append.mp he with he | he
        · by_cases hk : w k = 0
          · rw [if_pos hk] at he
            obtain rfl := List.mem_singleton.mp he
            have hk0 : k ≠ 0 := fun z => hw (z ▸ hk)
            have hx := hp.2 k (by omega) (Nat.le_refl k) hk
            refine ⟨hg.1, by show 2 ≤ k + 1; omega, j, fun i hi => ?_, ?_⟩
            · have hi' : i + 1 < k + 1 := hi
              have g1 := hp.1 i (by omega)
              have g2 := hg.2.2.1 i (by omega)
              refine ⟨g1.1, fun z => g1.2 ?_, g2.2.2.2⟩
              have z' : i + 2 < k + 1 := z
              omega
            · show dg_cr c (q k) ∨ _
              rcases dg_x0_c c (q k) with ⟨a1, a2⟩ | ⟨a1, a2⟩
              · exact Or.inl a1
              · refine Or.inr fun d hd ho t1 t2 hf hz => ?_
                rw [a2] at hx
                have hall := dg_sc_all (dg_P b J c s0 (q k)) (4 - x k) (x k) (by
                  have : ¬ dg_sc (dg_P b J c s0 (q k)) (4 - x k) (x k) < 4 := hD
                  have := hdr.2.1
                  omega) d (by rw [hx]; exact dg_fst_ok ho) (by have := hdr.2.1; omega)
                have t1' : dg_T (q k) d < 32 := t1
                apply Classical.byContradiction
                intro hno
                refine hall ⟨ho, t1', t2, ?_, hf, hz⟩
                apply Classical.byContradiction
                intro hJ
                obtain ⟨i, hi, e2⟩ := hg.2.2.2.1 _ t1' hJ
                exact hno ⟨i, by show i + 1 < k + 1; omega, e2⟩
          · rw [if_neg hk] at he; exact absurd he List.not_mem_nil
        · refine ih _ _ _ _ _ _ _ (dg_K_pop hK) (fun k' e' => ?_) e he
          subst e'
          exact pj_pop hp
theorem pj_cap {N : Nat} {b : Nat → Nat} {c s0 : Nat} (h : s0 < 32) : ∀ e, e ∈ dg_cap N b c s0 → pj_path b c s0 e := by
  refine pj_run b c s0 N 1 _ _ _ _ _ _ (dg_K_0 h) (fun k e => ?_)
  obtain rfl : k = 0 := by omega
  exact ⟨fun i hi => absurd hi (Nat.not_lt_zero i), fun i h1 h2 => by omega⟩
theorem pj_caps {N : Nat} {b : Nat → Nat} {sd : Int32} : ∀ n s, s + n ≤ 32 → ∀ e, e ∈ dg_caps N b sd n s → ∃ s0, s0 < 32 ∧ dg_own (b s0) sd ∧ pj_path b (b s0) s0 e := by
  intro n
  induction n with
  | zero => intro s _ e he; rw [dg_caps] at he; exact absurd he List.not_mem_nil
  | succ n ih =>
    intro s hs e he
    by_cases h : dg_own (b s) sd
    · rw [dg_caps_y h] at he
      rcases List.mem_append.mp he with he | he
      · exact ⟨s, by omega, h, pj_cap (by omega) e he⟩
      · exact ih (s + 1) (by omega) e he
    · rw [dg_caps_n h] at he
      exact ih (s + 1) (by omega) e he
/-! a walk whose top has not gone on keeps a path -/
theorem pj_run_ne (b : Nat → Nat) (c s0 : Nat) : ∀ (n k : Nat) (q j x y : Nat → Nat) (w J : Nat → Int32), dg_K c s0 (k + 1) q j x y w J → dg_ps x (k + 1) ≤ n → w k = 0 → dg_run b c s0 n (k + 1) q j x w J ≠ [] := by
  intro n
  induction n with
  | zero => intro k q j x y w J _ hn; have := dg_ps_pos x k; omega
  | succ n ih =>
    intro k q j x y w J hK hn hw
    by_cases hD : dg_D b c s0 J (q k) (x k) < 4
    · rw [dg_run_push rfl hD]
      have kp := dg_K_push hK rfl hD
      have hps := dg_ps_push (x := x) (k := k) (D := dg_D b c s0 J (q k) (x k)) (x' := dg_x0 c (dg_T (dg_T (q k) (dg_D b c s0 J (q k) (x k))) (dg_D b c s0 J (q k) (x k)))) kp.2.2.1 kp.2.1 hD
      exact ih (k + 1) _ _ _ _ _ _ kp.2.2.2 (Nat.le_of_succ_le_succ (Nat.le_trans hps hn)) pk_us
    · rw [dg_run_pop hD, if_pos hw]
      intro z
      exact absurd (List.append_eq_nil_iff.mp z).1 (by simp)
theorem pj_cap_ne {b : Nat → Nat} {c s0 d : Nat} (h : s0 < 32) (hd : d < 4) (hP : dg_P b (fun _ => 0) c s0 s0 d) : dg_cap 700000 b c s0 ≠ [] := by
  have hK := dg_K_0 (c := c) h
  have hps := dg_ps_0 (fun _ => dg_fst c)
  have hf := dg_fst_ok hP.1
  have hD : dg_D b c s0 (fun _ => 0) ((fun _ => s0) 0) ((fun _ => dg_fst c) 0) < 4 := by
    apply Classical.byContradiction
    intro z
    have hf2 := dg_fst_le c
    exact dg_sc_all (dg_P b (fun _ => 0) c s0 s0) (4 - dg_fst c) (dg_fst c) (by
      have z' : ¬ dg_sc (dg_P b (fun _ => 0) c s0 s0) (4 - dg_fst c) (dg_fst c) < 4 := z
      omega) d hf (by omega) hP
  unfold dg_cap
  rw [show (700000 : Nat) = 699999 + 1 from rfl, dg_run_push (k := 0) rfl hD]
  have kp := dg_K_push (k := 0) hK rfl hD
  have hpp := dg_ps_push (x := fun _ => dg_fst c) (k := 0) (D := dg_D b c s0 (fun _ => 0) ((fun _ => s0) 0) ((fun _ => dg_fst c) 0)) (x' := dg_x0 c (dg_T (dg_T s0 (dg_D b c s0 (fun _ => 0) ((fun _ => s0) 0) ((fun _ => dg_fst c) 0))) (dg_D b c s0 (fun _ => 0) ((fun _ => s0) 0) ((fun _ => dg_fst c) 0)))) kp.2.2.1 kp.2.1 hD
  exact pj_run_ne b c s0 699999 1 _ _ _ _ _ _ kp.2.2.2 (Nat.le_trans (Nat.le_of_succ_le (Nat.le_trans hpp hps)) (by decide)) pk_us
theorem pj_caps_ne {b : Nat → Nat} {sd : Int32} {q d : Nat} (hd : d < 4) (ho : dg_own (b q) sd) (hP : dg_P b (fun _ => 0) (b q) q q d) : ∀ n s, s ≤ q → q < s + n → s + n ≤ 32 → dg_caps 700000 b sd n s ≠ [] := by
  intro n
  induction n with
  | zero => intro s h1 h2 _; omega
  | succ n ih =>
    intro s h1 h2 h3 z
    by_cases e : s = q
    · subst e
      rw [dg_caps_y ho] at z
      exact pj_cap_ne (by omega) hd hP (List.append_eq_nil_iff.mp z).1
    · have g := ih (s + 1) (by omega) (by omega) (by omega)
      by_cases h : dg_own (b s) sd
      · rw [dg_caps_y h] at z; exact g (List.append_eq_nil_iff.mp z).2
      · rw [dg_caps_n h] at z; exact g z
theorem pj_sm {b : Nat → Nat} {c s : Nat} : ∀ n d, d + n ≤ 4 → ∀ e, e ∈ dg_sm b c s n d → ∃ d', d' < 4 ∧ dg_R b c s d' ∧ e = (2, dg_two s (dg_T s d')) := by
  intro n
  induction n with
  | zero => intro d _ e he; rw [dg_sm] at he; exact absurd he List.not_mem_nil
  | succ n ih =>
    intro d hd e he
    by_cases h : dg_R b c s d
    · rw [dg_sm_y h] at he
      rcases List.mem_cons.mp he with he | he
      · exact ⟨d, by omega, h, he⟩
      · exact ih (d + 1) (by omega) e he
    · rw [dg_sm_n h] at he
      exact ih (d + 1) (by omega) e he
theorem pj_sms {b : Nat → Nat} {sd : Int32} : ∀ n s, s + n ≤ 32 → ∀ e, e ∈ dg_sms b sd n s → ∃ s0, s0 < 32 ∧ dg_own (b s0) sd ∧ ∃ d', d' < 4 ∧ dg_R b (b s0) s0 d' ∧ e = (2, dg_two s0 (dg_T s0 d')) := by
  intro n
  induction n with
  | zero => intro s _ e he; rw [dg_sms] at he; exact absurd he List.not_mem_nil
  | succ n ih =>
    intro s hs e he
    by_cases h : dg_own (b s) sd
    · rw [dg_sms_y h] at he
      rcases List.mem_append.mp he with he | he
      · obtain ⟨d', h1, h2, h3⟩ := pj_sm 4 0 (by omega) e he
        exact ⟨s, by omega, h, d', h1, h2, h3⟩
      · exact ih (s + 1) (by omega) e he
    · rw [dg_sms_n h] at he
      exact ih (s + 1) (by omega) e he
/-- some piece of the side can jump -/
def pj_can (b : Nat → Nat) (sd : Int32) : Prop := ∃ q d, q < 32 ∧ d < 4 ∧ dg_own (b q) sd ∧ dg_P b (fun _ => 0) (b q) q q d
/-- what the listed moves are -/
theorem pj_ls {b : Nat → Nat} {sd : Int32} {e : Nat × (Nat → Nat)} (h : e ∈ pv_ls b sd) :
    (pj_can b sd ∧ ∃ s0, s0 < 32 ∧ dg_own (b s0) sd ∧ pj_path b (b s0) s0 e) ∨ (¬ pj_can b sd ∧ ∃ s0, s0 < 32 ∧ dg_own (b s0) sd ∧ ∃ d', d' < 4 ∧ dg_R b (b s0) s0 d' ∧ e = (2, dg_two s0 (dg_T s0 d'))) := by
  unfold pv_ls at h
  by_cases hz : (pv_caps b sd).length = 0
  · rw [if_pos hz] at h
    refine Or.inr ⟨?_, ?_⟩
    · rintro ⟨q, d, h1, h2, h3, h4⟩
      have g := pv_ne (pj_caps_ne h2 h3 h4 32 0 (by omega) (by omega) (by omega))
      unfold pv_caps at hz
      omega
    · rcases pv_mem _ _ e h with g | g
      · exact absurd g List.not_mem_nil
      · exact pj_sms 32 0 (by omega) e g
  · rw [if_neg hz] at h
    rcases pv_mem _ _ e h with g | g
    · exact absurd g List.not_mem_nil
    · obtain ⟨s0, h1, h2, h3⟩ := pj_caps 32 0 (by omega) e g
      refine Or.inl ⟨?_, s0, h1, h2, h3⟩
      obtain ⟨a1, a2, j, a3, _⟩ := h3
      obtain ⟨⟨d, d1, d2, d3, d4, d5, d6, d7, d8⟩, _⟩ := a3 0 (by omega)
      rw [a1] at d3
      rw [← d3] at d4 d5 d7
      rw [← d4] at d6 d8
      exact ⟨s0, d, h1, d1, h2, d2, d5, d6, rfl, d7, d8⟩
