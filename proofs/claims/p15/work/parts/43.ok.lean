/-! positions that can be laid anew piece by piece -/
def lo_w (v c : Nat) : Nat := if v ≠ 0 ∧ (v ≤ 2 ↔ c ≤ 2) then 1 else 0
theorem lo_out {b : Nat → Nat} {c s s' : Nat} : ∀ n q, (∀ r, q ≤ r → r < q + n → r ≠ s ∧ r ≠ s') → dg_cn b c s n q = dg_cn b c s' n q := by
  intro n
  induction n with
  | zero => intro q _; rfl
  | succ n ih =>
    intro q h
    have h0 := h q (Nat.le_refl q) (by omega)
    have e := ih (q + 1) (fun r h1 h2 => h r (by omega) (by omega))
    by_cases z : b q ≠ 0 ∧ (b q ≤ 2 ↔ c ≤ 2)
    · rw [dg_cn_y ⟨h0.1, z⟩, dg_cn_y ⟨h0.2, z⟩, e]
    · rw [dg_cn_n (fun y => z y.2), dg_cn_n (fun y => z y.2), e]
theorem lo_split {b : Nat → Nat} {c s : Nat} : ∀ n q, q ≤ s → s < q + n → q + n ≤ 32 → dg_cn b c 32 n q = dg_cn b c s n q + lo_w (b s) c := by
  intro n
  induction n with
  | zero => intro q h1 h2; omega
  | succ n ih =>
    intro q h1 h2 h3
    by_cases e : q = s
    · subst e
      have o := lo_out (b := b) (c := c) (s := 32) (s' := q) n (q + 1) (fun r h4 h5 => ⟨by omega, by omega⟩)
      rw [dg_cn_n (s := q) (fun y => y.1 rfl)]
      unfold lo_w
      by_cases z : b q ≠ 0 ∧ (b q ≤ 2 ↔ c ≤ 2)
      · rw [dg_cn_y ⟨by omega, z⟩, if_pos z, o]; omega
      · rw [dg_cn_n (fun y => z y.2), if_neg z, o]; omega
    · have g := ih (q + 1) (by omega) (by omega) (by omega)
      by_cases z : b q ≠ 0 ∧ (b q ≤ 2 ↔ c ≤ 2)
      · rw [dg_cn_y ⟨by omega, z⟩, dg_cn_y ⟨e, z⟩, g]; omega
      · rw [dg_cn_n (fun y => z y.2), dg_cn_n (fun y => z y.2), g]
theorem lo_ign {b b' : Nat → Nat} {c s : Nat} : ∀ n q, (∀ r, q ≤ r → r < q + n → r ≠ s → b r = b' r) → dg_cn b c s n q = dg_cn b' c s n q := by
  intro n
  induction n with
  | zero => intro q _; rfl
  | succ n ih =>
    intro q h
    have e := ih (q + 1) (fun r h1 h2 => h r (by omega) (by omega))
    by_cases z : q ≠ s ∧ b q ≠ 0 ∧ (b q ≤ 2 ↔ c ≤ 2)
    · have hq := h q (Nat.le_refl q) (by omega) z.1
      have z' : q ≠ s ∧ b' q ≠ 0 ∧ (b' q ≤ 2 ↔ c ≤ 2) := by rw [← hq]; exact z
      rw [dg_cn_y z, dg_cn_y z', e]
    · have z' : ¬ (q ≠ s ∧ b' q ≠ 0 ∧ (b' q ≤ 2 ↔ c ≤ 2)) := by
        intro y
        have hq := h q (Nat.le_refl q) (by omega) y.1
        rw [← hq] at y
        exact z y
      rw [dg_cn_n z, dg_cn_n z', e]
theorem lo_mono {b b' : Nat → Nat} {c s : Nat} : ∀ n q, (∀ r, q ≤ r → r < q + n → b r = 0 ∨ b r = b' r) → dg_cn b c s n q ≤ dg_cn b' c s n q := by
  intro n
  induction n with
  | zero => intro q _; exact Nat.le_refl _
  | succ n ih =>
    intro q h
    have e := ih (q + 1) (fun r h1 h2 => h r (by omega) (by omega))
    have hq := h q (Nat.le_refl q) (by omega)
    by_cases z : q ≠ s ∧ b q ≠ 0 ∧ (b q ≤ 2 ↔ c ≤ 2)
    · have hq' : b q = b' q := by
        rcases hq with y | y
        · exact absurd y z.2.1
        · exact y
      have z' : q ≠ s ∧ b' q ≠ 0 ∧ (b' q ≤ 2 ↔ c ≤ 2) := by rw [← hq']; exact z
      rw [dg_cn_y z, dg_cn_y z']; omega
    · rw [dg_cn_n z]
      by_cases z' : q ≠ s ∧ b' q ≠ 0 ∧ (b' q ≤ 2 ↔ c ≤ 2)
      · rw [dg_cn_y z']; omega
      · rw [dg_cn_n z']; exact e
theorem lo_cc {b : Nat → Nat} {c c' s : Nat} (h : c ≤ 2 ↔ c' ≤ 2) : ∀ n q, dg_cn b c s n q = dg_cn b c' s n q := by
  intro n
  induction n with
  | zero => intro q; rfl
  | succ n ih =>
    intro q
    by_cases z : q ≠ s ∧ b q ≠ 0 ∧ (b q ≤ 2 ↔ c ≤ 2)
    · rw [dg_cn_y z, dg_cn_y (c := c') (by rw [← h]; exact z), ih]
    · rw [dg_cn_n z, dg_cn_n (c := c') (by rw [← h]; exact z), ih]
/-- how many pieces of a colour stand -/
def lo_t (b : Nat → Nat) (c : Nat) : Nat := dg_cn b c 32 32 0
theorem lo_t_at {b : Nat → Nat} {c s : Nat} (hs : s < 32) : lo_t b c = dg_cn b c s 32 0 + lo_w (b s) c := lo_split 32 0 (Nat.zero_le _) (by omega) (by omega)
theorem lo_t_u {b : Nat → Nat} {c s v : Nat} (hs : s < 32) : lo_t (dg_u b s v) c + lo_w (b s) c = lo_t b c + lo_w v c := by
  have e1 := lo_t_at (b := b) (c := c) hs
  have e2 := lo_t_at (b := dg_u b s v) (c := c) hs
  have e3 := lo_ign (b := dg_u b s v) (b' := b) (c := c) (s := s) 32 0 (fun r _ _ h => dg_un h)
  rw [dg_us] at e2
  omega
theorem lo_w_1 (v c : Nat) : lo_w v c ≤ 1 := by unfold lo_w; split <;> omega
theorem lo_w_0 (c : Nat) : lo_w 0 c = 0 := if_neg (fun z => z.1 rfl)
def lo_ok (b : Nat → Nat) : Prop := (∀ q, q < 32 → b q ≤ 4 ∧ dg_cro (b q) q = 0) ∧ lo_t b 1 ≤ 12 ∧ lo_t b 3 ≤ 12
theorem lo_t12 {b : Nat → Nat} (h : lo_ok b) (c : Nat) : lo_t b c ≤ 12 := by
  by_cases hc : c ≤ 2
  · have e : lo_t b c = lo_t b 1 := lo_cc (by omega) 32 0
    rw [e]; exact h.2.1
  · have e : lo_t b c = lo_t b 3 := lo_cc (by omega) 32 0
    rw [e]; exact h.2.2
theorem lo_place {b : Nat → Nat} {s c : Nat} (h : lo_ok b) (hs : s < 32) (hc : c ≤ 4) (hk : eg_can b s c) : lo_ok (dg_u b s c) := by
  have key : ∀ k, lo_t (dg_u b s c) k ≤ 12 := by
    intro k
    have e1 := lo_t_at (b := dg_u b s c) (c := k) hs
    have e3 := lo_ign (b := dg_u b s c) (b' := b) (c := k) (s := s) 32 0 (fun r _ _ h => dg_un h)
    have e4 := lo_t_at (b := b) (c := k) hs
    have e5 := lo_t12 h k
    rw [dg_us, e3] at e1
    by_cases z : c ≠ 0 ∧ (c ≤ 2 ↔ k ≤ 2)
    · have w : lo_w c k = 1 := if_pos z
      have cc := lo_cc (b := b) (s := s) z.2 32 0
      rcases hk.2 with y | y
      · exact absurd y z.1
      · omega
    · have w : lo_w c k = 0 := if_neg z
      omega
  refine ⟨fun q hq => ?_, key 1, key 3⟩
  by_cases e : q = s
  · subst e; rw [dg_us]; exact ⟨hc, hk.1⟩
  · rw [dg_un e]; exact h.1 q hq
theorem lo_ap {b : Nat → Nat} {e : Nat × (Nat → Nat)} (h : lo_ok b) (hE : dg_E e) : lo_ok (pb_ap b e.1 e.2) := by
  have h2 := hE.1
  have q0 := hE.2.2.1 0 (by omega)
  have ql := hE.2.2.1 (e.1 - 1) (by omega)
  have hC := dg_C2_c (q := e.2) h2
  have hb0 := h.1 _ q0
  -- taking never adds
  have tk : ∀ i, i ≤ e.1 - 1 → (∀ q, q < 32 → pb_tk (dg_u b (e.2 0) 0) e.2 i q = 0 ∨ pb_tk (dg_u b (e.2 0) 0) e.2 i q = b q) ∧ ∀ k, lo_t (pb_tk (dg_u b (e.2 0) 0) e.2 i) k + lo_w (b (e.2 0)) k ≤ lo_t b k := by
    intro i
    induction i with
    | zero =>
      intro _
      refine ⟨fun q hq => ?_, fun k => ?_⟩
      · show dg_u b (e.2 0) 0 q = 0 ∨ dg_u b (e.2 0) 0 q = b q
        by_cases z : q = e.2 0
        · rw [z, dg_us]; exact Or.inl rfl
        · rw [dg_un z]; exact Or.inr rfl
      · have := lo_t_u (b := b) (c := k) (s := e.2 0) (v := 0) q0
        rw [lo_w_0] at this
        show lo_t (dg_u b (e.2 0) 0) k + lo_w (b (e.2 0)) k ≤ lo_t b k
        omega
    | succ i ih =>
      intro hi
      have g := ih (by omega)
      have hm := dg_mid_lt (hE.2.2.1 i (by omega)) (hE.2.2.1 (i + 1) (by omega))
      refine ⟨fun q hq => ?_, fun k => ?_⟩
      · show dg_u (pb_tk (dg_u b (e.2 0) 0) e.2 i) (dg_mid (e.2 i) (e.2 (i + 1))) 0 q = 0 ∨ _
        by_cases z : q = dg_mid (e.2 i) (e.2 (i + 1))
        · rw [z, dg_us]; exact Or.inl rfl
        · rw [dg_un z]
          show pb_tk (dg_u b (e.2 0) 0) e.2 i q = 0 ∨ dg_u (pb_tk (dg_u b (e.2 0) 0) e.2 i) (dg_mid (e.2 i) (e.2 (i + 1))) 0 q = b q
          rw [dg_un z]
          exact g.1 q hq
      · have := lo_t_u (b := pb_tk (dg_u b (e.2 0) 0) e.2 i) (c := k) (s := dg_mid (e.2 i) (e.2 (i + 1))) (v := 0) hm
        rw [lo_w_0] at this
        have g2 := g.2 k
        show lo_t (dg_u (pb_tk (dg_u b (e.2 0) 0) e.2 i) (dg_mid (e.2 i) (e.2 (i + 1))) 0) k + lo_w (b (e.2 0)) k ≤ lo_t b k
        omega
  obtain ⟨t1, t2⟩ := tk (dg_C2 e.2 e.1) (by omega)
  have hcro : dg_cro (b (e.2 0)) (e.2 (e.1 - 1)) = 0 ∨ (dg_cro (b (e.2 0)) (e.2 (e.1 - 1)) = 1 ∧ (b (e.2 0) = 1 ∨ b (e.2 0) = 3)) := by
    unfold dg_cro
    split
    · right; exact ⟨rfl, by omega⟩
    · left; rfl
  have key : ∀ k, lo_t (pb_ap b e.1 e.2) k ≤ 12 := by
    intro k
    have u := lo_t_u (b := pb_tk (dg_u b (e.2 0) 0) e.2 (dg_C2 e.2 e.1)) (c := k) (s := e.2 (e.1 - 1)) (v := b (e.2 0) + dg_cro (b (e.2 0)) (e.2 (e.1 - 1))) ql
    have t3 := t2 k
    have t4 := lo_t12 h k
    have w : lo_w (b (e.2 0) + dg_cro (b (e.2 0)) (e.2 (e.1 - 1))) k ≤ lo_w (b (e.2 0)) k := by
      rcases hcro with y | ⟨y, y2⟩
      · rw [y]; exact Nat.le_refl _
      · rw [y]
        unfold lo_w
        by_cases z : b (e.2 0) + 1 ≠ 0 ∧ (b (e.2 0) + 1 ≤ 2 ↔ k ≤ 2)
        · rw [if_pos z, if_pos (by omega)]; exact Nat.le_refl _
        · rw [if_neg z]; exact Nat.zero_le _
    show lo_t (dg_u (pb_tk (dg_u b (e.2 0) 0) e.2 (dg_C2 e.2 e.1)) (e.2 (e.1 - 1)) (b (e.2 0) + dg_cro (b (e.2 0)) (e.2 (e.1 - 1)))) k ≤ 12
    omega
  refine ⟨fun q hq => ?_, key 1, key 3⟩
  show dg_u (pb_tk (dg_u b (e.2 0) 0) e.2 (dg_C2 e.2 e.1)) (e.2 (e.1 - 1)) (b (e.2 0) + dg_cro (b (e.2 0)) (e.2 (e.1 - 1))) q ≤ 4 ∧ dg_cro (dg_u (pb_tk (dg_u b (e.2 0) 0) e.2 (dg_C2 e.2 e.1)) (e.2 (e.1 - 1)) (b (e.2 0) + dg_cro (b (e.2 0)) (e.2 (e.1 - 1))) q) q = 0
  by_cases z : q = e.2 (e.1 - 1)
  · rw [z, dg_us]
    refine ⟨dg_cro_le hb0.1, ?_⟩
    rcases hcro with y | ⟨y, y2⟩
    · rw [y]; exact y
    · rw [y]
      unfold dg_cro
      exact if_neg (by omega)
  · rw [dg_un z]
    rcases t1 q hq with y | y
    · rw [y]; exact ⟨by omega, if_neg (by omega)⟩
    · rw [y]; exact h.1 q hq
theorem lo_start : ∀ q, q < 32 → eg_B0 0 q ≤ 4 ∧ dg_cro (eg_B0 0 q) q = 0 := by decide +kernel
theorem lo_start1 : lo_t (eg_B0 0) 1 ≤ 12 := by decide +kernel
theorem lo_start3 : lo_t (eg_B0 0) 3 ≤ 12 := by decide +kernel
theorem lo_empty : ∀ q, q < 32 → eg_B0 1 q ≤ 4 ∧ dg_cro (eg_B0 1 q) q = 0 := by decide +kernel
theorem lo_empty1 : lo_t (eg_B0 1) 1 ≤ 12 := by decide +kernel
theorem lo_empty3 : lo_t (eg_B0 1) 3 ≤ 12 := by decide +kernel
theorem lo_ok0 : lo_ok (eg_B0 0) := ⟨lo_start, lo_start1, lo_start3⟩
theorem lo_ok1 : lo_ok (eg_B0 1) := ⟨lo_empty, lo_empty1, lo_empty3⟩
/-- a position laid anew: the same board and side, the counter from nought -/
def pr_R (c0 lv : Nat) (Q P : pp_Pos) : Prop := (∀ n, n < 32 → Q.1 n = P.1 n) ∧ Q.2.1 = P.2.1 ∧ ((Q.2.2 = nI lv ∧ P.2.2 = nI (c0 + lv)) ∨ ∃ m, m < lv ∧ Q.2.2 = nI m ∧ P.2.2 = nI m)
theorem pr_ls {c0 lv : Nat} {Q P : pp_Pos} (h : pr_R c0 lv Q P) : pp_ls Q = pp_ls P := by
  unfold pp_ls
  rw [h.2.1, pv_ls_congr h.1]
theorem pr_mv {c0 lv : Nat} {Q P : pp_Pos} (h : pr_R c0 lv Q P) (i : Nat) : pp_mv Q i = pp_mv P i := by
  unfold pp_mv
  rw [pr_ls h]
theorem pr_ap {c0 lv i : Nat} {Q P : pp_Pos} (h : pr_R c0 lv Q P) (hi : i < (pp_ls P).length) : pr_R c0 (lv + 1) (pp_ap Q (pp_mv Q i)) (pp_ap P (pp_mv P i)) := by
  rw [pr_mv h i]
  have hE := (pp_mv_E hi).1
  have q0 := hE.2.2.1 0 (by have := hE.1; omega)
  have g := pb_ap_congr (b := Q.1) (b' := P.1) (q := (pp_mv P i).2) (q' := (pp_mv P i).2) (L := (pp_mv P i).1) h.1 hE.1 (fun _ _ => rfl) q0
  refine ⟨g.1, ?_, ?_⟩
  · show (if Q.2.1 = 0 then (1 : Int32) else 0) = (if P.2.1 = 0 then 1 else 0)
    rw [h.2.1]
  · show ((if 0 < dg_C2 (pp_mv P i).2 (pp_mv P i).1 ∨ Q.1 ((pp_mv P i).2 0) = 1 ∨ Q.1 ((pp_mv P i).2 0) = 3 then 0 else Q.2.2 + 1) = nI (lv + 1) ∧ (if 0 < dg_C2 (pp_mv P i).2 (pp_mv P i).1 ∨ P.1 ((pp_mv P i).2 0) = 1 ∨ P.1 ((pp_mv P i).2 0) = 3 then 0 else P.2.2 + 1) = nI (c0 + (lv + 1))) ∨ ∃ m, m < lv + 1 ∧ (if 0 < dg_C2 (pp_mv P i).2 (pp_mv P i).1 ∨ Q.1 ((pp_mv P i).2 0) = 1 ∨ Q.1 ((pp_mv P i).2 0) = 3 then 0 else Q.2.2 + 1) = nI m ∧ (if 0 < dg_C2 (pp_mv P i).2 (pp_mv P i).1 ∨ P.1 ((pp_mv P i).2 0) = 1 ∨ P.1 ((pp_mv P i).2 0) = 3 then 0 else P.2.2 + 1) = nI m
    rw [g.2.2]
    by_cases z : 0 < dg_C2 (pp_mv P i).2 (pp_mv P i).1 ∨ P.1 ((pp_mv P i).2 0) = 1 ∨ P.1 ((pp_mv P i).2 0) = 3
    · rw [if_pos z, if_pos z]
      exact Or.inr ⟨0, by omega, rfl, rfl⟩
    · rw [if_neg z, if_neg z]
      rcases h.2.2 with ⟨y1, y2⟩ | ⟨m, y0, y1, y2⟩
      · rw [y1, y2]
        exact Or.inl ⟨nI_1 lv, nI_1 (c0 + lv)⟩
      · rw [y1, y2]
        exact Or.inr ⟨m + 1, by omega, nI_1 m, nI_1 m⟩
