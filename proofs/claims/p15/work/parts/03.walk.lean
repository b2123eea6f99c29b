def dg_u (f : Nat → Nat) (k x : Nat) : Nat → Nat := fun i => if i = k then x else f i
theorem dg_us {f : Nat → Nat} {k x : Nat} : dg_u f k x k = x := if_pos rfl
theorem dg_un {f : Nat → Nat} {k x i : Nat} (h : i ≠ k) : dg_u f k x i = f i := if_neg h
def dg_P (b : Nat → Nat) (J : Nat → Int32) (c s0 q d : Nat) : Prop :=
  dg_ok c d ∧ dg_T q d < 32 ∧ dg_T (dg_T q d) d < 32 ∧ J (dg_T q d) = 0 ∧ (¬ b (dg_T q d) = 0 ∧ ¬ (b (dg_T q d) ≤ 2 ↔ c ≤ 2)) ∧ (b (dg_T (dg_T q d) d) = 0 ∨ dg_T (dg_T q d) d = s0)
def dg_DR (c q x y : Nat) : Prop := dg_fst c ≤ x ∧ x ≤ 4 ∧ y ≤ 4 ∧ (x = y ∨ (y = 0 ∧ x = dg_fst c) ∨ (y = 0 ∧ x = 4 ∧ dg_cr c q))
theorem dg_DR_sc {b : Nat → Nat} {J : Nat → Int32} {c s0 q x y : Nat} (hq : q < 32) (h : dg_DR c q x y) : dg_sc (dg_P b J c s0 q) (4 - x) x = dg_sc (dg_P b J c s0 q) (4 - y) y := by
  obtain ⟨h0, h4, hy, h⟩ := h
  rcases h with rfl | ⟨rfl, rfl⟩ | ⟨rfl, rfl, h⟩
  · rfl
  · refine (dg_sc_two (Nat.zero_le _) h4 fun e _ he hP => ?_).symm
    have ho := hP.1.1
    unfold dg_fst at he
    split at he
    · have := ho ‹_›; omega
    · omega
  · refine (dg_sc_two (Nat.zero_le _) h4 fun e _ he hP => ?_).symm
    exact dg_cr_none hq he h hP.1 hP.2.1
def dg_I (c s0 k : Nat) (q j x y : Nat → Nat) (J : Nat → Int32) : Prop :=
  q 0 = s0 ∧ (∀ i, i ≤ k → q i < 32 ∧ q i / 4 % 2 = s0 / 4 % 2 ∧ dg_DR c (q i) (x i) (y i)) ∧
  (∀ i, i < k → j i ∈ dg_C (s0 / 4 % 2) ∧ dg_D2 (q i) (q (i + 1)) ∧ ¬ J (j i) = 0 ∧ ∀ i', i' < i → j i' ≠ j i) ∧
  (∀ n, n < 32 → ¬ J n = 0 → ∃ i, i < k ∧ j i = n) ∧ dg_cnt J (dg_C (s0 / 4 % 2)) = k
theorem dg_I_k {c s0 k : Nat} {q j x y : Nat → Nat} {J : Nat → Int32} (h : dg_I c s0 k q j x y J) : k ≤ 9 := by
  obtain ⟨_, _, _, _, h⟩ := h
  have := dg_cnt_le J (dg_C (s0 / 4 % 2))
  rw [dg_C_len] at this
  omega
theorem dg_fst_ok {c d : Nat} (h : dg_ok c d) : dg_fst c ≤ d := by
  unfold dg_fst
  split
  · exact h.1 ‹_›
  · exact Nat.zero_le _
theorem dg_fst_le (c : Nat) : dg_fst c ≤ 2 := by unfold dg_fst; split <;> omega
theorem dg_I_push {b : Nat → Nat} {c s0 k D x' : Nat} {q j x y : Nat → Nat} {J : Nat → Int32} (h : dg_I c s0 k q j x y J) (hD : D < 4) (hP : dg_P b J c s0 (q k) D)
    (hx' : (dg_cr c (dg_T (dg_T (q k) D) D) ∧ x' = 4) ∨ (¬ dg_cr c (dg_T (dg_T (q k) D) D) ∧ x' = dg_fst c)) :
    k ≤ 8 ∧ dg_I c s0 (k + 1) (dg_u q (k + 1) (dg_T (dg_T (q k) D) D)) (dg_u j k (dg_T (q k) D)) (dg_u (dg_u x k (D + 1)) (k + 1) x') (dg_u (dg_u y k (D + 1)) (k + 1) 0) (upd J (dg_T (q k) D) 1) := by
  obtain ⟨h1, h2, h3, h4, h5⟩ := h
  obtain ⟨p1, p2, p3, p4, p5, p6⟩ := hP
  obtain ⟨hq, hpar, hdr⟩ := h2 k (Nat.le_refl k)
  obtain ⟨g1, g2, g3⟩ := dg_jump (q k) hq D hD p2 p3
  rw [hpar] at g1 g2
  have hc := dg_cnt_up J (dg_T (q k) D) _ g1 (dg_C_nd _) p4
  have hl := dg_cnt_le (upd J (dg_T (q k) D) 1) (dg_C (s0 / 4 % 2))
  rw [dg_C_len] at hl
  have hf := dg_fst_ok p1
  have hf2 := dg_fst_le c
  refine ⟨by omega, ?_, ?_, ?_, ?_, by omega⟩
  · rw [dg_un (by omega)]; exact h1
  · intro i hi
    by_cases e : i = k + 1
    · subst e
      rw [dg_us, dg_us, dg_us]
      refine ⟨p3, g2, ?_, ?_, by omega, ?_⟩
      · rcases hx' with ⟨_, r⟩ | ⟨_, r⟩ <;> omega
      · rcases hx' with ⟨_, r⟩ | ⟨_, r⟩ <;> omega
      · rcases hx' with ⟨r1, r⟩ | ⟨_, r⟩
        · exact Or.inr (Or.inr ⟨rfl, r, r1⟩)
        · exact Or.inr (Or.inl ⟨rfl, r⟩)
    · rw [dg_un e, dg_un e, dg_un e]
      by_cases e2 : i = k
      · subst e2
        rw [dg_us, dg_us]
        exact ⟨hq, hpar, by omega, by omega, by omega, Or.inl rfl⟩
      · rw [dg_un e2, dg_un e2]
        exact h2 i (by omega)
  · intro i hi
    by_cases e : i = k
    · subst e
      rw [dg_us, dg_us, dg_un (by omega), pk_us]
      refine ⟨g1, g3, by decide, fun i' hi' => ?_⟩
      rw [dg_un (by omega)]
      intro e
      have := (h3 i' hi').2.2.1
      rw [e] at this
      exact this p4
    · have hik : i < k := by omega
      obtain ⟨a1, a2, a3, a4⟩ := h3 i hik
      rw [dg_un e, dg_un (k := k + 1) (i := i) (by omega), dg_un (k := k + 1) (i := i + 1) (by omega)]
      refine ⟨a1, a2, ?_, fun i' hi' => ?_⟩
      · by_cases e2 : j i = dg_T (q k) D
        · rw [e2] at a3; exact absurd p4 a3
        · rw [pk_un e2]; exact a3
      · rw [dg_un (by omega)]; exact a4 i' hi'
  · intro n hn hJ
    by_cases e : n = dg_T (q k) D
    · exact ⟨k, by omega, by rw [dg_us]; exact e.symm⟩
    · rw [pk_un e] at hJ
      obtain ⟨i, hi, e2⟩ := h4 n hn hJ
      exact ⟨i, by omega, by rw [dg_un (by omega)]; exact e2⟩
theorem dg_I_pop {c s0 k : Nat} {q j x y : Nat → Nat} {J : Nat → Int32} (h : dg_I c s0 (k + 1) q j x y J) : dg_I c s0 k q j x y (upd J (j k) 0) := by
  obtain ⟨h1, h2, h3, h4, h5⟩ := h
  obtain ⟨b1, b2, b3, b4⟩ := h3 k (by omega)
  have hc := dg_cnt_dn J (j k) _ b1 (dg_C_nd _) b3
  refine ⟨h1, fun i hi => h2 i (by omega), fun i hi => ?_, fun n hn hJ => ?_, by omega⟩
  · obtain ⟨a1, a2, a3, a4⟩ := h3 i (by omega)
    refine ⟨a1, a2, ?_, a4⟩
    rw [pk_un (b4 i hi)]; exact a3
  · by_cases e : n = j k
    · subst e; rw [pk_us] at hJ; exact absurd rfl hJ
    · rw [pk_un e] at hJ
      obtain ⟨i, hi, e2⟩ := h4 n hn hJ
      by_cases e3 : i = k
      · subst e3; exact absurd e2.symm e
      · exact ⟨i, by omega, e2⟩
def dg_W : Nat → Nat
  | 0 => 0
  | n + 1 => 2 + 4 * dg_W n
def dg_ps (x : Nat → Nat) : Nat → Nat
  | 0 => 0
  | k + 1 => dg_ps x k + (dg_W (9 - k) * (4 - x k) + 1)
theorem dg_ps_congr {x x' : Nat → Nat} (k : Nat) (h : ∀ i, i < k → x i = x' i) : dg_ps x k = dg_ps x' k := by
  induction k with
  | zero => rfl
  | succ k ih =>
    show dg_ps x k + (dg_W (9 - k) * (4 - x k) + 1) = dg_ps x' k + (dg_W (9 - k) * (4 - x' k) + 1)
    rw [ih (fun i hi => h i (by omega)), h k (by omega)]
theorem dg_ps_pos (x : Nat → Nat) (k : Nat) : dg_ps x k + 1 ≤ dg_ps x (k + 1) := by
  show dg_ps x k + 1 ≤ dg_ps x k + (dg_W (9 - k) * (4 - x k) + 1)
  omega
theorem dg_ps_0 (x : Nat → Nat) : dg_ps x 1 ≤ 699049 := by
  have e : dg_W 9 = 174762 := rfl
  show 0 + (dg_W 9 * (4 - x 0) + 1) ≤ 699049
  rw [e]
  omega
theorem dg_ps_push {x : Nat → Nat} {k D x' : Nat} (hk : k ≤ 8) (hx : x k ≤ D) (hD : D < 4) : dg_ps (dg_u (dg_u x k (D + 1)) (k + 1) x') (k + 2) + 1 ≤ dg_ps x (k + 1) := by
  have e1 : dg_ps (dg_u (dg_u x k (D + 1)) (k + 1) x') k = dg_ps x k := dg_ps_congr k (fun i hi => by rw [dg_un (by omega), dg_un (by omega)])
  have e2 : dg_W (9 - k) = 2 + 4 * dg_W (9 - (k + 1)) := by
    have : 9 - k = (9 - (k + 1)) + 1 := by omega
    rw [this]; rfl
  show dg_ps (dg_u (dg_u x k (D + 1)) (k + 1) x') k + (dg_W (9 - k) * (4 - dg_u (dg_u x k (D + 1)) (k + 1) x' k) + 1) + (dg_W (9 - (k + 1)) * (4 - dg_u (dg_u x k (D + 1)) (k + 1) x' (k + 1)) + 1) + 1 ≤ dg_ps x k + (dg_W (9 - k) * (4 - x k) + 1)
  rw [e1, dg_us, dg_un (by omega), dg_us, e2]
  generalize dg_W (9 - (k + 1)) = w
  have m1 : w * (4 - x') ≤ w * 4 := Nat.mul_le_mul_left w (by omega)
  have m2 : (2 + 4 * w) * ((4 - (D + 1)) + 1) ≤ (2 + 4 * w) * (4 - x k) := Nat.mul_le_mul_left _ (by omega)
  rw [Nat.mul_add] at m2
  omega
def dg_AX (k : Nat) (q j x : Nat → Nat) (w p jx nd wo : Nat → Int32) : Prop :=
  (∀ i, i ≤ k → p i = nI (q i) ∧ nd i = nI (x i) ∧ wo i = w i) ∧ (∀ i, i < k → jx (i + 1) = nI (j i))
def dg_AY (k : Nat) (q j y : Nat → Nat) (w ps dr cp ex : Nat → Int32) : Prop :=
  (∀ i, i ≤ k → ps i = nI (q i) ∧ dr i = nI (y i) ∧ (1 ≤ i → ex i = w i)) ∧ (∀ i, i < k → cp i = nI (j i))
theorem dg_AX_push {k D n l x' : Nat} {q j x : Nat → Nat} {w p jx nd wo : Nat → Int32} (h : dg_AX k q j x w p jx nd wo) :
    dg_AX (k + 1) (dg_u q (k + 1) l) (dg_u j k n) (dg_u (dg_u x k (D + 1)) (k + 1) x') (upd (upd w k 1) (k + 1) 0)
      (upd p (k + 1) (nI l)) (upd jx (k + 1) (nI n)) (upd (upd nd k (nI (D + 1))) (k + 1) (nI x')) (upd (upd wo k 1) (k + 1) 0) := by
  obtain ⟨h1, h2⟩ := h
  refine ⟨fun i hi => ?_, fun i hi => ?_⟩
  · by_cases e : i = k + 1
    · subst e
      rw [dg_us, dg_us, pk_us, pk_us, pk_us, pk_us]
      exact ⟨rfl, rfl, rfl⟩
    · rw [dg_un e, dg_un e, pk_un e, pk_un e, pk_un e, pk_un e]
      by_cases e2 : i = k
      · subst e2
        rw [dg_us, pk_us, pk_us, pk_us]
        exact ⟨(h1 i (Nat.le_refl i)).1, rfl, rfl⟩
      · rw [dg_un e2, pk_un e2, pk_un e2, pk_un e2]
        exact h1 i (by omega)
  · by_cases e : i = k
    · subst e
      rw [dg_us, pk_us]
    · rw [dg_un e, pk_un (by omega)]
      exact h2 i (by omega)
theorem dg_AY_push {k D n l : Nat} {q j y : Nat → Nat} {w ps dr cp ex : Nat → Int32} (h : dg_AY k q j y w ps dr cp ex) :
    dg_AY (k + 1) (dg_u q (k + 1) l) (dg_u j k n) (dg_u (dg_u y k (D + 1)) (k + 1) 0) (upd (upd w k 1) (k + 1) 0)
      (upd ps (k + 1) (nI l)) (upd (upd dr k (nI (D + 1))) (k + 1) 0) (upd cp k (nI n)) (upd (upd ex k 1) (k + 1) 0) := by
  obtain ⟨h1, h2⟩ := h
  refine ⟨fun i hi => ?_, fun i hi => ?_⟩
  · by_cases e : i = k + 1
    · subst e
      rw [dg_us, dg_us, pk_us, pk_us, pk_us, pk_us]
      exact ⟨rfl, nI_0.symm, fun _ => rfl⟩
    · rw [dg_un e, dg_un e, pk_un e, pk_un e, pk_un e, pk_un e]
      by_cases e2 : i = k
      · subst e2
        rw [dg_us, pk_us, pk_us, pk_us]
        exact ⟨(h1 i (Nat.le_refl i)).1, rfl, fun _ => rfl⟩
      · rw [dg_un e2, pk_un e2, pk_un e2, pk_un e2]
        exact h1 i (by omega)
  · by_cases e : i = k
    · subst e
      rw [dg_us, pk_us]
    · rw [dg_un e, pk_un e]
      exact h2 i (by omega)
theorem dg_AX_pop {k : Nat} {q j x : Nat → Nat} {w p jx nd wo : Nat → Int32} (h : dg_AX (k + 1) q j x w p jx nd wo) : dg_AX k q j x w p jx nd wo :=
  ⟨fun i hi => h.1 i (by omega), fun i hi => h.2 i (by omega)⟩
theorem dg_AY_pop {k : Nat} {q j y : Nat → Nat} {w ps dr cp ex : Nat → Int32} (h : dg_AY (k + 1) q j y w ps dr cp ex) : dg_AY k q j y w ps dr cp ex :=
  ⟨fun i hi => h.1 i (by omega), fun i hi => h.2 i (by omega)⟩
theorem dg_w0 {w : Nat → Int32} {k : Nat} (h : ¬ w 0 = 0) : ¬ upd (upd w k 1) (k + 1) 0 0 = 0 := by
  rw [pk_un (by omega)]
  by_cases e : 0 = k
  · subst e; rw [pk_us]; decide
  · rw [pk_un e]; exact h
def dg_x0 (c l : Nat) : Nat := if (c = 1 ∧ 28 ≤ l) ∨ (c = 3 ∧ l < 4) then 4 else dg_fst c
theorem dg_x0_c (c l : Nat) : (dg_cr c l ∧ dg_x0 c l = 4) ∨ (¬ dg_cr c l ∧ dg_x0 c l = dg_fst c) := by
  unfold dg_x0
  split
  · exact Or.inl ⟨‹_›, rfl⟩
  · exact Or.inr ⟨‹_›, rfl⟩
theorem dg_x0_le (c l : Nat) : dg_x0 c l ≤ 4 := by
  have := dg_fst_le c
  unfold dg_x0
  split <;> omega
noncomputable def dg_D (b : Nat → Nat) (c s0 : Nat) (J : Nat → Int32) (q x : Nat) : Nat := dg_sc (dg_P b J c s0 q) (4 - x) x
noncomputable def dg_run (b : Nat → Nat) (c s0 : Nat) : Nat → Nat → (Nat → Nat) → (Nat → Nat) → (Nat → Nat) → (Nat → Int32) → (Nat → Int32) → List (Nat × (Nat → Nat))
  | 0, _, _, _, _, _, _ => []
  | _ + 1, 0, _, _, _, _, _ => []
  | n + 1, k + 1, q, j, x, w, J =>
    if dg_D b c s0 J (q k) (x k) < 4 then
      dg_run b c s0 n (k + 2) (dg_u q (k + 1) (dg_T (dg_T (q k) (dg_D b c s0 J (q k) (x k))) (dg_D b c s0 J (q k) (x k)))) (dg_u j k (dg_T (q k) (dg_D b c s0 J (q k) (x k))))
        (dg_u (dg_u x k (dg_D b c s0 J (q k) (x k) + 1)) (k + 1) (dg_x0 c (dg_T (dg_T (q k) (dg_D b c s0 J (q k) (x k))) (dg_D b c s0 J (q k) (x k)))))
        (upd (upd w k 1) (k + 1) 0) (upd J (dg_T (q k) (dg_D b c s0 J (q k) (x k))) 1)
    else (if w k = 0 then [(k + 1, q)] else []) ++ dg_run b c s0 n k q j x w (if k = 0 then J else upd J (j (k - 1)) 0)
theorem dg_run_0 {b : Nat → Nat} {c s0 n : Nat} {q j x : Nat → Nat} {w J : Nat → Int32} : dg_run b c s0 n 0 q j x w J = [] := by
  cases n <;> rw [dg_run]
theorem dg_run_push {b : Nat → Nat} {c s0 n k D : Nat} {q j x : Nat → Nat} {w J : Nat → Int32} (e : dg_D b c s0 J (q k) (x k) = D) (h : D < 4) : dg_run b c s0 (n + 1) (k + 1) q j x w J =
    dg_run b c s0 n (k + 2) (dg_u q (k + 1) (dg_T (dg_T (q k) D) D)) (dg_u j k (dg_T (q k) D)) (dg_u (dg_u x k (D + 1)) (k + 1) (dg_x0 c (dg_T (dg_T (q k) D) D))) (upd (upd w k 1) (k + 1) 0) (upd J (dg_T (q k) D) 1) := by
  subst e
  rw [dg_run, if_pos h]
theorem dg_run_pop {b : Nat → Nat} {c s0 n k : Nat} {q j x : Nat → Nat} {w J : Nat → Int32} (h : ¬ dg_D b c s0 J (q k) (x k) < 4) : dg_run b c s0 (n + 1) (k + 1) q j x w J =
    (if w k = 0 then [(k + 1, q)] else []) ++ dg_run b c s0 n k q j x w (if k = 0 then J else upd J (j (k - 1)) 0) := by
  rw [dg_run, if_neg h]
def dg_K (c s0 k1 : Nat) (q j x y : Nat → Nat) (w J : Nat → Int32) : Prop := ∀ k, k1 = k + 1 → dg_I c s0 k q j x y J ∧ ¬ w 0 = 0
theorem dg_K_push {b : Nat → Nat} {c s0 k D : Nat} {q j x y : Nat → Nat} {w J : Nat → Int32} (h : dg_K c s0 (k + 1) q j x y w J) (e : dg_D b c s0 J (q k) (x k) = D) (hD : D < 4) :
    dg_P b J c s0 (q k) D ∧ x k ≤ D ∧ k ≤ 8 ∧ dg_K c s0 (k + 2) (dg_u q (k + 1) (dg_T (dg_T (q k) D) D)) (dg_u j k (dg_T (q k) D)) (dg_u (dg_u x k (D + 1)) (k + 1) (dg_x0 c (dg_T (dg_T (q k) D) D))) (dg_u (dg_u y k (D + 1)) (k + 1) 0) (upd (upd w k 1) (k + 1) 0) (upd J (dg_T (q k) D) 1) := by
  obtain ⟨hI, hw⟩ := h k rfl
  have hx := (hI.2.1 k (Nat.le_refl k)).2.2
  have g1 := dg_sc_ge (dg_P b J c s0 (q k)) (4 - x k) (x k)
  have g2 := dg_sc_hit (dg_P b J c s0 (q k)) (4 - x k) (x k)
  have e' : dg_sc (dg_P b J c s0 (q k)) (4 - x k) (x k) = D := e
  rw [e'] at g1 g2
  have hP := g2 (by have := hx.2.1; omega)
  obtain ⟨hk, hI'⟩ := dg_I_push hI hD hP (dg_x0_c c _)
  refine ⟨hP, g1.1, hk, fun k' hk' => ?_⟩
  obtain rfl : k' = k + 1 := by omega
  exact ⟨hI', dg_w0 hw⟩
theorem dg_K_pop {c s0 k : Nat} {q j x y : Nat → Nat} {w J : Nat → Int32} (h : dg_K c s0 (k + 1) q j x y w J) : dg_K c s0 k q j x y w (if k = 0 then J else upd J (j (k - 1)) 0) := by
  intro k' e
  subst e
  obtain ⟨hI, hw⟩ := h _ rfl
  rw [if_neg (by omega)]
  exact ⟨dg_I_pop hI, hw⟩
def dg_E (e : Nat × (Nat → Nat)) : Prop := 2 ≤ e.1 ∧ e.1 ≤ 13 ∧ (∀ k, k < e.1 → e.2 k < 32) ∧ ((∀ k, k + 1 < e.1 → dg_D2 (e.2 k) (e.2 (k + 1))) ∨ (e.1 = 2 ∧ ¬ dg_D2 (e.2 0) (e.2 1)))
theorem dg_run_E (b : Nat → Nat) (c s0 : Nat) : ∀ (n k1 : Nat) (q j x y : Nat → Nat) (w J : Nat → Int32), dg_K c s0 k1 q j x y w J → ∀ e, e ∈ dg_run b c s0 n k1 q j x w J → dg_E e := by
  intro n
  induction n with
  | zero => intro k1 q j x y w J _ e he; rw [dg_run] at he; exact absurd he List.not_mem_nil
  | succ n ih =>
    intro k1 q j x y w J h e he
    cases k1 with
    | zero => rw [dg_run_0] at he; exact absurd he List.not_mem_nil
    | succ k =>
      by_cases hD : dg_D b c s0 J (q k) (x k) < 4
      · rw [dg_run_push rfl hD] at he
        exact ih _ _ _ _ _ _ _ (dg_K_push h rfl hD).2.2.2 e he
      · rw [dg_run_pop hD] at he
        rcases List.mem_append.mp he with he | he
        · obtain ⟨hI, hw⟩ := h k rfl
          by_cases hk : w k = 0
          · rw [if_pos hk] at he
            obtain rfl := List.mem_singleton.mp he
            have h9 := dg_I_k hI
            have hk0 : k ≠ 0 := fun z => hw (z ▸ hk)
            refine ⟨by show 2 ≤ k + 1; omega, by show k + 1 ≤ 13; omega, fun i hi => (hI.2.1 i ?_).1, Or.inl fun i hi => (hI.2.2.1 i ?_).2.1⟩
            · have : i < k + 1 := hi
              omega
            · have : i + 1 < k + 1 := hi
              omega
          · rw [if_neg hk] at he; exact absurd he List.not_mem_nil
        · exact ih _ _ _ _ _ _ _ (dg_K_pop h) e he
