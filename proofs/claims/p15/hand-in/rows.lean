section
def dg_T (s d : Nat) : Nat :=
  if (d < 2 ∧ s / 4 = 0) ∨ (¬ d < 2 ∧ s / 4 = 7) then 32
  else if d % 2 = 0 then (if 2 * (s % 4) + (if s / 4 % 2 = 0 then 1 else 0) = 0 then 32 else (if d < 2 then s / 4 - 1 else s / 4 + 1) * 4 + (2 * (s % 4) + (if s / 4 % 2 = 0 then 1 else 0) - 1) / 2)
  else (if 2 * (s % 4) + (if s / 4 % 2 = 0 then 1 else 0) = 7 then 32 else (if d < 2 then s / 4 - 1 else s / 4 + 1) * 4 + (2 * (s % 4) + (if s / 4 % 2 = 0 then 1 else 0) + 1) / 2)
def dg_enc (n : Nat) : Int32 := if n < 32 then nI n else -1
def dg_D2 (a b : Nat) : Prop := a / 4 + 2 = b / 4 ∨ b / 4 + 2 = a / 4
def dg_C (p : Nat) : List Nat := if p = 0 then [5, 6, 7, 13, 14, 15, 21, 22, 23] else [8, 9, 10, 16, 17, 18, 24, 25, 26]
def dg_ok (c d : Nat) : Prop := (c = 1 → 2 ≤ d) ∧ (c = 3 → d < 2)
def dg_cr (c s : Nat) : Prop := (c = 1 ∧ 28 ≤ s) ∨ (c = 3 ∧ s < 4)
def dg_fst (c : Nat) : Nat := if c = 1 then 2 else 0
def dg_end (c : Nat) : Nat := if c = 3 then 2 else 4
theorem dg_enc_lt {n : Nat} (h : n < 32) : dg_enc n = nI n := if_pos h
theorem dg_enc_ge {n : Nat} (h : ¬ n < 32) : dg_enc n = -1 := if_neg h
theorem dg_enc_n : ∀ n, n < 32 → ¬ nI n = -1 ∧ ¬ nI n < 0 := by decide +kernel
theorem dg_jump1 : ∀ s, s < 32 → ∀ d, d < 4 → dg_T s d < 32 → dg_T (dg_T s d) d < 32 → (dg_C (s / 4 % 2)).contains (dg_T s d) = true := by decide +kernel
theorem dg_jump2 : ∀ s, s < 32 → ∀ d, d < 4 → dg_T s d < 32 → dg_T (dg_T s d) d < 32 → dg_T (dg_T s d) d / 4 % 2 = s / 4 % 2 := by decide +kernel
theorem dg_jump3 : ∀ s, s < 32 → ∀ d, d < 4 → dg_T s d < 32 → dg_T (dg_T s d) d < 32 → (s / 4 + 2 = dg_T (dg_T s d) d / 4 ∨ dg_T (dg_T s d) d / 4 + 2 = s / 4) := by decide +kernel
theorem dg_jump (s : Nat) (hs : s < 32) (d : Nat) (hd : d < 4) (h1 : dg_T s d < 32) (h2 : dg_T (dg_T s d) d < 32) : dg_T s d ∈ dg_C (s / 4 % 2) ∧ dg_T (dg_T s d) d / 4 % 2 = s / 4 % 2 ∧ (s / 4 + 2 = dg_T (dg_T s d) d / 4 ∨ dg_T (dg_T s d) d / 4 + 2 = s / 4) :=
  ⟨List.contains_iff_mem.mp (dg_jump1 s hs d hd h1 h2), dg_jump2 s hs d hd h1 h2, dg_jump3 s hs d hd h1 h2⟩
theorem dg_step1 : ∀ s, s < 32 → ∀ d, d < 4 → dg_T s d < 32 → ¬ (s / 4 + 2 = dg_T s d / 4 ∨ dg_T s d / 4 + 2 = s / 4) := by decide +kernel
theorem dg_crB : ∀ s, s < 32 → ∀ d, d < 4 → 28 ≤ s → 2 ≤ d → ¬ dg_T s d < 32 := by decide +kernel
theorem dg_crW : ∀ s, s < 32 → ∀ d, d < 4 → s < 4 → d < 2 → ¬ dg_T s d < 32 := by decide +kernel
theorem dg_cr_none {c s d : Nat} (hs : s < 32) (hd : d < 4) (h : dg_cr c s) (ho : dg_ok c d) : ¬ dg_T s d < 32 := by
  rcases h with ⟨rfl, h⟩ | ⟨rfl, h⟩
  · exact dg_crB s hs d hd h (ho.1 rfl)
  · exact dg_crW s hs d hd h (ho.2 rfl)
theorem dg_C_nd (p : Nat) : (dg_C p).Nodup := by
  unfold dg_C; split <;> decide
theorem dg_C_len (p : Nat) : (dg_C p).length = 9 := by
  unfold dg_C; split <;> rfl
theorem dg_C_lt (p n : Nat) (h : n ∈ dg_C p) : n < 32 := by
  unfold dg_C at h; split at h <;> simp only [List.mem_cons, List.not_mem_nil, or_false] at h <;> omega
def dg_cnt (J : Nat → Int32) : List Nat → Nat
  | [] => 0
  | n :: t => (if J n = 0 then 0 else 1) + dg_cnt J t
theorem dg_cnt_le (J : Nat → Int32) (l : List Nat) : dg_cnt J l ≤ l.length := by
  induction l with
  | nil => exact Nat.le_refl _
  | cons n t ih =>
    show (if J n = 0 then 0 else 1) + dg_cnt J t ≤ t.length + 1
    split <;> omega
theorem dg_cnt_un (J : Nat → Int32) (n : Nat) (x : Int32) (l : List Nat) (h : n ∉ l) : dg_cnt (upd J n x) l = dg_cnt J l := by
  induction l with
  | nil => rfl
  | cons a t ih =>
    have ha : a ≠ n := fun e => h (e ▸ List.mem_cons_self)
    have ht : n ∉ t := fun e => h (List.mem_cons_of_mem a e)
    show (if upd J n x a = 0 then 0 else 1) + dg_cnt (upd J n x) t = (if J a = 0 then 0 else 1) + dg_cnt J t
    rw [pk_un ha, ih ht]
theorem dg_cnt_up (J : Nat → Int32) (n : Nat) (l : List Nat) (h : n ∈ l) (hd : l.Nodup) (hJ : J n = 0) : dg_cnt (upd J n 1) l = dg_cnt J l + 1 := by
  induction l with
  | nil => exact absurd h List.not_mem_nil
  | cons a t ih =>
    have hn := List.nodup_cons.mp hd
    show (if upd J n 1 a = 0 then 0 else 1) + dg_cnt (upd J n 1) t = (if J a = 0 then 0 else 1) + dg_cnt J t + 1
    by_cases e : a = n
    · subst e
      rw [pk_us, dg_cnt_un J a 1 t hn.1, if_pos hJ, if_neg (by decide)]
      omega
    · rw [pk_un e, ih (by
        rcases List.mem_cons.mp h with h1 | h1
        · exact absurd h1.symm e
        · exact h1) hn.2]
      omega
theorem dg_cnt_dn (J : Nat → Int32) (n : Nat) (l : List Nat) (h : n ∈ l) (hd : l.Nodup) (hJ : ¬ J n = 0) : dg_cnt (upd J n 0) l + 1 = dg_cnt J l := by
  induction l with
  | nil => exact absurd h List.not_mem_nil
  | cons a t ih =>
    have hn := List.nodup_cons.mp hd
    show (if upd J n 0 a = 0 then 0 else 1) + dg_cnt (upd J n 0) t + 1 = (if J a = 0 then 0 else 1) + dg_cnt J t
    by_cases e : a = n
    · subst e
      rw [pk_us, dg_cnt_un J a 0 t hn.1, if_neg hJ, if_pos rfl]
      omega
    · rw [pk_un e]
      have := ih (by
        rcases List.mem_cons.mp h with h1 | h1
        · exact absurd h1.symm e
        · exact h1) hn.2
      omega
noncomputable def dg_sc (P : Nat → Prop) : Nat → Nat → Nat
  | 0, d => d
  | n + 1, d => @ite _ (P d) (Classical.propDecidable _) d (dg_sc P n (d + 1))
theorem dg_sc_y {P : Nat → Prop} {n d : Nat} (h : P d) : dg_sc P (n + 1) d = d := by
  unfold dg_sc; rw [if_pos h]
theorem dg_sc_n {P : Nat → Prop} {n d : Nat} (h : ¬ P d) : dg_sc P (n + 1) d = dg_sc P n (d + 1) := by
  rw [dg_sc]; rw [if_neg h]
theorem dg_sc_ge (P : Nat → Prop) (n : Nat) : ∀ d, d ≤ dg_sc P n d ∧ dg_sc P n d ≤ d + n := by
  induction n with
  | zero => intro d; exact ⟨Nat.le_refl _, Nat.le_refl _⟩
  | succ n ih =>
    intro d
    by_cases h : P d
    · rw [dg_sc_y h]; omega
    · rw [dg_sc_n h]; have := ih (d + 1); omega
theorem dg_sc_hit (P : Nat → Prop) (n : Nat) : ∀ d, dg_sc P n d < d + n → P (dg_sc P n d) := by
  induction n with
  | zero => intro d h; exact absurd h (Nat.lt_irrefl _)
  | succ n ih =>
    intro d h
    by_cases hd : P d
    · rw [dg_sc_y hd]; exact hd
    · rw [dg_sc_n hd] at h ⊢; exact ih (d + 1) (by omega)
theorem dg_sc_none (P : Nat → Prop) (n : Nat) : ∀ d, (∀ e, d ≤ e → e < d + n → ¬ P e) → dg_sc P n d = d + n := by
  induction n with
  | zero => intro d _; rfl
  | succ n ih =>
    intro d h
    rw [dg_sc_n (h d (Nat.le_refl _) (by omega)), ih (d + 1) (fun e h1 h2 => h e (by omega) (by omega))]
    omega
def dg_r (d : Nat) : Int32 := if d < 4 then nI d else -1
theorem dg_r_lt {d : Nat} (h : d < 4) : dg_r d = nI d := if_pos h
theorem dg_r_ge {d : Nat} (h : ¬ d < 4) : dg_r d = -1 := if_neg h
theorem dg_sc_two {P : Nat → Prop} {a b : Nat} (ha : a ≤ b) (hb : b ≤ 4) (h : ∀ e, a ≤ e → e < b → ¬ P e) : dg_sc P (4 - a) a = dg_sc P (4 - b) b := by
  obtain ⟨k, rfl⟩ : ∃ k, b = a + k := ⟨b - a, by omega⟩
  clear ha
  induction k generalizing a with
  | zero => rfl
  | succ k ih =>
    have e : 4 - a = (4 - (a + 1)) + 1 := by omega
    rw [e, dg_sc_n (h a (Nat.le_refl _) (by omega)), ih (a := a + 1) (by omega) (fun e h1 h2 => h e (by omega) (by omega))]
    have e2 : a + 1 + k = a + (k + 1) := by omega
    rw [e2]
end
section
def dg_u (f : Nat → Nat) (k x : Nat) : Nat → Nat := fun i => if i = k then x else f i
theorem dg_us {f : Nat → Nat} {k x : Nat} : dg_u f k x k = x := if_pos rfl
theorem dg_un {f : Nat → Nat} {k x i : Nat} (h : i ≠ k) : dg_u f k x i = f i := if_neg h
def dg_P (b : Nat → Nat) (J : Nat → Int32) (c s0 q d : Nat) : Prop :=
  dg_ok c d ∧ dg_T q d < 32 ∧ dg_T (dg_T q d) d < 32 ∧ J (dg_T q d) = 0 ∧ (¬ b (dg_T q d) = 0 ∧ ¬ (b (dg_T q d) ≤ 2 ↔ c ≤ 2)) ∧ (b (dg_T (dg_T q d) d) = 0 ∨ dg_T (dg_T q d) d = s0)
def dg_DR (c q x y : Nat) : Prop := dg_fst c ≤ x ∧ x ≤ 4 ∧ y ≤ 4 ∧ (x = y ∨ (y = 0 ∧ x = dg_fst c) ∨ (y = 0 ∧ x = 4 ∧ dg_cr c q))
theorem dg_DR_sc {b : Nat → Nat} {J : Nat → Int32} {c s0 q x y : Nat} (hq : q < 32) (h : dg_DR c q x y) : dg_sc (dg_P b J c s0 q) (4 - x) x = dg_sc (dg_P b J c s0 q) (4 - y) y := by
  obtain ⟨h0, h4, hy, h⟩ := h
  rcases h with rfl | ⟨rfl, rfl⟩ | ⟨rfl, rfl, h⟩
  · rfl
  · refine (dg_sc_two (Nat.zero_le _) h4 fun e _ he hP => ?_).symm
    have ho := hP.1.1
    unfold dg_fst at he
    split at he
    · have := ho ‹_›; omega
    · omega
  · refine (dg_sc_two (Nat.zero_le _) h4 fun e _ he hP => ?_).symm
    exact dg_cr_none hq he h hP.1 hP.2.1
def dg_I (c s0 k : Nat) (q j x y : Nat → Nat) (J : Nat → Int32) : Prop :=
  q 0 = s0 ∧ (∀ i, i ≤ k → q i < 32 ∧ q i / 4 % 2 = s0 / 4 % 2 ∧ dg_DR c (q i) (x i) (y i)) ∧
  (∀ i, i < k → j i ∈ dg_C (s0 / 4 % 2) ∧ dg_D2 (q i) (q (i + 1)) ∧ ¬ J (j i) = 0 ∧ ∀ i', i' < i → j i' ≠ j i) ∧
  (∀ n, n < 32 → ¬ J n = 0 → ∃ i, i < k ∧ j i = n) ∧ dg_cnt J (dg_C (s0 / 4 % 2)) = k
theorem dg_I_k {c s0 k : Nat} {q j x y : Nat → Nat} {J : Nat → Int32} (h : dg_I c s0 k q j x y J) : k ≤ 9 := by
  obtain ⟨_, _, _, _, h⟩ := h
  have := dg_cnt_le J (dg_C (s0 / 4 % 2))
  rw [dg_C_len] at this
  omega
theorem dg_fst_ok {c d : Nat} (h : dg_ok c d) : dg_fst c ≤ d := by
  unfold dg_fst
  split
  · exact h.1 ‹_›
  · exact Nat.zero_le _
theorem dg_fst_le (c : Nat) : dg_fst c ≤ 2 := by unfold dg_fst; split <;> omega
theorem dg_I_push {b : Nat → Nat} {c s0 k D x' : Nat} {q j x y : Nat → Nat} {J : Nat → Int32} (h : dg_I c s0 k q j x y J) (hD : D < 4) (hP : dg_P b J c s0 (q k) D)
    (hx' : (dg_cr c (dg_T (dg_T (q k) D) D) ∧ x' = 4) ∨ (¬ dg_cr c (dg_T (dg_T (q k) D) D) ∧ x' = dg_fst c)) :
    k ≤ 8 ∧ dg_I c s0 (k + 1) (dg_u q (k + 1) (dg_T (dg_T (q k) D) D)) (dg_u j k (dg_T (q k) D)) (dg_u (dg_u x k (D + 1)) (k + 1) x') (dg_u (dg_u y k (D + 1)) (k + 1) 0) (upd J (dg_T (q k) D) 1) := by
  obtain ⟨h1, h2, h3, h4, h5⟩ := h
  obtain ⟨p1, p2, p3, p4, p5, p6⟩ := hP
  obtain ⟨hq, hpar, hdr⟩ := h2 k (Nat.le_refl k)
  obtain ⟨g1, g2, g3⟩ := dg_jump (q k) hq D hD p2 p3
  rw [hpar] at g1 g2
  have hc := dg_cnt_up J (dg_T (q k) D) _ g1 (dg_C_nd _) p4
  have hl := dg_cnt_le (upd J (dg_T (q k) D) 1) (dg_C (s0 / 4 % 2))
  rw [dg_C_len] at hl
  have hf := dg_fst_ok p1
  have hf2 := dg_fst_le c
  refine ⟨by omega, ?_, ?_, ?_, ?_, by omega⟩
  · rw [dg_un (by omega)]; exact h1
  · intro i hi
    by_cases e : i = k + 1
    · subst e
      rw [dg_us, dg_us, dg_us]
      refine ⟨p3, g2, ?_, ?_, by omega, ?_⟩
      · rcases hx' with ⟨_, r⟩ | ⟨_, r⟩ <;> omega
      · rcases hx' with ⟨_, r⟩ | ⟨_, r⟩ <;> omega
      · rcases hx' with ⟨r1, r⟩ | ⟨_, r⟩
        · exact Or.inr (Or.inr ⟨rfl, r, r1⟩)
        · exact Or.inr (Or.inl ⟨rfl, r⟩)
    · rw [dg_un e, dg_un e, dg_un e]
      by_cases e2 : i = k
      · subst e2
        rw [dg_us, dg_us]
        exact ⟨hq, hpar, by omega, by omega, by omega, Or.inl rfl⟩
      · rw [dg_un e2, dg_un e2]
        exact h2 i (by omega)
  · intro i hi
    by_cases e : i = k
    · subst e
      rw [dg_us, dg_us, dg_un (by omega), pk_us]
      refine ⟨g1, g3, by decide, fun i' hi' => ?_⟩
      rw [dg_un (by omega)]
      intro e
      have := (h3 i' hi').2.2.1
      rw [e] at this
      exact this p4
    · have hik : i < k := by omega
      obtain ⟨a1, a2, a3, a4⟩ := h3 i hik
      rw [dg_un e, dg_un (k := k + 1) (i := i) (by omega), dg_un (k := k + 1) (i := i + 1) (by omega)]
      refine ⟨a1, a2, ?_, fun i' hi' => ?_⟩
      · by_cases e2 : j i = dg_T (q k) D
        · rw [e2] at a3; exact absurd p4 a3
        · rw [pk_un e2]; exact a3
      · rw [dg_un (by omega)]; exact a4 i' hi'
  · intro n hn hJ
    by_cases e : n = dg_T (q k) D
    · exact ⟨k, by omega, by rw [dg_us]; exact e.symm⟩
    · rw [pk_un e] at hJ
      obtain ⟨i, hi, e2⟩ := h4 n hn hJ
      exact ⟨i, by omega, by rw [dg_un (by omega)]; exact e2⟩
theorem dg_I_pop {c s0 k : Nat} {q j x y : Nat → Nat} {J : Nat → Int32} (h : dg_I c s0 (k + 1) q j x y J) : dg_I c s0 k q j x y (upd J (j k) 0) := by
  obtain ⟨h1, h2, h3, h4, h5⟩ := h
  obtain ⟨b1, b2, b3, b4⟩ := h3 k (by omega)
  have hc := dg_cnt_dn J (j k) _ b1 (dg_C_nd _) b3
  refine ⟨h1, fun i hi => h2 i (by omega), fun i hi => ?_, fun n hn hJ => ?_, by omega⟩
  · obtain ⟨a1, a2, a3, a4⟩ := h3 i (by omega)
    refine ⟨a1, a2, ?_, a4⟩
    rw [pk_un (b4 i hi)]; exact a3
  · by_cases e : n = j k
    · subst e; rw [pk_us] at hJ; exact absurd rfl hJ
    · rw [pk_un e] at hJ
      obtain ⟨i, hi, e2⟩ := h4 n hn hJ
      by_cases e3 : i = k
      · subst e3; exact absurd e2.symm e
      · exact ⟨i, by omega, e2⟩
def dg_W : Nat → Nat
  | 0 => 0
  | n + 1 => 2 + 4 * dg_W n
def dg_ps (x : Nat → Nat) : Nat → Nat
  | 0 => 0
  | k + 1 => dg_ps x k + (dg_W (9 - k) * (4 - x k) + 1)
theorem dg_ps_congr {x x' : Nat → Nat} (k : Nat) (h : ∀ i, i < k → x i = x' i) : dg_ps x k = dg_ps x' k := by
  induction k with
  | zero => rfl
  | succ k ih =>
    show dg_ps x k + (dg_W (9 - k) * (4 - x k) + 1) = dg_ps x' k + (dg_W (9 - k) * (4 - x' k) + 1)
    rw [ih (fun i hi => h i (by omega)), h k (by omega)]
theorem dg_ps_pos (x : Nat → Nat) (k : Nat) : dg_ps x k + 1 ≤ dg_ps x (k + 1) := by
  show dg_ps x k + 1 ≤ dg_ps x k + (dg_W (9 - k) * (4 - x k) + 1)
  omega
theorem dg_ps_0 (x : Nat → Nat) : dg_ps x 1 ≤ 699049 := by
  have e : dg_W 9 = 174762 := rfl
  show 0 + (dg_W 9 * (4 - x 0) + 1) ≤ 699049
  rw [e]
  omega
theorem dg_ps_push {x : Nat → Nat} {k D x' : Nat} (hk : k ≤ 8) (hx : x k ≤ D) (hD : D < 4) : dg_ps (dg_u (dg_u x k (D + 1)) (k + 1) x') (k + 2) + 1 ≤ dg_ps x (k + 1) := by
  have e1 : dg_ps (dg_u (dg_u x k (D + 1)) (k + 1) x') k = dg_ps x k := dg_ps_congr k (fun i hi => by rw [dg_un (by omega), dg_un (by omega)])
  have e2 : dg_W (9 - k) = 2 + 4 * dg_W (9 - (k + 1)) := by
    have : 9 - k = (9 - (k + 1)) + 1 := by omega
    rw [this]; rfl
  show dg_ps (dg_u (dg_u x k (D + 1)) (k + 1) x') k + (dg_W (9 - k) * (4 - dg_u (dg_u x k (D + 1)) (k + 1) x' k) + 1) + (dg_W (9 - (k + 1)) * (4 - dg_u (dg_u x k (D + 1)) (k + 1) x' (k + 1)) + 1) + 1 ≤ dg_ps x k + (dg_W (9 - k) * (4 - x k) + 1)
  rw [e1, dg_us, dg_un (by omega), dg_us, e2]
  generalize dg_W (9 - (k + 1)) = w
  have m1 : w * (4 - x') ≤ w * 4 := Nat.mul_le_mul_left w (by omega)
  have m2 : (2 + 4 * w) * ((4 - (D + 1)) + 1) ≤ (2 + 4 * w) * (4 - x k) := Nat.mul_le_mul_left _ (by omega)
  rw [Nat.mul_add] at m2
  omega
def dg_AX (k : Nat) (q j x : Nat → Nat) (w p jx nd wo : Nat → Int32) : Prop :=
  (∀ i, i ≤ k → p i = nI (q i) ∧ nd i = nI (x i) ∧ wo i = w i) ∧ (∀ i, i < k → jx (i + 1) = nI (j i))
def dg_AY (k : Nat) (q j y : Nat → Nat) (w ps dr cp ex : Nat → Int32) : Prop :=
  (∀ i, i ≤ k → ps i = nI (q i) ∧ dr i = nI (y i) ∧ (1 ≤ i → ex i = w i)) ∧ (∀ i, i < k → cp i = nI (j i))
theorem dg_AX_push {k D n l x' : Nat} {q j x : Nat → Nat} {w p jx nd wo : Nat → Int32} (h : dg_AX k q j x w p jx nd wo) :
    dg_AX (k + 1) (dg_u q (k + 1) l) (dg_u j k n) (dg_u (dg_u x k (D + 1)) (k + 1) x') (upd (upd w k 1) (k + 1) 0)
      (upd p (k + 1) (nI l)) (upd jx (k + 1) (nI n)) (upd (upd nd k (nI (D + 1))) (k + 1) (nI x')) (upd (upd wo k 1) (k + 1) 0) := by
  obtain ⟨h1, h2⟩ := h
  refine ⟨fun i hi => ?_, fun i hi => ?_⟩
  · by_cases e : i = k + 1
    · subst e
      rw [dg_us, dg_us, pk_us, pk_us, pk_us, pk_us]
      exact ⟨rfl, rfl, rfl⟩
    · rw [dg_un e, dg_un e, pk_un e, pk_un e, pk_un e, pk_un e]
      by_cases e2 : i = k
      · subst e2
        rw [dg_us, pk_us, pk_us, pk_us]
        exact ⟨(h1 i (Nat.le_refl i)).1, rfl, rfl⟩
      · rw [dg_un e2, pk_un e2, pk_un e2, pk_un e2]
        exact h1 i (by omega)
  · by_cases e : i = k
    · subst e
      rw [dg_us, pk_us]
    · rw [dg_un e, pk_un (by omega)]
      exact h2 i (by omega)
theorem dg_AY_push {k D n l : Nat} {q j y : Nat → Nat} {w ps dr cp ex : Nat → Int32} (h : dg_AY k q j y w ps dr cp ex) :
    dg_AY (k + 1) (dg_u q (k + 1) l) (dg_u j k n) (dg_u (dg_u y k (D + 1)) (k + 1) 0) (upd (upd w k 1) (k + 1) 0)
      (upd ps (k + 1) (nI l)) (upd (upd dr k (nI (D + 1))) (k + 1) 0) (upd cp k (nI n)) (upd (upd ex k 1) (k + 1) 0) := by
  obtain ⟨h1, h2⟩ := h
  refine ⟨fun i hi => ?_, fun i hi => ?_⟩
  · by_cases e : i = k + 1
    · subst e
      rw [dg_us, dg_us, pk_us, pk_us, pk_us, pk_us]
      exact ⟨rfl, nI_0.symm, fun _ => rfl⟩
    · rw [dg_un e, dg_un e, pk_un e, pk_un e, pk_un e, pk_un e]
      by_cases e2 : i = k
      · subst e2
        rw [dg_us, pk_us, pk_us, pk_us]
        exact ⟨(h1 i (Nat.le_refl i)).1, rfl, fun _ => rfl⟩
      · rw [dg_un e2, pk_un e2, pk_un e2, pk_un e2]
        exact h1 i (by omega)
  · by_cases e : i = k
    · subst e
      rw [dg_us, pk_us]
    · rw [dg_un e, pk_un e]
      exact h2 i (by omega)
theorem dg_AX_pop {k : Nat} {q j x : Nat → Nat} {w p jx nd wo : Nat → Int32} (h : dg_AX (k + 1) q j x w p jx nd wo) : dg_AX k q j x w p jx nd wo :=
  ⟨fun i hi => h.1 i (by omega), fun i hi => h.2 i (by omega)⟩
theorem dg_AY_pop {k : Nat} {q j y : Nat → Nat} {w ps dr cp ex : Nat → Int32} (h : dg_AY (k + 1) q j y w ps dr cp ex) : dg_AY k q j y w ps dr cp ex :=
  ⟨fun i hi => h.1 i (by omega), fun i hi => h.2 i (by omega)⟩
theorem dg_w0 {w : Nat → Int32} {k : Nat} (h : ¬ w 0 = 0) : ¬ upd (upd w k 1) (k + 1) 0 0 = 0 := by
  rw [pk_un (by omega)]
  by_cases e : 0 = k
  · subst e; rw [pk_us]; decide
  · rw [pk_un e]; exact h
def dg_x0 (c l : Nat) : Nat := if (c = 1 ∧ 28 ≤ l) ∨ (c = 3 ∧ l < 4) then 4 else dg_fst c
theorem dg_x0_c (c l : Nat) : (dg_cr c l ∧ dg_x0 c l = 4) ∨ (¬ dg_cr c l ∧ dg_x0 c l = dg_fst c) := by
  unfold dg_x0
  split
  · exact Or.inl ⟨‹_›, rfl⟩
  · exact Or.inr ⟨‹_›, rfl⟩
theorem dg_x0_le (c l : Nat) : dg_x0 c l ≤ 4 := by
  have := dg_fst_le c
  unfold dg_x0
  split <;> omega
noncomputable def dg_D (b : Nat → Nat) (c s0 : Nat) (J : Nat → Int32) (q x : Nat) : Nat := dg_sc (dg_P b J c s0 q) (4 - x) x
noncomputable def dg_run (b : Nat → Nat) (c s0 : Nat) : Nat → Nat → (Nat → Nat) → (Nat → Nat) → (Nat → Nat) → (Nat → Int32) → (Nat → Int32) → List (Nat × (Nat → Nat))
  | 0, _, _, _, _, _, _ => []
  | _ + 1, 0, _, _, _, _, _ => []
  | n + 1, k + 1, q, j, x, w, J =>
    if dg_D b c s0 J (q k) (x k) < 4 then
      dg_run b c s0 n (k + 2) (dg_u q (k + 1) (dg_T (dg_T (q k) (dg_D b c s0 J (q k) (x k))) (dg_D b c s0 J (q k) (x k)))) (dg_u j k (dg_T (q k) (dg_D b c s0 J (q k) (x k))))
        (dg_u (dg_u x k (dg_D b c s0 J (q k) (x k) + 1)) (k + 1) (dg_x0 c (dg_T (dg_T (q k) (dg_D b c s0 J (q k) (x k))) (dg_D b c s0 J (q k) (x k)))))
        (upd (upd w k 1) (k + 1) 0) (upd J (dg_T (q k) (dg_D b c s0 J (q k) (x k))) 1)
    else (if w k = 0 then [(k + 1, q)] else []) ++ dg_run b c s0 n k q j x w (if k = 0 then J else upd J (j (k - 1)) 0)
theorem dg_run_0 {b : Nat → Nat} {c s0 n : Nat} {q j x : Nat → Nat} {w J : Nat → Int32} : dg_run b c s0 n 0 q j x w J = [] := by
  cases n <;> rw [dg_run]
theorem dg_run_push {b : Nat → Nat} {c s0 n k D : Nat} {q j x : Nat → Nat} {w J : Nat → Int32} (e : dg_D b c s0 J (q k) (x k) = D) (h : D < 4) : dg_run b c s0 (n + 1) (k + 1) q j x w J =
    dg_run b c s0 n (k + 2) (dg_u q (k + 1) (dg_T (dg_T (q k) D) D)) (dg_u j k (dg_T (q k) D)) (dg_u (dg_u x k (D + 1)) (k + 1) (dg_x0 c (dg_T (dg_T (q k) D) D))) (upd (upd w k 1) (k + 1) 0) (upd J (dg_T (q k) D) 1) := by
  subst e
  rw [dg_run, if_pos h]
theorem dg_run_pop {b : Nat → Nat} {c s0 n k : Nat} {q j x : Nat → Nat} {w J : Nat → Int32} (h : ¬ dg_D b c s0 J (q k) (x k) < 4) : dg_run b c s0 (n + 1) (k + 1) q j x w J =
    (if w k = 0 then [(k + 1, q)] else []) ++ dg_run b c s0 n k q j x w (if k = 0 then J else upd J (j (k - 1)) 0) := by
  rw [dg_run, if_neg h]
def dg_K (c s0 k1 : Nat) (q j x y : Nat → Nat) (w J : Nat → Int32) : Prop := ∀ k, k1 = k + 1 → dg_I c s0 k q j x y J ∧ ¬ w 0 = 0
theorem dg_K_push {b : Nat → Nat} {c s0 k D : Nat} {q j x y : Nat → Nat} {w J : Nat → Int32} (h : dg_K c s0 (k + 1) q j x y w J) (e : dg_D b c s0 J (q k) (x k) = D) (hD : D < 4) :
    dg_P b J c s0 (q k) D ∧ x k ≤ D ∧ k ≤ 8 ∧ dg_K c s0 (k + 2) (dg_u q (k + 1) (dg_T (dg_T (q k) D) D)) (dg_u j k (dg_T (q k) D)) (dg_u (dg_u x k (D + 1)) (k + 1) (dg_x0 c (dg_T (dg_T (q k) D) D))) (dg_u (dg_u y k (D + 1)) (k + 1) 0) (upd (upd w k 1) (k + 1) 0) (upd J (dg_T (q k) D) 1) := by
  obtain ⟨hI, hw⟩ := h k rfl
  have hx := (hI.2.1 k (Nat.le_refl k)).2.2
  have g1 := dg_sc_ge (dg_P b J c s0 (q k)) (4 - x k) (x k)
  have g2 := dg_sc_hit (dg_P b J c s0 (q k)) (4 - x k) (x k)
  have e' : dg_sc (dg_P b J c s0 (q k)) (4 - x k) (x k) = D := e
  rw [e'] at g1 g2
  have hP := g2 (by have := hx.2.1; omega)
  obtain ⟨hk, hI'⟩ := dg_I_push hI hD hP (dg_x0_c c _)
  refine ⟨hP, g1.1, hk, fun k' hk' => ?_⟩
  obtain rfl : k' = k + 1 := by omega
  exact ⟨hI', dg_w0 hw⟩
theorem dg_K_pop {c s0 k : Nat} {q j x y : Nat → Nat} {w J : Nat → Int32} (h : dg_K c s0 (k + 1) q j x y w J) : dg_K c s0 k q j x y w (if k = 0 then J else upd J (j (k - 1)) 0) := by
  intro k' e
  subst e
  obtain ⟨hI, hw⟩ := h _ rfl
  rw [if_neg (by omega)]
  exact ⟨dg_I_pop hI, hw⟩
def dg_E (e : Nat × (Nat → Nat)) : Prop := 2 ≤ e.1 ∧ e.1 ≤ 13 ∧ (∀ k, k < e.1 → e.2 k < 32) ∧ ((∀ k, k + 1 < e.1 → dg_D2 (e.2 k) (e.2 (k + 1))) ∨ (e.1 = 2 ∧ ¬ dg_D2 (e.2 0) (e.2 1)))
theorem dg_run_E (b : Nat → Nat) (c s0 : Nat) : ∀ (n k1 : Nat) (q j x y : Nat → Nat) (w J : Nat → Int32), dg_K c s0 k1 q j x y w J → ∀ e, e ∈ dg_run b c s0 n k1 q j x w J → dg_E e := by
  intro n
  induction n with
  | zero => intro k1 q j x y w J _ e he; rw [dg_run] at he; exact absurd he List.not_mem_nil
  | succ n ih =>
    intro k1 q j x y w J h e he
    cases k1 with
    | zero => rw [dg_run_0] at he; exact absurd he List.not_mem_nil
    | succ k =>
      by_cases hD : dg_D b c s0 J (q k) (x k) < 4
      · rw [dg_run_push rfl hD] at he
        exact ih _ _ _ _ _ _ _ (dg_K_push h rfl hD).2.2.2 e he
      · rw [dg_run_pop hD] at he
        rcases List.mem_append.mp he with he | he
        · obtain ⟨hI, hw⟩ := h k rfl
          by_cases hk : w k = 0
          · rw [if_pos hk] at he
            obtain rfl := List.mem_singleton.mp he
            have h9 := dg_I_k hI
            have hk0 : k ≠ 0 := fun z => hw (z ▸ hk)
            refine ⟨by show 2 ≤ k + 1; omega, by show k + 1 ≤ 13; omega, fun i hi => (hI.2.1 i ?_).1, Or.inl fun i hi => (hI.2.2.1 i ?_).2.1⟩
            · have : i < k + 1 := hi
              omega
            · have : i + 1 < k + 1 := hi
              omega
          · rw [if_neg hk] at he; exact absurd he List.not_mem_nil
        · exact ih _ _ _ _ _ _ _ (dg_K_pop h) e he
end
section
def dg_M (ml mv : Nat → Int32) (s : Nat) : Prop := ∃ (L : Nat) (q : Nat → Nat), 2 ≤ L ∧ L ≤ 13 ∧ ml s = nI L ∧ (∀ k, k < L → q k < 32 ∧ mv (s * 13 + k) = nI (q k)) ∧ ((∀ k, k + 1 < L → dg_D2 (q k) (q (k + 1))) ∨ (L = 2 ∧ ¬ dg_D2 (q 0) (q 1)))
def dg_L (mt ml mv : Nat → Int32) (lv : Nat) : Prop := ∃ M, M ≤ 48 ∧ mt lv = nI M ∧ ∀ i, i < M → dg_M ml mv (lv * 48 + i)
def dg_F (lv : Nat) (mt ml mv mt' ml' mv' : Nat → Int32) : Prop := (∀ i, i ≠ lv → mt' i = mt i) ∧ (∀ i, i < lv * 48 ∨ lv * 48 + 48 ≤ i → ml' i = ml i) ∧ (∀ i, i < lv * 624 ∨ lv * 624 + 624 ≤ i → mv' i = mv i)
theorem dg_F_rfl {lv : Nat} {mt ml mv : Nat → Int32} : dg_F lv mt ml mv mt ml mv := ⟨fun _ _ => rfl, fun _ _ => rfl, fun _ _ => rfl⟩
theorem dg_F_tr {lv : Nat} {a b c a1 b1 c1 a2 b2 c2 : Nat → Int32} (h : dg_F lv a b c a1 b1 c1) (g : dg_F lv a1 b1 c1 a2 b2 c2) : dg_F lv a b c a2 b2 c2 :=
  ⟨fun i hi => (g.1 i hi).trans (h.1 i hi), fun i hi => (g.2.1 i hi).trans (h.2.1 i hi), fun i hi => (g.2.2 i hi).trans (h.2.2 i hi)⟩
theorem dg_M_congr {ml mv ml' mv' : Nat → Int32} {s : Nat} (h : dg_M ml mv s) (h1 : ml' s = ml s) (h2 : ∀ k, k < 13 → mv' (s * 13 + k) = mv (s * 13 + k)) : dg_M ml' mv' s := by
  obtain ⟨L, q, a1, a2, a3, a4, a5⟩ := h
  exact ⟨L, q, a1, a2, h1.trans a3, fun k hk => ⟨(a4 k hk).1, (h2 k (by omega)).trans (a4 k hk).2⟩, a5⟩
theorem dg_L_F {lv l : Nat} {mt ml mv mt' ml' mv' : Nat → Int32} (h : dg_L mt ml mv l) (hl : l ≠ lv) (hf : dg_F lv mt ml mv mt' ml' mv') : dg_L mt' ml' mv' l := by
  obtain ⟨M, h1, h2, h3⟩ := h
  refine ⟨M, h1, (hf.1 l hl).trans h2, fun i hi => dg_M_congr (h3 i hi) (hf.2.1 _ (by omega)) fun k hk => hf.2.2 _ (by omega)⟩
def dg_wr (mv : Nat → Int32) (o : Nat) (q : Nat → Nat) : Nat → (Nat → Int32)
  | 0 => mv
  | n + 1 => upd (dg_wr mv o q n) (o + n) (nI (q n))
theorem dg_wr_in (mv : Nat → Int32) (o : Nat) (q : Nat → Nat) (n k : Nat) (h : k < n) : dg_wr mv o q n (o + k) = nI (q k) := by
  induction n with
  | zero => exact absurd h (Nat.not_lt_zero k)
  | succ n ih =>
    show upd (dg_wr mv o q n) (o + n) (nI (q n)) (o + k) = nI (q k)
    by_cases e : k = n
    · subst e; rw [pk_us]
    · rw [pk_un (by omega)]; exact ih (by omega)
theorem dg_wr_out (mv : Nat → Int32) (o : Nat) (q : Nat → Nat) (n i : Nat) (h : i < o ∨ o + n ≤ i) : dg_wr mv o q n i = mv i := by
  induction n with
  | zero => rfl
  | succ n ih =>
    show upd (dg_wr mv o q n) (o + n) (nI (q n)) i = mv i
    rw [pk_un (by omega)]; exact ih (by omega)
theorem dg_L_rec {lv M L : Nat} {mt ml mv : Nat → Int32} {q : Nat → Nat} (hM : M < 48) (h : ∀ i, i < M → dg_M ml mv (lv * 48 + i)) (hL : 2 ≤ L) (hL2 : L ≤ 13) (hq : ∀ k, k < L → q k < 32)
    (hk : (∀ k, k + 1 < L → dg_D2 (q k) (q (k + 1))) ∨ (L = 2 ∧ ¬ dg_D2 (q 0) (q 1))) :
    dg_L (upd mt lv (nI (M + 1))) (upd ml (lv * 48 + M) (nI L)) (dg_wr mv ((lv * 48 + M) * 13) q L) lv ∧
    dg_F lv mt ml mv (upd mt lv (nI (M + 1))) (upd ml (lv * 48 + M) (nI L)) (dg_wr mv ((lv * 48 + M) * 13) q L) := by
  refine ⟨⟨M + 1, by omega, pk_us, fun i hi => ?_⟩, fun i hi => pk_un hi, fun i hi => pk_un (by omega), fun i hi => dg_wr_out _ _ _ _ _ (by omega)⟩
  by_cases e : i = M
  · subst e
    exact ⟨L, q, hL, hL2, pk_us, fun k hk => ⟨hq k hk, dg_wr_in _ _ _ _ _ hk⟩, hk⟩
  · exact dg_M_congr (h i (by omega)) (pk_un (by omega)) fun k hk => dg_wr_out _ _ _ _ _ (by omega)
def dg_rec (lv : Nat) (T : (Nat → Int32) × (Nat → Int32) × (Nat → Int32)) (e : Nat × (Nat → Nat)) : (Nat → Int32) × (Nat → Int32) × (Nat → Int32) :=
  if (T.1 lv).toNatClampNeg < 48 then (upd T.1 lv (nI ((T.1 lv).toNatClampNeg + 1)), upd T.2.1 (lv * 48 + (T.1 lv).toNatClampNeg) (nI e.1), dg_wr T.2.2 ((lv * 48 + (T.1 lv).toNatClampNeg) * 13) e.2 e.1) else T
def dg_Q (T : (Nat → Int32) × (Nat → Int32) × (Nat → Int32)) (lv : Nat) : Prop := ∃ M, M ≤ 48 ∧ T.1 lv = nI M
theorem dg_rec_lt {lv M : Nat} {T : (Nat → Int32) × (Nat → Int32) × (Nat → Int32)} {e : Nat × (Nat → Nat)} (h : T.1 lv = nI M) (hM : M < 48) :
    dg_rec lv T e = (upd T.1 lv (nI (M + 1)), upd T.2.1 (lv * 48 + M) (nI e.1), dg_wr T.2.2 ((lv * 48 + M) * 13) e.2 e.1) := by
  have e1 : (T.1 lv).toNatClampNeg = M := by rw [h]; exact nI_clamp (by omega)
  unfold dg_rec
  rw [e1, if_pos hM]
theorem dg_rec_ge {lv M : Nat} {T : (Nat → Int32) × (Nat → Int32) × (Nat → Int32)} {e : Nat × (Nat → Nat)} (h : T.1 lv = nI M) (hM : 48 ≤ M) (hM2 : M ≤ 48) : dg_rec lv T e = T := by
  have e1 : (T.1 lv).toNatClampNeg = M := by rw [h]; exact nI_clamp (by omega)
  unfold dg_rec
  rw [e1, if_neg (by omega)]
theorem dg_rec_Q {lv : Nat} {T : (Nat → Int32) × (Nat → Int32) × (Nat → Int32)} (e : Nat × (Nat → Nat)) (h : dg_Q T lv) : dg_Q (dg_rec lv T e) lv := by
  obtain ⟨M, h1, h2⟩ := h
  by_cases hM : M < 48
  · rw [dg_rec_lt h2 hM]; exact ⟨M + 1, hM, pk_us⟩
  · rw [dg_rec_ge h2 (by omega) h1]; exact ⟨M, h1, h2⟩
theorem dg_fold_Q {lv : Nat} (l : List (Nat × (Nat → Nat))) : ∀ {T : (Nat → Int32) × (Nat → Int32) × (Nat → Int32)}, dg_Q T lv → dg_Q (l.foldl (dg_rec lv) T) lv := by
  induction l with
  | nil => intro T h; exact h
  | cons e t ih => intro T h; exact ih (dg_rec_Q e h)
theorem dg_rec_L {lv : Nat} {T : (Nat → Int32) × (Nat → Int32) × (Nat → Int32)} {e : Nat × (Nat → Nat)} (h : dg_L T.1 T.2.1 T.2.2 lv) (he : dg_E e) :
    dg_L (dg_rec lv T e).1 (dg_rec lv T e).2.1 (dg_rec lv T e).2.2 lv ∧ dg_F lv T.1 T.2.1 T.2.2 (dg_rec lv T e).1 (dg_rec lv T e).2.1 (dg_rec lv T e).2.2 := by
  obtain ⟨M, h1, h2, h3⟩ := h
  by_cases hM : M < 48
  · rw [dg_rec_lt h2 hM]
    exact dg_L_rec hM h3 he.1 he.2.1 he.2.2.1 he.2.2.2
  · rw [dg_rec_ge h2 (by omega) h1]
    exact ⟨⟨M, h1, h2, h3⟩, dg_F_rfl⟩
theorem dg_fold_L {lv : Nat} (l : List (Nat × (Nat → Nat))) : ∀ {T : (Nat → Int32) × (Nat → Int32) × (Nat → Int32)}, dg_L T.1 T.2.1 T.2.2 lv → (∀ e, e ∈ l → dg_E e) →
    dg_L (l.foldl (dg_rec lv) T).1 (l.foldl (dg_rec lv) T).2.1 (l.foldl (dg_rec lv) T).2.2 lv ∧ dg_F lv T.1 T.2.1 T.2.2 (l.foldl (dg_rec lv) T).1 (l.foldl (dg_rec lv) T).2.1 (l.foldl (dg_rec lv) T).2.2 := by
  induction l with
  | nil => intro T h _; exact ⟨h, dg_F_rfl⟩
  | cons e t ih =>
    intro T h he
    have g := dg_rec_L h (he e List.mem_cons_self)
    have g2 := ih (T := dg_rec lv T e) g.1 (fun e' h' => he e' (List.mem_cons_of_mem e h'))
    exact ⟨g2.1, dg_F_tr g.2 g2.2⟩
noncomputable def dg_cap (N : Nat) (b : Nat → Nat) (c s0 : Nat) : List (Nat × (Nat → Nat)) := dg_run b c s0 N 1 (fun _ => s0) (fun _ => 0) (fun _ => dg_fst c) (fun _ => 1) (fun _ => 0)
theorem dg_cnt_0 (l : List Nat) : dg_cnt (fun _ => 0) l = 0 := by
  induction l with
  | nil => rfl
  | cons n t ih => show (if (0 : Int32) = 0 then 0 else 1) + dg_cnt (fun _ => 0) t = 0; rw [ih, if_pos rfl]
theorem dg_K_0 {c s0 : Nat} (h : s0 < 32) : dg_K c s0 1 (fun _ => s0) (fun _ => 0) (fun _ => dg_fst c) (fun _ => 0) (fun _ => 1) (fun _ => 0) := by
  intro k hk
  obtain rfl : k = 0 := by omega
  have hf := dg_fst_le c
  refine ⟨⟨rfl, fun i hi => ⟨h, rfl, Nat.le_refl _, ?_, Nat.zero_le _, Or.inr (Or.inl ⟨rfl, rfl⟩)⟩, fun i hi => absurd hi (Nat.not_lt_zero i), fun n hn hJ => absurd rfl hJ, dg_cnt_0 _⟩, ?_⟩
  · show dg_fst c ≤ 4; omega
  · show ¬ (1 : Int32) = 0; decide
theorem dg_cap_E (N : Nat) (b : Nat → Nat) (c s0 : Nat) (h : s0 < 32) : ∀ e, e ∈ dg_cap N b c s0 → dg_E e := dg_run_E b c s0 N 1 _ _ _ _ _ _ (dg_K_0 h)
def dg_own (c : Nat) (sd : Int32) : Prop := (¬ c = 0 ∧ c ≤ 2 ∧ sd = 0) ∨ (2 < c ∧ sd = 1)
noncomputable def dg_caps (N : Nat) (b : Nat → Nat) (sd : Int32) : Nat → Nat → List (Nat × (Nat → Nat))
  | 0, _ => []
  | n + 1, s => (@ite _ (dg_own (b s) sd) (Classical.propDecidable _) (dg_cap N b (b s) s) []) ++ dg_caps N b sd n (s + 1)
theorem dg_caps_y {N : Nat} {b : Nat → Nat} {sd : Int32} {n s : Nat} (h : dg_own (b s) sd) : dg_caps N b sd (n + 1) s = dg_cap N b (b s) s ++ dg_caps N b sd n (s + 1) := by
  rw [dg_caps, if_pos h]
theorem dg_caps_n {N : Nat} {b : Nat → Nat} {sd : Int32} {n s : Nat} (h : ¬ dg_own (b s) sd) : dg_caps N b sd (n + 1) s = dg_caps N b sd n (s + 1) := by
  rw [dg_caps, if_neg h]; rfl
theorem dg_caps_E (N : Nat) (b : Nat → Nat) (sd : Int32) : ∀ n s, s + n ≤ 32 → ∀ e, e ∈ dg_caps N b sd n s → dg_E e := by
  intro n
  induction n with
  | zero => intro s _ e he; rw [dg_caps] at he; exact absurd he List.not_mem_nil
  | succ n ih =>
    intro s hs e he
    by_cases h : dg_own (b s) sd
    · rw [dg_caps_y h] at he
      rcases List.mem_append.mp he with he | he
      · exact dg_cap_E N b _ s (by omega) e he
      · exact ih (s + 1) (by omega) e he
    · rw [dg_caps_n h] at he
      exact ih (s + 1) (by omega) e he
def dg_R (b : Nat → Nat) (c s d : Nat) : Prop := dg_ok c d ∧ dg_T s d < 32 ∧ b (dg_T s d) = 0
def dg_two (s t : Nat) : Nat → Nat := fun i => if i = 0 then s else t
noncomputable def dg_sm (b : Nat → Nat) (c s : Nat) : Nat → Nat → List (Nat × (Nat → Nat))
  | 0, _ => []
  | n + 1, d => (@ite _ (dg_R b c s d) (Classical.propDecidable _) [(2, dg_two s (dg_T s d))] []) ++ dg_sm b c s n (d + 1)
theorem dg_sm_y {b : Nat → Nat} {c s n d : Nat} (h : dg_R b c s d) : dg_sm b c s (n + 1) d = (2, dg_two s (dg_T s d)) :: dg_sm b c s n (d + 1) := by
  rw [dg_sm, if_pos h]; rfl
theorem dg_sm_n {b : Nat → Nat} {c s n d : Nat} (h : ¬ dg_R b c s d) : dg_sm b c s (n + 1) d = dg_sm b c s n (d + 1) := by
  rw [dg_sm, if_neg h]; rfl
theorem dg_sm_none {b : Nat → Nat} {c s : Nat} : ∀ n d, (∀ e, d ≤ e → e < d + n → ¬ dg_R b c s e) → dg_sm b c s n d = [] := by
  intro n
  induction n with
  | zero => intro d _; rw [dg_sm]
  | succ n ih => intro d h; rw [dg_sm_n (h d (Nat.le_refl d) (by omega))]; exact ih (d + 1) (fun e h1 h2 => h e (by omega) (by omega))
theorem dg_sm_skip {b : Nat → Nat} {c s : Nat} : ∀ k d, d + k ≤ 4 → (∀ e, d ≤ e → e < d + k → ¬ dg_R b c s e) → dg_sm b c s (4 - d) d = dg_sm b c s (4 - (d + k)) (d + k) := by
  intro k
  induction k with
  | zero => intro d _ _; rfl
  | succ k ih =>
    intro d hd h
    have e1 : 4 - d = (4 - (d + 1)) + 1 := by omega
    rw [e1, dg_sm_n (h d (Nat.le_refl d) (by omega)), ih (d + 1) (by omega) (fun e h1 h2 => h e (by omega) (by omega))]
    have e2 : d + 1 + k = d + (k + 1) := by omega
    rw [e2]
theorem dg_sm_E {b : Nat → Nat} {c s : Nat} (hs : s < 32) : ∀ n d, d + n ≤ 4 → ∀ e, e ∈ dg_sm b c s n d → dg_E e := by
  intro n
  induction n with
  | zero => intro d _ e he; rw [dg_sm] at he; exact absurd he List.not_mem_nil
  | succ n ih =>
    intro d hd e he
    by_cases h : dg_R b c s d
    · rw [dg_sm_y h] at he
      rcases List.mem_cons.mp he with he | he
      · subst he
        refine ⟨Nat.le_refl 2, by show 2 ≤ 13; omega, fun k hk => ?_, Or.inr ⟨rfl, dg_step1 s hs d (by omega) h.2.1⟩⟩
        show (if k = 0 then s else dg_T s d) < 32
        split
        · exact hs
        · exact h.2.1
      · exact ih (d + 1) (by omega) e he
    · rw [dg_sm_n h] at he
      exact ih (d + 1) (by omega) e he
noncomputable def dg_sms (b : Nat → Nat) (sd : Int32) : Nat → Nat → List (Nat × (Nat → Nat))
  | 0, _ => []
  | n + 1, s => (@ite _ (dg_own (b s) sd) (Classical.propDecidable _) (dg_sm b (b s) s 4 0) []) ++ dg_sms b sd n (s + 1)
theorem dg_sms_y {b : Nat → Nat} {sd : Int32} {n s : Nat} (h : dg_own (b s) sd) : dg_sms b sd (n + 1) s = dg_sm b (b s) s 4 0 ++ dg_sms b sd n (s + 1) := by
  rw [dg_sms, if_pos h]
theorem dg_sms_n {b : Nat → Nat} {sd : Int32} {n s : Nat} (h : ¬ dg_own (b s) sd) : dg_sms b sd (n + 1) s = dg_sms b sd n (s + 1) := by
  rw [dg_sms, if_neg h]; rfl
theorem dg_sms_E (b : Nat → Nat) (sd : Int32) : ∀ n s, s + n ≤ 32 → ∀ e, e ∈ dg_sms b sd n s → dg_E e := by
  intro n
  induction n with
  | zero => intro s _ e he; rw [dg_sms] at he; exact absurd he List.not_mem_nil
  | succ n ih =>
    intro s hs e he
    by_cases h : dg_own (b s) sd
    · rw [dg_sms_y h] at he
      rcases List.mem_append.mp he with he | he
      · exact dg_sm_E (by omega) 4 0 (by omega) e he
      · exact ih (s + 1) (by omega) e he
    · rw [dg_sms_n h] at he
      exact ih (s + 1) (by omega) e he
noncomputable def dg_gen (lv : Nat) (b : Nat → Nat) (sd : Int32) (mt ml mv : Nat → Int32) : (Nat → Int32) × (Nat → Int32) × (Nat → Int32) :=
  if ((dg_caps 700000 b sd 32 0).foldl (dg_rec lv) (upd mt lv 0, ml, mv)).1 lv = 0 then (dg_sms b sd 32 0).foldl (dg_rec lv) ((dg_caps 700000 b sd 32 0).foldl (dg_rec lv) (upd mt lv 0, ml, mv))
  else (dg_caps 700000 b sd 32 0).foldl (dg_rec lv) (upd mt lv 0, ml, mv)
theorem dg_gen_L (lv : Nat) (b : Nat → Nat) (sd : Int32) (mt ml mv : Nat → Int32) :
    dg_L (dg_gen lv b sd mt ml mv).1 (dg_gen lv b sd mt ml mv).2.1 (dg_gen lv b sd mt ml mv).2.2 lv ∧ dg_F lv mt ml mv (dg_gen lv b sd mt ml mv).1 (dg_gen lv b sd mt ml mv).2.1 (dg_gen lv b sd mt ml mv).2.2 := by
  have h0 : dg_L (upd mt lv 0) ml mv lv := ⟨0, by omega, pk_us, fun i hi => absurd hi (Nat.not_lt_zero i)⟩
  have f0 : dg_F lv mt ml mv (upd mt lv 0) ml mv := ⟨fun i hi => pk_un hi, fun _ _ => rfl, fun _ _ => rfl⟩
  have h1 := dg_fold_L (lv := lv) (dg_caps 700000 b sd 32 0) (T := (upd mt lv 0, ml, mv)) h0 (dg_caps_E 700000 b sd 32 0 (by omega))
  unfold dg_gen
  generalize (dg_caps 700000 b sd 32 0).foldl (dg_rec lv) (upd mt lv 0, ml, mv) = T1 at h1 ⊢
  split
  · have h2 := dg_fold_L (lv := lv) (dg_sms b sd 32 0) (T := T1) h1.1 (dg_sms_E b sd 32 0 (by omega))
    exact ⟨h2.1, dg_F_tr f0 (dg_F_tr h1.2 h2.2)⟩
  · exact ⟨h1.1, dg_F_tr f0 h1.2⟩
def dg_B (bd : Nat → Int32) : Prop := ∀ i, i < 128 → ∃ c, c ≤ 4 ∧ bd i = nI c
def dg_b (bd : Nat → Int32) (i : Nat) : Nat := (bd i).toNatClampNeg
theorem dg_B_b {bd : Nat → Int32} (h : dg_B bd) {i : Nat} (hi : i < 128) : bd i = nI (dg_b bd i) ∧ dg_b bd i ≤ 4 := by
  obtain ⟨c, hc, e⟩ := h i hi
  unfold dg_b
  rw [e, nI_clamp (by omega)]
  exact ⟨rfl, hc⟩
theorem dg_B_upd {bd : Nat → Int32} (h : dg_B bd) (k c : Nat) (hc : c ≤ 4) : dg_B (upd bd k (nI c)) := by
  intro i hi
  by_cases e : i = k
  · subst e; exact ⟨c, hc, pk_us⟩
  · rw [pk_un e]; exact h i hi
def dg_S (sd : Nat → Int32) : Prop := ∀ i, i < 4 → sd i = 0 ∨ sd i = 1
theorem dg_S_upd {sd : Nat → Int32} (h : dg_S sd) (k : Nat) (x : Int32) (hx : x = 0 ∨ x = 1) : dg_S (upd sd k x) := by
  intro i hi
  by_cases e : i = k
  · subst e; rw [pk_us]; exact hx
  · rw [pk_un e]; exact h i hi
def dg_N (nb : Nat → Int32) : Prop := ∀ s, s < 32 → ∀ d, d < 4 → nb (s * 4 + d) = dg_enc (dg_T s d)
def dg_cb (bd : Nat → Int32) (s t : Nat) : Nat → (Nat → Int32)
  | 0 => bd
  | n + 1 => upd (dg_cb bd s t n) (t * 32 + n) (dg_cb bd s t n (s * 32 + n))
theorem dg_cb_src (bd : Nat → Int32) (s t n i : Nat) (h : s ≠ t) (hn : n ≤ 32) (hi : i < 32) : dg_cb bd s t n (s * 32 + i) = bd (s * 32 + i) := by
  induction n with
  | zero => rfl
  | succ n ih =>
    show upd (dg_cb bd s t n) (t * 32 + n) (dg_cb bd s t n (s * 32 + n)) (s * 32 + i) = bd (s * 32 + i)
    rw [pk_un (by omega)]; exact ih (by omega)
theorem dg_cb_in (bd : Nat → Int32) (s t n i : Nat) (h : s ≠ t) (hn : n ≤ 32) (hi : i < n) : dg_cb bd s t n (t * 32 + i) = bd (s * 32 + i) := by
  induction n with
  | zero => exact absurd hi (Nat.not_lt_zero i)
  | succ n ih =>
    show upd (dg_cb bd s t n) (t * 32 + n) (dg_cb bd s t n (s * 32 + n)) (t * 32 + i) = bd (s * 32 + i)
    by_cases e : i = n
    · subst e; rw [pk_us]; exact dg_cb_src bd s t i i h (by omega) (by omega)
    · rw [pk_un (by omega)]; exact ih (by omega) (by omega)
theorem dg_cb_out (bd : Nat → Int32) (s t n i : Nat) (h : i < t * 32 ∨ t * 32 + n ≤ i) : dg_cb bd s t n i = bd i := by
  induction n with
  | zero => rfl
  | succ n ih =>
    show upd (dg_cb bd s t n) (t * 32 + n) (dg_cb bd s t n (s * 32 + n)) i = bd i
    rw [pk_un (by omega)]; exact ih (by omega)
theorem dg_upd_same (f : Nat → Int32) (k : Nat) : upd f k (f k) = f := by
  funext i
  by_cases e : i = k
  · subst e; rw [pk_us]
  · rw [pk_un e]
theorem dg_cb_same (bd : Nat → Int32) (s n : Nat) : dg_cb bd s s n = bd := by
  induction n with
  | zero => rfl
  | succ n ih =>
    show upd (dg_cb bd s s n) (s * 32 + n) (dg_cb bd s s n (s * 32 + n)) = bd
    rw [ih]; exact dg_upd_same bd _
theorem dg_cb_B {bd : Nat → Int32} (h : dg_B bd) (s t n : Nat) (hs : s < 4) (hn : n ≤ 32) : dg_B (dg_cb bd s t n) := by
  induction n with
  | zero => exact h
  | succ n ih =>
    intro i hi
    have g := ih (by omega)
    show ∃ c, c ≤ 4 ∧ upd (dg_cb bd s t n) (t * 32 + n) (dg_cb bd s t n (s * 32 + n)) i = nI c
    by_cases e : i = t * 32 + n
    · rw [e, pk_us]; exact g _ (by omega)
    · rw [pk_un e]; exact g i hi
def dg_co (s : Nat) : Nat := 2 * (s % 4) + (if s / 4 % 2 = 0 then 1 else 0)
def dg_mid (a z : Nat) : Nat := (a / 4 + z / 4) / 2 * 4 + (dg_co a + dg_co z) / 2 / 2
theorem dg_co_lt (s : Nat) : dg_co s ≤ 7 := by unfold dg_co; split <;> omega
theorem dg_mid_lt {a z : Nat} (ha : a < 32) (hz : z < 32) : dg_mid a z < 32 := by
  have h1 := dg_co_lt a
  have h2 := dg_co_lt z
  unfold dg_mid
  omega
def dg_tk (bd : Nat → Int32) (t : Nat) (q : Nat → Nat) : Nat → (Nat → Int32)
  | 0 => bd
  | n + 1 => upd (dg_tk bd t q n) (t * 32 + dg_mid (q n) (q (n + 1))) 0
theorem dg_tk_B {bd : Nat → Int32} (h : dg_B bd) (t : Nat) (q : Nat → Nat) (n : Nat) : dg_B (dg_tk bd t q n) := by
  induction n with
  | zero => exact h
  | succ n ih => exact dg_B_upd ih _ 0 (by omega)
def dg_i (z : Int) : Int32 := Int32.ofInt z
theorem dg_i_add (a b : Int) : dg_i a + dg_i b = dg_i (a + b) := (Int32.ofInt_add a b).symm
theorem dg_i_sub (a b : Int) : dg_i a - dg_i b = dg_i (a - b) := (Int32.ofInt_sub a b).symm
theorem dg_i_neg (a : Int) : - dg_i a = dg_i (- a) := (Int32.ofInt_neg a).symm
theorem dg_i_nI (n : Nat) : nI n = dg_i (n : Int) := Int32.ofInt_eq_ofNat.symm
theorem dg_i_t {a : Int} (h : -2000000000 ≤ a) (h2 : a ≤ 2000000000) : (dg_i a).toInt = a := Int32.toInt_ofInt_of_le (by omega) (by omega)
theorem dg_i_lt {a b : Int} (h : -2000000000 ≤ a) (h2 : a ≤ 2000000000) (g : -2000000000 ≤ b) (g2 : b ≤ 2000000000) : dg_i a < dg_i b ↔ a < b := by
  rw [Int32.lt_iff_toInt_lt, dg_i_t h h2, dg_i_t g g2]
theorem dg_i_le {a b : Int} (h : -2000000000 ≤ a) (h2 : a ≤ 2000000000) (g : -2000000000 ≤ b) (g2 : b ≤ 2000000000) : dg_i a ≤ dg_i b ↔ a ≤ b := by
  rw [Int32.le_iff_toInt_le, dg_i_t h h2, dg_i_t g g2]
theorem dg_i_eq {a b : Int} (h : -2000000000 ≤ a) (h2 : a ≤ 2000000000) (g : -2000000000 ≤ b) (g2 : b ≤ 2000000000) : dg_i a = dg_i b ↔ a = b := by
  rw [← Int32.toInt_inj, dg_i_t h h2, dg_i_t g g2]
def dg_wo (c s : Nat) : Int := if c = 1 then 100 + 4 * ((s / 4 : Nat) : Int) else if c = 3 then 100 + 4 * ((7 - s / 4 : Nat) : Int) else if c = 0 then 0 else 250
theorem dg_wo_r {c s : Nat} (hs : s < 32) : 0 ≤ dg_wo c s ∧ dg_wo c s ≤ 250 := by
  unfold dg_wo
  split
  · omega
  · split
    · omega
    · split <;> omega
noncomputable def dg_ev (b : Nat → Nat) (sd : Int32) : Nat → Nat → Int
  | 0, _ => 0
  | n + 1, s => (@ite _ (dg_own (b s) sd) (Classical.propDecidable _) (dg_wo (b s) s) (- dg_wo (b s) s)) + dg_ev b sd n (s + 1)
theorem dg_ev_y {b : Nat → Nat} {sd : Int32} {n s : Nat} (h : dg_own (b s) sd) : dg_ev b sd (n + 1) s = dg_wo (b s) s + dg_ev b sd n (s + 1) := by
  rw [dg_ev, if_pos h]
theorem dg_ev_n {b : Nat → Nat} {sd : Int32} {n s : Nat} (h : ¬ dg_own (b s) sd) : dg_ev b sd (n + 1) s = - dg_wo (b s) s + dg_ev b sd n (s + 1) := by
  rw [dg_ev, if_neg h]
theorem dg_ev_r (b : Nat → Nat) (sd : Int32) : ∀ (n s : Nat), s + n ≤ 32 → - (250 * (n : Int)) ≤ dg_ev b sd n s ∧ dg_ev b sd n s ≤ 250 * (n : Int) := by
  intro n
  induction n with
  | zero => intro s _; rw [dg_ev]; omega
  | succ n ih =>
    intro s hs
    have h1 := ih (s + 1) (by omega)
    have h2 := dg_wo_r (c := b s) (s := s) (by omega)
    by_cases h : dg_own (b s) sd
    · rw [dg_ev_y h]; omega
    · rw [dg_ev_n h]; omega
def dg_st (lim sd0 dc0 mc0 : Int32) : Int32 := if mc0 = 0 then (if sd0 = 0 then 2 else 1) else if lim ≤ dc0 then 3 else 0
theorem dg_st_w {lim sd0 dc0 mc0 : Int32} (h : mc0 = 0) : dg_st lim sd0 dc0 mc0 = if sd0 = 0 then 2 else 1 := if_pos h
theorem dg_st_d {lim sd0 dc0 mc0 : Int32} (h : ¬ mc0 = 0) (h2 : lim ≤ dc0) : dg_st lim sd0 dc0 mc0 = 3 := by unfold dg_st; rw [if_neg h, if_pos h2]
theorem dg_st_o {lim sd0 dc0 mc0 : Int32} (h : ¬ mc0 = 0) (h2 : ¬ lim ≤ dc0) : dg_st lim sd0 dc0 mc0 = 0 := by unfold dg_st; rw [if_neg h, if_neg h2]
theorem dg_st_0 {lim sd0 dc0 mc0 : Int32} (h : dg_st lim sd0 dc0 mc0 = 0) : ¬ mc0 = 0 ∧ ¬ lim ≤ dc0 := by
  unfold dg_st at h
  split at h
  · split at h <;> exact absurd h (by decide)
  · split at h
    · exact absurd h (by decide)
    · exact ⟨‹_›, ‹_›⟩
end
section
abbrev dg_Sh : Type := (Nat → Int32) × (Nat → Int32) × (Nat → Int32) × (Nat → Int32) × (Nat → Int32) × (Nat → Int32)
def dg_l (ml : Nat → Int32) (s : Nat) : Nat := (ml s).toNatClampNeg
def dg_q (mv : Nat → Int32) (s : Nat) : Nat → Nat := fun k => (mv (s * 13 + k)).toNatClampNeg
theorem dg_M_c {ml mv : Nat → Int32} {s : Nat} (h : dg_M ml mv s) : 2 ≤ dg_l ml s ∧ dg_l ml s ≤ 13 ∧ ml s = nI (dg_l ml s) ∧ (∀ k, k < dg_l ml s → dg_q mv s k < 32 ∧ mv (s * 13 + k) = nI (dg_q mv s k)) ∧ ((∀ k, k + 1 < dg_l ml s → dg_D2 (dg_q mv s k) (dg_q mv s (k + 1))) ∨ (dg_l ml s = 2 ∧ ¬ dg_D2 (dg_q mv s 0) (dg_q mv s 1))) := by
  obtain ⟨L, q, h1, h2, h3, h4, h5⟩ := h
  have eL : dg_l ml s = L := by unfold dg_l; rw [h3]; exact nI_clamp (by omega)
  have eq : ∀ k, k < L → dg_q mv s k = q k := fun k hk => by
    unfold dg_q
    rw [(h4 k hk).2]
    exact nI_clamp (by have := (h4 k hk).1; omega)
  rw [eL]
  refine ⟨h1, h2, h3, fun k hk => ?_, ?_⟩
  · rw [eq k hk]; exact h4 k hk
  · rcases h5 with h5 | ⟨h5, h6⟩
    · refine Or.inl fun k hk => ?_
      rw [eq k (by omega), eq (k + 1) hk]; exact h5 k hk
    · refine Or.inr ⟨h5, ?_⟩
      rw [eq 0 (by omega), eq 1 (by omega)]; exact h6
def dg_C2 (q : Nat → Nat) (L : Nat) : Nat := if q 0 / 4 + 2 = q 1 / 4 ∨ q 1 / 4 + 2 = q 0 / 4 then L - 1 else 0
def dg_cro (c s : Nat) : Nat := if (c = 1 ∧ 28 ≤ s) ∨ (c = 3 ∧ s < 4) then 1 else 0
theorem dg_cro_le {c s : Nat} (h : c ≤ 4) : c + dg_cro c s ≤ 4 := by
  unfold dg_cro
  split <;> omega
def dg_ab (bd : Nat → Int32) (s t L : Nat) (q : Nat → Nat) : Nat → Int32 :=
  upd (dg_tk (upd (dg_cb bd s t 32) (t * 32 + q 0) 0) t q (dg_C2 q L)) (t * 32 + q (L - 1)) (nI (dg_b bd (s * 32 + q 0) + dg_cro (dg_b bd (s * 32 + q 0)) (q (L - 1))))
def dg_ad (dc : Nat → Int32) (bd : Nat → Int32) (s t L : Nat) (q : Nat → Nat) : Nat → Int32 :=
  upd dc t (if 0 < dg_C2 q L ∨ dg_b bd (s * 32 + q 0) = 1 ∨ dg_b bd (s * 32 + q 0) = 3 then 0 else dc s + 1)
def dg_as (sd : Nat → Int32) (s t : Nat) : Nat → Int32 := upd sd t (if sd s = 0 then 1 else 0)
def dg_en (bd : Nat → Int32) (s L : Nat) (q : Nat → Nat) : Int32 :=
  nI (q 0 + 32 * q (L - 1) + 1024 * dg_C2 q L + 16384 * dg_cro (dg_b bd (s * 32 + q 0)) (q (L - 1)))
theorem dg_ab_B {bd : Nat → Int32} {s t L : Nat} {q : Nat → Nat} (h : dg_B bd) (hs : s < 4) (hq : q 0 < 32) : dg_B (dg_ab bd s t L q) := by
  refine dg_B_upd (dg_tk_B (dg_B_upd (dg_cb_B h s t 32 hs (by omega)) _ 0 (by omega)) t q _) _ _ (dg_cro_le ?_)
  exact (dg_B_b h (by omega)).2
theorem dg_as_S {sd : Nat → Int32} {s t : Nat} (h : dg_S sd) : dg_S (dg_as sd s t) := by
  refine dg_S_upd h _ _ ?_
  split
  · exact Or.inr rfl
  · exact Or.inl rfl
def dg_ap (s i t : Nat) (S : dg_Sh) : dg_Sh :=
  (dg_ab S.1 s t (dg_l S.2.2.2.2.1 (s * 48 + i)) (dg_q S.2.2.2.2.2 (s * 48 + i)), dg_as S.2.1 s t, dg_ad S.2.2.1 S.1 s t (dg_l S.2.2.2.2.1 (s * 48 + i)) (dg_q S.2.2.2.2.2 (s * 48 + i)), S.2.2.2.1, S.2.2.2.2.1, S.2.2.2.2.2)
def dg_bl (bd : Nat → Int32) (lv : Nat) : Nat → Nat := fun n => dg_b bd (lv * 32 + n)
noncomputable def dg_gn (lv : Nat) (S : dg_Sh) : dg_Sh :=
  (S.1, S.2.1, S.2.2.1, (dg_gen lv (dg_bl S.1 lv) (S.2.1 lv) S.2.2.2.1 S.2.2.2.2.1 S.2.2.2.2.2).1, (dg_gen lv (dg_bl S.1 lv) (S.2.1 lv) S.2.2.2.1 S.2.2.2.2.1 S.2.2.2.2.2).2.1, (dg_gen lv (dg_bl S.1 lv) (S.2.1 lv) S.2.2.2.1 S.2.2.2.2.1 S.2.2.2.2.2).2.2)
def dg_Ok (lv : Nat) (S : dg_Sh) : Prop := dg_B S.1 ∧ dg_S S.2.1 ∧ ∀ l, l ≤ lv → dg_L S.2.2.2.1 S.2.2.2.2.1 S.2.2.2.2.2 l
theorem dg_L_M {mt ml mv : Nat → Int32} {lv i : Nat} (h : dg_L mt ml mv lv) (hi : i < (mt lv).toNatClampNeg) : i < 48 ∧ dg_M ml mv (lv * 48 + i) := by
  obtain ⟨M, h1, h2, h3⟩ := h
  rw [h2, nI_clamp (by omega)] at hi
  exact ⟨by omega, h3 i hi⟩
theorem dg_Ok_ap {lv i : Nat} {S : dg_Sh} (h : dg_Ok lv S) (hl : lv < 3) (hi : i < (S.2.2.2.1 lv).toNatClampNeg) : dg_Ok lv (dg_ap lv i (lv + 1) S) := by
  obtain ⟨h1, h2, h3⟩ := h
  have hm := dg_M_c (dg_L_M (h3 lv (Nat.le_refl lv)) hi).2
  exact ⟨dg_ab_B h1 (by omega) (hm.2.2.2.1 0 (by omega)).1, dg_as_S h2, h3⟩
theorem dg_Ok_gn {lv : Nat} {S : dg_Sh} (h : dg_Ok lv S) : dg_Ok (lv + 1) (dg_gn (lv + 1) S) := by
  obtain ⟨h1, h2, h3⟩ := h
  have g := dg_gen_L (lv + 1) (dg_bl S.1 (lv + 1)) (S.2.1 (lv + 1)) S.2.2.2.1 S.2.2.2.2.1 S.2.2.2.2.2
  refine ⟨h1, h2, fun l hl => ?_⟩
  by_cases e : l = lv + 1
  · subst e; exact g.1
  · exact dg_L_F (h3 l (by omega)) e g.2
def dg_lf (lim : Int32) (pl lv : Nat) (S : dg_Sh) : Prop := S.2.2.2.1 lv = 0 ∨ lim ≤ S.2.2.1 lv ∨ lv = pl
noncomputable def dg_lv (lim : Int32) (lv : Nat) (S : dg_Sh) : Int :=
  @ite _ (S.2.2.2.1 lv = 0) (Classical.propDecidable _) (-10000 + (lv : Int)) (@ite _ (lim ≤ S.2.2.1 lv) (Classical.propDecidable _) 0 (dg_ev (dg_bl S.1 lv) (S.2.1 lv) 32 0))
theorem dg_lv_r {lim : Int32} {lv : Nat} {S : dg_Sh} (h : lv < 4) : -10000 ≤ dg_lv lim lv S ∧ dg_lv lim lv S ≤ 10000 := by
  have g := dg_ev_r (dg_bl S.1 lv) (S.2.1 lv) 32 0 (by omega)
  unfold dg_lv
  split
  · omega
  · split <;> omega
def dg_uI (f : Nat → Int) (k : Nat) (x : Int) : Nat → Int := fun i => if i = k then x else f i
theorem dg_uIs {f : Nat → Int} {k : Nat} {x : Int} : dg_uI f k x k = x := if_pos rfl
theorem dg_uIn {f : Nat → Int} {k i : Nat} {x : Int} (h : i ≠ k) : dg_uI f k x i = f i := if_neg h
def dg_tv (l : Nat) (v : Int) (vb : Nat → Int) : Nat → Int := if vb l < v then dg_uI vb l v else vb
def dg_tg (l : Nat) (v : Int) (vb : Nat → Int) (ix : Nat → Nat) (g : Nat) : Nat := if vb l < v then (if l = 0 then ix 0 else g) else g
noncomputable def dg_se (lim : Int32) (pl : Nat) : Nat → Nat → dg_Sh → (Nat → Nat) → (Nat → Int) → Nat → dg_Sh × Int × Nat
  | 0, _, S, _, vb, g => (S, vb 0, g)
  | _ + 1, 0, S, _, vb, g => (S, vb 0, g)
  | n + 1, l + 1, S, ix, vb, g =>
    if ix l < (S.2.2.2.1 l).toNatClampNeg then
      @ite _ (dg_lf lim pl (l + 1) (dg_gn (l + 1) (dg_ap l (ix l) (l + 1) S))) (Classical.propDecidable _)
        (dg_se lim pl n (l + 1) (dg_gn (l + 1) (dg_ap l (ix l) (l + 1) S)) (dg_u ix l (ix l + 1))
          (dg_tv l (- dg_lv lim (l + 1) (dg_gn (l + 1) (dg_ap l (ix l) (l + 1) S))) vb) (dg_tg l (- dg_lv lim (l + 1) (dg_gn (l + 1) (dg_ap l (ix l) (l + 1) S))) vb ix g))
        (dg_se lim pl n (l + 2) (dg_gn (l + 1) (dg_ap l (ix l) (l + 1) S)) (dg_u ix (l + 1) 0) (dg_uI vb (l + 1) (-20000)) g)
    else if l = 0 then (S, vb 0, g)
    else dg_se lim pl n l S (dg_u ix (l - 1) (ix (l - 1) + 1)) (dg_tv (l - 1) (- vb l) vb) (dg_tg (l - 1) (- vb l) vb ix g)
theorem dg_se_leaf {lim : Int32} {pl n l g : Nat} {S S' : dg_Sh} {ix : Nat → Nat} {vb : Nat → Int} (h : ix l < (S.2.2.2.1 l).toNatClampNeg) (e : dg_gn (l + 1) (dg_ap l (ix l) (l + 1) S) = S') (hl : dg_lf lim pl (l + 1) S') :
    dg_se lim pl (n + 1) (l + 1) S ix vb g = dg_se lim pl n (l + 1) S' (dg_u ix l (ix l + 1)) (dg_tv l (- dg_lv lim (l + 1) S') vb) (dg_tg l (- dg_lv lim (l + 1) S') vb ix g) := by
  subst e
  rw [dg_se, if_pos h, if_pos hl]
theorem dg_se_in {lim : Int32} {pl n l g : Nat} {S S' : dg_Sh} {ix : Nat → Nat} {vb : Nat → Int} (h : ix l < (S.2.2.2.1 l).toNatClampNeg) (e : dg_gn (l + 1) (dg_ap l (ix l) (l + 1) S) = S') (hl : ¬ dg_lf lim pl (l + 1) S') :
    dg_se lim pl (n + 1) (l + 1) S ix vb g = dg_se lim pl n (l + 2) S' (dg_u ix (l + 1) 0) (dg_uI vb (l + 1) (-20000)) g := by
  subst e
  rw [dg_se, if_pos h, if_neg hl]
theorem dg_se_end {lim : Int32} {pl n g : Nat} {S : dg_Sh} {ix : Nat → Nat} {vb : Nat → Int} (h : ¬ ix 0 < (S.2.2.2.1 0).toNatClampNeg) :
    dg_se lim pl (n + 1) 1 S ix vb g = (S, vb 0, g) := by
  rw [dg_se, if_neg h, if_pos rfl]
theorem dg_se_out {lim : Int32} {pl n l g : Nat} {S : dg_Sh} {ix : Nat → Nat} {vb : Nat → Int} (h : ¬ ix (l + 1) < (S.2.2.2.1 (l + 1)).toNatClampNeg) :
    dg_se lim pl (n + 1) (l + 2) S ix vb g = dg_se lim pl n (l + 1) S (dg_u ix l (ix l + 1)) (dg_tv l (- vb (l + 1)) vb) (dg_tg l (- vb (l + 1)) vb ix g) := by
  rw [dg_se, if_neg h, if_neg (by omega)]; rfl
def dg_c (l : Nat) : Nat := if l = 0 then 4706 else if l = 1 then 98 else 2
def dg_sp (M ix : Nat → Nat) : Nat → Nat
  | 0 => 0
  | l + 1 => dg_sp M ix l + ((M l - ix l - 1) * dg_c l + 1)
def dg_pt (M ix : Nat → Nat) : Nat → Nat
  | 0 => 0
  | l + 1 => dg_sp M ix l + ((M l - ix l) * dg_c l + 1)
theorem dg_sp_congr {M ix M' ix' : Nat → Nat} (l : Nat) (h : ∀ i, i < l → M i = M' i ∧ ix i = ix' i) : dg_sp M ix l = dg_sp M' ix' l := by
  induction l with
  | zero => rfl
  | succ l ih =>
    show dg_sp M ix l + ((M l - ix l - 1) * dg_c l + 1) = dg_sp M' ix' l + ((M' l - ix' l - 1) * dg_c l + 1)
    rw [ih (fun i hi => h i (by omega)), (h l (by omega)).1, (h l (by omega)).2]
theorem dg_c_2 (l : Nat) : 2 ≤ dg_c l := by unfold dg_c; split <;> (try split) <;> omega
theorem dg_c_48 {l : Nat} (h : l < 2) : dg_c l = 48 * dg_c (l + 1) + 2 := by
  have : l = 0 ∨ l = 1 := by omega
  rcases this with rfl | rfl <;> rfl
theorem dg_pt_leaf {M M' ix : Nat → Nat} {l : Nat} (hM : ∀ i, i ≤ l → M' i = M i) (h : ix l < M l) : dg_pt M' (dg_u ix l (ix l + 1)) (l + 1) + 2 ≤ dg_pt M ix (l + 1) := by
  have e := dg_sp_congr (M := M') (ix := dg_u ix l (ix l + 1)) (M' := M) (ix' := ix) l (fun i hi => ⟨hM i (by omega), dg_un (by omega)⟩)
  show dg_sp M' (dg_u ix l (ix l + 1)) l + ((M' l - dg_u ix l (ix l + 1) l) * dg_c l + 1) + 2 ≤ dg_sp M ix l + ((M l - ix l) * dg_c l + 1)
  rw [e, dg_us, hM l (Nat.le_refl l)]
  have h2 := dg_c_2 l
  have h3 : (M l - (ix l + 1) + 1) * dg_c l = (M l - ix l) * dg_c l := congrArg (· * dg_c l) (by omega)
  rw [Nat.add_mul] at h3
  omega
theorem dg_pt_in {M M' ix : Nat → Nat} {l : Nat} (hl : l < 2) (hM : ∀ i, i ≤ l → M' i = M i) (h : ix l < M l) (h48 : M' (l + 1) ≤ 48) : dg_pt M' (dg_u ix (l + 1) 0) (l + 2) + 1 ≤ dg_pt M ix (l + 1) := by
  have e := dg_sp_congr (M := M') (ix := dg_u ix (l + 1) 0) (M' := M) (ix' := ix) l (fun i hi => ⟨hM i (by omega), dg_un (by omega)⟩)
  show dg_sp M' (dg_u ix (l + 1) 0) l + ((M' l - dg_u ix (l + 1) 0 l - 1) * dg_c l + 1) + ((M' (l + 1) - dg_u ix (l + 1) 0 (l + 1)) * dg_c (l + 1) + 1) + 1 ≤ dg_sp M ix l + ((M l - ix l) * dg_c l + 1)
  rw [e, dg_us, dg_un (by omega), hM l (Nat.le_refl l)]
  have h3 : (M l - ix l - 1 + 1) * dg_c l = (M l - ix l) * dg_c l := congrArg (· * dg_c l) (by omega)
  rw [Nat.add_mul] at h3
  have h4 : (M' (l + 1) - 0) * dg_c (l + 1) ≤ 48 * dg_c (l + 1) := Nat.mul_le_mul_right _ (by omega)
  have h5 := dg_c_48 hl
  omega
theorem dg_pt_out {M ix : Nat → Nat} {l : Nat} : dg_pt M (dg_u ix l (ix l + 1)) (l + 1) + 1 ≤ dg_pt M ix (l + 2) := by
  have e := dg_sp_congr (M := M) (ix := dg_u ix l (ix l + 1)) (M' := M) (ix' := ix) l (fun i hi => ⟨rfl, dg_un (by omega)⟩)
  show dg_sp M (dg_u ix l (ix l + 1)) l + ((M l - dg_u ix l (ix l + 1) l) * dg_c l + 1) + 1 ≤ dg_sp M ix l + ((M l - ix l - 1) * dg_c l + 1) + ((M (l + 1) - ix (l + 1)) * dg_c (l + 1) + 1)
  rw [e, dg_us]
  have h3 : M l - (ix l + 1) = M l - ix l - 1 := by omega
  rw [h3]
  omega
theorem dg_pt_0 {M ix : Nat → Nat} (h : M 0 ≤ 48) : dg_pt M ix 1 ≤ 225889 := by
  show 0 + ((M 0 - ix 0) * 4706 + 1) ≤ 225889
  have : (M 0 - ix 0) * 4706 ≤ 48 * 4706 := Nat.mul_le_mul_right _ (by omega)
  omega
def dg_m (S : dg_Sh) : Nat → Nat := fun i => (S.2.2.2.1 i).toNatClampNeg
def dg_H (l : Nat) (S : dg_Sh) (ix : Nat → Nat) (vb : Nat → Int) : Prop := dg_Ok l S ∧ (∀ i, i < l → ix i < dg_m S i) ∧ ∀ i, i ≤ l → 1 ≤ dg_m S i ∧ ix i ≤ dg_m S i ∧ ((ix i = 0 ∧ vb i = -20000) ∨ (1 ≤ ix i ∧ -10000 ≤ vb i ∧ vb i ≤ 10000))
theorem dg_L_m {S : dg_Sh} {l : Nat} (h : dg_L S.2.2.2.1 S.2.2.2.2.1 S.2.2.2.2.2 l) : dg_m S l ≤ 48 ∧ S.2.2.2.1 l = nI (dg_m S l) := by
  obtain ⟨M, h1, h2, _⟩ := h
  unfold dg_m
  rw [h2, nI_clamp (by omega)]
  exact ⟨h1, rfl⟩
theorem dg_m_next {l i : Nat} {S : dg_Sh} (h : i ≤ l) (k : Nat) : (dg_gn (l + 1) (dg_ap l k (l + 1) S)).2.2.2.1 i = S.2.2.2.1 i := by
  have g := dg_gen_L (l + 1) (dg_bl (dg_ap l k (l + 1) S).1 (l + 1)) ((dg_ap l k (l + 1) S).2.1 (l + 1)) S.2.2.2.1 S.2.2.2.2.1 S.2.2.2.2.2
  exact g.2.1 i (by omega)
theorem dg_Ok_le {l l' : Nat} {S : dg_Sh} (h : dg_Ok l S) (hl : l' ≤ l) : dg_Ok l' S := ⟨h.1, h.2.1, fun i hi => h.2.2 i (by omega)⟩
theorem dg_H_take {l : Nat} {S S' : dg_Sh} {ix : Nat → Nat} {vb : Nat → Int} {v : Int} (h : dg_H l S ix vb) (hO : dg_Ok l S') (hm : ∀ i, i ≤ l → dg_m S' i = dg_m S i) (hi : ix l < dg_m S l) (h1 : -10000 ≤ v) (h2 : v ≤ 10000) : dg_H l S' (dg_u ix l (ix l + 1)) (dg_tv l v vb) := by
  obtain ⟨g0, g1, g2⟩ := h
  refine ⟨hO, fun i hil => ?_, fun i hil => ?_⟩
  · rw [dg_un (by omega), hm i (by omega)]; exact g1 i hil
  · rw [hm i hil]
    have k := g2 i hil
    unfold dg_tv
    by_cases e : i = l
    · subst e
      rw [dg_us]
      refine ⟨k.1, by omega, Or.inr ⟨by omega, ?_⟩⟩
      by_cases c : vb i < v
      · rw [if_pos c, dg_uIs]; exact ⟨h1, h2⟩
      · rw [if_neg c]
        rcases k.2.2 with k | k
        · omega
        · exact k.2
    · rw [dg_un e]
      refine ⟨k.1, k.2.1, ?_⟩
      split
      · rw [dg_uIn e]; exact k.2.2
      · exact k.2.2
theorem dg_H_next {l : Nat} {S S' : dg_Sh} {ix : Nat → Nat} {vb : Nat → Int} (h : dg_H l S ix vb) (hl : l < 3) (hi : ix l < dg_m S l) (e : dg_gn (l + 1) (dg_ap l (ix l) (l + 1) S) = S') : dg_Ok (l + 1) S' ∧ ∀ i, i ≤ l → dg_m S' i = dg_m S i := by
  subst e
  refine ⟨dg_Ok_gn (dg_Ok_ap h.1 hl hi), fun i hil => ?_⟩
  unfold dg_m
  rw [dg_m_next hil]
theorem dg_H_in {l : Nat} {S S' : dg_Sh} {ix : Nat → Nat} {vb : Nat → Int} (h : dg_H l S ix vb) (hi : ix l < dg_m S l) (hO : dg_Ok (l + 1) S') (hm : ∀ i, i ≤ l → dg_m S' i = dg_m S i) (h0 : ¬ S'.2.2.2.1 (l + 1) = 0) : dg_H (l + 1) S' (dg_u ix (l + 1) 0) (dg_uI vb (l + 1) (-20000)) := by
  obtain ⟨g0, g1, g2⟩ := h
  refine ⟨hO, fun i hil => ?_, fun i hil => ?_⟩
  · rw [dg_un (by omega), hm i (by omega)]
    by_cases e : i = l
    · subst e; exact hi
    · exact g1 i (by omega)
  · by_cases e : i = l + 1
    · subst e
      rw [dg_us, dg_uIs]
      have k := dg_L_m (hO.2.2 (l + 1) (Nat.le_refl _))
      refine ⟨?_, Nat.zero_le _, Or.inl ⟨rfl, rfl⟩⟩
      by_cases z : dg_m S' (l + 1) = 0
      · rw [z] at k; exact absurd k.2 h0
      · omega
    · rw [dg_un e, dg_uIn e, hm i (by omega)]
      exact g2 i (by omega)
theorem dg_H_out {l : Nat} {S : dg_Sh} {ix : Nat → Nat} {vb : Nat → Int} (h : dg_H (l + 1) S ix vb) (hi : ¬ ix (l + 1) < dg_m S (l + 1)) : (1 ≤ ix (l + 1) ∧ -10000 ≤ vb (l + 1) ∧ vb (l + 1) ≤ 10000) ∧ dg_H l S ix vb := by
  obtain ⟨g0, g1, g2⟩ := h
  have k := g2 (l + 1) (Nat.le_refl _)
  refine ⟨?_, dg_Ok_le g0 (by omega), fun i hil => g1 i (by omega), fun i hil => g2 i (by omega)⟩
  rcases k.2.2 with k2 | k2
  · omega
  · exact k2
end
section
theorem wx_4 : (4 : Int32) = nI 4 := rfl
def dg_col (c : Nat) : Int32 := if c = 0 then -1 else if c ≤ 2 then 0 else 1
def dg_fo (c : Nat) : Int32 := if c ≤ 2 then 1 else 0
theorem dg_foe : ∀ c, c < 5 → ¬ c = 0 → ∀ v, v < 5 → (dg_col v = dg_fo c ↔ (¬ v = 0 ∧ ¬ (v ≤ 2 ↔ c ≤ 2))) := by decide +kernel
theorem dg_own0 : ∀ c, c < 5 → (dg_col c = 0 ↔ (¬ c = 0 ∧ c ≤ 2)) := by decide +kernel
theorem dg_own1 : ∀ c, c < 5 → (dg_col c = 1 ↔ 2 < c) := by decide +kernel
theorem dg_own_col {c : Nat} {sd : Int32} (hc : c ≤ 4) (hs : sd = 0 ∨ sd = 1) : dg_col c = sd ↔ dg_own c sd := by
  rcases hs with rfl | rfl
  · rw [dg_own0 c (by omega)]
    unfold dg_own
    have h : ¬ (0 : Int32) = 1 := by decide
    constructor
    · intro h; exact Or.inl ⟨h.1, h.2, rfl⟩
    · rintro (h1 | h1)
      · exact ⟨h1.1, h1.2.1⟩
      · exact absurd h1.2 h
  · rw [dg_own1 c (by omega)]
    unfold dg_own
    have h : ¬ (1 : Int32) = 0 := by decide
    constructor
    · intro h; exact Or.inr ⟨h, rfl⟩
    · rintro (h1 | h1)
      · exact absurd h1.2.2 h
      · exact h1.1
theorem wx_col {post : Int32 → Prop} {c : Nat} (hc : c ≤ 4) (h : post (dg_col c)) : wpX_colourOf post () (nI c) := by
  refine pk_eq c 0 (fun e => ?_) (fun e => pk_lt 2 c (fun l => ?_) (fun l => ?_))
  · subst e; exact h
  · have e1 : dg_col c = 1 := by unfold dg_col; rw [if_neg e, if_neg (by omega)]
    rw [e1] at h; exact h
  · have e1 : dg_col c = 0 := by unfold dg_col; rw [if_neg e, if_pos (by omega)]
    rw [e1] at h; exact h
theorem wx_fst {post : Int32 → Prop} {c : Nat} (hc : c ≤ 4) (h : post (nI (dg_fst c))) : wpX_firstDirection post () (nI c) := by
  refine pk_eq c 1 (fun e => ?_) (fun e => ?_)
  · have e1 : dg_fst c = 2 := if_pos e
    rw [e1] at h; exact h
  · have e1 : dg_fst c = 0 := if_neg e
    rw [e1] at h; exact h
theorem wx_end {post : Int32 → Prop} {c : Nat} (hc : c ≤ 4) (h : post (nI (dg_end c))) : wpX_directionEnd post () (nI c) := by
  refine pk_eq c 3 (fun e => ?_) (fun e => ?_)
  · have e1 : dg_end c = 2 := if_pos e
    rw [e1] at h; exact h
  · have e1 : dg_end c = 4 := if_neg e
    rw [e1] at h; exact h
theorem wx_cro {post : Int32 → Prop} {c s : Nat} (hc : c ≤ 4) (hs : s < 32) (h : post (nI (dg_cro c s))) : wpX_isCrowningSquare post () (nI c) (nI s) := by
  refine pk_eq c 1 (fun e => pk_lt s 28 (fun l => ?_) (fun l => ?_)) (fun e => pk_eq c 3 (fun e3 => pk_le 4 s (fun l => ?_) (fun l => ?_)) (fun e3 => ?_))
  · have e1 : dg_cro c s = 0 := if_neg (by omega)
    rw [e1] at h; exact h
  · have e1 : dg_cro c s = 1 := if_pos (by omega)
    rw [e1] at h; exact h
  · have e1 : dg_cro c s = 0 := if_neg (by omega)
    rw [e1] at h; exact h
  · have e1 : dg_cro c s = 1 := if_pos (by omega)
    rw [e1] at h; exact h
  · have e1 : dg_cro c s = 0 := if_neg (by omega)
    rw [e1] at h; exact h
theorem dg_fo_1 {post : Int32 → Prop} {c : Nat} (h0 : ¬ c = 0) (h1 : dg_col c = 0 → post 1) (h2 : ¬ dg_col c = 0 → post 0) : post (dg_fo c) := by
  unfold dg_fo
  split
  · refine h1 ?_
    unfold dg_col; rw [if_neg h0, if_pos ‹_›]
  · refine h2 ?_
    unfold dg_col; rw [if_neg h0, if_neg ‹_›]; decide
theorem wx_isJ_l {f_drawLimit f_logTotal f_gameStatus f_searchValue : Int32} {a_neighbours a_board a_sides a_counters a_moveTotals a_moveLengths a_moveSquares a_path a_jumped a_nextDirection a_wentOn a_nextMove a_bestMove a_bestValue a_log : Nat → Int32} {P : Int32 → Prop} {J : Nat → Int32} {n k : Nat} {j : Nat → Nat} (hk : k ≤ 12) (hn : n < 32) (hj : ∀ i, i < k → a_jumped (i + 1) = nI (j i) ∧ j i < 32 ∧ ¬ J (j i) = 0) (hJ : ¬ J n = 0 → ∃ i, i < k ∧ j i = n)
    (h0 : J n = 0 → P 0) (h1 : ¬ J n = 0 → P 1) : ∀ m i f, i + m = k → m < f → (∀ e, e < i → j e ≠ n) → wX_isJumped_2 P (nI n) (nI k) f_drawLimit f_logTotal f_gameStatus f_searchValue a_neighbours a_board a_sides a_counters a_moveTotals a_moveLengths a_moveSquares a_path a_jumped a_nextDirection a_wentOn a_nextMove a_bestMove a_bestValue a_log f (nI (i + 1)) := by
  intro m
  induction m with
  | zero =>
    intro i f hi hf hno
    obtain ⟨f, rfl⟩ : ∃ g, f = g + 1 := ⟨f - 1, by omega⟩
    refine br_t (nI_lt (by omega) (by omega)) (h0 ?_)
    apply Classical.byContradiction
    intro z
    obtain ⟨e, he, e2⟩ := hJ z
    exact hno e (by omega) e2
  | succ m ih =>
    intro i f hi hf hno
    obtain ⟨f, rfl⟩ : ∃ g, f = g + 1 := ⟨f - 1, by omega⟩
    have hcl : (nI (i + 1)).toNatClampNeg = i + 1 := nI_clamp (by omega)
    obtain ⟨a1, a2, a3⟩ := hj i (by omega)
    refine br_f (nI_nlt (by omega) (by omega)) ⟨vp_in_nI (by omega) (by omega), ?_⟩
    rw [hcl, a1]
    refine pk_eq (j i) n (fun e => h1 (e ▸ a3)) (fun e => nm_r (nI_1 (i + 1)) (ih (i + 1) f (by omega) (by omega) fun e' he' => ?_))
    by_cases z : e' = i
    · subst z; exact e
    · exact hno e' (by omega)
theorem wx_isJ {f_drawLimit f_logTotal f_gameStatus f_searchValue : Int32} {a_neighbours a_board a_sides a_counters a_moveTotals a_moveLengths a_moveSquares a_path a_jumped a_nextDirection a_wentOn a_nextMove a_bestMove a_bestValue a_log : Nat → Int32} {P : Int32 → Prop} {J : Nat → Int32} {n k : Nat} {j : Nat → Nat} (hk : k ≤ 12) (hn : n < 32) (hj : ∀ i, i < k → a_jumped (i + 1) = nI (j i) ∧ j i < 32 ∧ ¬ J (j i) = 0) (hJ : ¬ J n = 0 → ∃ i, i < k ∧ j i = n)
    (h0 : J n = 0 → P 0) (h1 : ¬ J n = 0 → P 1) : wpX_isJumped P (f_drawLimit, f_logTotal, f_gameStatus, f_searchValue, a_neighbours, a_board, a_sides, a_counters, a_moveTotals, a_moveLengths, a_moveSquares, a_path, a_jumped, a_nextDirection, a_wentOn, a_nextMove, a_bestMove, a_bestValue, a_log) (nI n) (nI k) :=
  ⟨k + 1, wx_isJ_l hk hn hj hJ h0 h1 k 0 (k + 1) (by omega) (by omega) (fun e he => absurd he (Nat.not_lt_zero e))⟩
theorem wx_fj_l {f_drawLimit f_logTotal f_gameStatus f_searchValue : Int32} {a_neighbours a_board a_sides a_counters a_moveTotals a_moveLengths a_moveSquares a_path a_jumped a_nextDirection a_wentOn a_nextMove a_bestMove a_bestValue a_log : Nat → Int32} {post : Int32 → Prop} {lv c k s0 q : Nat} {J : Nat → Int32} (hN : dg_N a_neighbours) (hB : dg_B a_board) (hlv : lv < 4) (hc : c ≤ 4) (hc0 : ¬ c = 0) (hk : k < 13) (hq : q < 32) (hpk : a_path k = nI q) (hp0 : a_path 0 = nI s0) (hs0 : s0 < 32)
    (hJ : ∀ n, n < 32 → ∀ P : Int32 → Prop, (J n = 0 → P 0) → (¬ J n = 0 → P 1) → wpX_isJumped P (f_drawLimit, f_logTotal, f_gameStatus, f_searchValue, a_neighbours, a_board, a_sides, a_counters, a_moveTotals, a_moveLengths, a_moveSquares, a_path, a_jumped, a_nextDirection, a_wentOn, a_nextMove, a_bestMove, a_bestValue, a_log) (nI n) (nI k)) :
    ∀ m d n, d + m = 4 → dg_fst c ≤ d → m < n → post (dg_r (dg_sc (dg_P (dg_bl a_board lv) J c s0 q) m d)) → wX_findJump_34 post (nI k) (nI (lv * 32)) (dg_fo c) (nI (dg_end c)) f_drawLimit f_logTotal f_gameStatus f_searchValue a_neighbours a_board a_sides a_counters a_moveTotals a_moveLengths a_moveSquares a_path a_jumped a_nextDirection a_wentOn a_nextMove a_bestMove a_bestValue a_log n (nI d) := by
  have he : dg_end c ≤ 4 := by unfold dg_end; split <;> omega
  intro m
  induction m with
  | zero =>
    intro d n hd hf hn hp
    obtain ⟨n, rfl⟩ : ∃ g, n = g + 1 := ⟨n - 1, by omega⟩
    obtain rfl : d = 4 := by omega
    exact br_t (nI_le he (by omega)) hp
  | succ m ih =>
    intro d n hd hf hn hp
    obtain ⟨n, rfl⟩ : ∃ g, n = g + 1 := ⟨n - 1, by omega⟩
    by_cases hde : dg_end c ≤ d
    · have hno : ∀ e, d ≤ e → e < d + (m + 1) → ¬ dg_P (dg_bl a_board lv) J c s0 q e := by
        intro e h1 h2 hP
        have ho := hP.1.2
        unfold dg_end at hde
        split at hde
        · have := ho ‹_›; omega
        · omega
      rw [dg_sc_none _ _ _ hno, hd] at hp
      exact br_t (nI_le hde (by omega)) hp
    · have hok : dg_ok c d := by
        refine ⟨fun e => ?_, fun e => ?_⟩
        · have : dg_fst c = 2 := if_pos e
          omega
        · have : dg_end c = 2 := if_pos e
          omega
      have nxt : ¬ dg_P (dg_bl a_board lv) J c s0 q d → ∀ y, y = nI d + 1 → wX_findJump_34 post (nI k) (nI (lv * 32)) (dg_fo c) (nI (dg_end c)) f_drawLimit f_logTotal f_gameStatus f_searchValue a_neighbours a_board a_sides a_counters a_moveTotals a_moveLengths a_moveSquares a_path a_jumped a_nextDirection a_wentOn a_nextMove a_bestMove a_bestValue a_log n y := by
        intro hP
        rw [dg_sc_n hP] at hp
        exact nm_r (nI_1 d) (ih (d + 1) n (by omega) (by omega) (by omega) hp)
      have hit : dg_P (dg_bl a_board lv) J c s0 q d → post (nI d) := by
        intro hP
        rw [dg_sc_y hP, dg_r_lt (by omega)] at hp
        exact hp
      have ec : (nI k).toNatClampNeg = k := nI_clamp (by omega)
      have e1 : a_path (nI k).toNatClampNeg * 4 + nI d = nI (q * 4 + d) := by
        rw [ec, hpk, wx_4, pk_mul, nI_add]
      refine br_f (nI_ge (by omega) (by omega)) ⟨vp_in_nI hk (by omega), ?_⟩
      rw [e1]
      refine ⟨vp_in_nI (by omega) (by omega), ?_⟩
      rw [nI_clamp (by omega), hN q hq d (by omega)]
      by_cases hT : dg_T q d < 32
      · rw [dg_enc_lt hT]
        refine nm_e (br_f (dg_enc_n _ hT).1 ?_)
        have e2 : nI (lv * 32) + nI (dg_T q d) = nI (lv * 32 + dg_T q d) := nI_add _ _
        rw [e2]
        refine ⟨vp_in_nI (by omega) (by omega), ?_⟩
        have hv := dg_B_b hB (i := lv * 32 + dg_T q d) (by omega)
        rw [nI_clamp (by omega), hv.1]
        refine wx_col hv.2 ?_
        by_cases hfo : dg_col (dg_b a_board (lv * 32 + dg_T q d)) = dg_fo c
        · have hfoe := (dg_foe c (by omega) hc0 _ (by omega)).mp hfo
          refine br_t hfo ?_
          have e3 : nI (dg_T q d) * 4 + nI d = nI (dg_T q d * 4 + d) := by rw [wx_4, pk_mul, nI_add]
          rw [e3]
          refine ⟨vp_in_nI (by omega) (by omega), ?_⟩
          rw [nI_clamp (by omega), hN _ hT d (by omega)]
          by_cases hL : dg_T (dg_T q d) d < 32
          · rw [dg_enc_lt hL]
            refine nm_e (br_f (dg_enc_n _ hL).1 ?_)
            have e4 : nI (lv * 32) + nI (dg_T (dg_T q d) d) = nI (lv * 32 + dg_T (dg_T q d) d) := nI_add _ _
            rw [e4]
            refine ⟨vp_in_nI (by omega) (by omega), ?_⟩
            have hw := dg_B_b hB (i := lv * 32 + dg_T (dg_T q d) d) (by omega)
            rw [nI_clamp (by omega), hw.1, hp0]
            have go : (dg_bl a_board lv (dg_T (dg_T q d) d) = 0 ∨ dg_T (dg_T q d) d = s0) → wX_findJump_130 post (wX_findJump_34 post (nI k) (nI (lv * 32)) (dg_fo c) (nI (dg_end c)) f_drawLimit f_logTotal f_gameStatus f_searchValue a_neighbours a_board a_sides a_counters a_moveTotals a_moveLengths a_moveSquares a_path a_jumped a_nextDirection a_wentOn a_nextMove a_bestMove a_bestValue a_log n) (nI k) (nI (lv * 32)) (dg_fo c) (nI (dg_end c)) (nI d) (nI (dg_T q d)) f_drawLimit f_logTotal f_gameStatus f_searchValue a_neighbours a_board a_sides a_counters a_moveTotals a_moveLengths a_moveSquares a_path a_jumped a_nextDirection a_wentOn a_nextMove a_bestMove a_bestValue a_log := by
              intro hfree
              refine br_f (by decide) (hJ _ hT _ (fun j0 => br_t rfl (hit ⟨hok, hT, hL, j0, hfoe, hfree⟩)) (fun j1 => br_f (by decide) (nxt fun hP => j1 hP.2.2.2.1)))
            refine pk_eq (dg_b a_board (lv * 32 + dg_T (dg_T q d) d)) 0 (fun z => go (Or.inl z)) (fun z => pk_eq (dg_T (dg_T q d) d) s0 (fun z2 => go (Or.inr z2)) (fun z2 => br_t rfl (nxt fun hP => ?_)))
            rcases hP.2.2.2.2.2 with h | h
            · exact z h
            · exact z2 h
          · rw [dg_enc_ge hL]
            exact nm_e (br_t rfl (br_t rfl (nxt fun hP => hL hP.2.2.1)))
        · exact br_f hfo (nxt fun hP => hfo ((dg_foe c (by omega) hc0 _ (by omega)).mpr hP.2.2.2.2.1))
      · rw [dg_enc_ge hT]
        exact nm_e (br_t rfl (nxt fun hP => hT hP.2.1))
theorem wx_fj {f_drawLimit f_logTotal f_gameStatus f_searchValue : Int32} {a_neighbours a_board a_sides a_counters a_moveTotals a_moveLengths a_moveSquares a_path a_jumped a_nextDirection a_wentOn a_nextMove a_bestMove a_bestValue a_log : Nat → Int32} {post : Int32 → Prop} {lv c k s0 q x : Nat} {J : Nat → Int32} (hN : dg_N a_neighbours) (hB : dg_B a_board) (hlv : lv < 4) (hc : c ≤ 4) (hc0 : ¬ c = 0) (hk : k < 13) (hq : q < 32) (hpk : a_path k = nI q) (hp0 : a_path 0 = nI s0) (hs0 : s0 < 32)
    (hJ : ∀ n, n < 32 → ∀ P : Int32 → Prop, (J n = 0 → P 0) → (¬ J n = 0 → P 1) → wpX_isJumped P (f_drawLimit, f_logTotal, f_gameStatus, f_searchValue, a_neighbours, a_board, a_sides, a_counters, a_moveTotals, a_moveLengths, a_moveSquares, a_path, a_jumped, a_nextDirection, a_wentOn, a_nextMove, a_bestMove, a_bestValue, a_log) (nI n) (nI k)) (hx : a_nextDirection k = nI x) (hx1 : dg_fst c ≤ x) (hx4 : x ≤ 4)
    (hp : post (dg_r (dg_D (dg_bl a_board lv) c s0 J q x))) : wpX_findJump post (f_drawLimit, f_logTotal, f_gameStatus, f_searchValue, a_neighbours, a_board, a_sides, a_counters, a_moveTotals, a_moveLengths, a_moveSquares, a_path, a_jumped, a_nextDirection, a_wentOn, a_nextMove, a_bestMove, a_bestValue, a_log) (nI lv) (nI c) (nI k) := by
  have go : ∀ z, z = dg_fo c → wX_findJump_18 post (nI c) (nI k) (nI (lv * 32)) z f_drawLimit f_logTotal f_gameStatus f_searchValue a_neighbours a_board a_sides a_counters a_moveTotals a_moveLengths a_moveSquares a_path a_jumped a_nextDirection a_wentOn a_nextMove a_bestMove a_bestValue a_log := by
    intro z hz
    subst hz
    refine wx_end hc ⟨vp_in_nI hk (by omega), nm_r (e' := nI x) (by rw [nI_clamp (by omega), hx]) ⟨5, ?_⟩⟩
    exact wx_fj_l hN hB hlv hc hc0 hk hq hpk hp0 hs0 hJ (4 - x) x 5 (by omega) hx1 (by omega) hp
  refine nm_r (e' := nI (lv * 32)) (pk_mul lv 32) (wx_col hc ?_)
  refine br_c (fun h => go 1 ?_) (fun h => go 0 ?_)
  · unfold dg_fo
    unfold dg_col at h
    rw [if_neg hc0] at h
    split at h
    · rw [if_pos ‹_›]
    · exact absurd h (by decide)
  · unfold dg_fo
    unfold dg_col at h
    rw [if_neg hc0] at h
    split at h
    · exact absurd rfl h
    · rw [if_neg ‹_›]
theorem wx_keep_l {f_drawLimit f_logTotal f_gameStatus f_searchValue : Int32} {a_neighbours a_board a_sides a_counters a_moveTotals a_moveLengths a_moveSquares a_path a_jumped a_nextDirection a_wentOn a_nextMove a_bestMove a_bestValue a_log : Nat → Int32} {post : St2 → Prop} {lv L s M : Nat} {q : Nat → Nat} (hlv : lv < 4) (hs : s < 192) (hL : L ≤ 13) (hp : ∀ i, i < L → a_path i = nI (q i)) (hM : a_moveTotals lv = nI M)
    (h : post (f_drawLimit, f_logTotal, f_gameStatus, f_searchValue, a_neighbours, a_board, a_sides, a_counters, upd a_moveTotals lv (nI (M + 1)), a_moveLengths, dg_wr a_moveSquares (s * 13) q L, a_path, a_jumped, a_nextDirection, a_wentOn, a_nextMove, a_bestMove, a_bestValue, a_log)) :
    ∀ m i n, i + m = L → m < n → wX_keepPath_34 post (nI lv) (nI L) (nI s) f_drawLimit f_logTotal f_gameStatus f_searchValue n (nI i) a_neighbours a_board a_sides a_counters a_moveTotals a_moveLengths (dg_wr a_moveSquares (s * 13) q i) a_path a_jumped a_nextDirection a_wentOn a_nextMove a_bestMove a_bestValue a_log := by
  intro m
  induction m with
  | zero =>
    intro i n hi hn
    obtain ⟨n, rfl⟩ : ∃ g, n = g + 1 := ⟨n - 1, by omega⟩
    obtain rfl : i = L := by omega
    refine br_t (nI_le (Nat.le_refl i) (by omega)) ⟨vp_in_nI hlv (by omega), vp_in_nI hlv (by omega), nm_r ?_ h⟩
    rw [nI_clamp (by omega), hM, nI_1]
  | succ m ih =>
    intro i n hi hn
    obtain ⟨n, rfl⟩ : ∃ g, n = g + 1 := ⟨n - 1, by omega⟩
    have e1 : nI s * 13 + nI i = nI (s * 13 + i) := by rw [show (13 : Int32) = nI 13 from rfl, pk_mul, nI_add]
    refine br_f (nI_ge (by omega) (by omega)) ⟨vp_in_nI (by omega) (by omega), ?_⟩
    rw [e1]
    refine ⟨vp_in_nI (by omega) (by omega), nm_r (e' := dg_wr a_moveSquares (s * 13) q (i + 1)) ?_ (nm_r (nI_1 i) (ih (i + 1) n (by omega) (by omega)))⟩
    rw [nI_clamp (by omega), nI_clamp (by omega), hp i (by omega)]
    rfl
theorem wx_keep {f_drawLimit f_logTotal f_gameStatus f_searchValue : Int32} {a_neighbours a_board a_sides a_counters a_path a_jumped a_nextDirection a_wentOn a_nextMove a_bestMove a_bestValue a_log : Nat → Int32} {post : St2 → Prop} {lv L : Nat} {q : Nat → Nat} {T : (Nat → Int32) × (Nat → Int32) × (Nat → Int32)} (hlv : lv < 4) (hQ : dg_Q T lv) (hL : L ≤ 13) (hp : ∀ i, i < L → a_path i = nI (q i))
    (h : post (f_drawLimit, f_logTotal, f_gameStatus, f_searchValue, a_neighbours, a_board, a_sides, a_counters, (dg_rec lv T (L, q)).1, (dg_rec lv T (L, q)).2.1, (dg_rec lv T (L, q)).2.2, a_path, a_jumped, a_nextDirection, a_wentOn, a_nextMove, a_bestMove, a_bestValue, a_log)) : wpX_keepPath post (f_drawLimit, f_logTotal, f_gameStatus, f_searchValue, a_neighbours, a_board, a_sides, a_counters, T.1, T.2.1, T.2.2, a_path, a_jumped, a_nextDirection, a_wentOn, a_nextMove, a_bestMove, a_bestValue, a_log) (nI lv) (nI L) := by
  obtain ⟨M, hM, eM⟩ := hQ
  have ec : (nI lv).toNatClampNeg = lv := nI_clamp (by omega)
  refine ⟨vp_in_nI hlv (by omega), ?_⟩
  rw [ec, eM]
  refine pk_lt M 48 (fun hlt => ⟨vp_in_nI hlv (by omega), ?_⟩) (fun hge => ?_)
  · rw [dg_rec_lt eM hlt] at h
    refine nm_r (e' := nI (lv * 48 + M)) (by rw [show (48 : Int32) = nI 48 from rfl, pk_mul, nI_add]) ⟨vp_in_nI (by omega) (by omega), nm_r (e' := upd T.2.1 (lv * 48 + M) (nI L)) (by rw [nI_clamp (by omega)]) ⟨L + 1, ?_⟩⟩
    exact wx_keep_l hlv (by omega) hL hp eM h L 0 (L + 1) (by omega) (by omega)
  · rw [dg_rec_ge eM hge hM] at h
    exact h
theorem wx_jump {f_drawLimit f_logTotal f_gameStatus f_searchValue : Int32} {a_neighbours a_board a_sides a_counters a_moveTotals a_moveLengths a_moveSquares a_path a_jumped a_nextDirection a_wentOn a_nextMove a_bestMove a_bestValue a_log : Nat → Int32} {post : St2 → Prop} {c k D q : Nat} (hN : dg_N a_neighbours) (hc : c ≤ 4) (hk : k < 12) (hD : D < 4) (hq : q < 32) (hpk : a_path k = nI q) (hT : dg_T q D < 32) (hL : dg_T (dg_T q D) D < 32)
    (h : post (f_drawLimit, f_logTotal, f_gameStatus, f_searchValue, a_neighbours, a_board, a_sides, a_counters, a_moveTotals, a_moveLengths, a_moveSquares, upd a_path (k + 1) (nI (dg_T (dg_T q D) D)), upd a_jumped (k + 1) (nI (dg_T q D)), upd (upd a_nextDirection k (nI (D + 1))) (k + 1) (nI (dg_x0 c (dg_T (dg_T q D) D))), upd (upd a_wentOn k 1) (k + 1) 0, a_nextMove, a_bestMove, a_bestValue, a_log)) : wpX_jump post (f_drawLimit, f_logTotal, f_gameStatus, f_searchValue, a_neighbours, a_board, a_sides, a_counters, a_moveTotals, a_moveLengths, a_moveSquares, a_path, a_jumped, a_nextDirection, a_wentOn, a_nextMove, a_bestMove, a_bestValue, a_log) (nI c) (nI k) (nI D) := by
  have ec : (nI k).toNatClampNeg = k := nI_clamp (by omega)
  have ec1 : (nI k + 1).toNatClampNeg = k + 1 := by rw [nI_1]; exact nI_clamp (by omega)
  have hin : vp_in (nI k) 13 := vp_in_nI (by omega) (by omega)
  have hin1 : vp_in (nI k + 1) 13 := by rw [nI_1]; exact vp_in_nI (by omega) (by omega)
  have b1 : vp_nar .boolean 1 = 1 := by decide
  have b0 : vp_nar .boolean 0 = 0 := by decide
  have e1 : a_path (nI k).toNatClampNeg * 4 + nI D = nI (q * 4 + D) := by rw [ec, hpk, wx_4, pk_mul, nI_add]
  have e2 : nI (dg_T q D) * 4 + nI D = nI (dg_T q D * 4 + D) := by rw [wx_4, pk_mul, nI_add]
  refine ⟨hin, ?_⟩
  rw [e1]
  refine ⟨vp_in_nI (by omega) (by omega), nm_r (e' := nI (dg_T q D)) (by rw [nI_clamp (by omega), hN q hq D hD, dg_enc_lt hT]) ?_⟩
  rw [e2]
  refine ⟨vp_in_nI (by omega) (by omega), nm_r (e' := nI (dg_T (dg_T q D) D)) (by rw [nI_clamp (by omega), hN _ hT D hD, dg_enc_lt hL]) ?_⟩
  refine ⟨hin, nm_r (e' := upd a_nextDirection k (nI (D + 1))) (by rw [ec, nI_1]) ⟨hin, nm_r (e' := upd a_wentOn k 1) (by rw [ec]) ⟨hin1, nm_r (e' := upd a_jumped (k + 1) (nI (dg_T q D))) (by rw [ec1]) ⟨hin1, nm_r (e' := upd a_path (k + 1) (nI (dg_T (dg_T q D) D))) (by rw [ec1]) ⟨hin1, nm_r (e' := upd (upd a_wentOn k 1) (k + 1) 0) (by rw [ec1]) ?_⟩⟩⟩⟩⟩
  refine wx_cro hc hL ?_
  refine pk_eq (dg_cro c (dg_T (dg_T q D) D)) 0 (fun z => ?_) (fun z => ⟨hin1, nm_r ?_ h⟩) (ha := by unfold dg_cro; split <;> omega)
  · refine wx_fst hc ⟨hin1, nm_r ?_ h⟩
    have e : dg_x0 c (dg_T (dg_T q D) D) = dg_fst c := by
      unfold dg_cro at z
      unfold dg_x0
      split at z
      · exact absurd z (by omega)
      · rw [if_neg ‹_›]
    rw [ec1, e]
  · have e : dg_x0 c (dg_T (dg_T q D) D) = 4 := by
      unfold dg_cro at z
      unfold dg_x0
      split at z
      · rw [if_pos ‹_›]
      · exact absurd rfl z
    rw [ec1, e]
    rfl
end
section
def dg_la : Nat → Int32
  | 0 => -1
  | k + 1 => nI k
theorem dg_la_m (k : Nat) : nI k + (-1) = dg_la k := by
  cases k with
  | zero => rfl
  | succ k => exact pk_m1 k
theorem wx_walk {f_drawLimit f_logTotal f_gameStatus f_searchValue : Int32} {a_neighbours a_board a_sides a_counters a_nextMove a_bestMove a_bestValue a_log : Nat → Int32} {post : St2 → Prop} {lv c s0 : Nat} (hN : dg_N a_neighbours) (hB : dg_B a_board) (hlv : lv < 4) (hc : c ≤ 4) (hc0 : ¬ c = 0) (hs0 : s0 < 32) :
    ∀ (n k1 : Nat) (q j x y : Nat → Nat) (w J : Nat → Int32) (T : (Nat → Int32) × (Nat → Int32) × (Nat → Int32)) (p jx nd wo : Nat → Int32) (step m : Nat), dg_K c s0 k1 q j x y w J → (∀ k, k1 = k + 1 → dg_AX k q j x w p jx nd wo) → dg_Q T lv →
      dg_ps x k1 ≤ n → step + dg_ps x k1 ≤ 1000000 → dg_ps x k1 < m →
      (∀ p' jx' nd' wo', post (f_drawLimit, f_logTotal, f_gameStatus, f_searchValue, a_neighbours, a_board, a_sides, a_counters, ((dg_run (dg_bl a_board lv) c s0 n k1 q j x w J).foldl (dg_rec lv) T).1, ((dg_run (dg_bl a_board lv) c s0 n k1 q j x w J).foldl (dg_rec lv) T).2.1, ((dg_run (dg_bl a_board lv) c s0 n k1 q j x w J).foldl (dg_rec lv) T).2.2, p', jx', nd', wo', a_nextMove, a_bestMove, a_bestValue, a_log)) →
      wX_listCapturesFrom_42 post (nI lv) (nI c) m (dg_la k1) (nI step) f_drawLimit f_logTotal f_gameStatus f_searchValue a_neighbours a_board a_sides a_counters T.1 T.2.1 T.2.2 p jx nd wo a_nextMove a_bestMove a_bestValue a_log := by
  have hend : ∀ (n : Nat) (q j x : Nat → Nat) (w J : Nat → Int32) (T : (Nat → Int32) × (Nat → Int32) × (Nat → Int32)) (p jx nd wo : Nat → Int32) (step m : Nat), 0 < m →
      (∀ p' jx' nd' wo', post (f_drawLimit, f_logTotal, f_gameStatus, f_searchValue, a_neighbours, a_board, a_sides, a_counters, ((dg_run (dg_bl a_board lv) c s0 n 0 q j x w J).foldl (dg_rec lv) T).1, ((dg_run (dg_bl a_board lv) c s0 n 0 q j x w J).foldl (dg_rec lv) T).2.1, ((dg_run (dg_bl a_board lv) c s0 n 0 q j x w J).foldl (dg_rec lv) T).2.2, p', jx', nd', wo', a_nextMove, a_bestMove, a_bestValue, a_log)) →
      wX_listCapturesFrom_42 post (nI lv) (nI c) m (dg_la 0) (nI step) f_drawLimit f_logTotal f_gameStatus f_searchValue a_neighbours a_board a_sides a_counters T.1 T.2.1 T.2.2 p jx nd wo a_nextMove a_bestMove a_bestValue a_log := by
    intro n q j x w J T p jx nd wo step m hm hp
    obtain ⟨m, rfl⟩ : ∃ g, m = g + 1 := ⟨m - 1, by omega⟩
    rw [dg_run_0] at hp
    exact br_c (fun _ => hp p jx nd wo) (fun _ => br_t (show (-1 : Int32) < 0 by decide) (hp p jx nd wo))
  intro n
  induction n with
  | zero =>
    intro k1 q j x y w J T p jx nd wo step m hK hA hQ hn hstep hm hp
    cases k1 with
    | zero => exact hend 0 q j x w J T p jx nd wo step m (by omega) hp
    | succ k => have := dg_ps_pos x k; omega
  | succ n ih =>
    intro k1 q j x y w J T p jx nd wo step m hK hA hQ hn hstep hm hp
    cases k1 with
    | zero => exact hend (n + 1) q j x w J T p jx nd wo step m (by omega) hp
    | succ k =>
      have hpos := dg_ps_pos x k
      obtain ⟨m, rfl⟩ : ∃ g, m = g + 1 := ⟨m - 1, by omega⟩
      obtain ⟨hI, hw⟩ := hK k rfl
      have hAk := hA k rfl
      have hk9 := dg_I_k hI
      obtain ⟨hq, hpar, hdr⟩ := hI.2.1 k (Nat.le_refl k)
      have hq0 := hI.1
      have hA0 := (hAk.1 0 (Nat.zero_le k)).1
      rw [hq0] at hA0
      have hAkk := hAk.1 k (Nat.le_refl k)
      rw [show dg_la (k + 1) = nI k from rfl]
      refine br_f (nI_ge (b := 1000000) (by omega) (by decide)) (br_f (nI_pos (by omega)) ?_)
      refine wx_fj (J := J) (s0 := s0) (q := q k) (x := x k) hN hB hlv hc hc0 (by omega) hq hAkk.1 hA0 hs0 ?_ hAkk.2.1 hdr.1 hdr.2.1 ?_
      · intro n' hn' P h0 h1
        refine wx_isJ (j := j) (J := J) (by omega) hn' (fun i hi => ⟨hAk.2 i hi, dg_C_lt _ _ (hI.2.2.1 i hi).1, (hI.2.2.1 i hi).2.2.1⟩) (fun z => hI.2.2.2.1 n' hn' z) h0 h1
      · by_cases hD : dg_D (dg_bl a_board lv) c s0 J (q k) (x k) < 4
        · generalize eD : dg_D (dg_bl a_board lv) c s0 J (q k) (x k) = D at hD
          rw [dg_r_lt hD]
          obtain ⟨hP, hxD, hk8, hK'⟩ := dg_K_push hK eD hD
          refine br_f (dg_enc_n D (by omega)).1 (wx_jump hN hc (by omega) hD hq hAkk.1 hP.2.1 hP.2.2.1 ?_)
          refine nm_r (nI_1 k) (nm_r (nI_1 step) ?_)
          have hps := dg_ps_push (x := x) (k := k) (D := D) (x' := dg_x0 c (dg_T (dg_T (q k) D) D)) hk8 hxD hD
          rw [dg_run_push eD hD] at hp
          refine ih (k + 2) _ _ _ _ _ _ T _ _ _ _ (step + 1) m hK' (fun k' e => ?_) hQ (by omega) (by omega) (by omega) hp
          obtain rfl : k' = k + 1 := by omega
          exact dg_AX_push hAk
        · rw [dg_r_ge hD]
          rw [dg_run_pop hD, List.foldl_append] at hp
          refine br_t rfl ⟨vp_in_nI (by omega) (by omega), ?_⟩
          rw [nI_clamp (by omega), hAkk.2.2]
          by_cases hwk : w k = 0
          · rw [if_pos hwk] at hp
            refine br_t hwk ?_
            rw [nI_1 k]
            refine wx_keep (q := q) hlv hQ (by omega) (fun i hi => (hAk.1 i (by omega)).1) ?_
            refine nm_r (dg_la_m k) (nm_r (nI_1 step) ?_)
            refine ih k q j x y w _ (dg_rec lv T (k + 1, q)) p jx nd wo (step + 1) m (dg_K_pop hK) (fun k' e => ?_) (dg_rec_Q _ hQ) (by omega) (by omega) (by omega) hp
            subst e
            exact dg_AX_pop hAk
          · rw [if_neg hwk] at hp
            refine br_f hwk (nm_r (dg_la_m k) (nm_r (nI_1 step) ?_))
            refine ih k q j x y w _ T p jx nd wo (step + 1) m (dg_K_pop hK) (fun k' e => ?_) hQ (by omega) (by omega) (by omega) hp
            subst e
            exact dg_AX_pop hAk
theorem wx_caps {f_drawLimit f_logTotal f_gameStatus f_searchValue : Int32} {a_neighbours a_board a_sides a_counters a_path a_jumped a_nextDirection a_wentOn a_nextMove a_bestMove a_bestValue a_log : Nat → Int32} {post : St2 → Prop} {lv s : Nat} {T : (Nat → Int32) × (Nat → Int32) × (Nat → Int32)} (hN : dg_N a_neighbours) (hB : dg_B a_board) (hlv : lv < 4) (hs : s < 32) (hc0 : ¬ dg_bl a_board lv s = 0) (hQ : dg_Q T lv)
    (h : ∀ p' jx' nd' wo', post (f_drawLimit, f_logTotal, f_gameStatus, f_searchValue, a_neighbours, a_board, a_sides, a_counters, ((dg_cap 700000 (dg_bl a_board lv) (dg_bl a_board lv s) s).foldl (dg_rec lv) T).1, ((dg_cap 700000 (dg_bl a_board lv) (dg_bl a_board lv s) s).foldl (dg_rec lv) T).2.1, ((dg_cap 700000 (dg_bl a_board lv) (dg_bl a_board lv s) s).foldl (dg_rec lv) T).2.2, p', jx', nd', wo', a_nextMove, a_bestMove, a_bestValue, a_log)) :
    wpX_listCapturesFrom post (f_drawLimit, f_logTotal, f_gameStatus, f_searchValue, a_neighbours, a_board, a_sides, a_counters, T.1, T.2.1, T.2.2, a_path, a_jumped, a_nextDirection, a_wentOn, a_nextMove, a_bestMove, a_bestValue, a_log) (nI lv) (nI s) := by
  have hv := dg_B_b hB (i := lv * 32 + s) (by omega)
  have e1 : nI lv * 32 + nI s = nI (lv * 32 + s) := by rw [show (32 : Int32) = nI 32 from rfl, pk_mul, nI_add]
  have b1 : vp_nar .boolean 1 = 1 := by decide
  refine ⟨by rw [e1]; exact vp_in_nI (by omega) (by omega), nm_r (e' := nI (dg_bl a_board lv s)) (by rw [e1, nI_clamp (by omega)]; exact hv.1) (nm_e (wx_fst hv.2 (nm_e (nm_r (e' := upd a_wentOn 0 1) rfl ⟨700000, ?_⟩))))⟩
  refine wx_walk hN hB hlv hv.2 hc0 hs 700000 1 (fun _ => s) (fun _ => 0) (fun _ => dg_fst (dg_bl a_board lv s)) (fun _ => 0) (fun _ => 1) (fun _ => 0) T _ _ _ _ 0 700000 (dg_K_0 hs) (fun k e => ?_) hQ ?_ ?_ ?_ h
  · obtain rfl : k = 0 := by omega
    refine ⟨fun i hi => ?_, fun i hi => absurd hi (Nat.not_lt_zero i)⟩
    obtain rfl : i = 0 := by omega
    exact ⟨pk_us, pk_us, pk_us⟩
  · have := dg_ps_0 (fun _ => dg_fst (dg_bl a_board lv s)); omega
  · have := dg_ps_0 (fun _ => dg_fst (dg_bl a_board lv s)); omega
  · have := dg_ps_0 (fun _ => dg_fst (dg_bl a_board lv s)); omega
theorem wx_sim_l {f_drawLimit f_logTotal f_gameStatus f_searchValue : Int32} {a_neighbours a_board a_sides a_counters a_jumped a_nextDirection a_wentOn a_nextMove a_bestMove a_bestValue a_log : Nat → Int32} {post : St2 → Prop} {lv c s : Nat} (hN : dg_N a_neighbours) (hB : dg_B a_board) (hlv : lv < 4) (hs : s < 32) :
    ∀ (m d n : Nat) (T : (Nat → Int32) × (Nat → Int32) × (Nat → Int32)) (p : Nat → Int32), d + m = 4 → dg_fst c ≤ d → m < n → p 0 = nI s → dg_Q T lv →
      (∀ p', post (f_drawLimit, f_logTotal, f_gameStatus, f_searchValue, a_neighbours, a_board, a_sides, a_counters, ((dg_sm (dg_bl a_board lv) c s m d).foldl (dg_rec lv) T).1, ((dg_sm (dg_bl a_board lv) c s m d).foldl (dg_rec lv) T).2.1, ((dg_sm (dg_bl a_board lv) c s m d).foldl (dg_rec lv) T).2.2, p', a_jumped, a_nextDirection, a_wentOn, a_nextMove, a_bestMove, a_bestValue, a_log)) →
      wX_listSimpleMovesFrom_31 post (nI lv) (nI s) (nI (dg_end c)) n (nI d) f_drawLimit f_logTotal f_gameStatus f_searchValue a_neighbours a_board a_sides a_counters T.1 T.2.1 T.2.2 p a_jumped a_nextDirection a_wentOn a_nextMove a_bestMove a_bestValue a_log := by
  have he : dg_end c ≤ 4 := by unfold dg_end; split <;> omega
  intro m
  induction m with
  | zero =>
    intro d n T p hd hf hn h0 hQ h
    obtain ⟨n, rfl⟩ : ∃ g, n = g + 1 := ⟨n - 1, by omega⟩
    obtain rfl : d = 4 := by omega
    exact br_t (nI_le he (by omega)) (h p)
  | succ m ih =>
    intro d n T p hd hf hn h0 hQ h
    obtain ⟨n, rfl⟩ : ∃ g, n = g + 1 := ⟨n - 1, by omega⟩
    by_cases hde : dg_end c ≤ d
    · have hno : ∀ e, d ≤ e → e < d + (m + 1) → ¬ dg_R (dg_bl a_board lv) c s e := by
        intro e h1 h2 hP
        have ho := hP.1.2
        unfold dg_end at hde
        split at hde
        · have := ho ‹_›; omega
        · omega
      rw [dg_sm_none _ _ hno] at h
      exact br_t (nI_le hde (by omega)) (h p)
    · have hok : dg_ok c d := by
        refine ⟨fun e => ?_, fun e => ?_⟩
        · have : dg_fst c = 2 := if_pos e
          omega
        · have : dg_end c = 2 := if_pos e
          omega
      have nxt : ¬ dg_R (dg_bl a_board lv) c s d → ∀ y, y = nI d + 1 → wX_listSimpleMovesFrom_31 post (nI lv) (nI s) (nI (dg_end c)) n y f_drawLimit f_logTotal f_gameStatus f_searchValue a_neighbours a_board a_sides a_counters T.1 T.2.1 T.2.2 p a_jumped a_nextDirection a_wentOn a_nextMove a_bestMove a_bestValue a_log := by
        intro hP
        rw [dg_sm_n hP] at h
        exact nm_r (nI_1 d) (ih (d + 1) n T p (by omega) (by omega) (by omega) h0 hQ h)
      have e1 : nI s * 4 + nI d = nI (s * 4 + d) := by rw [wx_4, pk_mul, nI_add]
      refine br_f (nI_ge (by omega) (by omega)) ?_
      rw [e1]
      refine ⟨vp_in_nI (by omega) (by omega), ?_⟩
      rw [nI_clamp (by omega), hN s hs d (by omega)]
      by_cases hT : dg_T s d < 32
      · rw [dg_enc_lt hT]
        refine nm_e (br_f (dg_enc_n _ hT).1 ?_)
        have e2 : nI lv * 32 + nI (dg_T s d) = nI (lv * 32 + dg_T s d) := by rw [show (32 : Int32) = nI 32 from rfl, pk_mul, nI_add]
        rw [e2]
        refine ⟨vp_in_nI (by omega) (by omega), ?_⟩
        have hv := dg_B_b hB (i := lv * 32 + dg_T s d) (by omega)
        rw [nI_clamp (by omega), hv.1]
        refine pk_eq (dg_b a_board (lv * 32 + dg_T s d)) 0 (fun z => ?_) (fun z => nxt fun hP => z hP.2.2)
        rw [dg_sm_y ⟨hok, hT, z⟩] at h
        refine nm_e ?_
        refine wx_keep (L := 2) (q := dg_two s (dg_T s d)) hlv hQ (by omega) (fun i hi => ?_) ?_
        · have : i = 0 ∨ i = 1 := by omega
          rcases this with rfl | rfl
          · rw [pk_un (by omega)]; exact h0
          · exact pk_us
        · exact nm_r (nI_1 d) (ih (d + 1) n (dg_rec lv T (2, dg_two s (dg_T s d))) _ (by omega) (by omega) (by omega) (by rw [pk_un (by omega)]; exact h0) (dg_rec_Q _ hQ) h)
      · rw [dg_enc_ge hT]
        exact nm_e (br_t rfl (nxt fun hP => hT hP.2.1))
theorem wx_sim {f_drawLimit f_logTotal f_gameStatus f_searchValue : Int32} {a_neighbours a_board a_sides a_counters a_path a_jumped a_nextDirection a_wentOn a_nextMove a_bestMove a_bestValue a_log : Nat → Int32} {post : St2 → Prop} {lv s : Nat} {T : (Nat → Int32) × (Nat → Int32) × (Nat → Int32)} (hN : dg_N a_neighbours) (hB : dg_B a_board) (hlv : lv < 4) (hs : s < 32) (hQ : dg_Q T lv)
    (h : ∀ p', post (f_drawLimit, f_logTotal, f_gameStatus, f_searchValue, a_neighbours, a_board, a_sides, a_counters, ((dg_sm (dg_bl a_board lv) (dg_bl a_board lv s) s 4 0).foldl (dg_rec lv) T).1, ((dg_sm (dg_bl a_board lv) (dg_bl a_board lv s) s 4 0).foldl (dg_rec lv) T).2.1, ((dg_sm (dg_bl a_board lv) (dg_bl a_board lv s) s 4 0).foldl (dg_rec lv) T).2.2, p', a_jumped, a_nextDirection, a_wentOn, a_nextMove, a_bestMove, a_bestValue, a_log)) :
    wpX_listSimpleMovesFrom post (f_drawLimit, f_logTotal, f_gameStatus, f_searchValue, a_neighbours, a_board, a_sides, a_counters, T.1, T.2.1, T.2.2, a_path, a_jumped, a_nextDirection, a_wentOn, a_nextMove, a_bestMove, a_bestValue, a_log) (nI lv) (nI s) := by
  have hv := dg_B_b hB (i := lv * 32 + s) (by omega)
  have e1 : nI lv * 32 + nI s = nI (lv * 32 + s) := by rw [show (32 : Int32) = nI 32 from rfl, pk_mul, nI_add]
  have hf := dg_fst_le (dg_bl a_board lv s)
  have hskip := dg_sm_skip (b := dg_bl a_board lv) (c := dg_bl a_board lv s) (s := s) (dg_fst (dg_bl a_board lv s)) 0 (by omega) (fun e _ he hP => by
    have := dg_fst_ok hP.1
    omega)
  rw [Nat.zero_add] at hskip
  have e40 : dg_sm (dg_bl a_board lv) (dg_bl a_board lv s) s 4 0 = dg_sm (dg_bl a_board lv) (dg_bl a_board lv s) s (4 - 0) 0 := rfl
  rw [e40, hskip] at h
  refine ⟨by rw [e1]; exact vp_in_nI (by omega) (by omega), nm_r (e' := nI (dg_bl a_board lv s)) (by rw [e1, nI_clamp (by omega)]; exact hv.1) (wx_end hv.2 (nm_e (wx_fst hv.2 ⟨5, ?_⟩)))⟩
  exact wx_sim_l hN hB hlv hs _ _ 5 T _ (by omega) (Nat.le_refl _) (by omega) pk_us hQ h
theorem wx_own {a_board a_sides : Nat → Int32} {lv s : Nat} (hB : dg_B a_board) (hS : dg_S a_sides) (hlv : lv < 4) (hs : s < 32) : (dg_col (dg_b a_board (lv * 32 + s)) = a_sides lv ↔ dg_own (dg_bl a_board lv s) (a_sides lv)) ∧ (dg_own (dg_bl a_board lv s) (a_sides lv) → ¬ dg_bl a_board lv s = 0) := by
  have hv := dg_B_b hB (i := lv * 32 + s) (by omega)
  refine ⟨dg_own_col hv.2 (hS lv hlv), fun h => ?_⟩
  rcases h with h | h
  · exact h.1
  · have := h.1; omega
theorem wx_lm2 {f_drawLimit f_logTotal f_gameStatus f_searchValue : Int32} {a_neighbours a_board a_sides a_counters a_jumped a_nextDirection a_wentOn a_nextMove a_bestMove a_bestValue a_log : Nat → Int32} {post : St2 → Prop} {lv : Nat} (hN : dg_N a_neighbours) (hB : dg_B a_board) (hS : dg_S a_sides) (hlv : lv < 4) :
    ∀ (m s n : Nat) (T : (Nat → Int32) × (Nat → Int32) × (Nat → Int32)) (p : Nat → Int32), s + m = 32 → m < n → dg_Q T lv →
      (∀ p', post (f_drawLimit, f_logTotal, f_gameStatus, f_searchValue, a_neighbours, a_board, a_sides, a_counters, ((dg_sms (dg_bl a_board lv) (a_sides lv) m s).foldl (dg_rec lv) T).1, ((dg_sms (dg_bl a_board lv) (a_sides lv) m s).foldl (dg_rec lv) T).2.1, ((dg_sms (dg_bl a_board lv) (a_sides lv) m s).foldl (dg_rec lv) T).2.2, p', a_jumped, a_nextDirection, a_wentOn, a_nextMove, a_bestMove, a_bestValue, a_log)) →
      wX_listMoves_62 post (nI lv) n (nI s) f_drawLimit f_logTotal f_gameStatus f_searchValue a_neighbours a_board a_sides a_counters T.1 T.2.1 T.2.2 p a_jumped a_nextDirection a_wentOn a_nextMove a_bestMove a_bestValue a_log := by
  intro m
  induction m with
  | zero =>
    intro s n T p hs hn hQ h
    obtain ⟨n, rfl⟩ : ∃ g, n = g + 1 := ⟨n - 1, by omega⟩
    obtain rfl : s = 32 := by omega
    exact br_t (nI_le (a := 32) (Nat.le_refl 32) (by omega)) (h p)
  | succ m ih =>
    intro s n T p hs hn hQ h
    obtain ⟨n, rfl⟩ : ∃ g, n = g + 1 := ⟨n - 1, by omega⟩
    have hv := dg_B_b hB (i := lv * 32 + s) (by omega)
    have ho := wx_own (a_sides := a_sides) hB hS hlv (s := s) (by omega)
    have e1 : nI lv * 32 + nI s = nI (lv * 32 + s) := by rw [show (32 : Int32) = nI 32 from rfl, pk_mul, nI_add]
    refine br_f (nI_ge (b := 32) (by omega) (by omega)) ?_
    rw [e1, nI_clamp (n := lv * 32 + s) (by omega), hv.1, nI_clamp (n := lv) (by omega)]
    refine ⟨vp_in_nI (by omega) (by omega), wx_col hv.2 ⟨vp_in_nI hlv (by omega), ?_⟩⟩
    by_cases hw : dg_own (dg_bl a_board lv s) (a_sides lv)
    · rw [dg_sms_y hw, List.foldl_append] at h
      refine br_t (ho.1.mpr hw) (wx_sim hN hB hlv (by omega) hQ fun p' => nm_r (nI_1 s) ?_)
      exact ih (s + 1) n _ p' (by omega) (by omega) (dg_fold_Q _ hQ) h
    · rw [dg_sms_n hw] at h
      exact br_f (fun z => hw (ho.1.mp z)) (nm_r (nI_1 s) (ih (s + 1) n T p (by omega) (by omega) hQ h))
theorem wx_lm1 {f_drawLimit f_logTotal f_gameStatus f_searchValue : Int32} {a_neighbours a_board a_sides a_counters a_nextMove a_bestMove a_bestValue a_log : Nat → Int32} {post : St2 → Prop} {lv : Nat} (hN : dg_N a_neighbours) (hB : dg_B a_board) (hS : dg_S a_sides) (hlv : lv < 4) :
    ∀ (m s n : Nat) (T : (Nat → Int32) × (Nat → Int32) × (Nat → Int32)) (p jx nd wo : Nat → Int32), s + m = 32 → m < n → dg_Q T lv →
      (∀ (p' jx' nd' wo' : Nat → Int32) (T' : (Nat → Int32) × (Nat → Int32) × (Nat → Int32)), T' = (dg_caps 700000 (dg_bl a_board lv) (a_sides lv) m s).foldl (dg_rec lv) T → ((T'.1 lv ≤ 0 → ∃ n62 : Nat, wX_listMoves_62 post (nI lv) n62 0 f_drawLimit f_logTotal f_gameStatus f_searchValue a_neighbours a_board a_sides a_counters T'.1 T'.2.1 T'.2.2 p' jx' nd' wo' a_nextMove a_bestMove a_bestValue a_log) ∧ (¬ T'.1 lv ≤ 0 → post (f_drawLimit, f_logTotal, f_gameStatus, f_searchValue, a_neighbours, a_board, a_sides, a_counters, T'.1, T'.2.1, T'.2.2, p', jx', nd', wo', a_nextMove, a_bestMove, a_bestValue, a_log)))) →
      wX_listMoves_9 post (nI lv) n (nI s) f_drawLimit f_logTotal f_gameStatus f_searchValue a_neighbours a_board a_sides a_counters T.1 T.2.1 T.2.2 p jx nd wo a_nextMove a_bestMove a_bestValue a_log := by
  intro m
  induction m with
  | zero =>
    intro s n T p jx nd wo hs hn hQ h
    obtain ⟨n, rfl⟩ : ∃ g, n = g + 1 := ⟨n - 1, by omega⟩
    obtain rfl : s = 32 := by omega
    refine br_t (nI_le (a := 32) (Nat.le_refl 32) (by omega)) ⟨vp_in_nI hlv (by omega), ?_⟩
    rw [nI_clamp (n := lv) (by omega)]
    exact h p jx nd wo T rfl
  | succ m ih =>
    intro s n T p jx nd wo hs hn hQ h
    obtain ⟨n, rfl⟩ : ∃ g, n = g + 1 := ⟨n - 1, by omega⟩
    have hv := dg_B_b hB (i := lv * 32 + s) (by omega)
    have ho := wx_own (a_sides := a_sides) hB hS hlv (s := s) (by omega)
    have e1 : nI lv * 32 + nI s = nI (lv * 32 + s) := by rw [show (32 : Int32) = nI 32 from rfl, pk_mul, nI_add]
    refine br_f (nI_ge (b := 32) (by omega) (by omega)) ?_
    rw [e1, nI_clamp (n := lv * 32 + s) (by omega), hv.1, nI_clamp (n := lv) (by omega)]
    refine ⟨vp_in_nI (by omega) (by omega), wx_col hv.2 ⟨vp_in_nI hlv (by omega), ?_⟩⟩
    by_cases hw : dg_own (dg_bl a_board lv s) (a_sides lv)
    · rw [dg_caps_y hw, List.foldl_append] at h
      refine br_t (ho.1.mpr hw) (wx_caps hN hB hlv (by omega) (ho.2 hw) hQ fun p' jx' nd' wo' => nm_r (nI_1 s) ?_)
      exact ih (s + 1) n _ p' jx' nd' wo' (by omega) (by omega) (dg_fold_Q _ hQ) h
    · rw [dg_caps_n hw] at h
      exact br_f (fun z => hw (ho.1.mp z)) (nm_r (nI_1 s) (ih (s + 1) n T p jx nd wo (by omega) (by omega) hQ h))
theorem dg_le0 {M : Nat} (h : M ≤ 48) : nI M ≤ 0 ↔ nI M = 0 := by
  rw [← nI_0, nI_leI (by omega) (by omega), nI_eq (by omega) (by omega)]
  omega
theorem wx_gen {f_drawLimit f_logTotal f_gameStatus f_searchValue : Int32} {a_neighbours a_board a_sides a_counters a_moveTotals a_moveLengths a_moveSquares a_path a_jumped a_nextDirection a_wentOn a_nextMove a_bestMove a_bestValue a_log : Nat → Int32} {post : St2 → Prop} {lv : Nat} (hN : dg_N a_neighbours) (hB : dg_B a_board) (hS : dg_S a_sides) (hlv : lv < 4)
    (h : ∀ p' jx' nd' wo', post (f_drawLimit, f_logTotal, f_gameStatus, f_searchValue, a_neighbours, a_board, a_sides, a_counters, (dg_gen lv (dg_bl a_board lv) (a_sides lv) a_moveTotals a_moveLengths a_moveSquares).1, (dg_gen lv (dg_bl a_board lv) (a_sides lv) a_moveTotals a_moveLengths a_moveSquares).2.1, (dg_gen lv (dg_bl a_board lv) (a_sides lv) a_moveTotals a_moveLengths a_moveSquares).2.2, p', jx', nd', wo', a_nextMove, a_bestMove, a_bestValue, a_log)) :
    wpX_listMoves post (f_drawLimit, f_logTotal, f_gameStatus, f_searchValue, a_neighbours, a_board, a_sides, a_counters, a_moveTotals, a_moveLengths, a_moveSquares, a_path, a_jumped, a_nextDirection, a_wentOn, a_nextMove, a_bestMove, a_bestValue, a_log) (nI lv) := by
  have hQ0 : dg_Q (upd a_moveTotals lv 0, a_moveLengths, a_moveSquares) lv := ⟨0, by omega, pk_us⟩
  refine ⟨vp_in_nI hlv (by omega), nm_r (e' := upd a_moveTotals lv 0) (by rw [nI_clamp (by omega)]) ⟨33, ?_⟩⟩
  refine wx_lm1 hN hB hS hlv 32 0 33 (upd a_moveTotals lv 0, a_moveLengths, a_moveSquares) _ _ _ _ (by omega) (by omega) hQ0 ?_
  intro p' jx' nd' wo' T' eT
  have hQ' : dg_Q T' lv := by rw [eT]; exact dg_fold_Q _ hQ0
  obtain ⟨M, hM, eM⟩ := hQ'
  unfold dg_gen at h
  rw [← eT, eM] at h
  rw [eM]
  refine br_c (fun z => ⟨33, ?_⟩) (fun z => ?_)
  · rw [if_pos ((dg_le0 hM).mp z)] at h
    exact wx_lm2 hN hB hS hlv 32 0 33 T' p' (by omega) (by omega) ⟨M, hM, eM⟩ fun p'' => h p'' jx' nd' wo'
  · rw [if_neg (fun e => z ((dg_le0 hM).mpr e))] at h
    exact h p' jx' nd' wo'
end
section
theorem yn_h4 : ¬ (4 : Int32) = 0 := by decide
theorem yn_h2 : ¬ (2 : Int32) = 0 := by decide
end
section
theorem xa_row {post : Int32 → Prop} {a : Nat} (ha : a < 32) (h : post (nI (a / 4))) : wpX_rowOf post () (nI a) := by
  refine ⟨yn_h4, ?_⟩
  rw [wx_4, pk_div (by omega) (by omega) (by omega)]
  exact h
def dg_colX (s : Int32) : Int32 := 2 * (s - s / 4 * 4) + (if s / 4 - s / 4 / 2 * 2 = 0 then 1 else 0)
theorem dg_colX_t : ∀ s, s < 32 → dg_colX (nI s) = nI (dg_co s) := by decide +kernel
theorem xa_colE {post : Int32 → Prop} {s : Int32} (h : post (dg_colX s)) : wpX_columnOf post () s := by
  unfold wpX_columnOf
  unfold dg_colX at h
  refine ⟨yn_h4, yn_h2, br_c (fun a => ⟨yn_h4, ?_⟩) (fun a => ⟨yn_h4, ?_⟩)⟩
  · rw [if_pos a] at h; exact h
  · rw [if_neg a] at h; exact h
theorem xa_col {post : Int32 → Prop} {s : Nat} (hs : s < 32) (h : post (nI (dg_co s))) : wpX_columnOf post () (nI s) :=
  xa_colE (by rw [dg_colX_t s hs]; exact h)
theorem xa_mid {post : Int32 → Prop} {a z : Nat} (ha : a < 32) (hz : z < 32) (h : post (nI (dg_mid a z))) : wpX_squareBetween post () (nI a) (nI z) := by
  have h1 := dg_co_lt a
  have h2 := dg_co_lt z
  unfold wpX_squareBetween
  refine xa_row ha (xa_row hz ⟨yn_h2, nm_r (e' := nI ((a / 4 + z / 4) / 2)) ?_ (xa_col ha (xa_col hz ⟨yn_h2, nm_r (e' := nI ((dg_co a + dg_co z) / 2)) ?_ ⟨yn_h2, ?_⟩⟩))⟩)
  · rw [nI_add, show (2 : Int32) = nI 2 from rfl, pk_div (by omega) (by omega) (by omega)]
  · rw [nI_add, show (2 : Int32) = nI 2 from rfl, pk_div (by omega) (by omega) (by omega)]
  · rw [show (2 : Int32) = nI 2 from rfl, pk_div (by omega) (by omega) (by omega), wx_4, pk_mul, nI_add]
    exact h
theorem dg_rows2 : ∀ a, a < 8 → ∀ b, b < 8 → (nI b - nI a = 2 ↔ a + 2 = b) := by decide +kernel
theorem dg_rowsm2 : ∀ a, a < 8 → ∀ b, b < 8 → (nI b - nI a = -2 ↔ b + 2 = a) := by decide +kernel
theorem xa_cap {f_drawLimit f_logTotal f_gameStatus f_searchValue : Int32} {a_neighbours a_board a_sides a_counters a_moveTotals a_moveLengths a_moveSquares a_path a_jumped a_nextDirection a_wentOn a_nextMove a_bestMove a_bestValue a_log : Nat → Int32} {post : Int32 → Prop} {s L : Nat} {q : Nat → Nat} (hs : s < 192) (hL : 2 ≤ L) (hL2 : L ≤ 13) (hml : a_moveLengths s = nI L) (hq : ∀ k, k < L → q k < 32 ∧ a_moveSquares (s * 13 + k) = nI (q k))
    (h : post (nI (dg_C2 q L))) : wpX_countCaptures post (f_drawLimit, f_logTotal, f_gameStatus, f_searchValue, a_neighbours, a_board, a_sides, a_counters, a_moveTotals, a_moveLengths, a_moveSquares, a_path, a_jumped, a_nextDirection, a_wentOn, a_nextMove, a_bestMove, a_bestValue, a_log) (nI s) := by
  have h0 := hq 0 (by omega)
  have h1 := hq 1 (by omega)
  have e13 : nI s * 13 = nI (s * 13) := pk_mul s 13
  have join : (q 0 / 4 + 2 = q 1 / 4 ∨ q 1 / 4 + 2 = q 0 / 4) → wX_countCaptures_38 post (nI s) f_drawLimit f_logTotal f_gameStatus f_searchValue a_neighbours a_board a_sides a_counters a_moveTotals a_moveLengths a_moveSquares a_path a_jumped a_nextDirection a_wentOn a_nextMove a_bestMove a_bestValue a_log := by
    intro hz
    refine ⟨vp_in_nI hs (by omega), ?_⟩
    rw [nI_clamp (by omega), hml]
    have e : nI L - 1 = nI (dg_C2 q L) := by
      unfold dg_C2
      rw [if_pos hz]
      exact pk_sub (b := 1) (by omega)
    rw [e]
    exact h
  refine nm_r e13 ?_
  rw [nI_1 (s * 13), nI_clamp (n := s * 13 + 1) (by omega), nI_clamp (n := s * 13) (by omega), h1.2]
  refine ⟨vp_in_nI (by omega) (by omega), xa_row h1.1 ⟨vp_in_nI (by omega) (by omega), ?_⟩⟩
  have h0' : a_moveSquares (s * 13) = nI (q 0) := h0.2
  rw [h0']
  refine xa_row h0.1 (nm_e (br_c (fun z => join (Or.inl ?_)) (fun z => br_c (fun z2 => join (Or.inr ?_)) (fun z2 => ?_))))
  · exact (dg_rows2 _ (by have := h0.1; omega) _ (by have := h1.1; omega)).mp z
  · exact (dg_rowsm2 _ (by have := h0.1; omega) _ (by have := h1.1; omega)).mp z2
  · have e : dg_C2 q L = 0 := by
      unfold dg_C2
      rw [if_neg]
      rintro (y | y)
      · exact z ((dg_rows2 _ (by have := h0.1; omega) _ (by have := h1.1; omega)).mpr y)
      · exact z2 ((dg_rowsm2 _ (by have := h0.1; omega) _ (by have := h1.1; omega)).mpr y)
    rw [e] at h
    exact h
theorem xa_copy_l {f_drawLimit f_logTotal f_gameStatus f_searchValue : Int32} {a_neighbours a_sides a_counters a_moveTotals a_moveLengths a_moveSquares a_path a_jumped a_nextDirection a_wentOn a_nextMove a_bestMove a_bestValue a_log : Nat → Int32} {post : St2 → Prop} {bd : Nat → Int32} {s t : Nat} (hs : s < 4) (ht : t < 4) (h : post (f_drawLimit, f_logTotal, f_gameStatus, f_searchValue, a_neighbours, dg_cb bd s t 32, a_sides, a_counters, a_moveTotals, a_moveLengths, a_moveSquares, a_path, a_jumped, a_nextDirection, a_wentOn, a_nextMove, a_bestMove, a_bestValue, a_log)) :
    ∀ m i n, i + m = 32 → m < n → wX_copyBoard_2 post (nI s) (nI t) f_drawLimit f_logTotal f_gameStatus f_searchValue n (nI i) a_neighbours (dg_cb bd s t i) a_sides a_counters a_moveTotals a_moveLengths a_moveSquares a_path a_jumped a_nextDirection a_wentOn a_nextMove a_bestMove a_bestValue a_log := by
  intro m
  induction m with
  | zero =>
    intro i n hi hn
    obtain ⟨n, rfl⟩ : ∃ g, n = g + 1 := ⟨n - 1, by omega⟩
    obtain rfl : i = 32 := by omega
    exact br_t (nI_le (a := 32) (Nat.le_refl 32) (by omega)) h
  | succ m ih =>
    intro i n hi hn
    obtain ⟨n, rfl⟩ : ∃ g, n = g + 1 := ⟨n - 1, by omega⟩
    have e1 : nI s * 32 + nI i = nI (s * 32 + i) := by rw [show (32 : Int32) = nI 32 from rfl, pk_mul, nI_add]
    have e2 : nI t * 32 + nI i = nI (t * 32 + i) := by rw [show (32 : Int32) = nI 32 from rfl, pk_mul, nI_add]
    refine br_f (nI_ge (b := 32) (by omega) (by omega)) ?_
    rw [e1, e2]
    refine ⟨vp_in_nI (by omega) (by omega), vp_in_nI (by omega) (by omega), nm_r (e' := dg_cb bd s t (i + 1)) ?_ (nm_r (nI_1 i) (ih (i + 1) n (by omega) (by omega)))⟩
    rw [nI_clamp (by omega), nI_clamp (by omega)]
    rfl
theorem xa_copy {f_drawLimit f_logTotal f_gameStatus f_searchValue : Int32} {a_neighbours a_board a_sides a_counters a_moveTotals a_moveLengths a_moveSquares a_path a_jumped a_nextDirection a_wentOn a_nextMove a_bestMove a_bestValue a_log : Nat → Int32} {post : St2 → Prop} {s t : Nat} (hs : s < 4) (ht : t < 4) (h : post (f_drawLimit, f_logTotal, f_gameStatus, f_searchValue, a_neighbours, dg_cb a_board s t 32, a_sides, a_counters, a_moveTotals, a_moveLengths, a_moveSquares, a_path, a_jumped, a_nextDirection, a_wentOn, a_nextMove, a_bestMove, a_bestValue, a_log)) : wpX_copyBoard post (f_drawLimit, f_logTotal, f_gameStatus, f_searchValue, a_neighbours, a_board, a_sides, a_counters, a_moveTotals, a_moveLengths, a_moveSquares, a_path, a_jumped, a_nextDirection, a_wentOn, a_nextMove, a_bestMove, a_bestValue, a_log) (nI s) (nI t) :=
  ⟨33, xa_copy_l (bd := a_board) hs ht h 32 0 33 (by omega) (by omega)⟩
theorem xa_201 {f_drawLimit f_logTotal f_gameStatus f_searchValue : Int32} {a_neighbours a_board a_sides a_counters a_moveTotals a_moveLengths a_moveSquares a_path a_jumped a_nextDirection a_wentOn a_nextMove a_bestMove a_bestValue a_log : Nat → Int32} {post : St2 → Prop} {s t : Nat} {z : Int32} (hs : s < 4) (ht : t < 4) (h : post (f_drawLimit, f_logTotal, f_gameStatus, f_searchValue, a_neighbours, a_board, dg_as a_sides s t, upd a_counters t z, a_moveTotals, a_moveLengths, a_moveSquares, a_path, a_jumped, a_nextDirection, a_wentOn, a_nextMove, a_bestMove, a_bestValue, a_log)) : wX_applyMove_201 post (nI s) (nI t) z (nI t) f_drawLimit f_logTotal f_gameStatus f_searchValue a_neighbours a_board a_sides a_counters a_moveTotals a_moveLengths a_moveSquares a_path a_jumped a_nextDirection a_wentOn a_nextMove a_bestMove a_bestValue a_log := by
  have es : (nI s).toNatClampNeg = s := nI_clamp (by omega)
  have et : (nI t).toNatClampNeg = t := nI_clamp (by omega)
  unfold dg_as at h
  refine ⟨vp_in_nI ht (by omega), nm_r (e' := upd a_counters t z) (by rw [et]) ⟨vp_in_nI hs (by omega), ?_⟩⟩
  rw [es]
  refine br_c (fun a => ⟨vp_in_nI ht (by omega), nm_r ?_ h⟩) (fun a => ⟨vp_in_nI ht (by omega), nm_r ?_ h⟩)
  · rw [et, if_pos a]
  · rw [et, if_neg a]
theorem xa_170 {f_drawLimit f_logTotal f_gameStatus f_searchValue : Int32} {a_neighbours a_board a_sides a_counters a_moveTotals a_moveLengths a_moveSquares a_path a_jumped a_nextDirection a_wentOn a_nextMove a_bestMove a_bestValue a_log : Nat → Int32} {post : St2 → Prop} {s t C c o : Nat} {z0 : Int32} (hs : s < 4) (ht : t < 4) (hC : C < 100) (hc : c ≤ 4) (ho : o < 32)
    (h : post (f_drawLimit, f_logTotal, f_gameStatus, f_searchValue, a_neighbours, upd a_board (t * 32 + o) z0, dg_as a_sides s t, upd a_counters t (if 0 < C ∨ c = 1 ∨ c = 3 then 0 else a_counters s + 1), a_moveTotals, a_moveLengths, a_moveSquares, a_path, a_jumped, a_nextDirection, a_wentOn, a_nextMove, a_bestMove, a_bestValue, a_log)) : wX_applyMove_170 post (nI s) (nI t) (nI C) (nI c) z0 (nI (t * 32 + o)) f_drawLimit f_logTotal f_gameStatus f_searchValue a_neighbours a_board a_sides a_counters a_moveTotals a_moveLengths a_moveSquares a_path a_jumped a_nextDirection a_wentOn a_nextMove a_bestMove a_bestValue a_log := by
  have es : (nI s).toNatClampNeg = s := nI_clamp (by omega)
  refine ⟨vp_in_nI (by omega) (by omega), nm_r (e' := upd a_board (t * 32 + o) z0) (by rw [nI_clamp (by omega)]) (pk_lt 0 C (fun a => ?_) (fun a => ?_))⟩
  · rw [if_pos (Or.inl a)] at h
    exact xa_201 hs ht h
  · refine pk_eq c 1 (fun e => br_f (by decide) ?_) (fun e => pk_eq c 3 (fun e3 => br_f (by decide) ?_) (fun e3 => br_t rfl ⟨vp_in_nI hs (by omega), ?_⟩))
    · rw [if_pos (Or.inr (Or.inl e))] at h
      exact xa_201 hs ht h
    · rw [if_pos (Or.inr (Or.inr e3))] at h
      exact xa_201 hs ht h
    · rw [if_neg (by omega)] at h
      rw [es]
      exact xa_201 hs ht h
theorem xa_87 {f_drawLimit f_logTotal f_gameStatus f_searchValue : Int32} {a_neighbours a_sides a_counters a_moveTotals a_moveLengths a_moveSquares a_path a_jumped a_nextDirection a_wentOn a_nextMove a_bestMove a_bestValue a_log : Nat → Int32} {post : St2 → Prop} {bd : Nat → Int32} {s t o C c sl L : Nat} {q : Nat → Nat} (hs : s < 4) (ht : t < 4) (hC : C < 13) (hC2 : C = 0 ∨ C + 1 = L) (hsl : sl < 192) (hc : c ≤ 4) (ho : o < 32) (hL : L ≤ 13) (hq : ∀ k, k < L → q k < 32 ∧ a_moveSquares (sl * 13 + k) = nI (q k))
    (h : post (f_drawLimit, f_logTotal, f_gameStatus, f_searchValue, a_neighbours, upd (dg_tk bd t q C) (t * 32 + o) (nI (c + dg_cro c o)), dg_as a_sides s t, upd a_counters t (if 0 < C ∨ c = 1 ∨ c = 3 then 0 else a_counters s + 1), a_moveTotals, a_moveLengths, a_moveSquares, a_path, a_jumped, a_nextDirection, a_wentOn, a_nextMove, a_bestMove, a_bestValue, a_log)) :
    ∀ m i n, i + m = C → m < n → wX_applyMove_87 post (nI s) (nI t) (nI (sl * 13)) (nI o) (nI C) (nI c) f_drawLimit f_logTotal f_gameStatus f_searchValue n (nI i) a_neighbours (dg_tk bd t q i) a_sides a_counters a_moveTotals a_moveLengths a_moveSquares a_path a_jumped a_nextDirection a_wentOn a_nextMove a_bestMove a_bestValue a_log := by
  have e2 : nI t * 32 + nI o = nI (t * 32 + o) := by rw [show (32 : Int32) = nI 32 from rfl, pk_mul, nI_add]
  intro m
  induction m with
  | zero =>
    intro i n hi hn
    obtain ⟨n, rfl⟩ : ∃ g, n = g + 1 := ⟨n - 1, by omega⟩
    obtain rfl : i = C := by omega
    refine br_t (nI_le (Nat.le_refl i) (by omega)) (wx_cro hc ho ?_)
    rw [e2]
    refine pk_eq (dg_cro c o) 0 (fun z => ?_) (fun z => ?_) (ha := by unfold dg_cro; split <;> omega)
    · rw [z] at h
      exact xa_170 hs ht (by omega) hc ho h
    · have e1 : dg_cro c o = 1 := by
        unfold dg_cro at z ⊢
        split at z
        · rw [if_pos ‹_›]
        · exact absurd rfl z
      rw [e1] at h
      rw [nI_1]
      exact xa_170 hs ht (by omega) hc ho h
  | succ m ih =>
    intro i n hi hn
    obtain ⟨n, rfl⟩ : ∃ g, n = g + 1 := ⟨n - 1, by omega⟩
    have e1 : nI (sl * 13) + nI i = nI (sl * 13 + i) := nI_add _ _
    have a1 := hq i (by omega)
    have a2 := hq (i + 1) (by omega)
    have hm := dg_mid_lt a1.1 a2.1
    have e3 : nI t * 32 + nI (dg_mid (q i) (q (i + 1))) = nI (t * 32 + dg_mid (q i) (q (i + 1))) := by rw [show (32 : Int32) = nI 32 from rfl, pk_mul, nI_add]
    have a2' : a_moveSquares (sl * 13 + i + 1) = nI (q (i + 1)) := a2.2
    refine br_f (nI_ge (by omega) (by omega)) ?_
    rw [e1, nI_1 (sl * 13 + i), nI_clamp (n := sl * 13 + i) (by omega), nI_clamp (n := sl * 13 + i + 1) (by omega), a1.2, a2']
    refine ⟨vp_in_nI (by omega) (by omega), vp_in_nI (by omega) (by omega), xa_mid a1.1 a2.1 ?_⟩
    rw [e3]
    refine ⟨vp_in_nI (by omega) (by omega), nm_r (e' := dg_tk bd t q (i + 1)) ?_ (nm_r (nI_1 i) (ih (i + 1) n (by omega) (by omega)))⟩
    rw [nI_clamp (by omega)]
    rfl
theorem dg_C2_c {q : Nat → Nat} {L : Nat} (hL : 2 ≤ L) : dg_C2 q L = 0 ∨ dg_C2 q L + 1 = L := by
  unfold dg_C2
  split
  · right; omega
  · left; rfl
theorem xa_apply {f_drawLimit f_logTotal f_gameStatus f_searchValue : Int32} {a_neighbours a_board a_sides a_counters a_moveTotals a_moveLengths a_moveSquares a_path a_jumped a_nextDirection a_wentOn a_nextMove a_bestMove a_bestValue a_log : Nat → Int32} {post : St2 → Prop} {s i t : Nat} (hB : dg_B a_board) (hs : s < 4) (ht : t < 4) (hi : i < 48) (hM : dg_M a_moveLengths a_moveSquares (s * 48 + i))
    (h : post (f_drawLimit, f_logTotal, f_gameStatus, f_searchValue, a_neighbours, dg_ab a_board s t (dg_l a_moveLengths (s * 48 + i)) (dg_q a_moveSquares (s * 48 + i)), dg_as a_sides s t, dg_ad a_counters a_board s t (dg_l a_moveLengths (s * 48 + i)) (dg_q a_moveSquares (s * 48 + i)), a_moveTotals, a_moveLengths, a_moveSquares, a_path, a_jumped, a_nextDirection, a_wentOn, a_nextMove, a_bestMove, a_bestValue, a_log)) : wpX_applyMove post (f_drawLimit, f_logTotal, f_gameStatus, f_searchValue, a_neighbours, a_board, a_sides, a_counters, a_moveTotals, a_moveLengths, a_moveSquares, a_path, a_jumped, a_nextDirection, a_wentOn, a_nextMove, a_bestMove, a_bestValue, a_log) (nI s) (nI i) (nI t) := by
  obtain ⟨hL, hL2, hml, hq, hk⟩ := dg_M_c hM
  generalize dg_l a_moveLengths (s * 48 + i) = L at *
  generalize dg_q a_moveSquares (s * 48 + i) = q at *
  have hC := dg_C2_c (q := q) hL
  have hq0 := hq 0 (by omega)
  have hqL := hq (L - 1) (by omega)
  have hq0' : a_moveSquares ((s * 48 + i) * 13) = nI (q 0) := hq0.2
  have e1 : nI s * 48 + nI i = nI (s * 48 + i) := by rw [show (48 : Int32) = nI 48 from rfl, pk_mul, nI_add]
  have e2 : nI ((s * 48 + i) * 13) + nI L - 1 = nI ((s * 48 + i) * 13 + (L - 1)) := by
    rw [nI_add]
    have : nI ((s * 48 + i) * 13 + L) - 1 = nI ((s * 48 + i) * 13 + L - 1) := pk_sub (b := 1) (by omega)
    rw [this]
    exact congrArg nI (by omega)
  have hv := dg_B_b hB (i := s * 32 + q 0) (by omega)
  have e3 : nI s * 32 + nI (q 0) = nI (s * 32 + q 0) := by rw [show (32 : Int32) = nI 32 from rfl, pk_mul, nI_add]
  have e4 : nI t * 32 + nI (q 0) = nI (t * 32 + q 0) := by rw [show (32 : Int32) = nI 32 from rfl, pk_mul, nI_add]
  refine nm_r e1 (nm_r (pk_mul (s * 48 + i) 13) ⟨vp_in_nI (by omega) (by omega), nm_r (e' := nI (q 0)) (by rw [nI_clamp (by omega), hq0']) ⟨vp_in_nI (by omega) (by omega), ?_⟩⟩)
  rw [nI_clamp (n := s * 48 + i) (by omega), hml, e2]
  refine ⟨vp_in_nI (by omega) (by omega), nm_r (e' := nI (q (L - 1))) (by rw [nI_clamp (by omega), hqL.2]) (xa_cap (by omega) hL hL2 hml hq ?_)⟩
  rw [e3]
  refine ⟨vp_in_nI (by omega) (by omega), nm_r (e' := nI (dg_b a_board (s * 32 + q 0))) (by rw [nI_clamp (by omega)]; exact hv.1) (xa_copy hs ht ?_)⟩
  rw [e4]
  refine ⟨vp_in_nI (by omega) (by omega), nm_r (e' := upd (dg_cb a_board s t 32) (t * 32 + q 0) 0) (by rw [nI_clamp (by omega)]) ⟨14, ?_⟩⟩
  exact xa_87 (bd := upd (dg_cb a_board s t 32) (t * 32 + q 0) 0) hs ht (by omega) hC (by omega) hv.2 hqL.1 hL2 hq h (dg_C2 q L) 0 14 (by omega) (by omega)
theorem xa_desc {f_drawLimit f_logTotal f_gameStatus f_searchValue : Int32} {a_neighbours a_board a_sides a_counters a_moveTotals a_moveLengths a_moveSquares a_path a_jumped a_nextDirection a_wentOn a_nextMove a_bestMove a_bestValue a_log : Nat → Int32} {post : Int32 → Prop} {i : Nat} (hB : dg_B a_board) (hi : i < 48) (hM : dg_M a_moveLengths a_moveSquares (0 * 48 + i))
    (h : post (dg_en a_board 0 (dg_l a_moveLengths (0 * 48 + i)) (dg_q a_moveSquares (0 * 48 + i)))) : wpX_describeMove post (f_drawLimit, f_logTotal, f_gameStatus, f_searchValue, a_neighbours, a_board, a_sides, a_counters, a_moveTotals, a_moveLengths, a_moveSquares, a_path, a_jumped, a_nextDirection, a_wentOn, a_nextMove, a_bestMove, a_bestValue, a_log) (nI i) := by
  obtain ⟨hL, hL2, hml, hq, hk⟩ := dg_M_c hM
  rw [show 0 * 48 + i = i by omega] at *
  generalize dg_l a_moveLengths i = L at *
  generalize dg_q a_moveSquares i = q at *
  have hC := dg_C2_c (q := q) hL
  have hq0 := hq 0 (by omega)
  have hqL := hq (L - 1) (by omega)
  have hq0' : a_moveSquares (i * 13) = nI (q 0) := hq0.2
  have e2 : nI (i * 13) + nI L - 1 = nI (i * 13 + (L - 1)) := by
    rw [nI_add]
    have : nI (i * 13 + L) - 1 = nI (i * 13 + L - 1) := pk_sub (b := 1) (by omega)
    rw [this]
    exact congrArg nI (by omega)
  have hv := dg_B_b hB (i := 0 * 32 + q 0) (by omega)
  have hv1 : a_board (q 0) = nI (dg_b a_board (0 * 32 + q 0)) := by
    have := hv.1
    rw [show 0 * 32 + q 0 = q 0 by omega] at this ⊢
    exact this
  refine nm_r (pk_mul i 13) ⟨vp_in_nI (by omega) (by omega), nm_r (e' := nI (q 0)) (by rw [nI_clamp (by omega), hq0']) ⟨vp_in_nI (by omega) (by omega), ?_⟩⟩
  rw [nI_clamp (n := i) (by omega), hml, e2]
  refine ⟨vp_in_nI (by omega) (by omega), nm_r (e' := nI (q (L - 1))) (by rw [nI_clamp (by omega), hqL.2]) ⟨vp_in_nI (by omega) (by omega), ?_⟩⟩
  rw [nI_clamp (n := q 0) (by omega), hv1]
  have go : ∀ z : Nat, z = dg_cro (dg_b a_board (0 * 32 + q 0)) (q (L - 1)) → wX_describeMove_48 post (nI i) (nI (q 0)) (nI (q (L - 1))) (nI z) f_drawLimit f_logTotal f_gameStatus f_searchValue a_neighbours a_board a_sides a_counters a_moveTotals a_moveLengths a_moveSquares a_path a_jumped a_nextDirection a_wentOn a_nextMove a_bestMove a_bestValue a_log := by
    intro z hz
    unfold wX_describeMove_48
    refine xa_cap (by omega) hL hL2 hml hq ?_
    unfold dg_en at h
    rw [← hz] at h
    rw [show (32 : Int32) = nI 32 from rfl, show (1024 : Int32) = nI 1024 from rfl, show (16384 : Int32) = nI 16384 from rfl, pk_mul, pk_mul, pk_mul, nI_add, nI_add, nI_add]
    exact h
  refine wx_cro hv.2 hqL.1 (pk_eq (dg_cro (dg_b a_board (0 * 32 + q 0)) (q (L - 1))) 0 (fun z => go 0 z.symm) (fun z => go 1 ?_) (ha := by unfold dg_cro; split <;> omega))
  unfold dg_cro at z ⊢
  split at z
  · rw [if_pos ‹_›]
  · exact absurd rfl z
end
section
theorem xe_worth {post : Int32 → Prop} {c s : Nat} (hc : c ≤ 4) (hs : s < 32) (h : post (dg_i (dg_wo c s))) : wpX_worthOf post () (nI c) (nI s) := by
  refine pk_eq c 1 (fun e => xa_row hs ?_) (fun e => pk_eq c 3 (fun e3 => xa_row hs ?_) (fun e3 => pk_eq c 0 (fun e0 => ?_) (fun e0 => ?_)))
  · have e1 : (100 : Int32) + 4 * nI (s / 4) = dg_i (dg_wo c s) := by
      rw [show (100 : Int32) = nI 100 from rfl, wx_4, pk_mul, nI_add, dg_i_nI]
      unfold dg_wo
      rw [if_pos e]
      exact congrArg dg_i (by omega)
    rw [e1]; exact h
  · have e1 : (100 : Int32) + 4 * (7 - nI (s / 4)) = dg_i (dg_wo c s) := by
      rw [show (100 : Int32) = nI 100 from rfl, show (7 : Int32) = nI 7 from rfl, pk_sub (by omega), wx_4, pk_mul, nI_add, dg_i_nI]
      unfold dg_wo
      rw [if_neg e, if_pos e3]
      exact congrArg dg_i (by omega)
    rw [e1]; exact h
  · have e1 : dg_wo c s = 0 := by unfold dg_wo; rw [if_neg e, if_neg e3, if_pos e0]
    rw [e1] at h; exact h
  · have e1 : dg_wo c s = 250 := by unfold dg_wo; rw [if_neg e, if_neg e3, if_neg e0]
    rw [e1] at h; exact h
theorem xe_ev_l {f_drawLimit f_logTotal f_gameStatus f_searchValue : Int32} {a_neighbours a_board a_sides a_counters a_moveTotals a_moveLengths a_moveSquares a_path a_jumped a_nextDirection a_wentOn a_nextMove a_bestMove a_bestValue a_log : Nat → Int32} {post : Int32 → Prop} {lv : Nat} (hB : dg_B a_board) (hS : dg_S a_sides) (hlv : lv < 4) :
    ∀ (m s n : Nat) (z : Int), s + m = 32 → m < n → post (dg_i (z + dg_ev (dg_bl a_board lv) (a_sides lv) m s)) → wX_evaluate_4 post (nI lv) f_drawLimit f_logTotal f_gameStatus f_searchValue a_neighbours a_board a_sides a_counters a_moveTotals a_moveLengths a_moveSquares a_path a_jumped a_nextDirection a_wentOn a_nextMove a_bestMove a_bestValue a_log n (dg_i z) (nI s) := by
  intro m
  induction m with
  | zero =>
    intro s n z hs hn h
    obtain ⟨n, rfl⟩ : ∃ g, n = g + 1 := ⟨n - 1, by omega⟩
    obtain rfl : s = 32 := by omega
    rw [dg_ev, Int.add_zero] at h
    exact br_t (nI_le (a := 32) (Nat.le_refl 32) (by omega)) h
  | succ m ih =>
    intro s n z hs hn h
    obtain ⟨n, rfl⟩ : ∃ g, n = g + 1 := ⟨n - 1, by omega⟩
    have hv := dg_B_b hB (i := lv * 32 + s) (by omega)
    have ho := wx_own (a_sides := a_sides) hB hS hlv (s := s) (by omega)
    have e1 : nI lv * 32 + nI s = nI (lv * 32 + s) := by rw [show (32 : Int32) = nI 32 from rfl, pk_mul, nI_add]
    refine br_f (nI_ge (b := 32) (by omega) (by omega)) ?_
    rw [e1, nI_clamp (n := lv * 32 + s) (by omega), hv.1, nI_clamp (n := lv) (by omega)]
    refine ⟨vp_in_nI (by omega) (by omega), nm_e (xe_worth hv.2 (by omega) (wx_col hv.2 ⟨vp_in_nI hlv (by omega), ?_⟩))⟩
    by_cases hw : dg_own (dg_bl a_board lv s) (a_sides lv)
    · rw [dg_ev_y hw, ← Int.add_assoc] at h
      exact br_t (ho.1.mpr hw) (nm_r (dg_i_add z _) (nm_r (nI_1 s) (ih (s + 1) n _ (by omega) (by omega) h)))
    · rw [dg_ev_n hw, ← Int.add_assoc] at h
      exact br_f (fun y => hw (ho.1.mp y)) (nm_r (by rw [dg_i_neg, dg_i_add]; rfl) (nm_r (nI_1 s) (ih (s + 1) n _ (by omega) (by omega) h)))
theorem xe_ev {f_drawLimit f_logTotal f_gameStatus f_searchValue : Int32} {a_neighbours a_board a_sides a_counters a_moveTotals a_moveLengths a_moveSquares a_path a_jumped a_nextDirection a_wentOn a_nextMove a_bestMove a_bestValue a_log : Nat → Int32} {post : Int32 → Prop} {lv : Nat} (hB : dg_B a_board) (hS : dg_S a_sides) (hlv : lv < 4) (h : post (dg_i (dg_ev (dg_bl a_board lv) (a_sides lv) 32 0))) : wpX_evaluate post (f_drawLimit, f_logTotal, f_gameStatus, f_searchValue, a_neighbours, a_board, a_sides, a_counters, a_moveTotals, a_moveLengths, a_moveSquares, a_path, a_jumped, a_nextDirection, a_wentOn, a_nextMove, a_bestMove, a_bestValue, a_log) (nI lv) := by
  refine ⟨33, xe_ev_l hB hS hlv 32 0 33 0 (by omega) (by omega) ?_⟩
  rw [Int.zero_add]
  exact h
theorem xe_loss (lv : Nat) : (-10000 : Int32) + nI lv = dg_i (-10000 + (lv : Int)) := by
  rw [dg_i_nI, show (-10000 : Int32) = dg_i (-10000) by decide, dg_i_add]
theorem xe_leafV {f_drawLimit f_logTotal f_gameStatus f_searchValue : Int32} {a_neighbours a_board a_sides a_counters a_moveTotals a_moveLengths a_moveSquares a_path a_jumped a_nextDirection a_wentOn a_nextMove a_bestMove a_bestValue a_log : Nat → Int32} {post : Int32 → Prop} {lv : Nat} (hB : dg_B a_board) (hS : dg_S a_sides) (hlv : lv < 4) (h : post (dg_i (dg_lv f_drawLimit lv (a_board, a_sides, a_counters, a_moveTotals, a_moveLengths, a_moveSquares)))) : wpX_leafValue post (f_drawLimit, f_logTotal, f_gameStatus, f_searchValue, a_neighbours, a_board, a_sides, a_counters, a_moveTotals, a_moveLengths, a_moveSquares, a_path, a_jumped, a_nextDirection, a_wentOn, a_nextMove, a_bestMove, a_bestValue, a_log) (nI lv) := by
  unfold dg_lv at h
  dsimp only at h
  refine ⟨vp_in_nI hlv (by omega), ?_⟩
  rw [nI_clamp (n := lv) (by omega), xe_loss]
  refine br_c (fun a => ?_) (fun a => ⟨vp_in_nI hlv (by omega), br_c (fun b => xe_ev hB hS hlv ?_) (fun b => ?_)⟩)
  · rw [if_pos a] at h; exact h
  · rw [if_neg a, if_neg (Int32.not_le.mpr b)] at h; exact h
  · rw [if_neg a, if_pos (Int32.not_lt.mp b)] at h; exact h
theorem xe_isLeaf {f_drawLimit f_logTotal f_gameStatus f_searchValue : Int32} {a_neighbours a_board a_sides a_counters a_moveTotals a_moveLengths a_moveSquares a_path a_jumped a_nextDirection a_wentOn a_nextMove a_bestMove a_bestValue a_log : Nat → Int32} {post : Int32 → Prop} {lv pl : Nat} (hlv : lv < 4) (hpl : pl < 4) (h1 : dg_lf f_drawLimit pl lv (a_board, a_sides, a_counters, a_moveTotals, a_moveLengths, a_moveSquares) → post 1)
    (h0 : ¬ dg_lf f_drawLimit pl lv (a_board, a_sides, a_counters, a_moveTotals, a_moveLengths, a_moveSquares) → post 0) : wpX_isLeaf post (f_drawLimit, f_logTotal, f_gameStatus, f_searchValue, a_neighbours, a_board, a_sides, a_counters, a_moveTotals, a_moveLengths, a_moveSquares, a_path, a_jumped, a_nextDirection, a_wentOn, a_nextMove, a_bestMove, a_bestValue, a_log) (nI lv) (nI pl) := by
  unfold dg_lf at h1 h0
  dsimp only at h1 h0
  refine pk_eq lv pl (fun e => h1 (Or.inr (Or.inr e))) (fun e => ⟨vp_in_nI hlv (by omega), ?_⟩)
  rw [nI_clamp (n := lv) (by omega)]
  refine br_c (fun a => h1 (Or.inl a)) (fun a => ⟨vp_in_nI hlv (by omega), br_c (fun b => h0 ?_) (fun b => h1 (Or.inr (Or.inl (Int32.not_lt.mp b))))⟩)
  rintro (z | z | z)
  · exact a z
  · exact Int32.not_le.mpr b z
  · exact e z
end
section
theorem xs_open {f_drawLimit f_logTotal f_gameStatus f_searchValue : Int32} {a_neighbours a_board a_sides a_counters a_moveTotals a_moveLengths a_moveSquares a_path a_jumped a_nextDirection a_wentOn a_nextMove a_bestMove a_bestValue a_log : Nat → Int32} {post : St2 → Prop} {l : Nat} (hl : l < 4) (h : post (f_drawLimit, f_logTotal, f_gameStatus, f_searchValue, a_neighbours, a_board, a_sides, a_counters, a_moveTotals, a_moveLengths, a_moveSquares, a_path, a_jumped, a_nextDirection, a_wentOn, upd a_nextMove l 0, a_bestMove, upd a_bestValue l (dg_i (-20000)), a_log)) : wpX_openLevel post (f_drawLimit, f_logTotal, f_gameStatus, f_searchValue, a_neighbours, a_board, a_sides, a_counters, a_moveTotals, a_moveLengths, a_moveSquares, a_path, a_jumped, a_nextDirection, a_wentOn, a_nextMove, a_bestMove, a_bestValue, a_log) (nI l) := by
  have ec : (nI l).toNatClampNeg = l := nI_clamp (by omega)
  exact ⟨vp_in_nI hl (by omega), nm_r (e' := upd a_nextMove l 0) (by rw [ec]) ⟨vp_in_nI hl (by omega), nm_r (e' := upd a_bestValue l (dg_i (-20000))) (by rw [ec]; rfl) h⟩⟩
theorem xs_take {f_drawLimit f_logTotal f_gameStatus f_searchValue : Int32} {a_neighbours a_board a_sides a_counters a_moveTotals a_moveLengths a_moveSquares a_path a_jumped a_nextDirection a_wentOn a_nextMove a_bestMove a_bestValue a_log : Nat → Int32} {post : St2 → Prop} {l i : Nat} {b v : Int} (hl : l < 4) (hn : a_nextMove l = nI i) (hb : a_bestValue l = dg_i b) (b1 : -30000 ≤ b) (b2 : b ≤ 30000) (v1 : -30000 ≤ v) (v2 : v ≤ 30000)
    (h : post (f_drawLimit, f_logTotal, f_gameStatus, f_searchValue, a_neighbours, a_board, a_sides, a_counters, a_moveTotals, a_moveLengths, a_moveSquares, a_path, a_jumped, a_nextDirection, a_wentOn, upd a_nextMove l (nI (i + 1)), (if b < v then upd a_bestMove l (nI i) else a_bestMove), (if b < v then upd a_bestValue l (dg_i v) else a_bestValue), a_log)) : wpX_takeReply post (f_drawLimit, f_logTotal, f_gameStatus, f_searchValue, a_neighbours, a_board, a_sides, a_counters, a_moveTotals, a_moveLengths, a_moveSquares, a_path, a_jumped, a_nextDirection, a_wentOn, a_nextMove, a_bestMove, a_bestValue, a_log) (nI l) (dg_i v) := by
  have ec : (nI l).toNatClampNeg = l := nI_clamp (by omega)
  have hin : vp_in (nI l) 4 := vp_in_nI hl (by omega)
  refine ⟨hin, ?_⟩
  rw [ec, hb]
  refine br_c (fun a => ?_) (fun a => ?_)
  · rw [dg_i_le (by omega) (by omega) (by omega) (by omega)] at a
    rw [if_neg (by omega), if_neg (by omega)] at h
    exact ⟨hin, hin, nm_r (by rw [ec, hn, nI_1]) h⟩
  · rw [dg_i_le (by omega) (by omega) (by omega) (by omega)] at a
    rw [if_pos (by omega), if_pos (by omega)] at h
    refine ⟨hin, nm_e ⟨hin, hin, nm_r (e' := upd a_bestMove l (nI i)) (by rw [hn]) ⟨hin, hin, nm_r (by rw [ec, hn, nI_1]) h⟩⟩⟩
def dg_SX (l : Nat) (ix : Nat → Nat) (vb : Nat → Int) (g : Nat) (nm bv bm : Nat → Int32) : Prop := (∀ i, i ≤ l → nm i = nI (ix i) ∧ bv i = dg_i (vb i)) ∧ (1 ≤ ix 0 → bm 0 = nI g)
theorem dg_SX_take {l g : Nat} {S : dg_Sh} {ix : Nat → Nat} {vb : Nat → Int} {nm bv bm : Nat → Int32} {v : Int} (hH : dg_H l S ix vb) (h : dg_SX l ix vb g nm bv bm) (v1 : -10000 ≤ v) :
    dg_SX l (dg_u ix l (ix l + 1)) (dg_tv l v vb) (dg_tg l v vb ix g) (upd nm l (nI (ix l + 1))) (if vb l < v then upd bv l (dg_i v) else bv) (if vb l < v then upd bm l (nI (ix l)) else bm) := by
  obtain ⟨h1, h2⟩ := h
  have hl := (hH.2.2 l (Nat.le_refl l)).2.2
  unfold dg_tv dg_tg
  by_cases c : vb l < v
  · rw [if_pos c, if_pos c, if_pos c, if_pos c]
    refine ⟨fun i hi => ?_, fun z => ?_⟩
    · by_cases e : i = l
      · subst e; rw [pk_us, pk_us, dg_us, dg_uIs]; exact ⟨rfl, rfl⟩
      · rw [pk_un e, pk_un e, dg_un e, dg_uIn e]; exact h1 i hi
    · by_cases e : l = 0
      · subst e; rw [pk_us, if_pos rfl]
      · rw [pk_un (fun y => e y.symm), if_neg e]
        rw [dg_un (fun y => e y.symm)] at z
        exact h2 z
  · rw [if_neg c, if_neg c, if_neg c, if_neg c]
    refine ⟨fun i hi => ?_, fun z => ?_⟩
    · by_cases e : i = l
      · subst e; rw [pk_us, dg_us]; exact ⟨rfl, (h1 i hi).2⟩
      · rw [pk_un e, dg_un e]; exact h1 i hi
    · by_cases e : l = 0
      · subst e
        rcases hl with y | y
        · omega
        · exact h2 y.1
      · rw [dg_un (fun y => e y.symm)] at z
        exact h2 z
theorem dg_pt_pos (M ix : Nat → Nat) (l : Nat) : 1 ≤ dg_pt M ix (l + 1) := by
  show 1 ≤ dg_sp M ix l + ((M l - ix l) * dg_c l + 1)
  omega
theorem dg_neg_i {x y : Int32} {v : Int} (h : x = dg_i v) (e : y = -x) : y = dg_i (-v) := by rw [e, h, dg_i_neg]
theorem xs_walk {f_drawLimit f_logTotal f_gameStatus f_searchValue : Int32} {a_neighbours a_log : Nat → Int32} {post : St2 → Prop} {pl : Nat} (hN : dg_N a_neighbours) (hpl : pl ≤ 3) :
    ∀ (n l : Nat) (S : dg_Sh) (ix : Nat → Nat) (vb : Nat → Int) (g : Nat) (nm bm bv p jx nd wo : Nat → Int32) (step m : Nat), dg_H l S ix vb → l < pl → dg_SX l ix vb g nm bv bm →
      dg_pt (dg_m S) ix (l + 1) ≤ n → step + dg_pt (dg_m S) ix (l + 1) ≤ 1000000 → dg_pt (dg_m S) ix (l + 1) < m →
      (∀ (S' : dg_Sh) (v' : Int) (g' : Nat) (nm' bm' bv' p' jx' nd' wo' : Nat → Int32), dg_se f_drawLimit pl n (l + 1) S ix vb g = (S', v', g') → bv' 0 = dg_i v' → bm' 0 = nI g' → post (f_drawLimit, f_logTotal, f_gameStatus, f_searchValue, a_neighbours, S'.1, S'.2.1, S'.2.2.1, S'.2.2.2.1, S'.2.2.2.2.1, S'.2.2.2.2.2, p', jx', nd', wo', nm', bm', bv', a_log)) →
      wX_walkTree_9 post (nI pl) m (nI l) (nI step) f_drawLimit f_logTotal f_gameStatus f_searchValue a_neighbours S.1 S.2.1 S.2.2.1 S.2.2.2.1 S.2.2.2.2.1 S.2.2.2.2.2 p jx nd wo nm bm bv a_log := by
  intro n
  induction n with
  | zero =>
    intro l S ix vb g nm bm bv p jx nd wo step m hH hl hA hn hstep hm hp
    have := dg_pt_pos (dg_m S) ix l
    omega
  | succ n ih =>
    intro l S ix vb g nm bm bv p jx nd wo step m hH hl hA hn hstep hm hp
    have hpos := dg_pt_pos (dg_m S) ix l
    obtain ⟨m, rfl⟩ : ∃ y, m = y + 1 := ⟨m - 1, by omega⟩
    have hO := hH.1
    have hLl := hO.2.2 l (Nat.le_refl l)
    obtain ⟨hM48, hMe⟩ := dg_L_m hLl
    obtain ⟨hM1, hixM, hvb⟩ := hH.2.2 l (Nat.le_refl l)
    have hA0 := hA.1 l (Nat.le_refl l)
    have ec : (nI l).toNatClampNeg = l := nI_clamp (by omega)
    have hin : vp_in (nI l) 4 := vp_in_nI (by omega) (by omega)
    refine br_f (nI_ge (b := 1000000) (by omega) (by decide)) (br_f (nI_pos (by omega)) ⟨hin, hin, ?_⟩)
    rw [ec, hMe, hA0.1]
    by_cases hlt : ix l < dg_m S l
    · refine br_f (nI_ge hlt (by omega)) ⟨hin, ?_⟩
      obtain ⟨hi48, hMM⟩ := dg_L_M hLl hlt
      have hap := dg_Ok_ap hO (by omega) hlt
      rw [nI_1 l]
      refine xa_apply hO.1 (by omega) (by omega) hi48 hMM (nm_e ?_)
      refine wx_gen hN hap.1 hap.2.1 (by omega) (fun p' jx' nd' wo' => ?_)
      obtain ⟨hO', hm'⟩ := dg_H_next hH (by omega) hlt rfl
      have ec1 : (nI (l + 1)).toNatClampNeg = l + 1 := nI_clamp (by omega)
      have hin1 : vp_in (nI (l + 1)) 4 := vp_in_nI (by omega) (by omega)
      refine xs_open (by omega) (xe_isLeaf (by omega) (by omega) (fun hlf => br_f (by decide) (xe_leafV hO'.1 hO'.2.1 (by omega) ?_)) (fun hlf => br_t rfl (nm_r (nI_1 step) ?_)))
      · have hlf' : dg_lf f_drawLimit pl (l + 1) (dg_gn (l + 1) (dg_ap l (ix l) (l + 1) S)) := hlf
        have hv := dg_lv_r (lim := f_drawLimit) (lv := l + 1) (S := (dg_gn (l + 1) (dg_ap l (ix l) (l + 1) S))) (by omega)
        have hpt := dg_pt_leaf (M := dg_m S) (M' := dg_m (dg_gn (l + 1) (dg_ap l (ix l) (l + 1) S))) (ix := ix) (l := l) hm' hlt
        have hpos2 := dg_pt_pos (dg_m (dg_gn (l + 1) (dg_ap l (ix l) (l + 1) S))) (dg_u ix l (ix l + 1)) l
        rw [dg_se_leaf hlt rfl hlf'] at hp
        obtain ⟨_, hMe'⟩ := dg_L_m (hO'.2.2 (l + 1) (Nat.le_refl _))
        have hM48' := (dg_L_m (hO'.2.2 (l + 1) (Nat.le_refl _))).1
        refine ⟨hin1, nm_r (e' := upd (upd bv (l + 1) (dg_i (-20000))) (l + 1) (dg_i (dg_lv f_drawLimit (l + 1) (dg_gn (l + 1) (dg_ap l (ix l) (l + 1) S))))) (by rw [ec1]; rfl) ⟨hin1, hin1, nm_r (e' := upd (upd nm (l + 1) 0) (l + 1) (nI (dg_m (dg_gn (l + 1) (dg_ap l (ix l) (l + 1) S)) (l + 1)))) (by rw [ec1]; exact congrArg (upd (upd nm (l + 1) 0) (l + 1)) hMe') (nm_r (nI_1 step) ?_)⟩⟩
        obtain ⟨m, rfl⟩ : ∃ y, m = y + 1 := ⟨m - 1, by omega⟩
        refine br_f (nI_ge (b := 1000000) (by omega) (by decide)) (br_f (nI_pos (by omega)) ⟨hin1, hin1, ?_⟩)
        have hle : (dg_gn (l + 1) (dg_ap l (ix l) (l + 1) S)).2.2.2.1 (nI (l + 1)).toNatClampNeg ≤ upd (upd nm (l + 1) 0) (l + 1) (nI (dg_m (dg_gn (l + 1) (dg_ap l (ix l) (l + 1) S)) (l + 1))) (nI (l + 1)).toNatClampNeg := by
          rw [ec1, hMe', pk_us]
          exact nI_le (Nat.le_refl _) (by omega)
        refine br_t hle (nm_r (pk_m1 l) (br_f (nI_pos (by omega)) ?_))
        rw [nI_1 l, ec1, pk_us, dg_i_neg]
        refine ⟨hin1, ?_⟩
        have hnm : upd (upd nm (l + 1) 0) (l + 1) (nI (dg_m (dg_gn (l + 1) (dg_ap l (ix l) (l + 1) S)) (l + 1))) l = nI (ix l) := by rw [pk_un (by omega), pk_un (by omega)]; exact hA0.1
        have hbv : upd (upd bv (l + 1) (dg_i (-20000))) (l + 1) (dg_i (dg_lv f_drawLimit (l + 1) (dg_gn (l + 1) (dg_ap l (ix l) (l + 1) S)))) l = dg_i (vb l) := by rw [pk_un (by omega), pk_un (by omega)]; exact hA0.2
        refine xs_take (b := vb l) (by omega) hnm hbv (by omega) (by omega) (by omega) (by omega) (nm_r (nI_1 (step + 1)) ?_)
        have hA' : dg_SX l ix vb g (upd (upd nm (l + 1) 0) (l + 1) (nI (dg_m (dg_gn (l + 1) (dg_ap l (ix l) (l + 1) S)) (l + 1)))) (upd (upd bv (l + 1) (dg_i (-20000))) (l + 1) (dg_i (dg_lv f_drawLimit (l + 1) (dg_gn (l + 1) (dg_ap l (ix l) (l + 1) S))))) bm :=
          ⟨fun i hi => by rw [pk_un (by omega), pk_un (by omega), pk_un (by omega), pk_un (by omega)]; exact hA.1 i hi, hA.2⟩
        exact ih l (dg_gn (l + 1) (dg_ap l (ix l) (l + 1) S)) _ _ _ _ _ _ _ _ _ _ (step + 1 + 1) m (dg_H_take hH (dg_Ok_le hO' (by omega)) hm' hlt (by omega) (by omega)) hl (dg_SX_take hH hA' (by omega)) (by omega) (by omega) (by omega) hp
      · have hlf' : ¬ dg_lf f_drawLimit pl (l + 1) (dg_gn (l + 1) (dg_ap l (ix l) (l + 1) S)) := hlf
        rw [dg_se_in hlt rfl hlf'] at hp
        have h0 : ¬ (dg_gn (l + 1) (dg_ap l (ix l) (l + 1) S)).2.2.2.1 (l + 1) = 0 := fun z => hlf' (Or.inl z)
        have hlp : l + 1 < pl := by
          apply Classical.byContradiction
          intro z
          exact hlf' (Or.inr (Or.inr (by omega)))
        have hM48' := (dg_L_m (hO'.2.2 (l + 1) (Nat.le_refl _))).1
        have hpt : dg_pt (dg_m (dg_gn (l + 1) (dg_ap l (ix l) (l + 1) S))) (dg_u ix (l + 1) 0) (l + 1 + 1) + 1 ≤ dg_pt (dg_m S) ix (l + 1) := dg_pt_in (by omega) hm' hlt hM48'
        refine ih (l + 1) (dg_gn (l + 1) (dg_ap l (ix l) (l + 1) S)) _ _ _ _ _ _ _ _ _ _ (step + 1) m (dg_H_in hH hlt hO' hm' h0) hlp ⟨fun i hi => ?_, fun z => ?_⟩ (by omega) (by omega) (by omega) hp
        · by_cases e : i = l + 1
          · subst e; rw [pk_us, pk_us, dg_us, dg_uIs]; exact ⟨nI_0.symm, rfl⟩
          · rw [pk_un e, pk_un e, dg_un e, dg_uIn e]; exact hA.1 i (by omega)
        · rw [dg_un (by omega)] at z; exact hA.2 z
    · have hge : dg_m S l ≤ ix l := by omega
      refine br_t (nI_le hge (by omega)) ?_
      cases l with
      | zero =>
        refine nm_r (dg_la_m 0) (br_t (show (-1 : Int32) < 0 by decide) (nm_r (nI_1 step) ?_))
        rw [dg_se_end hlt] at hp
        obtain ⟨m, rfl⟩ : ∃ y, m = y + 1 := ⟨m - 1, by omega⟩
        have fin := hp S (vb 0) g nm bm bv p jx nd wo rfl hA0.2 (hA.2 (by omega))
        exact br_c (fun _ => fin) (fun _ => br_t (show (-1 : Int32) < 0 by decide) fin)
      | succ l =>
        obtain ⟨hv, hH'⟩ := dg_H_out hH hlt
        have hB0 := hA.1 l (by omega)
        have ec1 : (nI (l + 1)).toNatClampNeg = l + 1 := nI_clamp (by omega)
        refine nm_r (pk_m1 l) (br_f (nI_pos (by omega)) ?_)
        rw [nI_1 l, ec1, hA0.2, dg_i_neg]
        refine ⟨vp_in_nI (by omega) (by omega), ?_⟩
        have hvl := (hH'.2.2 l (Nat.le_refl l)).2.2
        refine xs_take (b := vb l) (by omega) hB0.1 hB0.2 (by omega) (by omega) (by omega) (by omega) (nm_r (nI_1 step) ?_)
        rw [dg_se_out hlt] at hp
        have hpt : dg_pt (dg_m S) (dg_u ix l (ix l + 1)) (l + 1) + 1 ≤ dg_pt (dg_m S) ix (l + 1 + 1) := dg_pt_out
        have hA' : dg_SX l ix vb g nm bv bm := ⟨fun i hi => hA.1 i (by omega), hA.2⟩
        exact ih l S _ _ _ _ _ _ _ _ _ _ (step + 1) m (dg_H_take hH' hH'.1 (fun _ _ => rfl) (hH.2.1 l (by omega)) (by omega) (by omega)) (by omega) (dg_SX_take hH' hA' (by omega)) (by omega) (by omega) (by omega) hp
end
section
theorem dg_gen_congr {lv : Nat} {b : Nat → Nat} {sd : Int32} {mt mt' ml mv : Nat → Int32} (h : upd mt lv 0 = upd mt' lv 0) : dg_gen lv b sd mt ml mv = dg_gen lv b sd mt' ml mv := by
  unfold dg_gen
  rw [h]
theorem xr_refresh {f_drawLimit f_logTotal f_gameStatus f_searchValue : Int32} {a_neighbours a_board a_sides a_counters a_moveTotals a_moveLengths a_moveSquares a_path a_jumped a_nextDirection a_wentOn a_nextMove a_bestMove a_bestValue a_log : Nat → Int32} {post : St2 → Prop} {T : (Nat → Int32) × (Nat → Int32) × (Nat → Int32)} (hN : dg_N a_neighbours) (hB : dg_B a_board) (hS : dg_S a_sides) (hT : dg_gen 0 (dg_bl a_board 0) (a_sides 0) a_moveTotals a_moveLengths a_moveSquares = T)
    (h : ∀ p' jx' nd' wo', post (f_drawLimit, f_logTotal, dg_st f_drawLimit (a_sides 0) (a_counters 0) (T.1 0), f_searchValue, a_neighbours, a_board, a_sides, a_counters, (if dg_st f_drawLimit (a_sides 0) (a_counters 0) (T.1 0) = 3 then upd T.1 0 0 else T.1), T.2.1, T.2.2, p', jx', nd', wo', a_nextMove, a_bestMove, a_bestValue, a_log)) : wpX_refreshGame post (f_drawLimit, f_logTotal, f_gameStatus, f_searchValue, a_neighbours, a_board, a_sides, a_counters, a_moveTotals, a_moveLengths, a_moveSquares, a_path, a_jumped, a_nextDirection, a_wentOn, a_nextMove, a_bestMove, a_bestValue, a_log) := by
  unfold wpX_refreshGame
  refine wx_gen (lv := 0) hN hB hS (by omega) (fun p' jx' nd' wo' => ?_)
  rw [hT]
  have h := h p' jx' nd' wo'
  refine br_c (fun a => br_c (fun b => ?_) (fun b => ?_)) (fun a => br_c (fun b => ?_) (fun b => nm_e ?_))
  · rw [dg_st_w a, if_pos b, if_neg (by decide)] at h; exact h
  · rw [dg_st_w a, if_neg b, if_neg (by decide)] at h; exact h
  · rw [dg_st_o a (Int32.not_le.mpr b), if_neg (by decide)] at h; exact h
  · rw [dg_st_d a (Int32.not_lt.mp b), if_pos rfl] at h; exact h
def dg_sv (e : Int32) (i : Nat) : Int32 := if e = 0 then (if 12 ≤ i then (if 20 ≤ i then 3 else 0) else 1) else 0
def dg_su (bd : Nat → Int32) (e : Int32) : Nat → (Nat → Int32)
  | 0 => bd
  | n + 1 => upd (dg_su bd e n) n (dg_sv e n)
theorem dg_su_B {bd : Nat → Int32} (h : dg_B bd) (e : Int32) (n : Nat) : dg_B (dg_su bd e n) := by
  induction n with
  | zero => exact h
  | succ n ih =>
    show dg_B (upd (dg_su bd e n) n (dg_sv e n))
    unfold dg_sv
    split
    · split
      · split
        · exact dg_B_upd ih n 3 (by omega)
        · exact dg_B_upd ih n 0 (by omega)
      · exact dg_B_upd ih n 1 (by omega)
    · exact dg_B_upd ih n 0 (by omega)
theorem xr_setup_l {f_drawLimit f_logTotal f_gameStatus f_searchValue : Int32} {a_neighbours a_sides a_counters a_moveTotals a_moveLengths a_moveSquares a_path a_jumped a_nextDirection a_wentOn a_nextMove a_bestMove a_bestValue a_log : Nat → Int32} {post : St2 → Prop} {bd : Nat → Int32} {e : Int32} (h : post (f_drawLimit, f_logTotal, f_gameStatus, f_searchValue, a_neighbours, dg_su bd e 32, a_sides, a_counters, a_moveTotals, a_moveLengths, a_moveSquares, a_path, a_jumped, a_nextDirection, a_wentOn, a_nextMove, a_bestMove, a_bestValue, a_log)) :
    ∀ m i n, i + m = 32 → m < n → wX_setUp_9 post e f_drawLimit f_logTotal f_gameStatus f_searchValue n (nI i) a_neighbours (dg_su bd e i) a_sides a_counters a_moveTotals a_moveLengths a_moveSquares a_path a_jumped a_nextDirection a_wentOn a_nextMove a_bestMove a_bestValue a_log := by
  intro m
  induction m with
  | zero =>
    intro i n hi hn
    obtain ⟨n, rfl⟩ : ∃ g, n = g + 1 := ⟨n - 1, by omega⟩
    obtain rfl : i = 32 := by omega
    exact br_t (nI_le (a := 32) (Nat.le_refl 32) (by omega)) h
  | succ m ih =>
    intro i n hi hn
    obtain ⟨n, rfl⟩ : ∃ g, n = g + 1 := ⟨n - 1, by omega⟩
    have hin : vp_in (nI i) 128 := vp_in_nI (by omega) (by omega)
    have ec : (nI i).toNatClampNeg = i := nI_clamp (by omega)
    have nx := ih (i + 1) n (by omega) (by omega)
    have st : ∀ z : Int32, z = dg_sv e i → upd (dg_su bd e i) (nI i).toNatClampNeg z = dg_su bd e (i + 1) := by
      intro z hz
      rw [ec, hz]
      rfl
    unfold dg_sv at st
    refine br_f (nI_ge (b := 32) (by omega) (by omega)) (br_c (fun a => pk_le 12 i (fun b => pk_le 20 i (fun c => ⟨hin, nm_r (st 3 ?_) (nm_r (nI_1 i) nx)⟩) (fun c => ⟨hin, nm_r (st 0 ?_) (nm_r (nI_1 i) nx)⟩)) (fun b => ⟨hin, nm_r (st 1 ?_) (nm_r (nI_1 i) nx)⟩)) (fun a => ⟨hin, nm_r (st 0 ?_) (nm_r (nI_1 i) nx)⟩))
    · rw [if_pos a, if_pos b, if_pos c]
    · rw [if_pos a, if_pos b, if_neg (by omega)]
    · rw [if_pos a, if_neg (by omega)]
    · rw [if_neg a]
theorem xr_setup {f_drawLimit f_logTotal f_gameStatus f_searchValue : Int32} {a_neighbours a_board a_sides a_counters a_moveTotals a_moveLengths a_moveSquares a_path a_jumped a_nextDirection a_wentOn a_nextMove a_bestMove a_bestValue a_log : Nat → Int32} {post : St2 → Prop} {e : Int32} (h : post (f_drawLimit, f_logTotal, f_gameStatus, f_searchValue, a_neighbours, dg_su a_board e 32, upd a_sides 0 0, a_counters, a_moveTotals, a_moveLengths, a_moveSquares, a_path, a_jumped, a_nextDirection, a_wentOn, a_nextMove, a_bestMove, a_bestValue, a_log)) : wpX_setUp post (f_drawLimit, f_logTotal, f_gameStatus, f_searchValue, a_neighbours, a_board, a_sides, a_counters, a_moveTotals, a_moveLengths, a_moveSquares, a_path, a_jumped, a_nextDirection, a_wentOn, a_nextMove, a_bestMove, a_bestValue, a_log) e :=
  nm_e ⟨33, xr_setup_l (bd := a_board) h 32 0 33 (by omega) (by omega)⟩
def dg_sh (log : Nat → Int32) : Nat → (Nat → Int32)
  | 0 => log
  | n + 1 => upd (dg_sh log n) n (dg_sh log n (n + 1))
def dg_al (log : Nat → Int32) (n : Nat) (e : Int32) : Nat → Int32 := if n = 64 then upd (dg_sh log 63) 63 e else upd log n e
def dg_an (n : Nat) : Nat := if n = 64 then 64 else n + 1
theorem xr_log47 {f_drawLimit f_logTotal f_gameStatus f_searchValue : Int32} {a_neighbours a_board a_sides a_counters a_moveTotals a_moveLengths a_moveSquares a_path a_jumped a_nextDirection a_wentOn a_nextMove a_bestMove a_bestValue a_log : Nat → Int32} {post : St2 → Prop} {n : Nat} {e : Int32} (hn : n < 64) (hl : f_logTotal = nI n) (h : post (f_drawLimit, nI (n + 1), f_gameStatus, f_searchValue, a_neighbours, a_board, a_sides, a_counters, a_moveTotals, a_moveLengths, a_moveSquares, a_path, a_jumped, a_nextDirection, a_wentOn, a_nextMove, a_bestMove, a_bestValue, upd a_log n e)) : wX_appendToLog_47 post e f_drawLimit f_logTotal f_gameStatus f_searchValue a_neighbours a_board a_sides a_counters a_moveTotals a_moveLengths a_moveSquares a_path a_jumped a_nextDirection a_wentOn a_nextMove a_bestMove a_bestValue a_log := by
  subst hl
  exact ⟨vp_in_nI hn (by omega), nm_r (e' := upd a_log n e) (by rw [nI_clamp (by omega)]) (nm_r (nI_1 n) h)⟩
theorem xr_log_l {f_drawLimit f_gameStatus f_searchValue : Int32} {a_neighbours a_board a_sides a_counters a_moveTotals a_moveLengths a_moveSquares a_path a_jumped a_nextDirection a_wentOn a_nextMove a_bestMove a_bestValue : Nat → Int32} {post : St2 → Prop} {log : Nat → Int32} {e : Int32} (h : post (f_drawLimit, nI 64, f_gameStatus, f_searchValue, a_neighbours, a_board, a_sides, a_counters, a_moveTotals, a_moveLengths, a_moveSquares, a_path, a_jumped, a_nextDirection, a_wentOn, a_nextMove, a_bestMove, a_bestValue, upd (dg_sh log 63) 63 e)) :
    ∀ m i n, i + m = 63 → m < n → wX_appendToLog_11 post e f_drawLimit (nI 64) f_gameStatus f_searchValue n (nI (i + 1)) a_neighbours a_board a_sides a_counters a_moveTotals a_moveLengths a_moveSquares a_path a_jumped a_nextDirection a_wentOn a_nextMove a_bestMove a_bestValue (dg_sh log i) := by
  intro m
  induction m with
  | zero =>
    intro i n hi hn
    obtain ⟨n, rfl⟩ : ∃ g, n = g + 1 := ⟨n - 1, by omega⟩
    obtain rfl : i = 63 := by omega
    exact br_t (nI_le (a := 64) (Nat.le_refl 64) (by omega)) (nm_r (nI_pred 63) (xr_log47 (n := 63) (by omega) rfl h))
  | succ m ih =>
    intro i n hi hn
    obtain ⟨n, rfl⟩ : ∃ g, n = g + 1 := ⟨n - 1, by omega⟩
    refine br_f (nI_ge (b := 64) (by omega) (by omega)) ⟨vp_in_nI (by omega) (by omega), ?_⟩
    rw [nI_pred i]
    refine ⟨vp_in_nI (by omega) (by omega), nm_r (e' := dg_sh log (i + 1)) ?_ (nm_r (nI_1 (i + 1)) (ih (i + 1) n (by omega) (by omega)))⟩
    rw [nI_clamp (by omega), nI_clamp (by omega)]
    rfl
theorem xr_log {f_drawLimit f_gameStatus f_searchValue : Int32} {a_neighbours a_board a_sides a_counters a_moveTotals a_moveLengths a_moveSquares a_path a_jumped a_nextDirection a_wentOn a_nextMove a_bestMove a_bestValue a_log : Nat → Int32} {post : St2 → Prop} {n : Nat} {e : Int32} (hn : n ≤ 64) (h : post (f_drawLimit, nI (dg_an n), f_gameStatus, f_searchValue, a_neighbours, a_board, a_sides, a_counters, a_moveTotals, a_moveLengths, a_moveSquares, a_path, a_jumped, a_nextDirection, a_wentOn, a_nextMove, a_bestMove, a_bestValue, dg_al a_log n e)) : wpX_appendToLog post (f_drawLimit, nI n, f_gameStatus, f_searchValue, a_neighbours, a_board, a_sides, a_counters, a_moveTotals, a_moveLengths, a_moveSquares, a_path, a_jumped, a_nextDirection, a_wentOn, a_nextMove, a_bestMove, a_bestValue, a_log) e := by
  unfold dg_an dg_al at h
  refine pk_eq n 64 (fun z => ?_) (fun z => ?_)
  · rw [if_pos z, if_pos z] at h
    subst z
    exact ⟨64, xr_log_l (log := a_log) h 63 0 64 (by omega) (by omega)⟩
  · rw [if_neg z, if_neg z] at h
    exact xr_log47 (n := n) (by omega) rfl h
def dg_cn (b : Nat → Nat) (c s : Nat) : Nat → Nat → Nat
  | 0, _ => 0
  | n + 1, q => (if q ≠ s ∧ b q ≠ 0 ∧ (b q ≤ 2 ↔ c ≤ 2) then 1 else 0) + dg_cn b c s n (q + 1)
theorem dg_cn_y {b : Nat → Nat} {c s n q : Nat} (h : q ≠ s ∧ b q ≠ 0 ∧ (b q ≤ 2 ↔ c ≤ 2)) : dg_cn b c s (n + 1) q = 1 + dg_cn b c s n (q + 1) := by rw [dg_cn, if_pos h]
theorem dg_cn_n {b : Nat → Nat} {c s n q : Nat} (h : ¬ (q ≠ s ∧ b q ≠ 0 ∧ (b q ≤ 2 ↔ c ≤ 2))) : dg_cn b c s (n + 1) q = dg_cn b c s n (q + 1) := by rw [dg_cn, if_neg h, Nat.zero_add]
theorem dg_cn_le (b : Nat → Nat) (c s : Nat) : ∀ n q, dg_cn b c s n q ≤ n := by
  intro n
  induction n with
  | zero => intro q; exact Nat.le_refl _
  | succ n ih =>
    intro q
    have := ih (q + 1)
    by_cases h : q ≠ s ∧ b q ≠ 0 ∧ (b q ≤ 2 ↔ c ≤ 2)
    · rw [dg_cn_y h]; omega
    · rw [dg_cn_n h]; omega
theorem dg_colc : ∀ c, c < 5 → ¬ c = 0 → ∀ v, v < 5 → (dg_col v = dg_col c ↔ (v ≠ 0 ∧ (v ≤ 2 ↔ c ≤ 2))) := by decide +kernel
theorem xr_count_l {f_drawLimit f_logTotal f_gameStatus f_searchValue : Int32} {a_neighbours a_board a_sides a_counters a_moveTotals a_moveLengths a_moveSquares a_path a_jumped a_nextDirection a_wentOn a_nextMove a_bestMove a_bestValue a_log : Nat → Int32} {post : Int32 → Prop} {c s : Nat} (hB : dg_B a_board) (hc : c ≤ 4) (hc0 : ¬ c = 0) (hs : s < 32) :
    ∀ (m q n k : Nat), q + m = 32 → m < n → k ≤ q → post (nI (k + dg_cn (dg_b a_board) c s m q)) → wX_countOthers_11 post (nI s) (dg_col c) f_drawLimit f_logTotal f_gameStatus f_searchValue a_neighbours a_board a_sides a_counters a_moveTotals a_moveLengths a_moveSquares a_path a_jumped a_nextDirection a_wentOn a_nextMove a_bestMove a_bestValue a_log n (nI k) (nI q) := by
  intro m
  induction m with
  | zero =>
    intro q n k hq hn hk h
    obtain ⟨n, rfl⟩ : ∃ g, n = g + 1 := ⟨n - 1, by omega⟩
    obtain rfl : q = 32 := by omega
    exact br_t (nI_le (a := 32) (Nat.le_refl 32) (by omega)) h
  | succ m ih =>
    intro q n k hq hn hk h
    obtain ⟨n, rfl⟩ : ∃ g, n = g + 1 := ⟨n - 1, by omega⟩
    have hv := dg_B_b hB (i := q) (by omega)
    have hcc := dg_colc c (by omega) hc0 (dg_b a_board q) (by omega)
    refine br_f (nI_ge (b := 32) (by omega) (by omega)) (pk_eq q s (fun e => nm_r (nI_1 q) (ih (q + 1) n k (by omega) (by omega) (by omega) ?_)) (fun e => ⟨vp_in_nI (by omega) (by omega), ?_⟩))
    · rw [dg_cn_n (fun z => z.1 e)] at h; exact h
    · rw [nI_clamp (by omega), hv.1]
      refine wx_col hv.2 (br_c (fun a => nm_r (nI_1 k) (nm_r (nI_1 q) (ih (q + 1) n (k + 1) (by omega) (by omega) (by omega) ?_))) (fun a => nm_r (nI_1 q) (ih (q + 1) n k (by omega) (by omega) (by omega) ?_)))
      · rw [dg_cn_y ⟨e, hcc.mp a⟩] at h
        rw [Nat.add_assoc]; exact h
      · rw [dg_cn_n (fun z => a (hcc.mpr z.2))] at h; exact h
theorem xr_count {f_drawLimit f_logTotal f_gameStatus f_searchValue : Int32} {a_neighbours a_board a_sides a_counters a_moveTotals a_moveLengths a_moveSquares a_path a_jumped a_nextDirection a_wentOn a_nextMove a_bestMove a_bestValue a_log : Nat → Int32} {post : Int32 → Prop} {c s : Nat} (hB : dg_B a_board) (hc : c ≤ 4) (hc0 : ¬ c = 0) (hs : s < 32) (h : post (nI (dg_cn (dg_b a_board) c s 32 0))) : wpX_countOthers post (f_drawLimit, f_logTotal, f_gameStatus, f_searchValue, a_neighbours, a_board, a_sides, a_counters, a_moveTotals, a_moveLengths, a_moveSquares, a_path, a_jumped, a_nextDirection, a_wentOn, a_nextMove, a_bestMove, a_bestValue, a_log) (nI c) (nI s) := by
  unfold wpX_countOthers
  refine wx_col hc ⟨33, xr_count_l hB hc hc0 hs 32 0 33 0 (by omega) (by omega) (by omega) ?_⟩
  rw [Nat.zero_add]; exact h
end
section
def dg_f31 (r z c : Int32) : Int32 := if r < 0 then -1 else if 8 ≤ r then -1 else if c + z < 0 then -1 else if c + z < 8 then r * 4 + (c + z) / 2 else -1
def dg_nbX (s d : Int32) : Int32 := dg_f31 (s / 4 + (if 2 ≤ d then 1 else -1)) (if d - d / 2 * 2 = 0 then -1 else 1) (dg_colX s)
theorem dg_nbX_T : ∀ s, s < 32 → ∀ d, d < 4 → dg_nbX (nI s) (nI d) = dg_enc (dg_T s d) := by decide +kernel
theorem xn_31 {post : Int32 → Prop} {r z c : Int32} (h : post (dg_f31 r z c)) : wX_neighbourOf_31 post r z c := by
  unfold dg_f31 at h
  refine nm_e (br_c (fun a => ?_) (fun a => br_c (fun b => ?_) (fun b => br_c (fun d => ?_) (fun d => br_c (fun e => ⟨yn_h2, ?_⟩) (fun e => ?_)))))
  · rw [if_pos a] at h; exact h
  · rw [if_neg a, if_pos b] at h; exact h
  · rw [if_neg a, if_neg b, if_pos d] at h; exact h
  · rw [if_neg a, if_neg b, if_neg d, if_pos e] at h; exact h
  · rw [if_neg a, if_neg b, if_neg d, if_neg e] at h; exact h
theorem xn_14 {post : Int32 → Prop} {s d z r : Int32} (h : post (dg_f31 (r + z) (if d - d / 2 * 2 = 0 then -1 else 1) (dg_colX s))) : wX_neighbourOf_14 post s d z r := by
  refine nm_e (xa_colE ⟨yn_h2, br_c (fun a => xn_31 ?_) (fun a => xn_31 ?_)⟩)
  · rw [if_pos a] at h; exact h
  · rw [if_neg a] at h; exact h
theorem xn_nb {post : Int32 → Prop} {s d : Nat} (hs : s < 32) (hd : d < 4) (h : post (dg_enc (dg_T s d))) : wpX_neighbourOf post () (nI s) (nI d) := by
  rw [← dg_nbX_T s hs d hd] at h
  unfold dg_nbX at h
  unfold wpX_neighbourOf
  refine ⟨yn_h4, br_c (fun a => xn_14 ?_) (fun a => xn_14 ?_)⟩
  · rw [if_pos a] at h; exact h
  · rw [if_neg a] at h; exact h
def dg_Np (nb : Nat → Int32) (j : Nat) : Prop := ∀ s, s < 32 → ∀ d, d < 4 → s * 4 + d < j → nb (s * 4 + d) = dg_enc (dg_T s d)
theorem xn_fill_i {f_drawLimit f_logTotal f_gameStatus f_searchValue : Int32} {a_board a_sides a_counters a_moveTotals a_moveLengths a_moveSquares a_path a_jumped a_nextDirection a_wentOn a_nextMove a_bestMove a_bestValue a_log : Nat → Int32} {post : St2 → Prop} {J2 : Int32 → (Nat → Int32) → (Nat → Int32) → (Nat → Int32) → (Nat → Int32) → (Nat → Int32) → (Nat → Int32) → (Nat → Int32) → (Nat → Int32) → (Nat → Int32) → (Nat → Int32) → (Nat → Int32) → (Nat → Int32) → (Nat → Int32) → (Nat → Int32) → (Nat → Int32) → Prop} {s : Nat} (hs : s < 32)
    (h : ∀ nb', dg_Np nb' (s * 4 + 4) → J2 (nI (s + 1)) nb' a_board a_sides a_counters a_moveTotals a_moveLengths a_moveSquares a_path a_jumped a_nextDirection a_wentOn a_nextMove a_bestMove a_bestValue a_log) :
    ∀ (m d n : Nat) (nb : Nat → Int32), d + m = 4 → m < n → dg_Np nb (s * 4 + d) → wX_fillNeighbours_10 post J2 (nI s) f_drawLimit f_logTotal f_gameStatus f_searchValue n (nI d) nb a_board a_sides a_counters a_moveTotals a_moveLengths a_moveSquares a_path a_jumped a_nextDirection a_wentOn a_nextMove a_bestMove a_bestValue a_log := by
  intro m
  induction m with
  | zero =>
    intro d n nb hd hn hb
    obtain ⟨n, rfl⟩ : ∃ g, n = g + 1 := ⟨n - 1, by omega⟩
    obtain rfl : d = 4 := by omega
    exact br_t (nI_le (a := 4) (Nat.le_refl 4) (by omega)) (nm_r (nI_1 s) (h nb hb))
  | succ m ih =>
    intro d n nb hd hn hb
    obtain ⟨n, rfl⟩ : ∃ g, n = g + 1 := ⟨n - 1, by omega⟩
    have e1 : nI s * 4 + nI d = nI (s * 4 + d) := by rw [wx_4, pk_mul, nI_add]
    refine br_f (nI_ge (b := 4) (by omega) (by omega)) (xn_nb hs (by omega) ?_)
    rw [e1]
    refine ⟨vp_in_nI (by omega) (by omega), nm_r (e' := upd nb (s * 4 + d) (dg_enc (dg_T s d))) (by rw [nI_clamp (by omega)]) (nm_r (nI_1 d) (ih (d + 1) n _ (by omega) (by omega) ?_))⟩
    intro s' hs' d' hd' hlt
    by_cases e : s' * 4 + d' = s * 4 + d
    · obtain rfl : s' = s := by omega
      obtain rfl : d' = d := by omega
      exact pk_us
    · rw [pk_un e]
      exact hb s' hs' d' hd' (by omega)
theorem xn_fill_o {f_drawLimit f_logTotal f_gameStatus f_searchValue : Int32} {a_board a_sides a_counters a_moveTotals a_moveLengths a_moveSquares a_path a_jumped a_nextDirection a_wentOn a_nextMove a_bestMove a_bestValue a_log : Nat → Int32} {post : St2 → Prop} (h : ∀ nb', dg_N nb' → post (f_drawLimit, f_logTotal, f_gameStatus, f_searchValue, nb', a_board, a_sides, a_counters, a_moveTotals, a_moveLengths, a_moveSquares, a_path, a_jumped, a_nextDirection, a_wentOn, a_nextMove, a_bestMove, a_bestValue, a_log)) :
    ∀ (m s n : Nat) (nb : Nat → Int32), s + m = 32 → m < n → dg_Np nb (s * 4) → wX_fillNeighbours_2 post f_drawLimit f_logTotal f_gameStatus f_searchValue n (nI s) nb a_board a_sides a_counters a_moveTotals a_moveLengths a_moveSquares a_path a_jumped a_nextDirection a_wentOn a_nextMove a_bestMove a_bestValue a_log := by
  intro m
  induction m with
  | zero =>
    intro s n nb hs hn hb
    obtain ⟨n, rfl⟩ : ∃ g, n = g + 1 := ⟨n - 1, by omega⟩
    obtain rfl : s = 32 := by omega
    exact br_t (nI_le (a := 32) (Nat.le_refl 32) (by omega)) (h nb fun s' hs' d' hd' => hb s' hs' d' hd' (by omega))
  | succ m ih =>
    intro s n nb hs hn hb
    obtain ⟨n, rfl⟩ : ∃ g, n = g + 1 := ⟨n - 1, by omega⟩
    refine br_f (nI_ge (b := 32) (by omega) (by omega)) ⟨5, xn_fill_i (by omega) (fun nb' hb' => ?_) 4 0 5 nb (by omega) (by omega) hb⟩
    refine ih (s + 1) n nb' (by omega) (by omega) ?_
    intro s' hs' d' hd' hlt
    exact hb' s' hs' d' hd' (by omega)
theorem xn_fill {f_drawLimit f_logTotal f_gameStatus f_searchValue : Int32} {a_neighbours a_board a_sides a_counters a_moveTotals a_moveLengths a_moveSquares a_path a_jumped a_nextDirection a_wentOn a_nextMove a_bestMove a_bestValue a_log : Nat → Int32} {post : St2 → Prop} (h : ∀ nb', dg_N nb' → post (f_drawLimit, f_logTotal, f_gameStatus, f_searchValue, nb', a_board, a_sides, a_counters, a_moveTotals, a_moveLengths, a_moveSquares, a_path, a_jumped, a_nextDirection, a_wentOn, a_nextMove, a_bestMove, a_bestValue, a_log)) : wpX_fillNeighbours post (f_drawLimit, f_logTotal, f_gameStatus, f_searchValue, a_neighbours, a_board, a_sides, a_counters, a_moveTotals, a_moveLengths, a_moveSquares, a_path, a_jumped, a_nextDirection, a_wentOn, a_nextMove, a_bestMove, a_bestValue, a_log) :=
  ⟨33, xn_fill_o h 32 0 33 a_neighbours (by omega) (by omega) (fun s' _ d' _ hlt => absurd hlt (by omega))⟩
theorem dg_se_inv {lim : Int32} {pl : Nat} (hpl : pl ≤ 3) : ∀ (n l : Nat) (S : dg_Sh) (ix : Nat → Nat) (vb : Nat → Int) (g : Nat), dg_H l S ix vb → l < pl →
    dg_Ok 0 (dg_se lim pl n (l + 1) S ix vb g).1 ∧ (dg_se lim pl n (l + 1) S ix vb g).1.2.2.2.1 0 = S.2.2.2.1 0 ∧ (dg_se lim pl n (l + 1) S ix vb g).1.2.1 0 = S.2.1 0 ∧ (dg_se lim pl n (l + 1) S ix vb g).1.2.2.1 0 = S.2.2.1 0 := by
  intro n
  induction n with
  | zero =>
    intro l S ix vb g hH hl
    rw [dg_se]
    exact ⟨dg_Ok_le hH.1 (by omega), rfl, rfl, rfl⟩
  | succ n ih =>
    intro l S ix vb g hH hl
    by_cases hlt : ix l < dg_m S l
    · obtain ⟨hO', hm'⟩ := dg_H_next hH (by omega) hlt rfl
      have k1 : (dg_gn (l + 1) (dg_ap l (ix l) (l + 1) S)).2.2.2.1 0 = S.2.2.2.1 0 := dg_m_next (Nat.zero_le l) (ix l)
      have k2 : (dg_gn (l + 1) (dg_ap l (ix l) (l + 1) S)).2.1 0 = S.2.1 0 := by
        show dg_as S.2.1 l (l + 1) 0 = S.2.1 0
        unfold dg_as
        exact pk_un (by omega)
      have k3 : (dg_gn (l + 1) (dg_ap l (ix l) (l + 1) S)).2.2.1 0 = S.2.2.1 0 := by
        show dg_ad S.2.2.1 S.1 l (l + 1) (dg_l S.2.2.2.2.1 (l * 48 + ix l)) (dg_q S.2.2.2.2.2 (l * 48 + ix l)) 0 = S.2.2.1 0
        unfold dg_ad
        exact pk_un (by omega)
      by_cases hlf : dg_lf lim pl (l + 1) (dg_gn (l + 1) (dg_ap l (ix l) (l + 1) S))
      · rw [dg_se_leaf hlt rfl hlf]
        have hv := dg_lv_r (lim := lim) (lv := l + 1) (S := dg_gn (l + 1) (dg_ap l (ix l) (l + 1) S)) (by omega)
        have r := ih l (dg_gn (l + 1) (dg_ap l (ix l) (l + 1) S)) _ _ (dg_tg l (- dg_lv lim (l + 1) (dg_gn (l + 1) (dg_ap l (ix l) (l + 1) S))) vb ix g) (dg_H_take (v := - dg_lv lim (l + 1) (dg_gn (l + 1) (dg_ap l (ix l) (l + 1) S))) hH (dg_Ok_le hO' (by omega)) hm' hlt (by omega) (by omega)) hl
        exact ⟨r.1, r.2.1.trans k1, r.2.2.1.trans k2, r.2.2.2.trans k3⟩
      · rw [dg_se_in hlt rfl hlf]
        have hlp : l + 1 < pl := by
          apply Classical.byContradiction
          intro z
          exact hlf (Or.inr (Or.inr (by omega)))
        have r := ih (l + 1) (dg_gn (l + 1) (dg_ap l (ix l) (l + 1) S)) _ _ g (dg_H_in hH hlt hO' hm' (fun z => hlf (Or.inl z))) hlp
        exact ⟨r.1, r.2.1.trans k1, r.2.2.1.trans k2, r.2.2.2.trans k3⟩
    · cases l with
      | zero =>
        rw [dg_se_end hlt]
        exact ⟨hH.1, rfl, rfl, rfl⟩
      | succ l =>
        obtain ⟨hv, hH'⟩ := dg_H_out hH hlt
        rw [dg_se_out hlt]
        exact ih l S _ _ _ (dg_H_take (v := - vb (l + 1)) hH' hH'.1 (fun _ _ => rfl) (hH.2.1 l (by omega)) (by omega) (by omega)) (by omega)
theorem re_mt {st : Int32} {mc : Nat → Int32} : upd (if st = 3 then upd mc 0 0 else mc) 0 0 = upd mc 0 0 := by
  split
  · funext i
    by_cases e : i = 0
    · subst e; rw [pk_us, pk_us]
    · rw [pk_un e, pk_un e]
  · rfl
theorem re_mt0 {lim sd0 dc0 : Int32} {mc : Nat → Int32} : (if dg_st lim sd0 dc0 (mc 0) = 3 then upd mc 0 0 else mc) 0 = if dg_st lim sd0 dc0 (mc 0) = 0 then mc 0 else 0 := by
  by_cases a : mc 0 = 0
  · have h3 : ¬ dg_st lim sd0 dc0 (mc 0) = 3 := by rw [dg_st_w a]; split <;> decide
    rw [if_neg h3, a]
    split <;> rfl
  · by_cases b : lim ≤ dc0
    · rw [dg_st_d a b, if_pos rfl, if_neg (by decide)]; exact pk_us
    · rw [dg_st_o a b, if_neg (by decide), if_pos rfl]
theorem re_ix (x : Int32) : x < 0 ∨ ∃ j : Nat, j < 2 ^ 31 ∧ x = nI j := by
  by_cases h : x < 0
  · exact Or.inl h
  · exact Or.inr (nI_of h)
theorem re_M {lim sd0 dc0 : Int32} {mc ml mv : Nat → Int32} (hL : dg_L mc ml mv 0) : ∃ M, M ≤ 48 ∧ (if dg_st lim sd0 dc0 (mc 0) = 0 then mc 0 else 0) = nI M ∧ (∀ j, j < M → dg_M ml mv (0 * 48 + j)) ∧ (dg_st lim sd0 dc0 (mc 0) = 0 → mc 0 = nI M) := by
  obtain ⟨M, h1, h2, h3⟩ := hL
  by_cases a : dg_st lim sd0 dc0 (mc 0) = 0
  · exact ⟨M, h1, by rw [if_pos a]; exact h2, h3, fun _ => h2⟩
  · exact ⟨0, by omega, by rw [if_neg a]; rfl, fun j hj => absurd hj (Nat.not_lt_zero j), fun z => absurd z a⟩
end
section
/-! what a level's list shows: a list of paths -/
def pv_at (ml mv : Nat → Int32) (s : Nat) (e : Nat × (Nat → Nat)) : Prop := ml s = nI e.1 ∧ ∀ k, k < e.1 → mv (s * 13 + k) = nI (e.2 k)
def pv_V (T : (Nat → Int32) × (Nat → Int32) × (Nat → Int32)) (lv : Nat) (l : List (Nat × (Nat → Nat))) : Prop := l.length ≤ 48 ∧ T.1 lv = nI l.length ∧ ∀ i e, l[i]? = some e → pv_at T.2.1 T.2.2 (lv * 48 + i) e
def pv_add (l : List (Nat × (Nat → Nat))) (e : Nat × (Nat → Nat)) : List (Nat × (Nat → Nat)) := if l.length < 48 then l ++ [e] else l
theorem pv_rec {T : (Nat → Int32) × (Nat → Int32) × (Nat → Int32)} {lv : Nat} {l : List (Nat × (Nat → Nat))} {e : Nat × (Nat → Nat)} (h : pv_V T lv l) (hl : ∀ e, e ∈ l → dg_E e) (he : dg_E e) : pv_V (dg_rec lv T e) lv (pv_add l e) ∧ ∀ e', e' ∈ pv_add l e → dg_E e' := by
  obtain ⟨h1, h2, h3⟩ := h
  unfold pv_add
  by_cases hM : l.length < 48
  · rw [if_pos hM, dg_rec_lt h2 hM]
    refine ⟨⟨?_, ?_, fun i e' hi => ?_⟩, fun e' he' => ?_⟩
    · rw [List.length_append]; exact hM
    · rw [List.length_append]; exact pk_us
    · have hlen : i < (l ++ [e]).length := (List.getElem?_eq_some_iff.mp hi).1
      rw [List.length_append] at hlen
      have hlen' : i < l.length + 1 := hlen
      by_cases hi2 : i = l.length
      · subst hi2
        rw [List.getElem?_append_right (Nat.le_refl _), Nat.sub_self] at hi
        have : e = e' := Option.some.inj hi
        subst this
        exact ⟨pk_us, fun k hk => dg_wr_in _ _ _ _ _ hk⟩
      · have hi3 : i < l.length := by omega
        rw [List.getElem?_append_left hi3] at hi
        have g := h3 i e' hi
        have hE := hl e' (List.mem_of_getElem? hi)
        refine ⟨?_, fun k hk => ?_⟩
        · show upd T.2.1 (lv * 48 + l.length) (nI e.1) (lv * 48 + i) = nI e'.1
          rw [pk_un (by omega)]; exact g.1
        · show dg_wr T.2.2 ((lv * 48 + l.length) * 13) e.2 e.1 ((lv * 48 + i) * 13 + k) = nI (e'.2 k)
          have := hE.2.1
          rw [dg_wr_out _ _ _ _ _ (by omega)]; exact g.2 k hk
    · rcases List.mem_append.mp he' with a | a
      · exact hl e' a
      · obtain rfl := List.mem_singleton.mp a
        exact he
  · rw [if_neg hM, dg_rec_ge h2 (by omega) h1]
    exact ⟨⟨h1, h2, h3⟩, hl⟩
theorem pv_fold {lv : Nat} (m : List (Nat × (Nat → Nat))) : ∀ {T : (Nat → Int32) × (Nat → Int32) × (Nat → Int32)} {l : List (Nat × (Nat → Nat))}, pv_V T lv l → (∀ e, e ∈ l → dg_E e) → (∀ e, e ∈ m → dg_E e) → pv_V (m.foldl (dg_rec lv) T) lv (m.foldl pv_add l) ∧ ∀ e, e ∈ m.foldl pv_add l → dg_E e := by
  induction m with
  | nil => intro T l h hl _; exact ⟨h, hl⟩
  | cons e t ih =>
    intro T l h hl hm
    have g := pv_rec h hl (hm e List.mem_cons_self)
    exact ih (T := dg_rec lv T e) (l := pv_add l e) g.1 g.2 (fun e' h' => hm e' (List.mem_cons_of_mem e h'))
theorem pv_mem (m : List (Nat × (Nat → Nat))) : ∀ (l : List (Nat × (Nat → Nat))) e, e ∈ m.foldl pv_add l → e ∈ l ∨ e ∈ m := by
  induction m with
  | nil => intro l e h; exact Or.inl h
  | cons a t ih =>
    intro l e h
    rcases ih (pv_add l a) e h with g | g
    · unfold pv_add at g
      split at g
      · rcases List.mem_append.mp g with g | g
        · exact Or.inl g
        · obtain rfl := List.mem_singleton.mp g
          exact Or.inr List.mem_cons_self
      · exact Or.inl g
    · exact Or.inr (List.mem_cons_of_mem a g)
theorem pv_len (m : List (Nat × (Nat → Nat))) : ∀ (l : List (Nat × (Nat → Nat))), l.length ≤ (m.foldl pv_add l).length := by
  induction m with
  | nil => intro l; exact Nat.le_refl _
  | cons a t ih =>
    intro l
    refine Nat.le_trans ?_ (ih (pv_add l a))
    unfold pv_add
    split
    · rw [List.length_append]; exact Nat.le_add_right _ _
    · exact Nat.le_refl _
theorem pv_ne {m : List (Nat × (Nat → Nat))} (h : m ≠ []) : 0 < (m.foldl pv_add []).length := by
  cases m with
  | nil => exact absurd rfl h
  | cons a t => exact Nat.lt_of_lt_of_le (show 0 < (pv_add [] a).length from Nat.succ_pos 0) (pv_len t (pv_add [] a))
/-- all moves of a position -/
noncomputable def pv_caps (b : Nat → Nat) (sd : Int32) : List (Nat × (Nat → Nat)) := (dg_caps 700000 b sd 32 0).foldl pv_add []
noncomputable def pv_sms (b : Nat → Nat) (sd : Int32) : List (Nat × (Nat → Nat)) := (dg_sms b sd 32 0).foldl pv_add []
noncomputable def pv_ls (b : Nat → Nat) (sd : Int32) : List (Nat × (Nat → Nat)) := if (pv_caps b sd).length = 0 then pv_sms b sd else pv_caps b sd
theorem pv_gen (lv : Nat) (b : Nat → Nat) (sd : Int32) (mt ml mv : Nat → Int32) : pv_V (dg_gen lv b sd mt ml mv) lv (pv_ls b sd) ∧ ∀ e, e ∈ pv_ls b sd → dg_E e := by
  have h0 : pv_V (upd mt lv 0, ml, mv) lv [] := ⟨by decide, pk_us, fun i e h => absurd h (by simp)⟩
  have n0 : ∀ e : Nat × (Nat → Nat), e ∈ ([] : List (Nat × (Nat → Nat))) → dg_E e := fun e h => absurd h List.not_mem_nil
  have h1 := pv_fold (lv := lv) (dg_caps 700000 b sd 32 0) h0 n0 (dg_caps_E 700000 b sd 32 0 (by omega))
  unfold dg_gen pv_ls pv_sms
  change pv_V _ lv (pv_caps b sd) ∧ _ at h1
  have hlen := h1.1.1
  by_cases hz : (pv_caps b sd).length = 0
  · have hT : ((dg_caps 700000 b sd 32 0).foldl (dg_rec lv) (upd mt lv 0, ml, mv)).1 lv = 0 := by rw [h1.1.2.1, hz]; rfl
    rw [if_pos hz, if_pos hT]
    have he : pv_caps b sd = [] := List.eq_nil_of_length_eq_zero hz
    rw [he] at h1
    exact pv_fold (lv := lv) (dg_sms b sd 32 0) h1.1 n0 (dg_sms_E b sd 32 0 (by omega))
  · have hT : ¬ ((dg_caps 700000 b sd 32 0).foldl (dg_rec lv) (upd mt lv 0, ml, mv)).1 lv = 0 := by
      rw [h1.1.2.1, ← nI_0, nI_eq (by omega) (by omega)]; exact hz
    rw [if_neg hz, if_neg hT]
    exact h1
/-! the moves depend on the 32 squares alone -/
theorem pv_P_congr {b b' : Nat → Nat} (h : ∀ n, n < 32 → b n = b' n) (J : Nat → Int32) (c s0 q : Nat) : dg_P b J c s0 q = dg_P b' J c s0 q := by
  funext d
  unfold dg_P
  apply propext
  constructor
  · rintro ⟨a1, a2, a3, a4, a5, a6⟩
    rw [h _ a2] at a5; rw [h _ a3] at a6
    exact ⟨a1, a2, a3, a4, a5, a6⟩
  · rintro ⟨a1, a2, a3, a4, a5, a6⟩
    rw [← h _ a2] at a5; rw [← h _ a3] at a6
    exact ⟨a1, a2, a3, a4, a5, a6⟩
theorem pv_run_congr {b b' : Nat → Nat} (h : ∀ n, n < 32 → b n = b' n) (c s0 : Nat) : ∀ (n k1 : Nat) (q j x : Nat → Nat) (w J : Nat → Int32), dg_run b c s0 n k1 q j x w J = dg_run b' c s0 n k1 q j x w J := by
  intro n
  induction n with
  | zero => intro k1 q j x w J; rw [dg_run, dg_run]
  | succ n ih =>
    intro k1 q j x w J
    cases k1 with
    | zero => rw [dg_run_0, dg_run_0]
    | succ k =>
      have e : dg_D b c s0 J (q k) (x k) = dg_D b' c s0 J (q k) (x k) := by unfold dg_D; rw [pv_P_congr h]
      by_cases hD : dg_D b' c s0 J (q k) (x k) < 4
      · rw [dg_run_push e hD, dg_run_push rfl hD]
        exact ih _ _ _ _ _ _
      · rw [dg_run_pop hD, dg_run_pop (by rw [e]; exact hD), ih]
theorem pv_caps_congr {b b' : Nat → Nat} (h : ∀ n, n < 32 → b n = b' n) (N : Nat) (sd : Int32) : ∀ n s, s + n ≤ 32 → dg_caps N b sd n s = dg_caps N b' sd n s := by
  intro n
  induction n with
  | zero => intro s _; rw [dg_caps, dg_caps]
  | succ n ih =>
    intro s hs
    have e := h s (by omega)
    by_cases ho : dg_own (b' s) sd
    · rw [dg_caps_y ho, dg_caps_y (by rw [e]; exact ho), ih (s + 1) (by omega), e]
      unfold dg_cap
      rw [pv_run_congr h]
    · rw [dg_caps_n ho, dg_caps_n (by rw [e]; exact ho), ih (s + 1) (by omega)]
theorem pv_sm_congr {b b' : Nat → Nat} (h : ∀ n, n < 32 → b n = b' n) (c s : Nat) : ∀ n d, dg_sm b c s n d = dg_sm b' c s n d := by
  intro n
  induction n with
  | zero => intro d; rw [dg_sm, dg_sm]
  | succ n ih =>
    intro d
    by_cases hR : dg_R b' c s d
    · have hR' : dg_R b c s d := ⟨hR.1, hR.2.1, by rw [h _ hR.2.1]; exact hR.2.2⟩
      rw [dg_sm_y hR, dg_sm_y hR', ih]
    · have hR' : ¬ dg_R b c s d := fun z => hR ⟨z.1, z.2.1, by rw [← h _ z.2.1]; exact z.2.2⟩
      rw [dg_sm_n hR, dg_sm_n hR', ih]
theorem pv_sms_congr {b b' : Nat → Nat} (h : ∀ n, n < 32 → b n = b' n) (sd : Int32) : ∀ n s, s + n ≤ 32 → dg_sms b sd n s = dg_sms b' sd n s := by
  intro n
  induction n with
  | zero => intro s _; rw [dg_sms, dg_sms]
  | succ n ih =>
    intro s hs
    have e := h s (by omega)
    by_cases ho : dg_own (b' s) sd
    · rw [dg_sms_y ho, dg_sms_y (by rw [e]; exact ho), ih (s + 1) (by omega), e, pv_sm_congr h]
    · rw [dg_sms_n ho, dg_sms_n (by rw [e]; exact ho), ih (s + 1) (by omega)]
theorem pv_ls_congr {b b' : Nat → Nat} (h : ∀ n, n < 32 → b n = b' n) (sd : Int32) : pv_ls b sd = pv_ls b' sd := by
  unfold pv_ls pv_caps pv_sms
  rw [pv_caps_congr h 700000 sd 32 0 (by omega), pv_sms_congr h sd 32 0 (by omega)]
theorem pv_ev_congr {b b' : Nat → Nat} (h : ∀ n, n < 32 → b n = b' n) (sd : Int32) : ∀ n s, s + n ≤ 32 → dg_ev b sd n s = dg_ev b' sd n s := by
  intro n
  induction n with
  | zero => intro s _; rw [dg_ev, dg_ev]
  | succ n ih =>
    intro s hs
    have e := h s (by omega)
    by_cases ho : dg_own (b' s) sd
    · rw [dg_ev_y ho, dg_ev_y (by rw [e]; exact ho), ih (s + 1) (by omega), e]
    · rw [dg_ev_n ho, dg_ev_n (by rw [e]; exact ho), ih (s + 1) (by omega), e]
end
section
/-! what the kept paths are -/
def pj_J (b : Nat → Nat) (c s0 a n z : Nat) : Prop := ∃ d, d < 4 ∧ dg_ok c d ∧ dg_T a d = n ∧ dg_T n d = z ∧ n < 32 ∧ z < 32 ∧ (¬ b n = 0 ∧ ¬ (b n ≤ 2 ↔ c ≤ 2)) ∧ (b z = 0 ∨ z = s0)
/-- a path of jumps that can't go on -/
def pj_path (b : Nat → Nat) (c s0 : Nat) (e : Nat × (Nat → Nat)) : Prop := e.2 0 = s0 ∧ 2 ≤ e.1 ∧ ∃ j : Nat → Nat,
  (∀ i, i + 1 < e.1 → pj_J b c s0 (e.2 i) (j i) (e.2 (i + 1)) ∧ (i + 2 < e.1 → ¬ dg_cr c (e.2 (i + 1))) ∧ ∀ i', i' < i → j i' ≠ j i) ∧
  (dg_cr c (e.2 (e.1 - 1)) ∨ ∀ d, d < 4 → dg_ok c d → dg_T (e.2 (e.1 - 1)) d < 32 → dg_T (dg_T (e.2 (e.1 - 1)) d) d < 32 → (¬ b (dg_T (e.2 (e.1 - 1)) d) = 0 ∧ ¬ (b (dg_T (e.2 (e.1 - 1)) d) ≤ 2 ↔ c ≤ 2)) → (b (dg_T (dg_T (e.2 (e.1 - 1)) d) d) = 0 ∨ dg_T (dg_T (e.2 (e.1 - 1)) d) d = s0) → ∃ i, i + 1 < e.1 ∧ j i = dg_T (e.2 (e.1 - 1)) d)
theorem dg_sc_all (P : Nat → Prop) (n : Nat) : ∀ d, ¬ dg_sc P n d < d + n → ∀ e, d ≤ e → e < d + n → ¬ P e := by
  induction n with
  | zero => intro d _ e h1 h2; omega
  | succ n ih =>
    intro d h e h1 h2 hP
    by_cases hd : P d
    · rw [dg_sc_y hd] at h; omega
    · rw [dg_sc_n hd] at h
      by_cases he : e = d
      · subst he; exact hd hP
      · exact ih (d + 1) (by omega) e (by omega) (by omega) hP
def pj_I (b : Nat → Nat) (c s0 k : Nat) (q j x : Nat → Nat) (w : Nat → Int32) : Prop :=
  (∀ i, i < k → pj_J b c s0 (q i) (j i) (q (i + 1)) ∧ (i + 1 < k → ¬ dg_cr c (q (i + 1)))) ∧ (∀ i, 1 ≤ i → i ≤ k → w i = 0 → x i = dg_x0 c (q i))
theorem pj_push {b : Nat → Nat} {c s0 k D : Nat} {q j x : Nat → Nat} {w J : Nat → Int32} (h : pj_I b c s0 k q j x w) (hq : q k < 32) (hD : D < 4) (hP : dg_P b J c s0 (q k) D) :
    pj_I b c s0 (k + 1) (dg_u q (k + 1) (dg_T (dg_T (q k) D) D)) (dg_u j k (dg_T (q k) D)) (dg_u (dg_u x k (D + 1)) (k + 1) (dg_x0 c (dg_T (dg_T (q k) D) D))) (upd (upd w k 1) (k + 1) 0) := by
  obtain ⟨h1, h2⟩ := h
  obtain ⟨p1, p2, p3, p4, p5, p6⟩ := hP
  refine ⟨fun i hi => ?_, fun i hi hi2 hw => ?_⟩
  · rw [dg_un (k := k + 1) (i := i) (by omega)]
    by_cases e : i = k
    · subst e
      rw [dg_us, dg_us]
      exact ⟨⟨D, hD, p1, rfl, rfl, p2, p3, p5, p6⟩, fun z => absurd z (by omega)⟩
    · have g := h1 i (by omega)
      rw [dg_un e, dg_un (k := k + 1) (i := i + 1) (by omega)]
      refine ⟨g.1, fun z => ?_⟩
      by_cases e2 : i + 1 = k
      · rw [e2]
        intro hc
        exact dg_cr_none hq hD hc p1 p2
      · exact g.2 (by omega)
  · by_cases e : i = k + 1
    · subst e; rw [dg_us, dg_us]
    · rw [pk_un e] at hw
      by_cases e2 : i = k
      · subst e2; rw [pk_us] at hw; exact absurd hw (by decide)
      · rw [pk_un e2] at hw
        rw [dg_un e, dg_un e, dg_un e2]
        exact h2 i hi (by omega) hw
theorem pj_pop {b : Nat → Nat} {c s0 k : Nat} {q j x : Nat → Nat} {w : Nat → Int32} (h : pj_I b c s0 (k + 1) q j x w) : pj_I b c s0 k q j x w :=
  ⟨fun i hi => ⟨(h.1 i (by omega)).1, fun z => (h.1 i (by omega)).2 (by omega)⟩, fun i h1 h2 => h.2 i h1 (by omega)⟩
theorem pj_run (b : Nat → Nat) (c s0 : Nat) : ∀ (n k1 : Nat) (q j x y : Nat → Nat) (w J : Nat → Int32), dg_K c s0 k1 q j x y w J → (∀ k, k1 = k + 1 → pj_I b c s0 k q j x w) → ∀ e, e ∈ dg_run b c s0 n k1 q j x w J → pj_path b c s0 e := by
  intro n
  induction n with
  | zero => intro k1 q j x y w J _ _ e he; rw [dg_run] at he; exact absurd he List.not_mem_nil
  | succ n ih =>
    intro k1 q j x y w J hK hI e he
    cases k1 with
    | zero => rw [dg_run_0] at he; exact absurd he List.not_mem_nil
    | succ k =>
      obtain ⟨hg, hw⟩ := hK k rfl
      have hp := hI k rfl
      obtain ⟨hq, hpar, hdr⟩ := hg.2.1 k (Nat.le_refl k)
      by_cases hD : dg_D b c s0 J (q k) (x k) < 4
      · rw [dg_run_push rfl hD] at he
        have kp := dg_K_push hK rfl hD
        refine ih _ _ _ _ _ _ _ kp.2.2.2 (fun k' e' => ?_) e he
        obtain rfl : k' = k + 1 := by omega
        exact pj_push hp hq hD kp.1
      · rw [dg_run_pop hD] at he
        rcases List.mem_append.mp he with he | he
        · by_cases hk : w k = 0
          · rw [if_pos hk] at he
            obtain rfl := List.mem_singleton.mp he
            have hk0 : k ≠ 0 := fun z => hw (z ▸ hk)
            have hx := hp.2 k (by omega) (Nat.le_refl k) hk
            refine ⟨hg.1, by show 2 ≤ k + 1; omega, j, fun i hi => ?_, ?_⟩
            · have hi' : i + 1 < k + 1 := hi
              have g1 := hp.1 i (by omega)
              have g2 := hg.2.2.1 i (by omega)
              refine ⟨g1.1, fun z => g1.2 ?_, g2.2.2.2⟩
              have z' : i + 2 < k + 1 := z
              omega
            · show dg_cr c (q k) ∨ _
              rcases dg_x0_c c (q k) with ⟨a1, a2⟩ | ⟨a1, a2⟩
              · exact Or.inl a1
              · refine Or.inr fun d hd ho t1 t2 hf hz => ?_
                rw [a2] at hx
                have hall := dg_sc_all (dg_P b J c s0 (q k)) (4 - x k) (x k) (by
                  have : ¬ dg_sc (dg_P b J c s0 (q k)) (4 - x k) (x k) < 4 := hD
                  have := hdr.2.1
                  omega) d (by rw [hx]; exact dg_fst_ok ho) (by have := hdr.2.1; omega)
                have t1' : dg_T (q k) d < 32 := t1
                apply Classical.byContradiction
                intro hno
                refine hall ⟨ho, t1', t2, ?_, hf, hz⟩
                apply Classical.byContradiction
                intro hJ
                obtain ⟨i, hi, e2⟩ := hg.2.2.2.1 _ t1' hJ
                exact hno ⟨i, by show i + 1 < k + 1; omega, e2⟩
          · rw [if_neg hk] at he; exact absurd he List.not_mem_nil
        · refine ih _ _ _ _ _ _ _ (dg_K_pop hK) (fun k' e' => ?_) e he
          subst e'
          exact pj_pop hp
theorem pj_cap {N : Nat} {b : Nat → Nat} {c s0 : Nat} (h : s0 < 32) : ∀ e, e ∈ dg_cap N b c s0 → pj_path b c s0 e := by
  refine pj_run b c s0 N 1 _ _ _ _ _ _ (dg_K_0 h) (fun k e => ?_)
  obtain rfl : k = 0 := by omega
  exact ⟨fun i hi => absurd hi (Nat.not_lt_zero i), fun i h1 h2 => by omega⟩
theorem pj_caps {N : Nat} {b : Nat → Nat} {sd : Int32} : ∀ n s, s + n ≤ 32 → ∀ e, e ∈ dg_caps N b sd n s → ∃ s0, s0 < 32 ∧ dg_own (b s0) sd ∧ pj_path b (b s0) s0 e := by
  intro n
  induction n with
  | zero => intro s _ e he; rw [dg_caps] at he; exact absurd he List.not_mem_nil
  | succ n ih =>
    intro s hs e he
    by_cases h : dg_own (b s) sd
    · rw [dg_caps_y h] at he
      rcases List.mem_append.mp he with he | he
      · exact ⟨s, by omega, h, pj_cap (by omega) e he⟩
      · exact ih (s + 1) (by omega) e he
    · rw [dg_caps_n h] at he
      exact ih (s + 1) (by omega) e he
/-! a walk whose top has not gone on keeps a path -/
theorem pj_run_ne (b : Nat → Nat) (c s0 : Nat) : ∀ (n k : Nat) (q j x y : Nat → Nat) (w J : Nat → Int32), dg_K c s0 (k + 1) q j x y w J → dg_ps x (k + 1) ≤ n → w k = 0 → dg_run b c s0 n (k + 1) q j x w J ≠ [] := by
  intro n
  induction n with
  | zero => intro k q j x y w J _ hn; have := dg_ps_pos x k; omega
  | succ n ih =>
    intro k q j x y w J hK hn hw
    by_cases hD : dg_D b c s0 J (q k) (x k) < 4
    · rw [dg_run_push rfl hD]
      have kp := dg_K_push hK rfl hD
      have hps := dg_ps_push (x := x) (k := k) (D := dg_D b c s0 J (q k) (x k)) (x' := dg_x0 c (dg_T (dg_T (q k) (dg_D b c s0 J (q k) (x k))) (dg_D b c s0 J (q k) (x k)))) kp.2.2.1 kp.2.1 hD
      exact ih (k + 1) _ _ _ _ _ _ kp.2.2.2 (Nat.le_of_succ_le_succ (Nat.le_trans hps hn)) pk_us
    · rw [dg_run_pop hD, if_pos hw]
      intro z
      exact absurd (List.append_eq_nil_iff.mp z).1 (by simp)
theorem pj_cap_ne {b : Nat → Nat} {c s0 d : Nat} (h : s0 < 32) (hd : d < 4) (hP : dg_P b (fun _ => 0) c s0 s0 d) : dg_cap 700000 b c s0 ≠ [] := by
  have hK := dg_K_0 (c := c) h
  have hps := dg_ps_0 (fun _ => dg_fst c)
  have hf := dg_fst_ok hP.1
  have hD : dg_D b c s0 (fun _ => 0) ((fun _ => s0) 0) ((fun _ => dg_fst c) 0) < 4 := by
    apply Classical.byContradiction
    intro z
    have hf2 := dg_fst_le c
    exact dg_sc_all (dg_P b (fun _ => 0) c s0 s0) (4 - dg_fst c) (dg_fst c) (by
      have z' : ¬ dg_sc (dg_P b (fun _ => 0) c s0 s0) (4 - dg_fst c) (dg_fst c) < 4 := z
      omega) d hf (by omega) hP
  unfold dg_cap
  rw [show (700000 : Nat) = 699999 + 1 from rfl, dg_run_push (k := 0) rfl hD]
  have kp := dg_K_push (k := 0) hK rfl hD
  have hpp := dg_ps_push (x := fun _ => dg_fst c) (k := 0) (D := dg_D b c s0 (fun _ => 0) ((fun _ => s0) 0) ((fun _ => dg_fst c) 0)) (x' := dg_x0 c (dg_T (dg_T s0 (dg_D b c s0 (fun _ => 0) ((fun _ => s0) 0) ((fun _ => dg_fst c) 0))) (dg_D b c s0 (fun _ => 0) ((fun _ => s0) 0) ((fun _ => dg_fst c) 0)))) kp.2.2.1 kp.2.1 hD
  exact pj_run_ne b c s0 699999 1 _ _ _ _ _ _ kp.2.2.2 (Nat.le_trans (Nat.le_of_succ_le (Nat.le_trans hpp hps)) (by decide)) pk_us
theorem pj_caps_ne {b : Nat → Nat} {sd : Int32} {q d : Nat} (hd : d < 4) (ho : dg_own (b q) sd) (hP : dg_P b (fun _ => 0) (b q) q q d) : ∀ n s, s ≤ q → q < s + n → s + n ≤ 32 → dg_caps 700000 b sd n s ≠ [] := by
  intro n
  induction n with
  | zero => intro s h1 h2 _; omega
  | succ n ih =>
    intro s h1 h2 h3 z
    by_cases e : s = q
    · subst e
      rw [dg_caps_y ho] at z
      exact pj_cap_ne (by omega) hd hP (List.append_eq_nil_iff.mp z).1
    · have g := ih (s + 1) (by omega) (by omega) (by omega)
      by_cases h : dg_own (b s) sd
      · rw [dg_caps_y h] at z; exact g (List.append_eq_nil_iff.mp z).2
      · rw [dg_caps_n h] at z; exact g z
theorem pj_sm {b : Nat → Nat} {c s : Nat} : ∀ n d, d + n ≤ 4 → ∀ e, e ∈ dg_sm b c s n d → ∃ d', d' < 4 ∧ dg_R b c s d' ∧ e = (2, dg_two s (dg_T s d')) := by
  intro n
  induction n with
  | zero => intro d _ e he; rw [dg_sm] at he; exact absurd he List.not_mem_nil
  | succ n ih =>
    intro d hd e he
    by_cases h : dg_R b c s d
    · rw [dg_sm_y h] at he
      rcases List.mem_cons.mp he with he | he
      · exact ⟨d, by omega, h, he⟩
      · exact ih (d + 1) (by omega) e he
    · rw [dg_sm_n h] at he
      exact ih (d + 1) (by omega) e he
theorem pj_sms {b : Nat → Nat} {sd : Int32} : ∀ n s, s + n ≤ 32 → ∀ e, e ∈ dg_sms b sd n s → ∃ s0, s0 < 32 ∧ dg_own (b s0) sd ∧ ∃ d', d' < 4 ∧ dg_R b (b s0) s0 d' ∧ e = (2, dg_two s0 (dg_T s0 d')) := by
  intro n
  induction n with
  | zero => intro s _ e he; rw [dg_sms] at he; exact absurd he List.not_mem_nil
  | succ n ih =>
    intro s hs e he
    by_cases h : dg_own (b s) sd
    · rw [dg_sms_y h] at he
      rcases List.mem_append.mp he with he | he
      · obtain ⟨d', h1, h2, h3⟩ := pj_sm 4 0 (by omega) e he
        exact ⟨s, by omega, h, d', h1, h2, h3⟩
      · exact ih (s + 1) (by omega) e he
    · rw [dg_sms_n h] at he
      exact ih (s + 1) (by omega) e he
/-- some piece of the side can jump -/
def pj_can (b : Nat → Nat) (sd : Int32) : Prop := ∃ q d, q < 32 ∧ d < 4 ∧ dg_own (b q) sd ∧ dg_P b (fun _ => 0) (b q) q q d
/-- what the listed moves are -/
theorem pj_ls {b : Nat → Nat} {sd : Int32} {e : Nat × (Nat → Nat)} (h : e ∈ pv_ls b sd) :
    (pj_can b sd ∧ ∃ s0, s0 < 32 ∧ dg_own (b s0) sd ∧ pj_path b (b s0) s0 e) ∨ (¬ pj_can b sd ∧ ∃ s0, s0 < 32 ∧ dg_own (b s0) sd ∧ ∃ d', d' < 4 ∧ dg_R b (b s0) s0 d' ∧ e = (2, dg_two s0 (dg_T s0 d'))) := by
  unfold pv_ls at h
  by_cases hz : (pv_caps b sd).length = 0
  · rw [if_pos hz] at h
    refine Or.inr ⟨?_, ?_⟩
    · rintro ⟨q, d, h1, h2, h3, h4⟩
      have g := pv_ne (pj_caps_ne h2 h3 h4 32 0 (by omega) (by omega) (by omega))
      unfold pv_caps at hz
      omega
    · rcases pv_mem _ _ e h with g | g
      · exact absurd g List.not_mem_nil
      · exact pj_sms 32 0 (by omega) e g
  · rw [if_neg hz] at h
    rcases pv_mem _ _ e h with g | g
    · exact absurd g List.not_mem_nil
    · obtain ⟨s0, h1, h2, h3⟩ := pj_caps 32 0 (by omega) e g
      refine Or.inl ⟨?_, s0, h1, h2, h3⟩
      obtain ⟨a1, a2, j, a3, _⟩ := h3
      obtain ⟨⟨d, d1, d2, d3, d4, d5, d6, d7, d8⟩, _⟩ := a3 0 (by omega)
      rw [a1] at d3
      rw [← d3] at d4 d5 d7
      rw [← d4] at d6 d8
      exact ⟨s0, d, h1, d1, h2, d2, d5, d6, rfl, d7, d8⟩
end
section
/-! a move applied to a board of naturals -/
def pb_tk (b q : Nat → Nat) : Nat → (Nat → Nat)
  | 0 => b
  | n + 1 => dg_u (pb_tk b q n) (dg_mid (q n) (q (n + 1))) 0
def pb_ap (b : Nat → Nat) (L : Nat) (q : Nat → Nat) : Nat → Nat := dg_u (pb_tk (dg_u b (q 0) 0) q (dg_C2 q L)) (q (L - 1)) (b (q 0) + dg_cro (b (q 0)) (q (L - 1)))
theorem pb_upd {f : Nat → Int32} {g : Nat → Nat} {t m v : Nat} (hv : v < 100) (h : ∀ n, n < 32 → dg_b f (t * 32 + n) = g n) : ∀ n, n < 32 → dg_b (upd f (t * 32 + m) (nI v)) (t * 32 + n) = dg_u g m v n := by
  intro n hn
  by_cases e : n = m
  · subst e
    rw [dg_us]
    unfold dg_b
    rw [pk_us]
    exact nI_clamp (by omega)
  · rw [dg_un e]
    unfold dg_b
    rw [pk_un (by omega)]
    exact h n hn
theorem pb_tk_e {f : Nat → Int32} {g q : Nat → Nat} {t : Nat} (h : ∀ n, n < 32 → dg_b f (t * 32 + n) = g n) : ∀ i n, n < 32 → dg_b (dg_tk f t q i) (t * 32 + n) = pb_tk g q i n := by
  intro i
  induction i with
  | zero => exact h
  | succ i ih => exact pb_upd (v := 0) (by omega) ih
theorem pb_ab {bd : Nat → Int32} {s t L : Nat} {q : Nat → Nat} (hB : dg_B bd) (hs : s < 4) (hq : q 0 < 32) : ∀ n, n < 32 → dg_b (dg_ab bd s t L q) (t * 32 + n) = pb_ap (dg_bl bd s) L q n := by
  have h4 := (dg_B_b hB (i := s * 32 + q 0) (by omega)).2
  have h5 := dg_cro_le (s := q (L - 1)) h4
  refine pb_upd (by omega) (pb_tk_e (pb_upd (v := 0) (by omega) fun n hn => ?_) _)
  by_cases e : s = t
  · subst e; rw [dg_cb_same]; rfl
  · unfold dg_b
    rw [dg_cb_in bd s t 32 n e (by omega) hn]
    rfl
theorem pb_tk_congr {b b' q q' : Nat → Nat} (h : ∀ n, n < 32 → b n = b' n) : ∀ i, (∀ k, k ≤ i → q k = q' k) → ∀ n, n < 32 → pb_tk b q i n = pb_tk b' q' i n := by
  intro i
  induction i with
  | zero => intro _ n hn; exact h n hn
  | succ i ih =>
    intro hq n hn
    show dg_u (pb_tk b q i) (dg_mid (q i) (q (i + 1))) 0 n = dg_u (pb_tk b' q' i) (dg_mid (q' i) (q' (i + 1))) 0 n
    rw [hq i (by omega), hq (i + 1) (by omega)]
    by_cases e : n = dg_mid (q' i) (q' (i + 1))
    · rw [e, dg_us, dg_us]
    · rw [dg_un e, dg_un e]; exact ih (fun k hk => hq k (by omega)) n hn
theorem pb_ap_congr {b b' q q' : Nat → Nat} {L : Nat} (h : ∀ n, n < 32 → b n = b' n) (hL : 2 ≤ L) (hq : ∀ k, k < L → q k = q' k) (h0 : q 0 < 32) : (∀ n, n < 32 → pb_ap b L q n = pb_ap b' L q' n) ∧ dg_C2 q L = dg_C2 q' L ∧ b (q 0) = b' (q' 0) := by
  have e0 := hq 0 (by omega)
  have e1 := hq 1 (by omega)
  have eL := hq (L - 1) (by omega)
  have eC : dg_C2 q L = dg_C2 q' L := by unfold dg_C2; rw [e0, e1]
  have eb : b (q 0) = b' (q' 0) := by rw [h _ h0, e0]
  refine ⟨fun n hn => ?_, eC, eb⟩
  have hC := dg_C2_c (q := q') hL
  unfold pb_ap
  rw [eC, eb, eL]
  have g := pb_tk_congr (b := dg_u b (q 0) 0) (b' := dg_u b' (q' 0) 0) (q := q) (q' := q') (fun m hm => by
    rw [e0]
    by_cases e : m = q' 0
    · rw [e, dg_us, dg_us]
    · rw [dg_un e, dg_un e]; exact h m hm) (dg_C2 q' L) (fun k hk => hq k (by omega)) n hn
  by_cases e : n = q' (L - 1)
  · rw [e, dg_us, dg_us]
  · rw [dg_un e, dg_un e]; exact g
/-! positions: board, side, counter -/
abbrev pp_Pos : Type := (Nat → Nat) × Int32 × Int32
def pp_ap (P : pp_Pos) (e : Nat × (Nat → Nat)) : pp_Pos := (pb_ap P.1 e.1 e.2, (if P.2.1 = 0 then 1 else 0), (if 0 < dg_C2 e.2 e.1 ∨ P.1 (e.2 0) = 1 ∨ P.1 (e.2 0) = 3 then 0 else P.2.2 + 1))
noncomputable def pp_ls (P : pp_Pos) : List (Nat × (Nat → Nat)) := pv_ls P.1 P.2.1
noncomputable def pp_mv (P : pp_Pos) (i : Nat) : Nat × (Nat → Nat) := (pp_ls P)[i]?.getD (0, fun _ => 0)
theorem pp_mv_some {P : pp_Pos} {i : Nat} (h : i < (pp_ls P).length) : (pp_ls P)[i]? = some (pp_mv P i) := by
  unfold pp_mv
  rw [List.getElem?_eq_getElem h]
  rfl
theorem pp_mv_E {P : pp_Pos} {i : Nat} (h : i < (pp_ls P).length) : dg_E (pp_mv P i) ∧ pp_mv P i ∈ pp_ls P := by
  have g := List.mem_of_getElem? (pp_mv_some h)
  exact ⟨(pv_gen 0 P.1 P.2.1 (fun _ => 0) (fun _ => 0) (fun _ => 0)).2 _ g, g⟩
def pp_at (S : dg_Sh) (lv : Nat) (P : pp_Pos) : Prop := (∀ n, n < 32 → dg_bl S.1 lv n = P.1 n) ∧ S.2.1 lv = P.2.1 ∧ S.2.2.1 lv = P.2.2 ∧ pv_V S.2.2.2 lv (pp_ls P)
theorem pp_m {S : dg_Sh} {lv : Nat} {P : pp_Pos} (h : pp_at S lv P) : dg_m S lv = (pp_ls P).length := by
  unfold dg_m
  rw [h.2.2.2.2.1]
  exact nI_clamp (by have := h.2.2.2.1; omega)
/-- the cells of a listed move say the move -/
theorem pp_cells {S : dg_Sh} {lv i : Nat} {P : pp_Pos} (h : pp_at S lv P) (hi : i < (pp_ls P).length) : dg_l S.2.2.2.2.1 (lv * 48 + i) = (pp_mv P i).1 ∧ ∀ k, k < (pp_mv P i).1 → dg_q S.2.2.2.2.2 (lv * 48 + i) k = (pp_mv P i).2 k := by
  have g := h.2.2.2.2.2 i _ (pp_mv_some hi)
  have hE := (pp_mv_E hi).1
  refine ⟨?_, fun k hk => ?_⟩
  · unfold dg_l
    rw [g.1]
    exact nI_clamp (by have := hE.2.1; omega)
  · unfold dg_q
    rw [g.2 k hk]
    exact nI_clamp (by have := hE.2.2.1 k hk; omega)
theorem pp_next {S : dg_Sh} {l t i : Nat} {P : pp_Pos} (hB : dg_B S.1) (hl : l < 4) (h : pp_at S l P) (hi : i < (pp_ls P).length) : pp_at (dg_gn t (dg_ap l i t S)) t (pp_ap P (pp_mv P i)) := by
  obtain ⟨c1, c2⟩ := pp_cells h hi
  have hE := (pp_mv_E hi).1
  have hq0 : dg_q S.2.2.2.2.2 (l * 48 + i) 0 < 32 := by rw [c2 0 (by have := hE.1; omega)]; exact hE.2.2.1 0 (by have := hE.1; omega)
  have hc := pb_ap_congr (b := dg_bl S.1 l) (b' := P.1) (q := dg_q S.2.2.2.2.2 (l * 48 + i)) (q' := (pp_mv P i).2) (L := (pp_mv P i).1) h.1 hE.1 c2 hq0
  have hb : ∀ n, n < 32 → dg_bl (dg_ap l i t S).1 t n = (pp_ap P (pp_mv P i)).1 n := by
    intro n hn
    show dg_b (dg_ab S.1 l t (dg_l S.2.2.2.2.1 (l * 48 + i)) (dg_q S.2.2.2.2.2 (l * 48 + i))) (t * 32 + n) = _
    rw [pb_ab hB hl hq0 n hn, c1]
    exact hc.1 n hn
  have hs : (dg_ap l i t S).2.1 t = (pp_ap P (pp_mv P i)).2.1 := by
    show dg_as S.2.1 l t t = (if P.2.1 = 0 then 1 else 0)
    unfold dg_as
    rw [pk_us, h.2.1]
  have hd : (dg_ap l i t S).2.2.1 t = (pp_ap P (pp_mv P i)).2.2 := by
    show dg_ad S.2.2.1 S.1 l t (dg_l S.2.2.2.2.1 (l * 48 + i)) (dg_q S.2.2.2.2.2 (l * 48 + i)) t = (if 0 < dg_C2 (pp_mv P i).2 (pp_mv P i).1 ∨ P.1 ((pp_mv P i).2 0) = 1 ∨ P.1 ((pp_mv P i).2 0) = 3 then 0 else P.2.2 + 1)
    unfold dg_ad
    have hb0 : dg_b S.1 (l * 32 + dg_q S.2.2.2.2.2 (l * 48 + i) 0) = P.1 ((pp_mv P i).2 0) := hc.2.2
    rw [pk_us, c1, hc.2.1, hb0, h.2.2.1]
  refine ⟨hb, hs, hd, ?_⟩
  have g := (pv_gen t (dg_bl (dg_ap l i t S).1 t) ((dg_ap l i t S).2.1 t) S.2.2.2.1 S.2.2.2.2.1 S.2.2.2.2.2).1
  have e : pv_ls (dg_bl (dg_ap l i t S).1 t) ((dg_ap l i t S).2.1 t) = pp_ls (pp_ap P (pp_mv P i)) := by
    rw [hs, pv_ls_congr hb]
    rfl
  rw [e] at g
  exact g
theorem pb_ab_out {bd : Nat → Int32} {s t L m : Nat} {q : Nat → Nat} (hL : 2 ≤ L) (hq : ∀ k, k < L → q k < 32) (hm : m < t * 32 ∨ t * 32 + 32 ≤ m) : dg_ab bd s t L q m = bd m := by
  have htk : ∀ (f : Nat → Int32) (i : Nat), i < L → dg_tk f t q i m = f m := by
    intro f i
    induction i with
    | zero => intro _; rfl
    | succ i ih =>
      intro hi
      have := dg_mid_lt (hq i (by omega)) (hq (i + 1) hi)
      show upd (dg_tk f t q i) (t * 32 + dg_mid (q i) (q (i + 1))) 0 m = f m
      rw [pk_un (by omega)]
      exact ih (by omega)
  have hC := dg_C2_c (q := q) hL
  have h0 := hq 0 (by omega)
  have hl := hq (L - 1) (by omega)
  unfold dg_ab
  rw [pk_un (by omega), htk _ _ (by omega), pk_un (by omega), dg_cb_out _ _ _ _ _ (by omega)]
theorem pp_keep {S : dg_Sh} {l i k : Nat} {P Q : pp_Pos} (hP : pp_at S l P) (hi : i < (pp_ls P).length) (hk : k ≤ l) (h : pp_at S k Q) : pp_at (dg_gn (l + 1) (dg_ap l i (l + 1) S)) k Q := by
  obtain ⟨c1, c2⟩ := pp_cells hP hi
  have hE := (pp_mv_E hi).1
  obtain ⟨h1, h2, h3, h4⟩ := h
  have hF := (dg_gen_L (l + 1) (dg_bl (dg_ap l i (l + 1) S).1 (l + 1)) ((dg_ap l i (l + 1) S).2.1 (l + 1)) S.2.2.2.1 S.2.2.2.2.1 S.2.2.2.2.2).2
  refine ⟨fun n hn => ?_, ?_, ?_, ?_⟩
  · rw [← h1 n hn]
    show dg_b (dg_ab S.1 l (l + 1) (dg_l S.2.2.2.2.1 (l * 48 + i)) (dg_q S.2.2.2.2.2 (l * 48 + i))) (k * 32 + n) = dg_b S.1 (k * 32 + n)
    unfold dg_b
    rw [pb_ab_out (by rw [c1]; exact hE.1) (fun j hj => by rw [c1] at hj; rw [c2 j hj]; exact hE.2.2.1 j hj) (by omega)]
  · rw [← h2]
    show dg_as S.2.1 l (l + 1) k = S.2.1 k
    unfold dg_as
    exact pk_un (by omega)
  · rw [← h3]
    show dg_ad S.2.2.1 S.1 l (l + 1) (dg_l S.2.2.2.2.1 (l * 48 + i)) (dg_q S.2.2.2.2.2 (l * 48 + i)) k = S.2.2.1 k
    unfold dg_ad
    exact pk_un (by omega)
  · refine ⟨h4.1, (hF.1 k (by omega)).trans h4.2.1, fun j e hj => ?_⟩
    have g := h4.2.2 j e hj
    have hj48 : j < (pp_ls Q).length := (List.getElem?_eq_some_iff.mp hj).1
    have h48 := h4.1
    have hE2 := (pv_gen 0 Q.1 Q.2.1 (fun _ => 0) (fun _ => 0) (fun _ => 0)).2 e (List.mem_of_getElem? hj)
    have h13 := hE2.2.1
    exact ⟨(hF.2.1 _ (by omega)).trans g.1, fun m hm => (hF.2.2 _ (by omega)).trans (g.2 m hm)⟩
/-! the value of a position -/
def pp_f (f : Nat → Int) : Nat → Int
  | 0 => -20000
  | i + 1 => if pp_f f i < f i then f i else pp_f f i
def pp_a (f : Nat → Int) : Nat → Nat
  | 0 => 0
  | i + 1 => if pp_f f i < f i then i else pp_a f i
def pp_lf (lim : Int32) (pl lv : Nat) (P : pp_Pos) : Prop := (pp_ls P).length = 0 ∨ lim ≤ P.2.2 ∨ lv = pl
noncomputable def pp_lv (lim : Int32) (lv : Nat) (P : pp_Pos) : Int :=
  @ite _ ((pp_ls P).length = 0) (Classical.propDecidable _) (-10000 + (lv : Int)) (@ite _ (lim ≤ P.2.2) (Classical.propDecidable _) 0 (dg_ev P.1 P.2.1 32 0))
noncomputable def pp_nv (lim : Int32) (pl : Nat) : Nat → Nat → pp_Pos → Int
  | 0, lv, P => pp_lv lim lv P
  | r + 1, lv, P => @ite _ (pp_lf lim pl lv P) (Classical.propDecidable _) (pp_lv lim lv P) (pp_f (fun i => - pp_nv lim pl r (lv + 1) (pp_ap P (pp_mv P i))) (pp_ls P).length)
/-- the values of a position's moves -/
noncomputable def pp_ch (lim : Int32) (pl lv : Nat) (P : pp_Pos) (i : Nat) : Int := - pp_nv lim pl (pl - (lv + 1)) (lv + 1) (pp_ap P (pp_mv P i))
theorem pp_nv_leaf {lim : Int32} {pl lv r : Nat} {P : pp_Pos} (h : pp_lf lim pl lv P) : pp_nv lim pl r lv P = pp_lv lim lv P := by
  cases r with
  | zero => rw [pp_nv]
  | succ r => rw [pp_nv, if_pos h]
theorem pp_nv_in {lim : Int32} {pl lv : Nat} {P : pp_Pos} (h : ¬ pp_lf lim pl lv P) (hl : lv < pl) : pp_nv lim pl (pl - lv) lv P = pp_f (pp_ch lim pl lv P) (pp_ls P).length := by
  obtain ⟨r, hr⟩ : ∃ r, pl - lv = r + 1 := ⟨pl - lv - 1, by omega⟩
  have hr2 : pl - (lv + 1) = r := by omega
  rw [hr, pp_nv, if_neg h]
  unfold pp_ch
  rw [hr2]
theorem pp_zero {S : dg_Sh} {lv : Nat} {P : pp_Pos} (h : pp_at S lv P) : S.2.2.2.1 lv = 0 ↔ (pp_ls P).length = 0 := by
  rw [h.2.2.2.2.1, ← nI_0, nI_eq (by have := h.2.2.2.1; omega) (by omega)]
theorem pp_lf_at {lim : Int32} {pl lv : Nat} {S : dg_Sh} {P : pp_Pos} (h : pp_at S lv P) : dg_lf lim pl lv S ↔ pp_lf lim pl lv P := by
  unfold dg_lf pp_lf
  rw [pp_zero h, h.2.2.1]
theorem pp_lv_at {lim : Int32} {lv : Nat} {S : dg_Sh} {P : pp_Pos} (h : pp_at S lv P) : dg_lv lim lv S = pp_lv lim lv P := by
  unfold dg_lv pp_lv
  have hz := pp_zero h
  have hd := h.2.2.1
  by_cases a : (pp_ls P).length = 0
  · rw [if_pos (hz.mpr a), if_pos a]
  · rw [if_neg (fun z => a (hz.mp z)), if_neg a, hd]
    by_cases b : lim ≤ P.2.2
    · rw [if_pos b, if_pos b]
    · rw [if_neg b, if_neg b, h.2.1]
      exact pv_ev_congr h.1 _ 32 0 (by omega)
def pp_uP (P : Nat → pp_Pos) (k : Nat) (x : pp_Pos) : Nat → pp_Pos := fun i => if i = k then x else P i
theorem pp_uPs {P : Nat → pp_Pos} {k : Nat} {x : pp_Pos} : pp_uP P k x k = x := if_pos rfl
theorem pp_uPn {P : Nat → pp_Pos} {k i : Nat} {x : pp_Pos} (h : i ≠ k) : pp_uP P k x i = P i := if_neg h
def pp_H (lim : Int32) (pl l : Nat) (S : dg_Sh) (ix : Nat → Nat) (vb : Nat → Int) (g : Nat) (P : Nat → pp_Pos) : Prop :=
  (∀ i, i ≤ l → pp_at S i (P i)) ∧ (∀ i, i < l → P (i + 1) = pp_ap (P i) (pp_mv (P i) (ix i)) ∧ ¬ pp_lf lim pl (i + 1) (P (i + 1))) ∧ (∀ i, i ≤ l → vb i = pp_f (pp_ch lim pl i (P i)) (ix i)) ∧ g = pp_a (pp_ch lim pl 0 (P 0)) (ix 0)
theorem pp_H_take {lim : Int32} {pl l g : Nat} {S S' : dg_Sh} {ix : Nat → Nat} {vb : Nat → Int} {P : Nat → pp_Pos} {v : Int} (h : pp_H lim pl l S ix vb g P) (hS : ∀ i, i ≤ l → pp_at S' i (P i)) (hv : v = pp_ch lim pl l (P l) (ix l)) :
    pp_H lim pl l S' (dg_u ix l (ix l + 1)) (dg_tv l v vb) (dg_tg l v vb ix g) P := by
  obtain ⟨h1, h2, h3, h4⟩ := h
  have hl := h3 l (Nat.le_refl l)
  refine ⟨hS, fun i hi => ?_, fun i hi => ?_, ?_⟩
  · rw [dg_un (by omega)]; exact h2 i hi
  · unfold dg_tv
    by_cases e : i = l
    · subst e
      rw [dg_us]
      show _ = if pp_f (pp_ch lim pl i (P i)) (ix i) < pp_ch lim pl i (P i) (ix i) then pp_ch lim pl i (P i) (ix i) else pp_f (pp_ch lim pl i (P i)) (ix i)
      rw [← hl, ← hv]
      split
      · exact dg_uIs
      · exact rfl
    · rw [dg_un e, ← h3 i hi]
      split
      · exact dg_uIn e
      · exact rfl
  · unfold dg_tg
    by_cases e : l = 0
    · subst e
      rw [dg_us]
      show _ = if pp_f (pp_ch lim pl 0 (P 0)) (ix 0) < pp_ch lim pl 0 (P 0) (ix 0) then ix 0 else pp_a (pp_ch lim pl 0 (P 0)) (ix 0)
      rw [← hl, ← hv, ← h4, if_pos rfl]
    · rw [dg_un (fun y => e y.symm), if_neg e, ← h4]
      split <;> rfl
/-- the machine of the search finds the value and the first best move -/
theorem pp_se {lim : Int32} {pl : Nat} (hpl : pl ≤ 3) : ∀ (n l : Nat) (S : dg_Sh) (ix : Nat → Nat) (vb : Nat → Int) (g : Nat) (P : Nat → pp_Pos), dg_H l S ix vb → l < pl → pp_H lim pl l S ix vb g P → dg_pt (dg_m S) ix (l + 1) ≤ n →
    (dg_se lim pl n (l + 1) S ix vb g).2 = (pp_f (pp_ch lim pl 0 (P 0)) (pp_ls (P 0)).length, pp_a (pp_ch lim pl 0 (P 0)) (pp_ls (P 0)).length) ∧ pp_at (dg_se lim pl n (l + 1) S ix vb g).1 0 (P 0) := by
  intro n
  induction n with
  | zero => intro l S ix vb g P _ _ _ hn; have := dg_pt_pos (dg_m S) ix l; omega
  | succ n ih =>
    intro l S ix vb g P hH hl hP hn
    have hat := hP.1 l (Nat.le_refl l)
    have hm := pp_m hat
    by_cases hlt : ix l < dg_m S l
    · obtain ⟨hO', hm'⟩ := dg_H_next hH (by omega) hlt rfl
      have hi : ix l < (pp_ls (P l)).length := by rw [← hm]; exact hlt
      have hnx := pp_next (t := l + 1) hH.1.1 (by omega) hat hi
      have hkp : ∀ i, i ≤ l → pp_at (dg_gn (l + 1) (dg_ap l (ix l) (l + 1) S)) i (P i) := fun i hil => pp_keep hat hi hil (hP.1 i hil)
      have hlfi := pp_lf_at (lim := lim) (pl := pl) hnx
      have hlvi := pp_lv_at (lim := lim) hnx
      by_cases hlf : dg_lf lim pl (l + 1) (dg_gn (l + 1) (dg_ap l (ix l) (l + 1) S))
      · rw [dg_se_leaf hlt rfl hlf]
        have hv := dg_lv_r (lim := lim) (lv := l + 1) (S := dg_gn (l + 1) (dg_ap l (ix l) (l + 1) S)) (by omega)
        have hpt := dg_pt_leaf (M := dg_m S) (M' := dg_m (dg_gn (l + 1) (dg_ap l (ix l) (l + 1) S))) (ix := ix) (l := l) hm' hlt
        refine ih l _ _ _ _ P (dg_H_take (v := - dg_lv lim (l + 1) (dg_gn (l + 1) (dg_ap l (ix l) (l + 1) S))) hH (dg_Ok_le hO' (by omega)) hm' hlt (by omega) (by omega)) hl (pp_H_take hP hkp ?_) (by omega)
        unfold pp_ch
        rw [pp_nv_leaf (hlfi.mp hlf), hlvi]
      · rw [dg_se_in hlt rfl hlf]
        have hlp : l + 1 < pl := by
          apply Classical.byContradiction
          intro z
          exact hlf (Or.inr (Or.inr (by omega)))
        have hM48' := (dg_L_m (hO'.2.2 (l + 1) (Nat.le_refl _))).1
        have hpt : dg_pt (dg_m (dg_gn (l + 1) (dg_ap l (ix l) (l + 1) S))) (dg_u ix (l + 1) 0) (l + 1 + 1) + 1 ≤ dg_pt (dg_m S) ix (l + 1) := dg_pt_in (by omega) hm' hlt hM48'
        have r := ih (l + 1) (dg_gn (l + 1) (dg_ap l (ix l) (l + 1) S)) (dg_u ix (l + 1) 0) (dg_uI vb (l + 1) (-20000)) g (pp_uP P (l + 1) (pp_ap (P l) (pp_mv (P l) (ix l)))) (dg_H_in hH hlt hO' hm' (fun z => hlf (Or.inl z))) hlp ?_ (by omega)
        · rw [pp_uPn (by omega)] at r; exact r
        · refine ⟨fun i hi2 => ?_, fun i hi2 => ?_, fun i hi2 => ?_, ?_⟩
          · by_cases e : i = l + 1
            · subst e; rw [pp_uPs]; exact hnx
            · rw [pp_uPn e]; exact hkp i (by omega)
          · rw [pp_uPn (i := i) (by omega), dg_un (by omega)]
            by_cases e : i = l
            · subst e
              rw [pp_uPs]
              exact ⟨rfl, fun z => hlf (hlfi.mpr z)⟩
            · rw [pp_uPn (by omega)]
              exact hP.2.1 i (by omega)
          · by_cases e : i = l + 1
            · subst e; rw [pp_uPs, dg_us, dg_uIs]; rfl
            · rw [pp_uPn e, dg_un e, dg_uIn e]; exact hP.2.2.1 i (by omega)
          · rw [pp_uPn (by omega), dg_un (by omega)]; exact hP.2.2.2
    · have hix := (hH.2.2 l (Nat.le_refl l)).2.1
      have hfull : ix l = (pp_ls (P l)).length := by omega
      cases l with
      | zero =>
        rw [dg_se_end hlt]
        refine ⟨?_, hP.1 0 (Nat.le_refl 0)⟩
        rw [hP.2.2.1 0 (Nat.le_refl 0), hP.2.2.2, hfull]
      | succ l =>
        obtain ⟨hv, hH'⟩ := dg_H_out hH hlt
        rw [dg_se_out hlt]
        have hpt : dg_pt (dg_m S) (dg_u ix l (ix l + 1)) (l + 1) + 1 ≤ dg_pt (dg_m S) ix (l + 1 + 1) := dg_pt_out
        have hP' : pp_H lim pl l S ix vb g P := ⟨fun i hi => hP.1 i (by omega), fun i hi => hP.2.1 i (by omega), fun i hi => hP.2.2.1 i (by omega), hP.2.2.2⟩
        refine ih l S _ _ _ P (dg_H_take (v := - vb (l + 1)) hH' hH'.1 (fun _ _ => rfl) (hH.2.1 l (by omega)) (by omega) (by omega)) (by omega) (pp_H_take hP' hP'.1 ?_) (by omega)
        have k1 := hP.2.1 l (by omega)
        have k2 := hP.2.2.1 (l + 1) (Nat.le_refl _)
        rw [k2, hfull]
        show _ = - pp_nv lim pl (pl - (l + 1)) (l + 1) (pp_ap (P l) (pp_mv (P l) (ix l)))
        rw [← k1.1, pp_nv_in k1.2 (by omega)]
end
section
/-! an engine that shows a game: position, log, its length -/
abbrev eg_G : Type := pp_Pos × (Nat → Int32) × Nat
def eg_R (lim : Int32) (G : eg_G) (sv : Int32) (u : St2) : Prop := ∃ (a_neighbours a_board a_sides a_counters a_mc a_moveLengths a_moveSquares a_path a_jumped a_nextDirection a_wentOn a_nextMove a_bestMove a_bestValue a_log : Nat → Int32),
  u = (lim, nI G.2.2, dg_st lim (a_sides 0) (a_counters 0) (a_mc 0), sv, a_neighbours, a_board, a_sides, a_counters, (if dg_st lim (a_sides 0) (a_counters 0) (a_mc 0) = 3 then upd a_mc 0 0 else a_mc), a_moveLengths, a_moveSquares, a_path, a_jumped, a_nextDirection, a_wentOn, a_nextMove, a_bestMove, a_bestValue, a_log) ∧
  dg_N a_neighbours ∧ dg_B a_board ∧ dg_S a_sides ∧ pp_at (a_board, a_sides, a_counters, a_mc, a_moveLengths, a_moveSquares) 0 G.1 ∧ (∀ i, i < G.2.2 → a_log i = G.2.1 i) ∧ G.2.2 ≤ 64
theorem pv_L {T : (Nat → Int32) × (Nat → Int32) × (Nat → Int32)} {lv : Nat} {l : List (Nat × (Nat → Nat))} (h : pv_V T lv l) (hE : ∀ e, e ∈ l → dg_E e) : dg_L T.1 T.2.1 T.2.2 lv := by
  refine ⟨l.length, h.1, h.2.1, fun i hi => ?_⟩
  have e1 := List.getElem?_eq_getElem hi
  have g := h.2.2 i _ e1
  have hm := hE _ (List.mem_of_getElem? e1)
  exact ⟨(l[i]).1, (l[i]).2, hm.1, hm.2.1, g.1, fun k hk => ⟨hm.2.2.1 k hk, g.2 k hk⟩, hm.2.2.2⟩
theorem pp_E (P : pp_Pos) : ∀ e, e ∈ pp_ls P → dg_E e := (pv_gen 0 P.1 P.2.1 (fun _ => 0) (fun _ => 0) (fun _ => 0)).2
/-- the status of a game -/
noncomputable def eg_st (lim : Int32) (P : pp_Pos) : Int32 := dg_st lim P.2.1 P.2.2 (nI (pp_ls P).length)
/-- how many moves the game lists -/
noncomputable def eg_M (lim : Int32) (P : pp_Pos) : Nat := if eg_st lim P = 0 then (pp_ls P).length else 0
theorem eg_M_le (lim : Int32) (P : pp_Pos) : eg_M lim P ≤ 48 := by
  have h := (pv_gen 0 P.1 P.2.1 (fun _ => 0) (fun _ => 0) (fun _ => 0)).1.1
  unfold eg_M
  split
  · exact h
  · omega
theorem eg_st_at {lim : Int32} {S : dg_Sh} {P : pp_Pos} (h : pp_at S 0 P) : dg_st lim (S.2.1 0) (S.2.2.1 0) (S.2.2.2.1 0) = eg_st lim P := by
  unfold eg_st
  rw [h.2.1, h.2.2.1, h.2.2.2.2.1]
/-- a freshly listed engine -/
theorem eg_mk {f_searchValue : Int32} {a_neighbours a_board a_sides a_counters a_path a_jumped a_nextDirection a_wentOn a_nextMove a_bestMove a_bestValue a_log : Nat → Int32} {lim : Int32} {P : pp_Pos} {lg : Nat → Int32} {n : Nat} {T : (Nat → Int32) × (Nat → Int32) × (Nat → Int32)} (hN : dg_N a_neighbours) (hB : dg_B a_board) (hS : dg_S a_sides) (hb : ∀ i, i < 32 → dg_bl a_board 0 i = P.1 i) (hs : a_sides 0 = P.2.1) (hd : a_counters 0 = P.2.2)
    (hT : ∃ mt ml mv, dg_gen 0 (dg_bl a_board 0) (a_sides 0) mt ml mv = T) (hl : ∀ i, i < n → a_log i = lg i) (hn : n ≤ 64) :
    eg_R lim (P, lg, n) f_searchValue (lim, nI n, dg_st lim (a_sides 0) (a_counters 0) (T.1 0), f_searchValue, a_neighbours, a_board, a_sides, a_counters, (if dg_st lim (a_sides 0) (a_counters 0) (T.1 0) = 3 then upd T.1 0 0 else T.1), T.2.1, T.2.2, a_path, a_jumped, a_nextDirection, a_wentOn, a_nextMove, a_bestMove, a_bestValue, a_log) := by
  obtain ⟨mt, ml, mv, rfl⟩ := hT
  refine ⟨a_neighbours, a_board, a_sides, a_counters, _, _, _, a_path, a_jumped, a_nextDirection, a_wentOn, a_nextMove, a_bestMove, a_bestValue, a_log, rfl, hN, hB, hS, ⟨hb, hs, hd, ?_⟩, hl, hn⟩
  have g := (pv_gen 0 (dg_bl a_board 0) (a_sides 0) mt ml mv).1
  have e : pv_ls (dg_bl a_board 0) (a_sides 0) = pp_ls P := by
    rw [hs, pv_ls_congr hb]
    rfl
  rw [e] at g
  exact g
/-! setting up -/
def eg_B0 (e : Int32) : Nat → Nat := fun n => if e = 0 then (if 12 ≤ n then (if 20 ≤ n then 3 else 0) else 1) else 0
theorem eg_su {bd : Nat → Int32} {e : Int32} : ∀ m n, n < m → dg_su bd e m n = nI (eg_B0 e n) := by
  intro m
  induction m with
  | zero => intro n h; exact absurd h (Nat.not_lt_zero n)
  | succ m ih =>
    intro n h
    show upd (dg_su bd e m) m (dg_sv e m) n = _
    by_cases z : n = m
    · subst z
      rw [pk_us]
      unfold dg_sv eg_B0
      split
      · split
        · split <;> rfl
        · rfl
      · rfl
    · rw [pk_un z]; exact ih n (by omega)
theorem eg_B0_le (e : Int32) (n : Nat) : eg_B0 e n ≤ 4 := by
  unfold eg_B0
  split
  · split
    · split <;> omega
    · omega
  · omega
theorem eg_su_b {bd : Nat → Int32} {e : Int32} : ∀ n, n < 32 → dg_bl (dg_su bd e 32) 0 n = eg_B0 e n := by
  intro n hn
  have := eg_B0_le e n
  unfold dg_bl dg_b
  rw [show 0 * 32 + n = n by omega, eg_su 32 n hn]
  exact nI_clamp (by omega)
def eg_reset (e : Int32) (G : eg_G) : eg_G := ((eg_B0 e, 0, 0), G.2.1, 0)
theorem ex_reset {lim sv e : Int32} {G : eg_G} {u : St2} {post : St2 → Prop} (h : eg_R lim G sv u) (hp : ∀ u', eg_R lim (eg_reset e G) sv u' → post u') : wpX_reset post u e := by
  obtain ⟨a_neighbours, a_board, a_sides, a_counters, a_mc, a_moveLengths, a_moveSquares, a_path, a_jumped, a_nextDirection, a_wentOn, a_nextMove, a_bestMove, a_bestValue, a_log, rfl, hN, hB, hS, hat, hl, hn⟩ := h
  have hB1 := dg_su_B hB e 32
  have hS1 : dg_S (upd a_sides 0 0) := dg_S_upd hS 0 0 (Or.inl rfl)
  unfold wpX_reset
  refine xr_setup (nm_e (xr_refresh hN hB1 hS1 rfl fun p' jx' nd' wo' => hp _ ?_))
  exact eg_mk (n := 0) hN hB1 hS1 eg_su_b pk_us pk_us ⟨_, _, _, rfl⟩ (fun i hi => absurd hi (Nat.not_lt_zero i)) (by omega)
def eg_side (v : Int32) (G : eg_G) : eg_G := if v = 0 ∨ v = 1 then ((G.1.1, v, 0), G.2.1, 0) else G
theorem ex_side {lim sv v : Int32} {G : eg_G} {u : St2} {post : Int32 → St2 → Prop} (h : eg_R lim G sv u) (hp : ∀ r u', eg_R lim (eg_side v G) sv u' → post r u') : wpX_setSideToMove post u v := by
  have h' := h
  obtain ⟨a_neighbours, a_board, a_sides, a_counters, a_mc, a_moveLengths, a_moveSquares, a_path, a_jumped, a_nextDirection, a_wentOn, a_nextMove, a_bestMove, a_bestValue, a_log, rfl, hN, hB, hS, hat, hl, hn⟩ := h
  unfold eg_side at hp
  by_cases h01 : v = 0 ∨ v = 1
  · rw [if_pos h01] at hp
    have hS1 : dg_S (upd a_sides 0 v) := dg_S_upd hS 0 v h01
    have fin : wX_setSideToMove_11 post v lim (nI G.2.2) (dg_st lim (a_sides 0) (a_counters 0) (a_mc 0)) sv a_neighbours a_board a_sides a_counters (if dg_st lim (a_sides 0) (a_counters 0) (a_mc 0) = 3 then upd a_mc 0 0 else a_mc) a_moveLengths a_moveSquares a_path a_jumped a_nextDirection a_wentOn a_nextMove a_bestMove a_bestValue a_log := by
      refine nm_e (nm_e (xr_refresh hN hB hS1 rfl fun p' jx' nd' wo' => hp _ _ ?_))
      exact eg_mk (P := (G.1.1, v, 0)) (n := 0) hN hB hS1 hat.1 pk_us pk_us ⟨_, _, _, rfl⟩ (fun i hi => absurd hi (Nat.not_lt_zero i)) (by omega)
    rcases h01 with h0 | h1
    · exact br_t h0 fin
    · exact br_f (by rw [h1]; decide) (br_t h1 fin)
  · rw [if_neg h01] at hp
    exact br_f (fun z => h01 (Or.inl z)) (br_f (fun z => h01 (Or.inr z)) (hp _ _ h'))
/-- the placing of a piece is taken -/
def eg_can (b : Nat → Nat) (s c : Nat) : Prop := dg_cro c s = 0 ∧ (c = 0 ∨ dg_cn b c s 32 0 ≤ 11)
noncomputable def eg_place (v1 v2 : Int32) (G : eg_G) : eg_G := @ite _ (¬ v1 < 0 ∧ v1.toNatClampNeg < 32 ∧ ¬ v2 < 0 ∧ v2.toNatClampNeg ≤ 4 ∧ eg_can G.1.1 v1.toNatClampNeg v2.toNatClampNeg) (Classical.propDecidable _) ((dg_u G.1.1 v1.toNatClampNeg v2.toNatClampNeg, G.1.2.1, 0), G.2.1, 0) G
theorem eg_cn_congr {b b' : Nat → Nat} {c s : Nat} (h : ∀ n, n < 32 → b n = b' n) : ∀ n q, q + n ≤ 32 → dg_cn b c s n q = dg_cn b' c s n q := by
  intro n
  induction n with
  | zero => intro q _; rfl
  | succ n ih =>
    intro q hq
    show (if q ≠ s ∧ b q ≠ 0 ∧ (b q ≤ 2 ↔ c ≤ 2) then 1 else 0) + dg_cn b c s n (q + 1) = (if q ≠ s ∧ b' q ≠ 0 ∧ (b' q ≤ 2 ↔ c ≤ 2) then 1 else 0) + dg_cn b' c s n (q + 1)
    rw [h q (by omega), ih (q + 1) (by omega)]
theorem ex_place {lim sv v1 v2 : Int32} {G : eg_G} {u : St2} {post : Int32 → St2 → Prop} (h : eg_R lim G sv u) (hp : ∀ r u', eg_R lim (eg_place v1 v2 G) sv u' → post r u') : wpX_place post u v1 v2 := by
  have h' := h
  obtain ⟨a_neighbours, a_board, a_sides, a_counters, a_mc, a_moveLengths, a_moveSquares, a_path, a_jumped, a_nextDirection, a_wentOn, a_nextMove, a_bestMove, a_bestValue, a_log, rfl, hN, hB, hS, hat, hl, hn⟩ := h
  unfold eg_place at hp
  unfold wpX_place
  rcases re_ix v1 with h1 | ⟨s, hs, rfl⟩
  · rw [if_neg (fun z => z.1 h1)] at hp
    exact br_t h1 (br_t rfl (hp _ _ h'))
  · have es : (nI s).toNatClampNeg = s := nI_clamp hs
    rw [es] at hp
    refine br_f (nI_pos hs) (pk_le 32 s (fun big => br_t rfl ?_) (fun s32 => br_f (by decide) ?_))
    · rw [if_neg (fun z => by have := z.2.1; omega)] at hp
      exact hp _ _ h'
    · rcases re_ix v2 with h2 | ⟨c, hc, rfl⟩
      · rw [if_neg (fun z => z.2.2.1 h2)] at hp
        exact br_t h2 (hp _ _ h')
      · have ec : (nI c).toNatClampNeg = c := nI_clamp hc
        rw [ec] at hp
        refine br_f (nI_pos hc) (pk_le c 4 (fun c4 => ?_) (fun big => ?_))
        · have hcn : dg_cn (dg_b a_board) c s 32 0 = dg_cn G.1.1 c s 32 0 := eg_cn_congr (fun n hn => by
            have := hat.1 n hn
            unfold dg_bl at this
            rw [show 0 * 32 + n = n by omega] at this
            exact this) 32 0 (by omega)
          have hcl := dg_cn_le (dg_b a_board) c s 32 0
          have no : ¬ eg_can G.1.1 s c → post 0 (lim, nI G.2.2, dg_st lim (a_sides 0) (a_counters 0) (a_mc 0), sv, a_neighbours, a_board, a_sides, a_counters, (if dg_st lim (a_sides 0) (a_counters 0) (a_mc 0) = 3 then upd a_mc 0 0 else a_mc), a_moveLengths, a_moveSquares, a_path, a_jumped, a_nextDirection, a_wentOn, a_nextMove, a_bestMove, a_bestValue, a_log) := by
            intro z
            rw [if_neg (fun y => z y.2.2.2.2)] at hp
            exact hp _ _ h'
          have yes : eg_can G.1.1 s c → wX_place_45 post (nI s) (nI c) lim (nI G.2.2) (dg_st lim (a_sides 0) (a_counters 0) (a_mc 0)) sv a_neighbours a_board a_sides a_counters (if dg_st lim (a_sides 0) (a_counters 0) (a_mc 0) = 3 then upd a_mc 0 0 else a_mc) a_moveLengths a_moveSquares a_path a_jumped a_nextDirection a_wentOn a_nextMove a_bestMove a_bestValue a_log := by
            intro z
            rw [if_pos ⟨nI_pos hs, s32, nI_pos hc, c4, z⟩] at hp
            have hB1 : dg_B (upd a_board s (nI c)) := dg_B_upd hB s c c4
            refine ⟨vp_in_nI (by omega) (by omega), nm_r (e' := upd a_board s (nI c)) (by rw [es]) (nm_e (xr_refresh hN hB1 hS rfl fun p' jx' nd' wo' => hp _ _ ?_))⟩
            have hb := pb_upd (f := a_board) (g := G.1.1) (t := 0) (m := s) (v := c) (by omega) hat.1
            rw [show 0 * 32 + s = s by omega] at hb
            exact eg_mk (P := (dg_u G.1.1 s c, G.1.2.1, 0)) (n := 0) hN hB1 hS hb hat.2.1 pk_us ⟨_, _, _, rfl⟩ (fun i hi => absurd hi (Nat.not_lt_zero i)) (by omega)
          refine wx_cro c4 s32 (pk_eq (dg_cro c s) 0 (fun z => pk_eq c 0 (fun c0 => yes ⟨z, Or.inl c0⟩) (fun c0 => xr_count hB c4 c0 s32 (pk_lt (dg_cn (dg_b a_board) c s 32 0) 12 (fun l => yes ⟨z, Or.inr (by omega)⟩) (fun l => no ?_)))) (fun z => no fun y => z y.1) (ha := by unfold dg_cro; split <;> omega))
          rintro ⟨_, y | y⟩
          · exact c0 y
          · omega
        · rw [if_neg (fun z => by have := z.2.2.2.1; omega)] at hp
          exact hp _ _ h'
/-! reading -/
theorem ex_count {lim sv : Int32} {G : eg_G} {u : St2} {post : Int32 → Prop} (h : eg_R lim G sv u) (hp : post (nI (eg_M lim G.1))) : wpX_moveCount post u := by
  obtain ⟨a_neighbours, a_board, a_sides, a_counters, a_mc, a_moveLengths, a_moveSquares, a_path, a_jumped, a_nextDirection, a_wentOn, a_nextMove, a_bestMove, a_bestValue, a_log, rfl, hN, hB, hS, hat, hl, hn⟩ := h
  have e := re_mt0 (lim := lim) (sd0 := a_sides 0) (dc0 := a_counters 0) (mc := a_mc)
  have es : dg_st lim (a_sides 0) (a_counters 0) (a_mc 0) = eg_st lim G.1 := eg_st_at hat
  have em : a_mc 0 = nI (pp_ls G.1).length := hat.2.2.2.2.1
  have e2 : (if dg_st lim (a_sides 0) (a_counters 0) (a_mc 0) = 0 then a_mc 0 else 0) = nI (eg_M lim G.1) := by
    rw [es]
    unfold eg_M
    split
    · exact em
    · rfl
  unfold wpX_moveCount
  rw [e2] at e
  rw [← e] at hp
  exact hp
theorem ex_sidem {lim sv : Int32} {G : eg_G} {u : St2} {post : Int32 → Prop} (h : eg_R lim G sv u) (hp : post G.1.2.1) : wpX_sideToMove post u := by
  obtain ⟨a_neighbours, a_board, a_sides, a_counters, a_mc, a_moveLengths, a_moveSquares, a_path, a_jumped, a_nextDirection, a_wentOn, a_nextMove, a_bestMove, a_bestValue, a_log, rfl, hN, hB, hS, hat, hl, hn⟩ := h
  have e : a_sides 0 = G.1.2.1 := hat.2.1
  rw [← e] at hp
  exact hp
theorem ex_status {lim sv : Int32} {G : eg_G} {u : St2} {post : Int32 → Prop} (h : eg_R lim G sv u) (hp : post (eg_st lim G.1)) : wpX_status post u := by
  obtain ⟨a_neighbours, a_board, a_sides, a_counters, a_mc, a_moveLengths, a_moveSquares, a_path, a_jumped, a_nextDirection, a_wentOn, a_nextMove, a_bestMove, a_bestValue, a_log, rfl, hN, hB, hS, hat, hl, hn⟩ := h
  have es : dg_st lim (a_sides 0) (a_counters 0) (a_mc 0) = eg_st lim G.1 := eg_st_at hat
  rw [← es] at hp
  exact hp
theorem ex_draw {lim sv : Int32} {G : eg_G} {u : St2} {post : Int32 → Prop} (h : eg_R lim G sv u) (hp : post G.1.2.2) : wpX_drawCounter post u := by
  obtain ⟨a_neighbours, a_board, a_sides, a_counters, a_mc, a_moveLengths, a_moveSquares, a_path, a_jumped, a_nextDirection, a_wentOn, a_nextMove, a_bestMove, a_bestValue, a_log, rfl, hN, hB, hS, hat, hl, hn⟩ := h
  have e : a_counters 0 = G.1.2.2 := hat.2.2.1
  rw [← e] at hp
  exact hp
theorem ex_last {lim sv : Int32} {G : eg_G} {u : St2} {post : Int32 → Prop} (h : eg_R lim G sv u) (hp : post sv) : wpX_lastValue post u := by
  obtain ⟨a_neighbours, a_board, a_sides, a_counters, a_mc, a_moveLengths, a_moveSquares, a_path, a_jumped, a_nextDirection, a_wentOn, a_nextMove, a_bestMove, a_bestValue, a_log, rfl, hN, hB, hS, hat, hl, hn⟩ := h
  exact hp
theorem ex_logn {lim sv : Int32} {G : eg_G} {u : St2} {post : Int32 → Prop} (h : eg_R lim G sv u) (hp : post (nI G.2.2)) : wpX_logLength post u := by
  obtain ⟨a_neighbours, a_board, a_sides, a_counters, a_mc, a_moveLengths, a_moveSquares, a_path, a_jumped, a_nextDirection, a_wentOn, a_nextMove, a_bestMove, a_bestValue, a_log, rfl, hN, hB, hS, hat, hl, hn⟩ := h
  exact hp
theorem ex_piece {lim sv : Int32} {G : eg_G} {u : St2} {post : Int32 → Prop} {s : Nat} (hs : s < 32) (h : eg_R lim G sv u) (hp : post (nI (G.1.1 s))) : wpX_pieceAt post u (nI s) := by
  obtain ⟨a_neighbours, a_board, a_sides, a_counters, a_mc, a_moveLengths, a_moveSquares, a_path, a_jumped, a_nextDirection, a_wentOn, a_nextMove, a_bestMove, a_bestValue, a_log, rfl, hN, hB, hS, hat, hl, hn⟩ := h
  unfold wpX_pieceAt
  have e : a_board s = nI (G.1.1 s) := by
    have h1 := hat.1 s hs
    have h2 := (dg_B_b hB (i := s) (by omega)).1
    unfold dg_bl at h1
    rw [show 0 * 32 + s = s by omega] at h1
    rw [h2]
    exact congrArg nI h1
  refine br_f (nI_pos (by omega)) (br_f (nI_ge (b := 32) hs (by omega)) (br_f (by decide) ⟨vp_in_nI (by omega) (by omega), ?_⟩))
  rw [nI_clamp (by omega), e]
  exact hp
theorem eg_code {lim sv : Int32} {G : eg_G} {u : St2} (h : eg_R lim G sv u) {s : Nat} (hs : s < 32) : G.1.1 s ≤ 4 := by
  obtain ⟨a_neighbours, a_board, a_sides, a_counters, a_mc, a_moveLengths, a_moveSquares, a_path, a_jumped, a_nextDirection, a_wentOn, a_nextMove, a_bestMove, a_bestValue, a_log, rfl, hN, hB, hS, hat, hl, hn⟩ := h
  have h1 := hat.1 s hs
  have h2 := (dg_B_b hB (i := 0 * 32 + s) (by omega)).2
  rw [← h1]
  exact h2
theorem eg_sd {lim sv : Int32} {G : eg_G} {u : St2} (h : eg_R lim G sv u) : G.1.2.1 = 0 ∨ G.1.2.1 = 1 := by
  obtain ⟨a_neighbours, a_board, a_sides, a_counters, a_mc, a_moveLengths, a_moveSquares, a_path, a_jumped, a_nextDirection, a_wentOn, a_nextMove, a_bestMove, a_bestValue, a_log, rfl, hN, hB, hS, hat, hl, hn⟩ := h
  have e : a_sides 0 = G.1.2.1 := hat.2.1
  rw [← e]
  exact hS 0 (by omega)
end
section
/-! playing, searching, the list and the log -/
def eg_en (P : pp_Pos) (e : Nat × (Nat → Nat)) : Int32 := nI (e.2 0 + 32 * e.2 (e.1 - 1) + 1024 * dg_C2 e.2 e.1 + 16384 * dg_cro (P.1 (e.2 0)) (e.2 (e.1 - 1)))
noncomputable def eg_pl (i : Nat) (G : eg_G) : eg_G := (pp_ap G.1 (pp_mv G.1 i), dg_al G.2.1 G.2.2 (eg_en G.1 (pp_mv G.1 i)), dg_an G.2.2)
noncomputable def eg_play (lim v : Int32) (G : eg_G) : eg_G := @ite _ (¬ v < 0 ∧ v.toNatClampNeg < eg_M lim G.1) (Classical.propDecidable _) (eg_pl v.toNatClampNeg G) G
theorem eg_sh (log : Nat → Int32) : ∀ m i, dg_sh log m i = if i < m then log (i + 1) else log i := by
  intro m
  induction m with
  | zero => intro i; rfl
  | succ m ih =>
    intro i
    show upd (dg_sh log m) m (dg_sh log m (m + 1)) i = _
    by_cases e : i = m
    · subst e
      rw [pk_us, ih, if_neg (by omega), if_pos (by omega)]
    · rw [pk_un e, ih]
      by_cases h : i < m
      · rw [if_pos h, if_pos (by omega)]
      · rw [if_neg h, if_neg (by omega)]
theorem eg_al {log lg : Nat → Int32} {n : Nat} {e : Int32} (hn : n ≤ 64) (h : ∀ i, i < n → log i = lg i) : ∀ i, i < dg_an n → dg_al log n e i = dg_al lg n e i := by
  intro i hi
  unfold dg_an at hi
  unfold dg_al
  by_cases z : n = 64
  · rw [if_pos z] at hi
    rw [if_pos z, if_pos z]
    by_cases e : i = 63
    · rw [e, pk_us, pk_us]
    · rw [pk_un e, pk_un e, eg_sh, eg_sh, if_pos (by omega), if_pos (by omega)]
      exact h _ (by omega)
  · rw [if_neg z] at hi
    rw [if_neg z, if_neg z]
    by_cases e : i = n
    · rw [e, pk_us, pk_us]
    · rw [pk_un e, pk_un e]; exact h i (by omega)
theorem ex_play {lim sv v : Int32} {G : eg_G} {u : St2} {post : Int32 → St2 → Prop} (h : eg_R lim G sv u) (hp : ∀ r u', eg_R lim (eg_play lim v G) sv u' → post r u') : wpX_play post u v := by
  have h' := h
  obtain ⟨a_neighbours, a_board, a_sides, a_counters, a_mc, a_moveLengths, a_moveSquares, a_path, a_jumped, a_nextDirection, a_wentOn, a_nextMove, a_bestMove, a_bestValue, a_log, rfl, hN, hB, hS, hat, hl, hn⟩ := h
  have es : dg_st lim (a_sides 0) (a_counters 0) (a_mc 0) = eg_st lim G.1 := eg_st_at hat
  have em : a_mc 0 = nI (pp_ls G.1).length := hat.2.2.2.2.1
  have h48 : (pp_ls G.1).length ≤ 48 := hat.2.2.2.1
  unfold eg_play at hp
  by_cases hst : eg_st lim G.1 = 0
  · have eM : eg_M lim G.1 = (pp_ls G.1).length := if_pos hst
    rw [eM] at hp
    refine br_t (es.trans hst) ?_
    rcases re_ix v with h1 | ⟨j, hj, rfl⟩
    · rw [if_neg (fun z => z.1 h1)] at hp
      exact br_t h1 (br_t rfl (hp _ _ h'))
    · rw [nI_clamp hj] at hp
      refine br_f (nI_pos hj) ?_
      have e0 : (if dg_st lim (a_sides 0) (a_counters 0) (a_mc 0) = 3 then upd a_mc 0 0 else a_mc) 0 = nI (pp_ls G.1).length := by rw [re_mt0, es, hst, if_pos rfl, em]
      rw [e0]
      refine pk_le (pp_ls G.1).length j (fun big => br_t rfl ?_) (fun lt => br_f (by decide) ?_)
      · rw [if_neg (fun z => by have := z.2; omega)] at hp
        exact hp _ _ h'
      · rw [if_pos ⟨nI_pos hj, lt⟩] at hp
        have hL := pv_L hat.2.2.2 (pp_E G.1)
        have hMj : dg_M a_moveLengths a_moveSquares (0 * 48 + j) := (dg_L_M hL (by
          show j < (a_mc 0).toNatClampNeg
          rw [em, nI_clamp (by omega)]; exact lt)).2
        have hmc := dg_M_c hMj
        obtain ⟨c1, c2⟩ := pp_cells hat lt
        have hE := (pp_mv_E lt).1
        have hq0 : dg_q a_moveSquares (0 * 48 + j) 0 < 32 := (hmc.2.2.2.1 0 (by omega)).1
        have hc := pb_ap_congr (b := dg_bl a_board 0) (b' := G.1.1) (q := dg_q a_moveSquares (0 * 48 + j)) (q' := (pp_mv G.1 j).2) (L := (pp_mv G.1 j).1) hat.1 hE.1 c2 hq0
        have hnx := pp_next (t := 0) hB (by omega) hat lt
        have hB1 := dg_ab_B (s := 0) (t := 0) (L := dg_l a_moveLengths (0 * 48 + j)) (q := dg_q a_moveSquares (0 * 48 + j)) hB (by omega) hq0
        have hS1 := dg_as_S (s := 0) (t := 0) hS
        have hn1 : dg_an G.2.2 ≤ 64 := by unfold dg_an; split <;> omega
        have een : dg_en a_board 0 (dg_l a_moveLengths (0 * 48 + j)) (dg_q a_moveSquares (0 * 48 + j)) = eg_en G.1 (pp_mv G.1 j) := by
          unfold dg_en eg_en
          have k0 := c2 0 (by have := hE.1; omega)
          have kL := c2 ((pp_mv G.1 j).1 - 1) (by have := hE.1; omega)
          have c1' : dg_l a_moveLengths (0 * 48 + j) = (pp_mv G.1 j).1 := c1
          have kb : dg_b a_board (0 * 32 + dg_q a_moveSquares (0 * 48 + j) 0) = G.1.1 ((pp_mv G.1 j).2 0) := hc.2.2
          have k0' : dg_q a_moveSquares (0 * 48 + j) 0 = (pp_mv G.1 j).2 0 := k0
          have kL' : dg_q a_moveSquares (0 * 48 + j) ((pp_mv G.1 j).1 - 1) = (pp_mv G.1 j).2 ((pp_mv G.1 j).1 - 1) := kL
          rw [c1', kb, hc.2.1, kL', k0']
        refine xa_desc hB (by omega) hMj (xa_apply (s := 0) (t := 0) hB (by omega) (by omega) (by omega) hMj (xr_log hn (xr_refresh hN hB1 hS1 rfl fun p' jx' nd' wo' => hp _ _ ?_)))
        rw [een]
        exact eg_mk (P := pp_ap G.1 (pp_mv G.1 j)) hN hB1 hS1 hnx.1 hnx.2.1 hnx.2.2.1 ⟨_, _, _, rfl⟩ (eg_al hn hl) hn1
  · have eM : eg_M lim G.1 = 0 := if_neg hst
    rw [eM, if_neg (fun z => by have := z.2; omega)] at hp
    exact br_f (fun z => hst (es.symm.trans z)) (hp _ _ h')
theorem ex_search {lim sv d : Int32} {G : eg_G} {u : St2} {post : Int32 → St2 → Prop} {pl : Nat} (h : eg_R lim G sv u) (hp1 : 1 ≤ pl) (hp3 : pl ≤ 3) (hd : ∀ post : Int32 → Prop, post (nI pl) → wpX_clamp post () d 1 3)
    (hno : ¬ eg_st lim G.1 = 0 → post (-1) u)
    (hyes : eg_st lim G.1 = 0 → ∀ u', eg_R lim G (dg_i (pp_f (pp_ch lim pl 0 G.1) (pp_ls G.1).length)) u' → post (nI (pp_a (pp_ch lim pl 0 G.1) (pp_ls G.1).length)) u') : wpX_search post u d := by
  obtain ⟨a_neighbours, a_board, a_sides, a_counters, a_mc, a_moveLengths, a_moveSquares, a_path, a_jumped, a_nextDirection, a_wentOn, a_nextMove, a_bestMove, a_bestValue, a_log, rfl, hN, hB, hS, hat, hl, hn⟩ := h
  have es : dg_st lim (a_sides 0) (a_counters 0) (a_mc 0) = eg_st lim G.1 := eg_st_at hat
  by_cases hst : eg_st lim G.1 = 0
  · have hst0 : dg_st lim (a_sides 0) (a_counters 0) (a_mc 0) = 0 := es.trans hst
    have hmt : (if dg_st lim (a_sides 0) (a_counters 0) (a_mc 0) = 3 then upd a_mc 0 0 else a_mc) = a_mc := by rw [hst0]; exact if_neg (by decide)
    rw [hmt]
    have hL := pv_L hat.2.2.2 (pp_E G.1)
    have hm := dg_L_m (S := (a_board, a_sides, a_counters, a_mc, a_moveLengths, a_moveSquares)) (l := 0) hL
    have hmc0 := (dg_st_0 hst0).1
    have hM1 : 1 ≤ dg_m (a_board, a_sides, a_counters, a_mc, a_moveLengths, a_moveSquares) 0 := by
      apply Classical.byContradiction
      intro z
      have e : dg_m (a_board, a_sides, a_counters, a_mc, a_moveLengths, a_moveSquares) 0 = 0 := by omega
      have := hm.2
      rw [e] at this
      exact hmc0 this
    have hH : dg_H 0 (a_board, a_sides, a_counters, a_mc, a_moveLengths, a_moveSquares) (fun _ => 0) (fun _ => -20000) := by
      refine ⟨⟨hB, hS, fun l hl => ?_⟩, fun i hi => absurd hi (Nat.not_lt_zero i), fun i hi => ?_⟩
      · obtain rfl : l = 0 := by omega
        exact hL
      · obtain rfl : i = 0 := by omega
        exact ⟨hM1, Nat.zero_le _, Or.inl ⟨rfl, rfl⟩⟩
    have hPH : pp_H lim pl 0 (a_board, a_sides, a_counters, a_mc, a_moveLengths, a_moveSquares) (fun _ => 0) (fun _ => -20000) 0 (fun _ => G.1) := by
      refine ⟨fun i hi => ?_, fun i hi => absurd hi (Nat.not_lt_zero i), fun i hi => rfl, rfl⟩
      obtain rfl : i = 0 := by omega
      exact hat
    have hpt : dg_pt (dg_m (a_board, a_sides, a_counters, a_mc, a_moveLengths, a_moveSquares)) (fun _ => 0) (0 + 1) ≤ 225889 := dg_pt_0 hm.1
    have hinv := dg_se_inv (lim := lim) hp3 225889 0 (a_board, a_sides, a_counters, a_mc, a_moveLengths, a_moveSquares) (fun _ => 0) (fun _ => -20000) 0 hH (by omega)
    have hval := pp_se (lim := lim) hp3 225889 0 (a_board, a_sides, a_counters, a_mc, a_moveLengths, a_moveSquares) (fun _ => 0) (fun _ => -20000) 0 (fun _ => G.1) hH (by omega) hPH hpt
    obtain ⟨S', v', g', eS⟩ : ∃ S' v' g', dg_se lim pl 225889 (0 + 1) (a_board, a_sides, a_counters, a_mc, a_moveLengths, a_moveSquares) (fun _ => 0) (fun _ => -20000) 0 = (S', v', g') := ⟨_, _, _, rfl⟩
    rw [eS] at hinv hval
    obtain ⟨hv1, hat'⟩ := hval
    have hv2 : v' = pp_f (pp_ch lim pl 0 G.1) (pp_ls G.1).length := congrArg Prod.fst hv1
    have hg2 : g' = pp_a (pp_ch lim pl 0 G.1) (pp_ls G.1).length := congrArg Prod.snd hv1
    refine br_t hst0 (hd _ ?_)
    unfold wpX_walkTree
    refine xs_open (l := 0) (by omega) ⟨300000, ?_⟩
    refine xs_walk hN hp3 225889 0 (a_board, a_sides, a_counters, a_mc, a_moveLengths, a_moveSquares) (fun _ => 0) (fun _ => -20000) 0 _ _ _ _ _ _ _ 0 300000 hH (by omega) ⟨fun i hi => ?_, fun z => absurd z (Nat.not_succ_le_zero 0)⟩ hpt (by omega) (by omega) ?_
    · obtain rfl : i = 0 := by omega
      exact ⟨pk_us, pk_us⟩
    · intro S1 w1 g1 nm' bm' bv' p' jx' nd' wo' e1 hbv hbm
      cases e1.symm.trans eS
      refine nm_r hbv ?_
      rw [hbm, hg2, hv2]
      refine hyes hst _ ⟨a_neighbours, S'.1, S'.2.1, S'.2.2.1, S'.2.2.2.1, S'.2.2.2.2.1, S'.2.2.2.2.2, p', jx', nd', wo', nm', bm', bv', a_log, ?_, hN, hinv.1.1, hinv.1.2.1, hat', hl, hn⟩
      have es' : dg_st lim (S'.2.1 0) (S'.2.2.1 0) (S'.2.2.2.1 0) = eg_st lim G.1 := eg_st_at hat'
      rw [es', es, hst, if_neg (by decide)]
  · exact br_f (fun z => hst (es.symm.trans z)) (hno hst)
theorem ex_len {lim sv : Int32} {G : eg_G} {u : St2} {post : Int32 → Prop} {i : Nat} (h : eg_R lim G sv u) (hi : i < eg_M lim G.1) (hp : post (nI (pp_mv G.1 i).1)) : wpX_moveLength post u (nI i) := by
  have h48 := eg_M_le lim G.1
  obtain ⟨a_neighbours, a_board, a_sides, a_counters, a_mc, a_moveLengths, a_moveSquares, a_path, a_jumped, a_nextDirection, a_wentOn, a_nextMove, a_bestMove, a_bestValue, a_log, rfl, hN, hB, hS, hat, hl, hn⟩ := h
  have es : dg_st lim (a_sides 0) (a_counters 0) (a_mc 0) = eg_st lim G.1 := eg_st_at hat
  have em : a_mc 0 = nI (pp_ls G.1).length := hat.2.2.2.2.1
  have hst : eg_st lim G.1 = 0 := by
    apply Classical.byContradiction
    intro z
    have : eg_M lim G.1 = 0 := if_neg z
    omega
  have eM : eg_M lim G.1 = (pp_ls G.1).length := if_pos hst
  rw [eM] at hi h48
  have g := hat.2.2.2.2.2 i _ (pp_mv_some hi)
  have g1 : a_moveLengths i = nI (pp_mv G.1 i).1 := by
    have := g.1
    rw [show 0 * 48 + i = i by omega] at this
    exact this
  unfold wpX_moveLength
  refine br_f (nI_pos (by omega)) ?_
  rw [re_mt0, es, hst, if_pos rfl, em]
  refine br_f (nI_ge hi (by omega)) (br_f (by decide) ⟨vp_in_nI (by omega) (by omega), ?_⟩)
  rw [nI_clamp (by omega), g1]
  exact hp
noncomputable def eg_sq (P : pp_Pos) (i : Nat) (k : Int32) : Int32 := @ite _ (¬ k < 0 ∧ k.toNatClampNeg < (pp_mv P i).1) (Classical.propDecidable _) (nI ((pp_mv P i).2 k.toNatClampNeg)) (-1)
theorem ex_sq {lim sv : Int32} {G : eg_G} {u : St2} {post : Int32 → Prop} {i : Nat} {k : Int32} (h : eg_R lim G sv u) (hi : i < eg_M lim G.1) (hp : post (eg_sq G.1 i k)) : wpX_moveSquare post u (nI i) k := by
  have h48 := eg_M_le lim G.1
  obtain ⟨a_neighbours, a_board, a_sides, a_counters, a_mc, a_moveLengths, a_moveSquares, a_path, a_jumped, a_nextDirection, a_wentOn, a_nextMove, a_bestMove, a_bestValue, a_log, rfl, hN, hB, hS, hat, hl, hn⟩ := h
  have es : dg_st lim (a_sides 0) (a_counters 0) (a_mc 0) = eg_st lim G.1 := eg_st_at hat
  have em : a_mc 0 = nI (pp_ls G.1).length := hat.2.2.2.2.1
  have hst : eg_st lim G.1 = 0 := by
    apply Classical.byContradiction
    intro z
    have : eg_M lim G.1 = 0 := if_neg z
    omega
  have eM : eg_M lim G.1 = (pp_ls G.1).length := if_pos hst
  rw [eM] at hi h48
  have g := hat.2.2.2.2.2 i _ (pp_mv_some hi)
  rw [show 0 * 48 + i = i by omega] at g
  have hE := (pp_mv_E hi).1
  have h13 := hE.2.1
  have g1 : a_moveLengths i = nI (pp_mv G.1 i).1 := g.1
  unfold eg_sq at hp
  unfold wpX_moveSquare
  refine br_f (nI_pos (by omega)) ?_
  rw [re_mt0, es, hst, if_pos rfl, em]
  refine br_f (nI_ge hi (by omega)) (br_f (by decide) ?_)
  rcases re_ix k with h1 | ⟨q, hq, rfl⟩
  · rw [if_neg (fun z => z.1 h1)] at hp
    exact br_t h1 hp
  · rw [nI_clamp hq] at hp
    refine br_f (nI_pos hq) ⟨vp_in_nI (by omega) (by omega), ?_⟩
    rw [nI_clamp (n := i) (by omega), g1]
    have e1 : nI i * 13 + nI q = nI (i * 13 + q) := by rw [show (13 : Int32) = nI 13 from rfl, pk_mul, nI_add]
    refine pk_lt q (pp_mv G.1 i).1 (fun l => ?_) (fun l => ?_)
    · rw [if_pos ⟨nI_pos hq, l⟩] at hp
      rw [e1]
      refine ⟨vp_in_nI (by omega) (by omega), ?_⟩
      have g2 : a_moveSquares (i * 13 + q) = nI ((pp_mv G.1 i).2 q) := g.2 q l
      rw [nI_clamp (by omega), g2]
      exact hp
    · rw [if_neg (fun z => by have := z.2; omega)] at hp
      exact hp
theorem ex_loge {lim sv : Int32} {G : eg_G} {u : St2} {post : Int32 → Prop} {i : Nat} (hi : i < 64) (h : eg_R lim G sv u) (hp : post (if i < G.2.2 then G.2.1 i else -1)) : wpX_logEntry post u (nI i) := by
  obtain ⟨a_neighbours, a_board, a_sides, a_counters, a_mc, a_moveLengths, a_moveSquares, a_path, a_jumped, a_nextDirection, a_wentOn, a_nextMove, a_bestMove, a_bestValue, a_log, rfl, hN, hB, hS, hat, hl, hn⟩ := h
  refine br_f (nI_pos (by omega)) (pk_le G.2.2 i (fun a => ?_) (fun a => ⟨vp_in_nI (by omega) (by omega), ?_⟩))
  · rw [if_neg (by omega)] at hp; exact hp
  · rw [if_pos a] at hp
    rw [nI_clamp (by omega), hl i a]
    exact hp
end
section
/-! the law's own small methods -/
theorem ll_own {post : Int32 → Prop} {c : Nat} {sd : Int32} (hc : c ≤ 4) (hs : sd = 0 ∨ sd = 1) (h1 : dg_own c sd → post 1) (h0 : ¬ dg_own c sd → post 0) : wpL_own post () (nI c) sd := by
  have n01 : ¬ (0 : Int32) = 1 := by decide
  have n10 : ¬ (1 : Int32) = 0 := by decide
  have hh : dg_own c sd ↔ ((sd = 0 ∧ (c = 1 ∨ c = 2)) ∨ (sd = 1 ∧ (c = 3 ∨ c = 4))) := by
    unfold dg_own
    constructor
    · rintro (⟨a, b, e⟩ | ⟨a, e⟩)
      · exact Or.inl ⟨e, by omega⟩
      · exact Or.inr ⟨e, by omega⟩
    · rintro (⟨e, a⟩ | ⟨e, a⟩)
      · exact Or.inl ⟨by omega, by omega, e⟩
      · exact Or.inr ⟨by omega, e⟩
  rw [hh] at h1 h0
  rcases hs with rfl | rfl
  · refine br_t rfl (pk_eq c 1 (fun e => h1 (Or.inl ⟨rfl, Or.inl e⟩)) (fun e => pk_eq c 2 (fun e2 => h1 (Or.inl ⟨rfl, Or.inr e2⟩)) (fun e2 => h0 ?_)))
    rintro (⟨_, a⟩ | ⟨a, _⟩)
    · omega
    · exact n01 a
  · refine br_f n10 (pk_eq c 3 (fun e => h1 (Or.inr ⟨rfl, Or.inl e⟩)) (fun e => pk_eq c 4 (fun e2 => h1 (Or.inr ⟨rfl, Or.inr e2⟩)) (fun e2 => h0 ?_)))
    rintro (⟨a, _⟩ | ⟨_, a⟩)
    · exact n10 a
    · omega
def ll_kg (c : Nat) : Int32 := if c = 2 ∨ c = 4 then 1 else 0
theorem ll_king {post : Int32 → Prop} {c : Nat} (hc : c ≤ 4) (h : post (ll_kg c)) : wpL_king post () (nI c) := by
  unfold ll_kg at h
  refine pk_eq c 2 (fun e => ?_) (fun e => pk_eq c 4 (fun e2 => ?_) (fun e2 => ?_))
  · rw [if_pos (Or.inl e)] at h; exact h
  · rw [if_pos (Or.inr e2)] at h; exact h
  · rw [if_neg (by omega)] at h; exact h
def ll_dr (d : Nat) : Int32 := if d < 2 then 1 else -1
def ll_dc (d : Nat) : Int32 := if d % 2 = 0 then 1 else -1
theorem ll_dR {post : Int32 → Prop} {d : Nat} (hd : d < 4) (h : post (ll_dr d)) : wpL_dR post () (nI d) := by
  unfold ll_dr at h
  refine pk_le 2 d (fun e => ?_) (fun e => ?_)
  · rw [if_neg (by omega)] at h; exact h
  · rw [if_pos e] at h; exact h
theorem ll_and1 : ∀ d, d < 4 → ((nI d &&& 1) = 0 ↔ d % 2 = 0) := by decide +kernel
theorem ll_dC {post : Int32 → Prop} {d : Nat} (hd : d < 4) (h : post (ll_dc d)) : wpL_dC post () (nI d) := by
  unfold ll_dc at h
  refine br_c (fun a => ?_) (fun a => ?_)
  · rw [if_pos ((ll_and1 d hd).mp a)] at h; exact h
  · rw [if_neg (fun z => a ((ll_and1 d hd).mpr z))] at h; exact h
def ll_f32 (x1 x2 x3 z0 z1 : Int32) : Int32 := if x3 + x1 < 0 then -1 else if 7 < x3 + x1 then -1 else if z1 + z0 + x2 < 0 then -1 else if z1 + z0 + x2 ≤ 7 then (x3 + x1) * 4 + (z1 + z0 + x2) / 2 else -1
def ll_nbE (s r c : Int32) : Int32 := ll_f32 r c (s >>> ((2 : Int32) &&& 31)) (if ((s >>> ((2 : Int32) &&& 31)) &&& 1) = 0 then 1 else 0) (2 * (s &&& 3))
theorem ll_nbE_T : ∀ s, s < 32 → ∀ d, d < 4 → ll_nbE (nI s) (ll_dr d) (ll_dc d) = dg_enc (dg_T s (3 - d)) := by decide +kernel
theorem ll_32 {post : Int32 → Prop} {x1 x2 x3 z0 z1 : Int32} (h : post (ll_f32 x1 x2 x3 z0 z1)) : wL_nb_32 post x1 x2 x3 z0 z1 := by
  unfold ll_f32 at h
  refine nm_e (nm_e (nm_e (br_c (fun a => ?_) (fun a => br_c (fun b => ?_) (fun b => br_c (fun d => ?_) (fun d => br_c (fun e => ⟨yn_h2, ?_⟩) (fun e => ?_)))))))
  · rw [if_pos a] at h; exact h
  · rw [if_neg a, if_pos b] at h; exact h
  · rw [if_neg a, if_neg b, if_pos d] at h; exact h
  · rw [if_neg a, if_neg b, if_neg d, if_pos e] at h; exact h
  · rw [if_neg a, if_neg b, if_neg d, if_neg e] at h; exact h
theorem ll_nb {post : Int32 → Prop} {s d : Nat} (hs : s < 32) (hd : d < 4) (h : post (dg_enc (dg_T s (3 - d)))) : wpL_nb post () (nI s) (ll_dr d) (ll_dc d) := by
  rw [← ll_nbE_T s hs d hd] at h
  unfold ll_nbE at h
  refine br_f (nI_pos (by omega)) (br_t (nI_le (b := 31) (by omega) (by omega)) (nm_e (br_c (fun a => ll_32 ?_) (fun a => ll_32 ?_))))
  · rw [if_pos a] at h; exact h
  · rw [if_neg a] at h; exact h
theorem ll_nbm {post : Int32 → Prop} {r c : Int32} (h : post (-1)) : wpL_nb post () (-1) r c := br_t (by decide) h
/-- the square behind the neighbour, or none -/
def ll_T2 (s d : Nat) : Nat := if dg_T s d < 32 then dg_T (dg_T s d) d else 32
theorem ll_nb2 {post : Int32 → Prop} {s d : Nat} (hs : s < 32) (hd : d < 4) (h : post (dg_enc (ll_T2 s (3 - d)))) : wpL_nb post () (dg_enc (dg_T s (3 - d))) (ll_dr d) (ll_dc d) := by
  unfold ll_T2 at h
  by_cases hT : dg_T s (3 - d) < 32
  · rw [if_pos hT] at h
    rw [dg_enc_lt hT]
    exact ll_nb hT hd h
  · rw [if_neg hT] at h
    rw [dg_enc_ge hT]
    exact ll_nbm h
theorem dg_mid_T : ∀ s, s < 32 → ∀ d, d < 4 → dg_T s d < 32 → dg_T (dg_T s d) d < 32 → dg_T s d = dg_mid s (dg_T (dg_T s d) d) := by decide +kernel
/-- the square between two squares that a jump joins -/
theorem ll_mid {post : Int32 → Prop} {a z : Nat} (ha : a < 32) (hz : z < 32) (hj : ∃ d, d < 4 ∧ dg_T a d < 32 ∧ dg_T (dg_T a d) d = z) (h : post (nI (dg_mid a z))) : wpL_mid post () (nI a) (nI z) := by
  have loop : ∀ m d n, d + m = 4 → m < n → (∃ e, d ≤ e ∧ e < 4 ∧ dg_T a (3 - e) < 32 ∧ dg_T (dg_T a (3 - e)) (3 - e) = z) → wL_mid_12 post (nI a) (nI z) n (nI d) := by
    intro m
    induction m with
    | zero =>
      rintro d n hd hn ⟨e, h1, h2, _⟩
      omega
    | succ m ih =>
      rintro d n hd hn ⟨e, h1, h2, h3, h4⟩
      obtain ⟨n, rfl⟩ : ∃ g, n = g + 1 := ⟨n - 1, by omega⟩
      refine br_f (nI_ge (b := 4) (by omega) (by omega)) (ll_dR (by omega) (ll_dC (by omega) (ll_nb ha (by omega) ?_)))
      have nxt : ¬ (dg_T a (3 - d) < 32 ∧ dg_T (dg_T a (3 - d)) (3 - d) = z) → ∀ y, y = nI d + 1 → wL_mid_12 post (nI a) (nI z) n y := by
        intro hno
        refine nm_r (nI_1 d) (ih (d + 1) n (by omega) (by omega) ⟨e, ?_, h2, h3, h4⟩)
        by_cases hed : e = d
        · subst hed; exact absurd ⟨h3, h4⟩ hno
        · omega
      by_cases hT : dg_T a (3 - d) < 32
      · rw [dg_enc_lt hT]
        refine br_f (dg_enc_n _ hT).2 (ll_dR (by omega) (ll_dC (by omega) (ll_nb hT (by omega) ?_)))
        by_cases hL : dg_T (dg_T a (3 - d)) (3 - d) < 32
        · rw [dg_enc_lt hL]
          refine pk_eq (dg_T (dg_T a (3 - d)) (3 - d)) z (fun e' => ?_) (fun e' => nxt fun y => e' y.2)
          have hm := dg_mid_T a ha (3 - d) (by omega) hT hL
          rw [e'] at hm
          rw [hm]
          exact h
        · rw [dg_enc_ge hL]
          exact br_f (fun y => (dg_enc_n z hz).1 y.symm) (nxt fun y => hL (by rw [y.2]; exact hz))
      · rw [dg_enc_ge hT]
        exact br_t (by decide) (nxt fun y => hT y.1)
  obtain ⟨d, h1, h2, h3⟩ := hj
  refine br_f (nI_pos (by omega)) (br_t (nI_pos' (by omega)) ⟨5, loop 4 0 5 (by omega) (by omega) ⟨3 - d, by omega, by omega, ?_⟩⟩)
  rw [show 3 - (3 - d) = d by omega]
  exact ⟨h2, h3⟩
def ll_cr (sd : Int32) (s : Nat) : Int32 := if sd = 0 then (if 28 ≤ s then 1 else 0) else (if s < 4 then 1 else 0)
theorem ll_crown {post : Int32 → Prop} {sd : Int32} {s : Nat} (hs : s < 32) (h : post (ll_cr sd s)) : wpL_crown post () sd (nI s) := by
  unfold ll_cr at h
  refine br_c (fun a => pk_lt s 28 (fun b => ?_) (fun b => ?_)) (fun a => br_f (nI_pos (by omega)) (pk_lt 3 s (fun b => ?_) (fun b => ?_)))
  · rw [if_pos a, if_neg (by omega)] at h; exact h
  · rw [if_pos a, if_pos b] at h; exact h
  · rw [if_neg a, if_neg (by omega)] at h; exact h
  · rw [if_neg a, if_pos (by omega)] at h; exact h
/-! the engine as it is made -/
theorem ex_init {post : St2 → Prop} {raw lim : Int32} {mc ms : Nat} (hmc : 15 ≤ mc) (hms : 3084 ≤ ms) (hlim : ∀ post : Int32 → Prop, post lim → wpX_clamp post () raw 4 80) (hp : ∀ u', eg_R lim ((eg_B0 0, 0, 0), (fun _ => 0), 0) 0 u' → post u') : wpX_init post mc ms (0, 0, 0, 0) raw := by
  have hB0 : dg_B (fun _ => 0) := fun i _ => ⟨0, by omega, rfl⟩
  have hS0 : dg_S (upd (fun _ => 0) 0 0) := dg_S_upd (fun i _ => Or.inl rfl) 0 0 (Or.inl rfl)
  have hB1 := dg_su_B hB0 0 32
  unfold wpX_init
  refine ⟨by omega, by omega, by omega, by omega, by omega, by omega, by omega, by omega, by omega, by omega, by omega, by omega, by omega, by omega, by omega, by omega, by omega, by omega, by omega, by omega, by omega, by omega, by omega, by omega, by omega, by omega, by omega, by omega, by omega, by omega, hlim _ ?_⟩
  refine xn_fill fun nb' hN => xr_setup (nm_e (xr_refresh hN hB1 hS0 rfl fun p' jx' nd' wo' => hp _ ?_))
  exact eg_mk (P := (eg_B0 0, 0, 0)) (n := 0) hN hB1 hS0 eg_su_b rfl rfl ⟨_, _, _, rfl⟩ (fun i hi => absurd hi (Nat.not_lt_zero i)) (by omega)
end
section
/-! the law compares the two engines, then the move -/
theorem la_la (t : Nat) : dg_la t + 1 = dg_la (t + 1) := by
  cases t with
  | zero => rfl
  | succ k => exact nI_1 k
def la_fw (sd : Int32) : Int32 := if sd = 0 then 1 else -1
theorem la_ok1 : ∀ d, d < 4 → ((¬ ll_kg 1 = 0 ∨ ll_dr d = 1) ↔ ((1 = 1 → 2 ≤ 3 - d) ∧ (1 = 3 → 3 - d < 2))) := by decide +kernel
theorem la_ok2 : ∀ d, d < 4 → ((¬ ll_kg 2 = 0 ∨ ll_dr d = 1) ↔ ((2 = 1 → 2 ≤ 3 - d) ∧ (2 = 3 → 3 - d < 2))) := by decide +kernel
theorem la_ok3 : ∀ d, d < 4 → ((¬ ll_kg 3 = 0 ∨ ll_dr d = -1) ↔ ((3 = 1 → 2 ≤ 3 - d) ∧ (3 = 3 → 3 - d < 2))) := by decide +kernel
theorem la_ok4 : ∀ d, d < 4 → ((¬ ll_kg 4 = 0 ∨ ll_dr d = -1) ↔ ((4 = 1 → 2 ≤ 3 - d) ∧ (4 = 3 → 3 - d < 2))) := by decide +kernel
theorem la_ok {c d : Nat} {sd : Int32} (ho : dg_own c sd) (hc : c ≤ 4) (hd : d < 4) : (¬ ll_kg c = 0 ∨ ll_dr d = la_fw sd) ↔ dg_ok c (3 - d) := by
  rcases ho with ⟨h1, h2, rfl⟩ | ⟨h1, rfl⟩
  · have : c = 1 ∨ c = 2 := by omega
    rcases this with rfl | rfl
    · exact la_ok1 d hd
    · exact la_ok2 d hd
  · have : c = 3 ∨ c = 4 := by omega
    rcases this with rfl | rfl
    · exact la_ok3 d hd
    · exact la_ok4 d hd
theorem la_foe {c v : Nat} {sd : Int32} (ho : dg_own c sd) (hc : c ≤ 4) (hv : v ≤ 4) : dg_own v (1 - sd) ↔ (¬ v = 0 ∧ ¬ (v ≤ 2 ↔ c ≤ 2)) := by
  have n01 : ¬ (1 : Int32) - 0 = 0 := by decide
  have n11 : ¬ (1 : Int32) - 1 = 1 := by decide
  unfold dg_own
  rcases ho with ⟨h1, h2, rfl⟩ | ⟨h1, rfl⟩
  · constructor
    · rintro (⟨_, _, z⟩ | ⟨z, _⟩)
      · exact absurd z n01
      · omega
    · intro z
      exact Or.inr ⟨by omega, by decide⟩
  · constructor
    · rintro (⟨z1, z2, _⟩ | ⟨_, z⟩)
      · omega
      · exact absurd z n11
    · intro z
      exact Or.inl ⟨by omega, by omega, by decide⟩
theorem la_sd1 {sd : Int32} (h : sd = 0 ∨ sd = 1) : 1 - sd = 0 ∨ 1 - sd = 1 := by
  rcases h with rfl | rfl
  · exact Or.inr (by decide)
  · exact Or.inl (by decide)
theorem la_T2n : ∀ s, s < 32 → ∀ d, d < 4 → dg_T s d < 32 → ¬ dg_T (dg_T s d) d = s := by decide +kernel
theorem la_shr : ∀ z, z < 32 → nI z >>> ((2 : Int32) &&& 31) = nI (z / 4) := by decide +kernel
theorem la_rowD : ∀ a, a < 32 → ∀ d, d < 4 → dg_T a d < 32 → dg_T (dg_T a d) d < 32 → 2 ≤ d → nI (dg_T (dg_T a d) d / 4) - nI (a / 4) = 2 * 1 := by decide +kernel
theorem la_rowU : ∀ a, a < 32 → ∀ d, d < 4 → dg_T a d < 32 → dg_T (dg_T a d) d < 32 → d < 2 → nI (dg_T (dg_T a d) d / 4) - nI (a / 4) = 2 * (-1) := by decide +kernel
theorem la_row {a c d : Nat} {sd : Int32} (ha : a < 32) (hd : d < 4) (h1 : dg_T a d < 32) (h2 : dg_T (dg_T a d) d < 32) (ho : dg_own c sd) (hc : c ≤ 4) (hk : ll_kg c = 0) (hok : dg_ok c d) : nI (dg_T (dg_T a d) d / 4) - nI (a / 4) = 2 * la_fw sd := by
  have hn : ¬ (c = 2 ∨ c = 4) := by
    intro z
    unfold ll_kg at hk
    rw [if_pos z] at hk
    exact absurd hk (by decide)
  rcases ho with ⟨o1, o2, rfl⟩ | ⟨o1, rfl⟩
  · exact la_rowD a ha d hd h1 h2 (hok.1 (by omega))
  · exact la_rowU a ha d hd h1 h2 (hok.2 (by omega))
theorem la_cr {c s : Nat} {sd : Int32} (ho : dg_own c sd) (hc : c ≤ 4) (hk : ll_kg c = 0) : ll_cr sd s = 0 ↔ ¬ dg_cr c s := by
  have hn : ¬ (c = 2 ∨ c = 4) := by
    intro z
    unfold ll_kg at hk
    rw [if_pos z] at hk
    exact absurd hk (by decide)
  unfold ll_cr dg_cr
  rcases ho with ⟨o1, o2, rfl⟩ | ⟨o1, rfl⟩
  · rw [if_pos rfl]
    by_cases z : 28 ≤ s
    · rw [if_pos z]
      exact ⟨fun y => absurd y (by decide), fun y => absurd (Or.inl ⟨by omega, z⟩) y⟩
    · rw [if_neg z]
      exact ⟨fun _ => by omega, fun _ => rfl⟩
  · rw [if_neg (by decide)]
    by_cases z : s < 4
    · rw [if_pos z]
      exact ⟨fun y => absurd y (by decide), fun y => absurd (Or.inr ⟨by omega, z⟩) y⟩
    · rw [if_neg z]
      exact ⟨fun _ => by omega, fun _ => rfl⟩
theorem la_kg_cr {c s : Nat} (hk : ¬ ll_kg c = 0) : ¬ dg_cr c s := by
  unfold ll_kg at hk
  unfold dg_cr
  by_cases z : c = 2 ∨ c = 4
  · omega
  · rw [if_neg z] at hk; exact absurd rfl hk
theorem eg_sq_in {P : pp_Pos} {i k : Nat} (hk : k < (pp_mv P i).1) (h : k < 100) : eg_sq P i (nI k) = nI ((pp_mv P i).2 k) := by
  unfold eg_sq
  rw [nI_clamp (by omega)]
  exact if_pos ⟨nI_pos (by omega), hk⟩
theorem la_412 {L kc ks : Nat} {xs : Nat → Int32} {post : Int32 → Prop} {J48 : _} {x2 x5 x7 x12 x13 x14 lim sv sv' : Int32} {G : eg_G} {a b : St2} (hA : eg_R lim G sv a) (hB : eg_R lim G sv' b)
    (h : ∃ fu, wL_law_469 post L xs J48 x2 x5 x7 x12 x13 x14 kc ks a.1 a.2.1 a.2.2.1 a.2.2.2.1 a.2.2.2.2.1 a.2.2.2.2.2.1 a.2.2.2.2.2.2.1 a.2.2.2.2.2.2.2.1 a.2.2.2.2.2.2.2.2.1 a.2.2.2.2.2.2.2.2.2.1 a.2.2.2.2.2.2.2.2.2.2.1 a.2.2.2.2.2.2.2.2.2.2.2.1 a.2.2.2.2.2.2.2.2.2.2.2.2.1 a.2.2.2.2.2.2.2.2.2.2.2.2.2.1 a.2.2.2.2.2.2.2.2.2.2.2.2.2.2.1 a.2.2.2.2.2.2.2.2.2.2.2.2.2.2.2.1 a.2.2.2.2.2.2.2.2.2.2.2.2.2.2.2.2.1 a.2.2.2.2.2.2.2.2.2.2.2.2.2.2.2.2.2.1 a.2.2.2.2.2.2.2.2.2.2.2.2.2.2.2.2.2.2 b.1 b.2.1 b.2.2.1 b.2.2.2.1 b.2.2.2.2.1 b.2.2.2.2.2.1 b.2.2.2.2.2.2.1 b.2.2.2.2.2.2.2.1 b.2.2.2.2.2.2.2.2.1 b.2.2.2.2.2.2.2.2.2.1 b.2.2.2.2.2.2.2.2.2.2.1 b.2.2.2.2.2.2.2.2.2.2.2.1 b.2.2.2.2.2.2.2.2.2.2.2.2.1 b.2.2.2.2.2.2.2.2.2.2.2.2.2.1 b.2.2.2.2.2.2.2.2.2.2.2.2.2.2.1 b.2.2.2.2.2.2.2.2.2.2.2.2.2.2.2.1 b.2.2.2.2.2.2.2.2.2.2.2.2.2.2.2.2.1 b.2.2.2.2.2.2.2.2.2.2.2.2.2.2.2.2.2.1 b.2.2.2.2.2.2.2.2.2.2.2.2.2.2.2.2.2.2 fu 0) :
    ∀ m q n, q + m = 64 → m < n → wL_law_412 post L xs J48 x2 x5 x7 x12 x13 x14 kc ks a.1 a.2.1 a.2.2.1 a.2.2.2.1 a.2.2.2.2.1 a.2.2.2.2.2.1 a.2.2.2.2.2.2.1 a.2.2.2.2.2.2.2.1 a.2.2.2.2.2.2.2.2.1 a.2.2.2.2.2.2.2.2.2.1 a.2.2.2.2.2.2.2.2.2.2.1 a.2.2.2.2.2.2.2.2.2.2.2.1 a.2.2.2.2.2.2.2.2.2.2.2.2.1 a.2.2.2.2.2.2.2.2.2.2.2.2.2.1 a.2.2.2.2.2.2.2.2.2.2.2.2.2.2.1 a.2.2.2.2.2.2.2.2.2.2.2.2.2.2.2.1 a.2.2.2.2.2.2.2.2.2.2.2.2.2.2.2.2.1 a.2.2.2.2.2.2.2.2.2.2.2.2.2.2.2.2.2.1 a.2.2.2.2.2.2.2.2.2.2.2.2.2.2.2.2.2.2 b.1 b.2.1 b.2.2.1 b.2.2.2.1 b.2.2.2.2.1 b.2.2.2.2.2.1 b.2.2.2.2.2.2.1 b.2.2.2.2.2.2.2.1 b.2.2.2.2.2.2.2.2.1 b.2.2.2.2.2.2.2.2.2.1 b.2.2.2.2.2.2.2.2.2.2.1 b.2.2.2.2.2.2.2.2.2.2.2.1 b.2.2.2.2.2.2.2.2.2.2.2.2.1 b.2.2.2.2.2.2.2.2.2.2.2.2.2.1 b.2.2.2.2.2.2.2.2.2.2.2.2.2.2.1 b.2.2.2.2.2.2.2.2.2.2.2.2.2.2.2.1 b.2.2.2.2.2.2.2.2.2.2.2.2.2.2.2.2.1 b.2.2.2.2.2.2.2.2.2.2.2.2.2.2.2.2.2.1 b.2.2.2.2.2.2.2.2.2.2.2.2.2.2.2.2.2.2 n (nI q) := by
  intro m
  induction m with
  | zero =>
    intro q n hq hn
    obtain ⟨n, rfl⟩ : ∃ g, n = g + 1 := ⟨n - 1, by omega⟩
    obtain rfl : q = 64 := by omega
    exact br_t (nI_le (a := 64) (Nat.le_refl 64) (by omega)) h
  | succ m ih =>
    intro q n hq hn
    obtain ⟨n, rfl⟩ : ∃ g, n = g + 1 := ⟨n - 1, by omega⟩
    have nx := ih (q + 1) n (by omega) (by omega)
    refine br_f (nI_ge (b := 64) (by omega) (by omega)) (ex_loge (by omega) hA (ex_loge (by omega) hB (br_t rfl (pk_le 32 q (fun big => nm_r (nI_1 q) nx) (fun lt => ?_)))))
    exact ex_piece lt hA (ex_piece lt hB (br_t rfl (nm_r (nI_1 q) nx)))
theorem la_479 {L kc ks : Nat} {xs : Nat → Int32} {post : Int32 → Prop} {J48 : _} {J469 : Int32 → Prop} {x2 x5 x7 x12 x13 x14 lim sv sv' : Int32} {G : eg_G} {a b : St2} {i : Nat} (hA : eg_R lim G sv a) (hB : eg_R lim G sv' b) (hi : i < eg_M lim G.1) (h : J469 (nI (i + 1))) :
    ∀ m t n, t + m = 15 → m < n → wL_law_479 post L xs J48 J469 x2 x5 x7 x12 x13 x14 (nI i) kc ks a.1 a.2.1 a.2.2.1 a.2.2.2.1 a.2.2.2.2.1 a.2.2.2.2.2.1 a.2.2.2.2.2.2.1 a.2.2.2.2.2.2.2.1 a.2.2.2.2.2.2.2.2.1 a.2.2.2.2.2.2.2.2.2.1 a.2.2.2.2.2.2.2.2.2.2.1 a.2.2.2.2.2.2.2.2.2.2.2.1 a.2.2.2.2.2.2.2.2.2.2.2.2.1 a.2.2.2.2.2.2.2.2.2.2.2.2.2.1 a.2.2.2.2.2.2.2.2.2.2.2.2.2.2.1 a.2.2.2.2.2.2.2.2.2.2.2.2.2.2.2.1 a.2.2.2.2.2.2.2.2.2.2.2.2.2.2.2.2.1 a.2.2.2.2.2.2.2.2.2.2.2.2.2.2.2.2.2.1 a.2.2.2.2.2.2.2.2.2.2.2.2.2.2.2.2.2.2 b.1 b.2.1 b.2.2.1 b.2.2.2.1 b.2.2.2.2.1 b.2.2.2.2.2.1 b.2.2.2.2.2.2.1 b.2.2.2.2.2.2.2.1 b.2.2.2.2.2.2.2.2.1 b.2.2.2.2.2.2.2.2.2.1 b.2.2.2.2.2.2.2.2.2.2.1 b.2.2.2.2.2.2.2.2.2.2.2.1 b.2.2.2.2.2.2.2.2.2.2.2.2.1 b.2.2.2.2.2.2.2.2.2.2.2.2.2.1 b.2.2.2.2.2.2.2.2.2.2.2.2.2.2.1 b.2.2.2.2.2.2.2.2.2.2.2.2.2.2.2.1 b.2.2.2.2.2.2.2.2.2.2.2.2.2.2.2.2.1 b.2.2.2.2.2.2.2.2.2.2.2.2.2.2.2.2.2.1 b.2.2.2.2.2.2.2.2.2.2.2.2.2.2.2.2.2.2 n (dg_la t) := by
  intro m
  induction m with
  | zero =>
    intro t n ht hn
    obtain ⟨n, rfl⟩ : ∃ g, n = g + 1 := ⟨n - 1, by omega⟩
    obtain rfl : t = 15 := by omega
    exact br_t (nI_le (a := 14) (b := 14) (Nat.le_refl 14) (by omega)) (nm_r (nI_1 i) h)
  | succ m ih =>
    intro t n ht hn
    obtain ⟨n, rfl⟩ : ∃ g, n = g + 1 := ⟨n - 1, by omega⟩
    have nx := ih (t + 1) n (by omega) (by omega)
    have hlt : ¬ (14 : Int32) ≤ dg_la t := by
      cases t with
      | zero => decide
      | succ k => exact nI_ge (b := 14) (by omega) (by omega)
    exact br_f hlt (ex_len hA hi (ex_len hB hi (br_t rfl (ex_sq hA hi (ex_sq hB hi (br_t rfl (nm_r (la_la t) nx)))))))
theorem la_469 {L kc ks : Nat} {xs : Nat → Int32} {post : Int32 → Prop} {J48 : _} {x2 x5 x7 x12 lim sv sv' : Int32} {G : eg_G} {a b : St2} {i : Nat} (hA : eg_R lim G sv a) (hB : eg_R lim G sv' b) (hi : i < eg_M lim G.1)
    (h : wL_law_574 post L xs J48 x2 x5 x7 x12 (nI i) (nI (eg_M lim G.1)) G.1.2.1 (nI (pp_mv G.1 i).1) (la_fw G.1.2.1) kc ks a.1 a.2.1 a.2.2.1 a.2.2.2.1 a.2.2.2.2.1 a.2.2.2.2.2.1 a.2.2.2.2.2.2.1 a.2.2.2.2.2.2.2.1 a.2.2.2.2.2.2.2.2.1 a.2.2.2.2.2.2.2.2.2.1 a.2.2.2.2.2.2.2.2.2.2.1 a.2.2.2.2.2.2.2.2.2.2.2.1 a.2.2.2.2.2.2.2.2.2.2.2.2.1 a.2.2.2.2.2.2.2.2.2.2.2.2.2.1 a.2.2.2.2.2.2.2.2.2.2.2.2.2.2.1 a.2.2.2.2.2.2.2.2.2.2.2.2.2.2.2.1 a.2.2.2.2.2.2.2.2.2.2.2.2.2.2.2.2.1 a.2.2.2.2.2.2.2.2.2.2.2.2.2.2.2.2.2.1 a.2.2.2.2.2.2.2.2.2.2.2.2.2.2.2.2.2.2 b.1 b.2.1 b.2.2.1 b.2.2.2.1 b.2.2.2.2.1 b.2.2.2.2.2.1 b.2.2.2.2.2.2.1 b.2.2.2.2.2.2.2.1 b.2.2.2.2.2.2.2.2.1 b.2.2.2.2.2.2.2.2.2.1 b.2.2.2.2.2.2.2.2.2.2.1 b.2.2.2.2.2.2.2.2.2.2.2.1 b.2.2.2.2.2.2.2.2.2.2.2.2.1 b.2.2.2.2.2.2.2.2.2.2.2.2.2.1 b.2.2.2.2.2.2.2.2.2.2.2.2.2.2.1 b.2.2.2.2.2.2.2.2.2.2.2.2.2.2.2.1 b.2.2.2.2.2.2.2.2.2.2.2.2.2.2.2.2.1 b.2.2.2.2.2.2.2.2.2.2.2.2.2.2.2.2.2.1 b.2.2.2.2.2.2.2.2.2.2.2.2.2.2.2.2.2.2) :
    ∀ m q n, q + m = eg_M lim G.1 → m < n → wL_law_469 post L xs J48 x2 x5 x7 x12 (nI i) (nI (eg_M lim G.1)) kc ks a.1 a.2.1 a.2.2.1 a.2.2.2.1 a.2.2.2.2.1 a.2.2.2.2.2.1 a.2.2.2.2.2.2.1 a.2.2.2.2.2.2.2.1 a.2.2.2.2.2.2.2.2.1 a.2.2.2.2.2.2.2.2.2.1 a.2.2.2.2.2.2.2.2.2.2.1 a.2.2.2.2.2.2.2.2.2.2.2.1 a.2.2.2.2.2.2.2.2.2.2.2.2.1 a.2.2.2.2.2.2.2.2.2.2.2.2.2.1 a.2.2.2.2.2.2.2.2.2.2.2.2.2.2.1 a.2.2.2.2.2.2.2.2.2.2.2.2.2.2.2.1 a.2.2.2.2.2.2.2.2.2.2.2.2.2.2.2.2.1 a.2.2.2.2.2.2.2.2.2.2.2.2.2.2.2.2.2.1 a.2.2.2.2.2.2.2.2.2.2.2.2.2.2.2.2.2.2 b.1 b.2.1 b.2.2.1 b.2.2.2.1 b.2.2.2.2.1 b.2.2.2.2.2.1 b.2.2.2.2.2.2.1 b.2.2.2.2.2.2.2.1 b.2.2.2.2.2.2.2.2.1 b.2.2.2.2.2.2.2.2.2.1 b.2.2.2.2.2.2.2.2.2.2.1 b.2.2.2.2.2.2.2.2.2.2.2.1 b.2.2.2.2.2.2.2.2.2.2.2.2.1 b.2.2.2.2.2.2.2.2.2.2.2.2.2.1 b.2.2.2.2.2.2.2.2.2.2.2.2.2.2.1 b.2.2.2.2.2.2.2.2.2.2.2.2.2.2.2.1 b.2.2.2.2.2.2.2.2.2.2.2.2.2.2.2.2.1 b.2.2.2.2.2.2.2.2.2.2.2.2.2.2.2.2.2.1 b.2.2.2.2.2.2.2.2.2.2.2.2.2.2.2.2.2.2 n (nI q) := by
  have h48 := eg_M_le lim G.1
  intro m
  induction m with
  | zero =>
    intro q n hq hn
    obtain ⟨n, rfl⟩ : ∃ g, n = g + 1 := ⟨n - 1, by omega⟩
    obtain rfl : q = eg_M lim G.1 := by omega
    refine br_t (nI_le (Nat.le_refl _) (by omega)) (br_f (nI_pos (by omega)) (br_t (nI_lt hi (by omega)) (ex_sidem hA (ex_len hA hi ?_))))
    unfold la_fw at h
    refine br_c (fun z => ?_) (fun z => ?_)
    · rw [if_pos z] at h; exact h
    · rw [if_neg z] at h; exact h
  | succ m ih =>
    intro q n hq hn
    obtain ⟨n, rfl⟩ : ∃ g, n = g + 1 := ⟨n - 1, by omega⟩
    refine br_f (nI_ge (by omega) (by omega)) ⟨16, ?_⟩
    exact la_479 hA hB (by omega) (ih (q + 1) n (by omega) (by omega)) 15 0 16 (by omega) (by omega)
end
section
/-! the law's test of the move -/
def la_C (b : Nat → Nat) (sd : Int32) (q d : Nat) : Prop := dg_own (b q) sd ∧ dg_P b (fun _ => 0) (b q) q q (3 - d)
theorem la_666 {L kc ks : Nat} {xs : Nat → Int32} {post : Int32 → Prop} {J48 : _} {J638 : Int32 → Int32 → Prop} {x2 x5 x7 x12 x13 x14 x16 x18 x20 x21 lim sv : Int32} {G : eg_G} {a b : St2} {q : Nat} (hA : eg_R lim G sv a) (hq : q < 32) (ho : dg_own (G.1.1 q) G.1.2.1) :
    ∀ (m d n : Nat) (f : Int32), d + m = 4 → m < n → (f = 0 ∨ f = 1) → (∀ f', (f' = 0 ∨ f' = 1) → (¬ f' = 0 ↔ (¬ f = 0 ∨ ∃ d', d ≤ d' ∧ d' < 4 ∧ la_C G.1.1 G.1.2.1 q d')) → J638 f' (nI (q + 1))) →
      wL_law_666 post L xs J48 J638 x2 x5 x7 x12 x13 x14 G.1.2.1 x16 (la_fw G.1.2.1) x18 x20 x21 (nI q) (nI (G.1.1 q)) kc ks a.1 a.2.1 a.2.2.1 a.2.2.2.1 a.2.2.2.2.1 a.2.2.2.2.2.1 a.2.2.2.2.2.2.1 a.2.2.2.2.2.2.2.1 a.2.2.2.2.2.2.2.2.1 a.2.2.2.2.2.2.2.2.2.1 a.2.2.2.2.2.2.2.2.2.2.1 a.2.2.2.2.2.2.2.2.2.2.2.1 a.2.2.2.2.2.2.2.2.2.2.2.2.1 a.2.2.2.2.2.2.2.2.2.2.2.2.2.1 a.2.2.2.2.2.2.2.2.2.2.2.2.2.2.1 a.2.2.2.2.2.2.2.2.2.2.2.2.2.2.2.1 a.2.2.2.2.2.2.2.2.2.2.2.2.2.2.2.2.1 a.2.2.2.2.2.2.2.2.2.2.2.2.2.2.2.2.2.1 a.2.2.2.2.2.2.2.2.2.2.2.2.2.2.2.2.2.2 b.1 b.2.1 b.2.2.1 b.2.2.2.1 b.2.2.2.2.1 b.2.2.2.2.2.1 b.2.2.2.2.2.2.1 b.2.2.2.2.2.2.2.1 b.2.2.2.2.2.2.2.2.1 b.2.2.2.2.2.2.2.2.2.1 b.2.2.2.2.2.2.2.2.2.2.1 b.2.2.2.2.2.2.2.2.2.2.2.1 b.2.2.2.2.2.2.2.2.2.2.2.2.1 b.2.2.2.2.2.2.2.2.2.2.2.2.2.1 b.2.2.2.2.2.2.2.2.2.2.2.2.2.2.1 b.2.2.2.2.2.2.2.2.2.2.2.2.2.2.2.1 b.2.2.2.2.2.2.2.2.2.2.2.2.2.2.2.2.1 b.2.2.2.2.2.2.2.2.2.2.2.2.2.2.2.2.2.1 b.2.2.2.2.2.2.2.2.2.2.2.2.2.2.2.2.2.2 n f (nI d) := by
  have hc := eg_code hA hq
  have hsd := eg_sd hA
  intro m
  induction m with
  | zero =>
    intro d n f hd hn hf h
    obtain ⟨n, rfl⟩ : ∃ g, n = g + 1 := ⟨n - 1, by omega⟩
    obtain rfl : d = 4 := by omega
    refine br_t (nI_le (a := 4) (Nat.le_refl 4) (by omega)) (nm_r (nI_1 q) (h f hf ⟨fun z => Or.inl z, ?_⟩))
    rintro (z | ⟨d', h1, h2, _⟩)
    · exact z
    · omega
  | succ m ih =>
    intro d n f hd hn hf h
    obtain ⟨n, rfl⟩ : ∃ g, n = g + 1 := ⟨n - 1, by omega⟩
    have nx : ∀ f', (f' = 0 ∨ f' = 1) → (¬ f' = 0 ↔ (¬ f = 0 ∨ la_C G.1.1 G.1.2.1 q d)) → ∀ y, y = nI d + 1 → wL_law_666 post L xs J48 J638 x2 x5 x7 x12 x13 x14 G.1.2.1 x16 (la_fw G.1.2.1) x18 x20 x21 (nI q) (nI (G.1.1 q)) kc ks a.1 a.2.1 a.2.2.1 a.2.2.2.1 a.2.2.2.2.1 a.2.2.2.2.2.1 a.2.2.2.2.2.2.1 a.2.2.2.2.2.2.2.1 a.2.2.2.2.2.2.2.2.1 a.2.2.2.2.2.2.2.2.2.1 a.2.2.2.2.2.2.2.2.2.2.1 a.2.2.2.2.2.2.2.2.2.2.2.1 a.2.2.2.2.2.2.2.2.2.2.2.2.1 a.2.2.2.2.2.2.2.2.2.2.2.2.2.1 a.2.2.2.2.2.2.2.2.2.2.2.2.2.2.1 a.2.2.2.2.2.2.2.2.2.2.2.2.2.2.2.1 a.2.2.2.2.2.2.2.2.2.2.2.2.2.2.2.2.1 a.2.2.2.2.2.2.2.2.2.2.2.2.2.2.2.2.2.1 a.2.2.2.2.2.2.2.2.2.2.2.2.2.2.2.2.2.2 b.1 b.2.1 b.2.2.1 b.2.2.2.1 b.2.2.2.2.1 b.2.2.2.2.2.1 b.2.2.2.2.2.2.1 b.2.2.2.2.2.2.2.1 b.2.2.2.2.2.2.2.2.1 b.2.2.2.2.2.2.2.2.2.1 b.2.2.2.2.2.2.2.2.2.2.1 b.2.2.2.2.2.2.2.2.2.2.2.1 b.2.2.2.2.2.2.2.2.2.2.2.2.1 b.2.2.2.2.2.2.2.2.2.2.2.2.2.1 b.2.2.2.2.2.2.2.2.2.2.2.2.2.2.1 b.2.2.2.2.2.2.2.2.2.2.2.2.2.2.2.1 b.2.2.2.2.2.2.2.2.2.2.2.2.2.2.2.2.1 b.2.2.2.2.2.2.2.2.2.2.2.2.2.2.2.2.2.1 b.2.2.2.2.2.2.2.2.2.2.2.2.2.2.2.2.2.2 n f' y := by
      intro f' h1 h2
      refine nm_r (nI_1 d) (ih (d + 1) n f' (by omega) (by omega) h1 fun f'' g1 g2 => h f'' g1 ?_)
      rw [g2, h2]
      constructor
      · rintro ((z | z) | ⟨d', y1, y2, y3⟩)
        · exact Or.inl z
        · exact Or.inr ⟨d, Nat.le_refl d, by omega, z⟩
        · exact Or.inr ⟨d', by omega, y2, y3⟩
      · rintro (z | ⟨d', y1, y2, y3⟩)
        · exact Or.inl (Or.inl z)
        · by_cases e : d' = d
          · subst e; exact Or.inl (Or.inr y3)
          · exact Or.inr ⟨d', by omega, y2, y3⟩
    have no : ¬ la_C G.1.1 G.1.2.1 q d → ∀ y, y = nI d + 1 → wL_law_666 post L xs J48 J638 x2 x5 x7 x12 x13 x14 G.1.2.1 x16 (la_fw G.1.2.1) x18 x20 x21 (nI q) (nI (G.1.1 q)) kc ks a.1 a.2.1 a.2.2.1 a.2.2.2.1 a.2.2.2.2.1 a.2.2.2.2.2.1 a.2.2.2.2.2.2.1 a.2.2.2.2.2.2.2.1 a.2.2.2.2.2.2.2.2.1 a.2.2.2.2.2.2.2.2.2.1 a.2.2.2.2.2.2.2.2.2.2.1 a.2.2.2.2.2.2.2.2.2.2.2.1 a.2.2.2.2.2.2.2.2.2.2.2.2.1 a.2.2.2.2.2.2.2.2.2.2.2.2.2.1 a.2.2.2.2.2.2.2.2.2.2.2.2.2.2.1 a.2.2.2.2.2.2.2.2.2.2.2.2.2.2.2.1 a.2.2.2.2.2.2.2.2.2.2.2.2.2.2.2.2.1 a.2.2.2.2.2.2.2.2.2.2.2.2.2.2.2.2.2.1 a.2.2.2.2.2.2.2.2.2.2.2.2.2.2.2.2.2.2 b.1 b.2.1 b.2.2.1 b.2.2.2.1 b.2.2.2.2.1 b.2.2.2.2.2.1 b.2.2.2.2.2.2.1 b.2.2.2.2.2.2.2.1 b.2.2.2.2.2.2.2.2.1 b.2.2.2.2.2.2.2.2.2.1 b.2.2.2.2.2.2.2.2.2.2.1 b.2.2.2.2.2.2.2.2.2.2.2.1 b.2.2.2.2.2.2.2.2.2.2.2.2.1 b.2.2.2.2.2.2.2.2.2.2.2.2.2.1 b.2.2.2.2.2.2.2.2.2.2.2.2.2.2.1 b.2.2.2.2.2.2.2.2.2.2.2.2.2.2.2.1 b.2.2.2.2.2.2.2.2.2.2.2.2.2.2.2.2.1 b.2.2.2.2.2.2.2.2.2.2.2.2.2.2.2.2.2.1 b.2.2.2.2.2.2.2.2.2.2.2.2.2.2.2.2.2.2 n f y := by
      intro z
      refine nx f hf ⟨fun y => Or.inl y, ?_⟩
      rintro (y | y)
      · exact y
      · exact absurd y z
    refine br_f (nI_ge (b := 4) (by omega) (by omega)) (ll_dR (by omega) (ll_dC (by omega) (ll_nb hq (by omega) (ll_dR (by omega) (ll_dC (by omega) (ll_nb2 hq (by omega) (ll_king hc ?_)))))))
    have hok := la_ok ho hc (d := d) (by omega)
    have go : dg_ok (G.1.1 q) (3 - d) → wL_law_724 post L xs J48 J638 (wL_law_666 post L xs J48 J638 x2 x5 x7 x12 x13 x14 G.1.2.1 x16 (la_fw G.1.2.1) x18 x20 x21 (nI q) (nI (G.1.1 q)) kc ks a.1 a.2.1 a.2.2.1 a.2.2.2.1 a.2.2.2.2.1 a.2.2.2.2.2.1 a.2.2.2.2.2.2.1 a.2.2.2.2.2.2.2.1 a.2.2.2.2.2.2.2.2.1 a.2.2.2.2.2.2.2.2.2.1 a.2.2.2.2.2.2.2.2.2.2.1 a.2.2.2.2.2.2.2.2.2.2.2.1 a.2.2.2.2.2.2.2.2.2.2.2.2.1 a.2.2.2.2.2.2.2.2.2.2.2.2.2.1 a.2.2.2.2.2.2.2.2.2.2.2.2.2.2.1 a.2.2.2.2.2.2.2.2.2.2.2.2.2.2.2.1 a.2.2.2.2.2.2.2.2.2.2.2.2.2.2.2.2.1 a.2.2.2.2.2.2.2.2.2.2.2.2.2.2.2.2.2.1 a.2.2.2.2.2.2.2.2.2.2.2.2.2.2.2.2.2.2 b.1 b.2.1 b.2.2.1 b.2.2.2.1 b.2.2.2.2.1 b.2.2.2.2.2.1 b.2.2.2.2.2.2.1 b.2.2.2.2.2.2.2.1 b.2.2.2.2.2.2.2.2.1 b.2.2.2.2.2.2.2.2.2.1 b.2.2.2.2.2.2.2.2.2.2.1 b.2.2.2.2.2.2.2.2.2.2.2.1 b.2.2.2.2.2.2.2.2.2.2.2.2.1 b.2.2.2.2.2.2.2.2.2.2.2.2.2.1 b.2.2.2.2.2.2.2.2.2.2.2.2.2.2.1 b.2.2.2.2.2.2.2.2.2.2.2.2.2.2.2.1 b.2.2.2.2.2.2.2.2.2.2.2.2.2.2.2.2.1 b.2.2.2.2.2.2.2.2.2.2.2.2.2.2.2.2.2.1 b.2.2.2.2.2.2.2.2.2.2.2.2.2.2.2.2.2.2 n) x2 x5 x7 x12 x13 x14 G.1.2.1 x16 (la_fw G.1.2.1) x18 x20 x21 f (nI q) (nI (G.1.1 q)) (nI d) (dg_enc (dg_T q (3 - d))) (dg_enc (ll_T2 q (3 - d))) kc ks a.1 a.2.1 a.2.2.1 a.2.2.2.1 a.2.2.2.2.1 a.2.2.2.2.2.1 a.2.2.2.2.2.2.1 a.2.2.2.2.2.2.2.1 a.2.2.2.2.2.2.2.2.1 a.2.2.2.2.2.2.2.2.2.1 a.2.2.2.2.2.2.2.2.2.2.1 a.2.2.2.2.2.2.2.2.2.2.2.1 a.2.2.2.2.2.2.2.2.2.2.2.2.1 a.2.2.2.2.2.2.2.2.2.2.2.2.2.1 a.2.2.2.2.2.2.2.2.2.2.2.2.2.2.1 a.2.2.2.2.2.2.2.2.2.2.2.2.2.2.2.1 a.2.2.2.2.2.2.2.2.2.2.2.2.2.2.2.2.1 a.2.2.2.2.2.2.2.2.2.2.2.2.2.2.2.2.2.1 a.2.2.2.2.2.2.2.2.2.2.2.2.2.2.2.2.2.2 b.1 b.2.1 b.2.2.1 b.2.2.2.1 b.2.2.2.2.1 b.2.2.2.2.2.1 b.2.2.2.2.2.2.1 b.2.2.2.2.2.2.2.1 b.2.2.2.2.2.2.2.2.1 b.2.2.2.2.2.2.2.2.2.1 b.2.2.2.2.2.2.2.2.2.2.1 b.2.2.2.2.2.2.2.2.2.2.2.1 b.2.2.2.2.2.2.2.2.2.2.2.2.1 b.2.2.2.2.2.2.2.2.2.2.2.2.2.1 b.2.2.2.2.2.2.2.2.2.2.2.2.2.2.1 b.2.2.2.2.2.2.2.2.2.2.2.2.2.2.2.1 b.2.2.2.2.2.2.2.2.2.2.2.2.2.2.2.2.1 b.2.2.2.2.2.2.2.2.2.2.2.2.2.2.2.2.2.1 b.2.2.2.2.2.2.2.2.2.2.2.2.2.2.2.2.2.2 := by
      intro k
      by_cases hT : dg_T q (3 - d) < 32
      · have e2 : ll_T2 q (3 - d) = dg_T (dg_T q (3 - d)) (3 - d) := if_pos hT
        rw [e2]
        by_cases hL : dg_T (dg_T q (3 - d)) (3 - d) < 32
        · have hv := eg_code hA hT
          have hfo := la_foe (v := G.1.1 (dg_T q (3 - d))) ho hc hv
          rw [dg_enc_lt hT, dg_enc_lt hL]
          refine br_f (dg_enc_n _ hL).2 (ex_piece hT hA (ll_own hv (la_sd1 hsd) (fun o => br_f (by decide) (ex_piece hL hA ?_)) (fun o => br_t rfl (no fun z => o (hfo.mpr z.2.2.2.2.2.1)))))
          have hw := eg_code hA hL
          refine pk_eq (G.1.1 (dg_T (dg_T q (3 - d)) (3 - d))) 0 (fun z => nx 1 (Or.inr rfl) ⟨fun _ => Or.inr ⟨ho, k, hT, hL, rfl, hfo.mp o, Or.inl z⟩, fun _ => by decide⟩) (fun z => no fun y => ?_)
          rcases y.2.2.2.2.2.2 with y | y
          · exact z y
          · exact la_T2n q hq (3 - d) (by omega) hT y
        · rw [dg_enc_ge hL]
          exact br_t (by decide) (no fun z => hL z.2.2.2.1)
      · have e2 : ll_T2 q (3 - d) = 32 := if_neg hT
        rw [e2, dg_enc_ge (n := 32) (by omega)]
        exact br_t (by decide) (no fun z => hT z.2.2.1)
    refine br_c (fun z => ll_dR (by omega) (br_c (fun y => go (hok.mp (Or.inr y))) (fun y => no fun w => ?_))) (fun z => go (hok.mp (Or.inl z)))
    rcases hok.mpr w.2.1 with v | v
    · exact v z
    · exact y v
theorem la_638 {L kc ks : Nat} {xs : Nat → Int32} {post : Int32 → Prop} {J48 : _} {x2 x5 x7 x12 x13 x14 x16 x18 x20 x21 lim sv : Int32} {G : eg_G} {a b : St2} (hA : eg_R lim G sv a)
    (h0 : ¬ pj_can G.1.1 G.1.2.1 → ∃ fu, wL_law_780 post L xs J48 x2 x5 x7 x12 x13 x14 G.1.2.1 x16 (la_fw G.1.2.1) x18 x20 x21 kc ks a.1 a.2.1 a.2.2.1 a.2.2.2.1 a.2.2.2.2.1 a.2.2.2.2.2.1 a.2.2.2.2.2.2.1 a.2.2.2.2.2.2.2.1 a.2.2.2.2.2.2.2.2.1 a.2.2.2.2.2.2.2.2.2.1 a.2.2.2.2.2.2.2.2.2.2.1 a.2.2.2.2.2.2.2.2.2.2.2.1 a.2.2.2.2.2.2.2.2.2.2.2.2.1 a.2.2.2.2.2.2.2.2.2.2.2.2.2.1 a.2.2.2.2.2.2.2.2.2.2.2.2.2.2.1 a.2.2.2.2.2.2.2.2.2.2.2.2.2.2.2.1 a.2.2.2.2.2.2.2.2.2.2.2.2.2.2.2.2.1 a.2.2.2.2.2.2.2.2.2.2.2.2.2.2.2.2.2.1 a.2.2.2.2.2.2.2.2.2.2.2.2.2.2.2.2.2.2 b.1 b.2.1 b.2.2.1 b.2.2.2.1 b.2.2.2.2.1 b.2.2.2.2.2.1 b.2.2.2.2.2.2.1 b.2.2.2.2.2.2.2.1 b.2.2.2.2.2.2.2.2.1 b.2.2.2.2.2.2.2.2.2.1 b.2.2.2.2.2.2.2.2.2.2.1 b.2.2.2.2.2.2.2.2.2.2.2.1 b.2.2.2.2.2.2.2.2.2.2.2.2.1 b.2.2.2.2.2.2.2.2.2.2.2.2.2.1 b.2.2.2.2.2.2.2.2.2.2.2.2.2.2.1 b.2.2.2.2.2.2.2.2.2.2.2.2.2.2.2.1 b.2.2.2.2.2.2.2.2.2.2.2.2.2.2.2.2.1 b.2.2.2.2.2.2.2.2.2.2.2.2.2.2.2.2.2.1 b.2.2.2.2.2.2.2.2.2.2.2.2.2.2.2.2.2.2 fu 0 0)
    (h1 : pj_can G.1.1 G.1.2.1 → ∃ fu, wL_law_858 post L xs J48 x2 x5 x7 x12 x13 x14 G.1.2.1 x16 (la_fw G.1.2.1) x18 x20 x21 kc ks a.1 a.2.1 a.2.2.1 a.2.2.2.1 a.2.2.2.2.1 a.2.2.2.2.2.1 a.2.2.2.2.2.2.1 a.2.2.2.2.2.2.2.1 a.2.2.2.2.2.2.2.2.1 a.2.2.2.2.2.2.2.2.2.1 a.2.2.2.2.2.2.2.2.2.2.1 a.2.2.2.2.2.2.2.2.2.2.2.1 a.2.2.2.2.2.2.2.2.2.2.2.2.1 a.2.2.2.2.2.2.2.2.2.2.2.2.2.1 a.2.2.2.2.2.2.2.2.2.2.2.2.2.2.1 a.2.2.2.2.2.2.2.2.2.2.2.2.2.2.2.1 a.2.2.2.2.2.2.2.2.2.2.2.2.2.2.2.2.1 a.2.2.2.2.2.2.2.2.2.2.2.2.2.2.2.2.2.1 a.2.2.2.2.2.2.2.2.2.2.2.2.2.2.2.2.2.2 b.1 b.2.1 b.2.2.1 b.2.2.2.1 b.2.2.2.2.1 b.2.2.2.2.2.1 b.2.2.2.2.2.2.1 b.2.2.2.2.2.2.2.1 b.2.2.2.2.2.2.2.2.1 b.2.2.2.2.2.2.2.2.2.1 b.2.2.2.2.2.2.2.2.2.2.1 b.2.2.2.2.2.2.2.2.2.2.2.1 b.2.2.2.2.2.2.2.2.2.2.2.2.1 b.2.2.2.2.2.2.2.2.2.2.2.2.2.1 b.2.2.2.2.2.2.2.2.2.2.2.2.2.2.1 b.2.2.2.2.2.2.2.2.2.2.2.2.2.2.2.1 b.2.2.2.2.2.2.2.2.2.2.2.2.2.2.2.2.1 b.2.2.2.2.2.2.2.2.2.2.2.2.2.2.2.2.2.1 b.2.2.2.2.2.2.2.2.2.2.2.2.2.2.2.2.2.2 fu 1) :
    ∀ (m q n : Nat) (f : Int32), q + m = 32 → m < n → (f = 0 ∨ f = 1) → (¬ f = 0 ↔ ∃ q' d', q' < q ∧ d' < 4 ∧ la_C G.1.1 G.1.2.1 q' d') →
      wL_law_638 post L xs J48 x2 x5 x7 x12 x13 x14 G.1.2.1 x16 (la_fw G.1.2.1) x18 x20 x21 kc ks a.1 a.2.1 a.2.2.1 a.2.2.2.1 a.2.2.2.2.1 a.2.2.2.2.2.1 a.2.2.2.2.2.2.1 a.2.2.2.2.2.2.2.1 a.2.2.2.2.2.2.2.2.1 a.2.2.2.2.2.2.2.2.2.1 a.2.2.2.2.2.2.2.2.2.2.1 a.2.2.2.2.2.2.2.2.2.2.2.1 a.2.2.2.2.2.2.2.2.2.2.2.2.1 a.2.2.2.2.2.2.2.2.2.2.2.2.2.1 a.2.2.2.2.2.2.2.2.2.2.2.2.2.2.1 a.2.2.2.2.2.2.2.2.2.2.2.2.2.2.2.1 a.2.2.2.2.2.2.2.2.2.2.2.2.2.2.2.2.1 a.2.2.2.2.2.2.2.2.2.2.2.2.2.2.2.2.2.1 a.2.2.2.2.2.2.2.2.2.2.2.2.2.2.2.2.2.2 b.1 b.2.1 b.2.2.1 b.2.2.2.1 b.2.2.2.2.1 b.2.2.2.2.2.1 b.2.2.2.2.2.2.1 b.2.2.2.2.2.2.2.1 b.2.2.2.2.2.2.2.2.1 b.2.2.2.2.2.2.2.2.2.1 b.2.2.2.2.2.2.2.2.2.2.1 b.2.2.2.2.2.2.2.2.2.2.2.1 b.2.2.2.2.2.2.2.2.2.2.2.2.1 b.2.2.2.2.2.2.2.2.2.2.2.2.2.1 b.2.2.2.2.2.2.2.2.2.2.2.2.2.2.1 b.2.2.2.2.2.2.2.2.2.2.2.2.2.2.2.1 b.2.2.2.2.2.2.2.2.2.2.2.2.2.2.2.2.1 b.2.2.2.2.2.2.2.2.2.2.2.2.2.2.2.2.2.1 b.2.2.2.2.2.2.2.2.2.2.2.2.2.2.2.2.2.2 n f (nI q) := by
  have hsd := eg_sd hA
  intro m
  induction m with
  | zero =>
    intro q n f hq hn hf h
    obtain ⟨n, rfl⟩ : ∃ g, n = g + 1 := ⟨n - 1, by omega⟩
    obtain rfl : q = 32 := by omega
    refine br_t (nI_le (a := 32) (Nat.le_refl 32) (by omega)) (br_c (fun z => h0 ?_) (fun z => h1 ?_))
    · rintro ⟨q', d', y1, y2, y3, y4⟩
      refine absurd z (h.mpr ⟨q', 3 - d', y1, by omega, y3, ?_⟩)
      rw [show 3 - (3 - d') = d' by omega]
      exact y4
    · obtain ⟨q', d', y1, y2, y3, y4⟩ := h.mp z
      exact ⟨q', 3 - d', y1, by omega, y3, y4⟩
  | succ m ih =>
    intro q n f hq hn hf h
    obtain ⟨n, rfl⟩ : ∃ g, n = g + 1 := ⟨n - 1, by omega⟩
    have q32 : q < 32 := by omega
    have hc := eg_code hA q32
    refine br_f (nI_ge (b := 32) (by omega) (by omega)) (ex_piece q32 hA (ll_own hc hsd (fun o => br_f (by decide) ⟨5, ?_⟩) (fun o => br_t rfl (nm_r (nI_1 q) (ih (q + 1) n f (by omega) (by omega) hf ?_)))))
    · refine la_666 hA q32 o 4 0 5 f (by omega) (by omega) hf fun f' g1 g2 => ih (q + 1) n f' (by omega) (by omega) g1 ?_
      rw [g2, h]
      constructor
      · rintro (⟨q', d', y1, y2, y3⟩ | ⟨d', y1, y2, y3⟩)
        · exact ⟨q', d', by omega, y2, y3⟩
        · exact ⟨q, d', by omega, y2, y3⟩
      · rintro ⟨q', d', y1, y2, y3⟩
        by_cases e : q' = q
        · subst e; exact Or.inr ⟨d', by omega, y2, y3⟩
        · exact Or.inl ⟨q', d', by omega, y2, y3⟩
    · rw [h]
      constructor
      · rintro ⟨q', d', y1, y2, y3⟩
        exact ⟨q', d', by omega, y2, y3⟩
      · rintro ⟨q', d', y1, y2, y3⟩
        by_cases e : q' = q
        · subst e; exact absurd y3.1 o
        · exact ⟨q', d', by omega, y2, y3⟩
/-- the test of a step -/
theorem la_780 {L kc ks : Nat} {xs : Nat → Int32} {post : Int32 → Prop} {J48 : _} {x2 x5 x7 x12 x13 x14 lim sv : Int32} {G : eg_G} {a b : St2} {s0 d0 : Nat} (hA : eg_R lim G sv a) (hs : s0 < 32) (ho : dg_own (G.1.1 s0) G.1.2.1) (hd0 : d0 < 4) (hR : dg_R G.1.1 (G.1.1 s0) s0 d0)
    (h : wL_law_1204 post L xs J48 x2 x5 x7 x12 x13 x14 G.1.2.1 kc ks a.1 a.2.1 a.2.2.1 a.2.2.2.1 a.2.2.2.2.1 a.2.2.2.2.2.1 a.2.2.2.2.2.2.1 a.2.2.2.2.2.2.2.1 a.2.2.2.2.2.2.2.2.1 a.2.2.2.2.2.2.2.2.2.1 a.2.2.2.2.2.2.2.2.2.2.1 a.2.2.2.2.2.2.2.2.2.2.2.1 a.2.2.2.2.2.2.2.2.2.2.2.2.1 a.2.2.2.2.2.2.2.2.2.2.2.2.2.1 a.2.2.2.2.2.2.2.2.2.2.2.2.2.2.1 a.2.2.2.2.2.2.2.2.2.2.2.2.2.2.2.1 a.2.2.2.2.2.2.2.2.2.2.2.2.2.2.2.2.1 a.2.2.2.2.2.2.2.2.2.2.2.2.2.2.2.2.2.1 a.2.2.2.2.2.2.2.2.2.2.2.2.2.2.2.2.2.2 b.1 b.2.1 b.2.2.1 b.2.2.2.1 b.2.2.2.2.1 b.2.2.2.2.2.1 b.2.2.2.2.2.2.1 b.2.2.2.2.2.2.2.1 b.2.2.2.2.2.2.2.2.1 b.2.2.2.2.2.2.2.2.2.1 b.2.2.2.2.2.2.2.2.2.2.1 b.2.2.2.2.2.2.2.2.2.2.2.1 b.2.2.2.2.2.2.2.2.2.2.2.2.1 b.2.2.2.2.2.2.2.2.2.2.2.2.2.1 b.2.2.2.2.2.2.2.2.2.2.2.2.2.2.1 b.2.2.2.2.2.2.2.2.2.2.2.2.2.2.2.1 b.2.2.2.2.2.2.2.2.2.2.2.2.2.2.2.2.1 b.2.2.2.2.2.2.2.2.2.2.2.2.2.2.2.2.2.1 b.2.2.2.2.2.2.2.2.2.2.2.2.2.2.2.2.2.2) :
    ∀ (m d n : Nat) (f : Int32), d + m = 4 → m < n → (¬ f = 0 ∨ d ≤ 3 - d0) → wL_law_780 post L xs J48 x2 x5 x7 x12 x13 x14 G.1.2.1 (nI 2) (la_fw G.1.2.1) (nI s0) (nI (dg_T s0 d0)) (ll_kg (G.1.1 s0)) kc ks a.1 a.2.1 a.2.2.1 a.2.2.2.1 a.2.2.2.2.1 a.2.2.2.2.2.1 a.2.2.2.2.2.2.1 a.2.2.2.2.2.2.2.1 a.2.2.2.2.2.2.2.2.1 a.2.2.2.2.2.2.2.2.2.1 a.2.2.2.2.2.2.2.2.2.2.1 a.2.2.2.2.2.2.2.2.2.2.2.1 a.2.2.2.2.2.2.2.2.2.2.2.2.1 a.2.2.2.2.2.2.2.2.2.2.2.2.2.1 a.2.2.2.2.2.2.2.2.2.2.2.2.2.2.1 a.2.2.2.2.2.2.2.2.2.2.2.2.2.2.2.1 a.2.2.2.2.2.2.2.2.2.2.2.2.2.2.2.2.1 a.2.2.2.2.2.2.2.2.2.2.2.2.2.2.2.2.2.1 a.2.2.2.2.2.2.2.2.2.2.2.2.2.2.2.2.2.2 b.1 b.2.1 b.2.2.1 b.2.2.2.1 b.2.2.2.2.1 b.2.2.2.2.2.1 b.2.2.2.2.2.2.1 b.2.2.2.2.2.2.2.1 b.2.2.2.2.2.2.2.2.1 b.2.2.2.2.2.2.2.2.2.1 b.2.2.2.2.2.2.2.2.2.2.1 b.2.2.2.2.2.2.2.2.2.2.2.1 b.2.2.2.2.2.2.2.2.2.2.2.2.1 b.2.2.2.2.2.2.2.2.2.2.2.2.2.1 b.2.2.2.2.2.2.2.2.2.2.2.2.2.2.1 b.2.2.2.2.2.2.2.2.2.2.2.2.2.2.2.1 b.2.2.2.2.2.2.2.2.2.2.2.2.2.2.2.2.1 b.2.2.2.2.2.2.2.2.2.2.2.2.2.2.2.2.2.1 b.2.2.2.2.2.2.2.2.2.2.2.2.2.2.2.2.2.2 n f (nI d) := by
  have hc := eg_code hA hs
  intro m
  induction m with
  | zero =>
    intro d n f hd hn hf
    obtain ⟨n, rfl⟩ : ∃ g, n = g + 1 := ⟨n - 1, by omega⟩
    obtain rfl : d = 4 := by omega
    have hf' : ¬ f = 0 := by
      rcases hf with z | z
      · exact z
      · omega
    refine br_t (nI_le (a := 4) (Nat.le_refl 4) (by omega)) (br_t rfl (br_f hf' (ex_piece hR.2.1 hA ?_)))
    rw [hR.2.2]
    exact br_t rfl h
  | succ m ih =>
    intro d n f hd hn hf
    obtain ⟨n, rfl⟩ : ∃ g, n = g + 1 := ⟨n - 1, by omega⟩
    have hok := la_ok ho hc (d := d) (by omega)
    have go : wL_law_801 post L xs J48 (wL_law_780 post L xs J48 x2 x5 x7 x12 x13 x14 G.1.2.1 (nI 2) (la_fw G.1.2.1) (nI s0) (nI (dg_T s0 d0)) (ll_kg (G.1.1 s0)) kc ks a.1 a.2.1 a.2.2.1 a.2.2.2.1 a.2.2.2.2.1 a.2.2.2.2.2.1 a.2.2.2.2.2.2.1 a.2.2.2.2.2.2.2.1 a.2.2.2.2.2.2.2.2.1 a.2.2.2.2.2.2.2.2.2.1 a.2.2.2.2.2.2.2.2.2.2.1 a.2.2.2.2.2.2.2.2.2.2.2.1 a.2.2.2.2.2.2.2.2.2.2.2.2.1 a.2.2.2.2.2.2.2.2.2.2.2.2.2.1 a.2.2.2.2.2.2.2.2.2.2.2.2.2.2.1 a.2.2.2.2.2.2.2.2.2.2.2.2.2.2.2.1 a.2.2.2.2.2.2.2.2.2.2.2.2.2.2.2.2.1 a.2.2.2.2.2.2.2.2.2.2.2.2.2.2.2.2.2.1 a.2.2.2.2.2.2.2.2.2.2.2.2.2.2.2.2.2.2 b.1 b.2.1 b.2.2.1 b.2.2.2.1 b.2.2.2.2.1 b.2.2.2.2.2.1 b.2.2.2.2.2.2.1 b.2.2.2.2.2.2.2.1 b.2.2.2.2.2.2.2.2.1 b.2.2.2.2.2.2.2.2.2.1 b.2.2.2.2.2.2.2.2.2.2.1 b.2.2.2.2.2.2.2.2.2.2.2.1 b.2.2.2.2.2.2.2.2.2.2.2.2.1 b.2.2.2.2.2.2.2.2.2.2.2.2.2.1 b.2.2.2.2.2.2.2.2.2.2.2.2.2.2.1 b.2.2.2.2.2.2.2.2.2.2.2.2.2.2.2.1 b.2.2.2.2.2.2.2.2.2.2.2.2.2.2.2.2.1 b.2.2.2.2.2.2.2.2.2.2.2.2.2.2.2.2.2.1 b.2.2.2.2.2.2.2.2.2.2.2.2.2.2.2.2.2.2 n) x2 x5 x7 x12 x13 x14 G.1.2.1 (nI 2) (la_fw G.1.2.1) (nI s0) (nI (dg_T s0 d0)) (ll_kg (G.1.1 s0)) f (nI d) kc ks a.1 a.2.1 a.2.2.1 a.2.2.2.1 a.2.2.2.2.1 a.2.2.2.2.2.1 a.2.2.2.2.2.2.1 a.2.2.2.2.2.2.2.1 a.2.2.2.2.2.2.2.2.1 a.2.2.2.2.2.2.2.2.2.1 a.2.2.2.2.2.2.2.2.2.2.1 a.2.2.2.2.2.2.2.2.2.2.2.1 a.2.2.2.2.2.2.2.2.2.2.2.2.1 a.2.2.2.2.2.2.2.2.2.2.2.2.2.1 a.2.2.2.2.2.2.2.2.2.2.2.2.2.2.1 a.2.2.2.2.2.2.2.2.2.2.2.2.2.2.2.1 a.2.2.2.2.2.2.2.2.2.2.2.2.2.2.2.2.1 a.2.2.2.2.2.2.2.2.2.2.2.2.2.2.2.2.2.1 a.2.2.2.2.2.2.2.2.2.2.2.2.2.2.2.2.2.2 b.1 b.2.1 b.2.2.1 b.2.2.2.1 b.2.2.2.2.1 b.2.2.2.2.2.1 b.2.2.2.2.2.2.1 b.2.2.2.2.2.2.2.1 b.2.2.2.2.2.2.2.2.1 b.2.2.2.2.2.2.2.2.2.1 b.2.2.2.2.2.2.2.2.2.2.1 b.2.2.2.2.2.2.2.2.2.2.2.1 b.2.2.2.2.2.2.2.2.2.2.2.2.1 b.2.2.2.2.2.2.2.2.2.2.2.2.2.1 b.2.2.2.2.2.2.2.2.2.2.2.2.2.2.1 b.2.2.2.2.2.2.2.2.2.2.2.2.2.2.2.1 b.2.2.2.2.2.2.2.2.2.2.2.2.2.2.2.2.1 b.2.2.2.2.2.2.2.2.2.2.2.2.2.2.2.2.2.1 b.2.2.2.2.2.2.2.2.2.2.2.2.2.2.2.2.2.2 := by
      unfold wL_law_801
      refine ll_dR (by omega) (ll_dC (by omega) (ll_nb hs (by omega) (br_c (fun z => nm_r (nI_1 d) (ih (d + 1) n 1 (by omega) (by omega) (Or.inl (by decide)))) (fun z => nm_r (nI_1 d) (ih (d + 1) n f (by omega) (by omega) ?_)))))
      rcases hf with y | y
      · exact Or.inl y
      · refine Or.inr ?_
        by_cases e : d = 3 - d0
        · exfalso
          apply z
          rw [e, show 3 - (3 - d0) = d0 by omega, dg_enc_lt hR.2.1]
        · omega
    refine br_f (nI_ge (b := 4) (by omega) (by omega)) (br_c (fun z => ll_dR (by omega) (br_c (fun y => go) (fun y => nm_r (nI_1 d) (ih (d + 1) n f (by omega) (by omega) ?_)))) (fun z => go))
    rcases hf with w | w
    · exact Or.inl w
    · refine Or.inr ?_
      by_cases e : d = 3 - d0
      · exfalso
        have : dg_ok (G.1.1 s0) (3 - d) := by rw [e, show 3 - (3 - d0) = d0 by omega]; exact hR.1
        rcases hok.mpr this with v | v
        · exact v z
        · exact y v
      · omega
end
section
/-! the law's test of a capture -/
theorem la_sq {lim sv : Int32} {G : eg_G} {a : St2} {post : Int32 → Prop} {i k : Nat} (hA : eg_R lim G sv a) (hi : i < eg_M lim G.1) (hk : k < (pp_mv G.1 i).1) (h13 : (pp_mv G.1 i).1 ≤ 13) (hp : post (nI ((pp_mv G.1 i).2 k))) : wpX_moveSquare post a (nI i) (nI k) :=
  ex_sq hA hi (by rw [eg_sq_in hk (by omega)]; exact hp)
theorem la_J {b : Nat → Nat} {c s0 x n z : Nat} (hx : x < 32) (h : pj_J b c s0 x n z) : n = dg_mid x z ∧ n < 32 ∧ z < 32 ∧ ∃ d, d < 4 ∧ dg_T x d < 32 ∧ dg_T (dg_T x d) d = z := by
  obtain ⟨d, d1, d2, d3, d4, d5, d6, d7, d8⟩ := h
  subst d3
  subst d4
  exact ⟨dg_mid_T x hx d d1 d5 d6, d5, d6, d, d1, d5, rfl⟩
theorem la_983 {L kc ks : Nat} {xs : Nat → Int32} {post : Int32 → Prop} {J48 : _} {J858 : Int32 → Prop} {x2 x5 x7 x12 x14 x15 x16 x17 x18 x20 x21 lim sv : Int32} {G : eg_G} {a b : St2} {i k s0 : Nat} {j : Nat → Nat} (hA : eg_R lim G sv a) (hi : i < eg_M lim G.1) (hE : dg_E (pp_mv G.1 i))
    (hj : ∀ h, h + 1 < (pp_mv G.1 i).1 → pj_J G.1.1 (G.1.1 s0) s0 ((pp_mv G.1 i).2 h) (j h) ((pp_mv G.1 i).2 (h + 1))) (hk : k + 1 < (pp_mv G.1 i).1) (hd : ∀ h, h < k → j h ≠ j k) (h : J858 (nI (k + 2))) :
    ∀ (m h n : Nat), h + m = k → m < n → wL_law_983 post L xs J48 J858 x2 x5 x7 x12 (nI i) x14 x15 x16 x17 x18 x20 x21 (nI (k + 1)) (nI (j k)) kc ks a.1 a.2.1 a.2.2.1 a.2.2.2.1 a.2.2.2.2.1 a.2.2.2.2.2.1 a.2.2.2.2.2.2.1 a.2.2.2.2.2.2.2.1 a.2.2.2.2.2.2.2.2.1 a.2.2.2.2.2.2.2.2.2.1 a.2.2.2.2.2.2.2.2.2.2.1 a.2.2.2.2.2.2.2.2.2.2.2.1 a.2.2.2.2.2.2.2.2.2.2.2.2.1 a.2.2.2.2.2.2.2.2.2.2.2.2.2.1 a.2.2.2.2.2.2.2.2.2.2.2.2.2.2.1 a.2.2.2.2.2.2.2.2.2.2.2.2.2.2.2.1 a.2.2.2.2.2.2.2.2.2.2.2.2.2.2.2.2.1 a.2.2.2.2.2.2.2.2.2.2.2.2.2.2.2.2.2.1 a.2.2.2.2.2.2.2.2.2.2.2.2.2.2.2.2.2.2 b.1 b.2.1 b.2.2.1 b.2.2.2.1 b.2.2.2.2.1 b.2.2.2.2.2.1 b.2.2.2.2.2.2.1 b.2.2.2.2.2.2.2.1 b.2.2.2.2.2.2.2.2.1 b.2.2.2.2.2.2.2.2.2.1 b.2.2.2.2.2.2.2.2.2.2.1 b.2.2.2.2.2.2.2.2.2.2.2.1 b.2.2.2.2.2.2.2.2.2.2.2.2.1 b.2.2.2.2.2.2.2.2.2.2.2.2.2.1 b.2.2.2.2.2.2.2.2.2.2.2.2.2.2.1 b.2.2.2.2.2.2.2.2.2.2.2.2.2.2.2.1 b.2.2.2.2.2.2.2.2.2.2.2.2.2.2.2.2.1 b.2.2.2.2.2.2.2.2.2.2.2.2.2.2.2.2.2.1 b.2.2.2.2.2.2.2.2.2.2.2.2.2.2.2.2.2.2 n (nI (h + 1)) := by
  have h13 := hE.2.1
  intro m
  induction m with
  | zero =>
    intro h' n hh hn
    obtain ⟨n, rfl⟩ : ∃ g, n = g + 1 := ⟨n - 1, by omega⟩
    obtain rfl : h' = k := by omega
    exact br_t (nI_le (Nat.le_refl _) (by omega)) (nm_r (nI_1 (h' + 1)) h)
  | succ m ih =>
    intro h' n hh hn
    obtain ⟨n, rfl⟩ : ∃ g, n = g + 1 := ⟨n - 1, by omega⟩
    have q1 := hE.2.2.1 h' (by omega)
    have jj := la_J q1 (hj h' (by omega))
    have jk := la_J (hE.2.2.1 k (by omega)) (hj k hk)
    refine br_f (nI_ge (by omega) (by omega)) ?_
    rw [nI_pred h']
    refine la_sq hA hi (by omega) h13 (la_sq hA hi (by omega) h13 (ll_mid q1 jj.2.2.1 jj.2.2.2 ?_))
    rw [← jj.1]
    exact pk_eq (j h') (j k) (fun z => absurd z (hd h' (by omega))) (fun z => nm_r (nI_1 (h' + 1)) (ih (h' + 1) n (by omega) (by omega)))
theorem la_858 {L kc ks : Nat} {xs : Nat → Int32} {post : Int32 → Prop} {J48 : _} {x2 x5 x7 x12 x14 lim sv : Int32} {G : eg_G} {a b : St2} {i s0 : Nat} {j : Nat → Nat} (hA : eg_R lim G sv a) (hi : i < eg_M lim G.1) (hE : dg_E (pp_mv G.1 i)) (hs : s0 < 32) (ho : dg_own (G.1.1 s0) G.1.2.1)
    (hj : ∀ h, h + 1 < (pp_mv G.1 i).1 → pj_J G.1.1 (G.1.1 s0) s0 ((pp_mv G.1 i).2 h) (j h) ((pp_mv G.1 i).2 (h + 1)) ∧ (h + 2 < (pp_mv G.1 i).1 → ¬ dg_cr (G.1.1 s0) ((pp_mv G.1 i).2 (h + 1))) ∧ ∀ h', h' < h → j h' ≠ j h)
    (h0 : wL_law_1204 post L xs J48 x2 x5 x7 x12 (nI i) x14 G.1.2.1 kc ks a.1 a.2.1 a.2.2.1 a.2.2.2.1 a.2.2.2.2.1 a.2.2.2.2.2.1 a.2.2.2.2.2.2.1 a.2.2.2.2.2.2.2.1 a.2.2.2.2.2.2.2.2.1 a.2.2.2.2.2.2.2.2.2.1 a.2.2.2.2.2.2.2.2.2.2.1 a.2.2.2.2.2.2.2.2.2.2.2.1 a.2.2.2.2.2.2.2.2.2.2.2.2.1 a.2.2.2.2.2.2.2.2.2.2.2.2.2.1 a.2.2.2.2.2.2.2.2.2.2.2.2.2.2.1 a.2.2.2.2.2.2.2.2.2.2.2.2.2.2.2.1 a.2.2.2.2.2.2.2.2.2.2.2.2.2.2.2.2.1 a.2.2.2.2.2.2.2.2.2.2.2.2.2.2.2.2.2.1 a.2.2.2.2.2.2.2.2.2.2.2.2.2.2.2.2.2.2 b.1 b.2.1 b.2.2.1 b.2.2.2.1 b.2.2.2.2.1 b.2.2.2.2.2.1 b.2.2.2.2.2.2.1 b.2.2.2.2.2.2.2.1 b.2.2.2.2.2.2.2.2.1 b.2.2.2.2.2.2.2.2.2.1 b.2.2.2.2.2.2.2.2.2.2.1 b.2.2.2.2.2.2.2.2.2.2.2.1 b.2.2.2.2.2.2.2.2.2.2.2.2.1 b.2.2.2.2.2.2.2.2.2.2.2.2.2.1 b.2.2.2.2.2.2.2.2.2.2.2.2.2.2.1 b.2.2.2.2.2.2.2.2.2.2.2.2.2.2.2.1 b.2.2.2.2.2.2.2.2.2.2.2.2.2.2.2.2.1 b.2.2.2.2.2.2.2.2.2.2.2.2.2.2.2.2.2.1 b.2.2.2.2.2.2.2.2.2.2.2.2.2.2.2.2.2.2)
    (h1 : ¬ dg_cr (G.1.1 s0) ((pp_mv G.1 i).2 ((pp_mv G.1 i).1 - 1)) → ∃ fu, wL_law_1048 post L xs J48 x2 x5 x7 x12 (nI i) x14 G.1.2.1 (nI (pp_mv G.1 i).1) (la_fw G.1.2.1) (nI s0) (nI ((pp_mv G.1 i).2 ((pp_mv G.1 i).1 - 1))) (ll_kg (G.1.1 s0)) kc ks a.1 a.2.1 a.2.2.1 a.2.2.2.1 a.2.2.2.2.1 a.2.2.2.2.2.1 a.2.2.2.2.2.2.1 a.2.2.2.2.2.2.2.1 a.2.2.2.2.2.2.2.2.1 a.2.2.2.2.2.2.2.2.2.1 a.2.2.2.2.2.2.2.2.2.2.1 a.2.2.2.2.2.2.2.2.2.2.2.1 a.2.2.2.2.2.2.2.2.2.2.2.2.1 a.2.2.2.2.2.2.2.2.2.2.2.2.2.1 a.2.2.2.2.2.2.2.2.2.2.2.2.2.2.1 a.2.2.2.2.2.2.2.2.2.2.2.2.2.2.2.1 a.2.2.2.2.2.2.2.2.2.2.2.2.2.2.2.2.1 a.2.2.2.2.2.2.2.2.2.2.2.2.2.2.2.2.2.1 a.2.2.2.2.2.2.2.2.2.2.2.2.2.2.2.2.2.2 b.1 b.2.1 b.2.2.1 b.2.2.2.1 b.2.2.2.2.1 b.2.2.2.2.2.1 b.2.2.2.2.2.2.1 b.2.2.2.2.2.2.2.1 b.2.2.2.2.2.2.2.2.1 b.2.2.2.2.2.2.2.2.2.1 b.2.2.2.2.2.2.2.2.2.2.1 b.2.2.2.2.2.2.2.2.2.2.2.1 b.2.2.2.2.2.2.2.2.2.2.2.2.1 b.2.2.2.2.2.2.2.2.2.2.2.2.2.1 b.2.2.2.2.2.2.2.2.2.2.2.2.2.2.1 b.2.2.2.2.2.2.2.2.2.2.2.2.2.2.2.1 b.2.2.2.2.2.2.2.2.2.2.2.2.2.2.2.2.1 b.2.2.2.2.2.2.2.2.2.2.2.2.2.2.2.2.2.1 b.2.2.2.2.2.2.2.2.2.2.2.2.2.2.2.2.2.2 fu 0) :
    ∀ (m k n : Nat), k + 1 + m = (pp_mv G.1 i).1 → m < n → wL_law_858 post L xs J48 x2 x5 x7 x12 (nI i) x14 G.1.2.1 (nI (pp_mv G.1 i).1) (la_fw G.1.2.1) (nI s0) (nI ((pp_mv G.1 i).2 ((pp_mv G.1 i).1 - 1))) (ll_kg (G.1.1 s0)) kc ks a.1 a.2.1 a.2.2.1 a.2.2.2.1 a.2.2.2.2.1 a.2.2.2.2.2.1 a.2.2.2.2.2.2.1 a.2.2.2.2.2.2.2.1 a.2.2.2.2.2.2.2.2.1 a.2.2.2.2.2.2.2.2.2.1 a.2.2.2.2.2.2.2.2.2.2.1 a.2.2.2.2.2.2.2.2.2.2.2.1 a.2.2.2.2.2.2.2.2.2.2.2.2.1 a.2.2.2.2.2.2.2.2.2.2.2.2.2.1 a.2.2.2.2.2.2.2.2.2.2.2.2.2.2.1 a.2.2.2.2.2.2.2.2.2.2.2.2.2.2.2.1 a.2.2.2.2.2.2.2.2.2.2.2.2.2.2.2.2.1 a.2.2.2.2.2.2.2.2.2.2.2.2.2.2.2.2.2.1 a.2.2.2.2.2.2.2.2.2.2.2.2.2.2.2.2.2.2 b.1 b.2.1 b.2.2.1 b.2.2.2.1 b.2.2.2.2.1 b.2.2.2.2.2.1 b.2.2.2.2.2.2.1 b.2.2.2.2.2.2.2.1 b.2.2.2.2.2.2.2.2.1 b.2.2.2.2.2.2.2.2.2.1 b.2.2.2.2.2.2.2.2.2.2.1 b.2.2.2.2.2.2.2.2.2.2.2.1 b.2.2.2.2.2.2.2.2.2.2.2.2.1 b.2.2.2.2.2.2.2.2.2.2.2.2.2.1 b.2.2.2.2.2.2.2.2.2.2.2.2.2.2.1 b.2.2.2.2.2.2.2.2.2.2.2.2.2.2.2.1 b.2.2.2.2.2.2.2.2.2.2.2.2.2.2.2.2.1 b.2.2.2.2.2.2.2.2.2.2.2.2.2.2.2.2.2.1 b.2.2.2.2.2.2.2.2.2.2.2.2.2.2.2.2.2.2 n (nI (k + 1)) := by
  have h13 := hE.2.1
  have hc := eg_code hA hs
  have hsd := eg_sd hA
  intro m
  induction m with
  | zero =>
    intro k n hk hn
    obtain ⟨n, rfl⟩ : ∃ g, n = g + 1 := ⟨n - 1, by omega⟩
    have ql := hE.2.2.1 ((pp_mv G.1 i).1 - 1) (by omega)
    refine br_t (nI_le (by omega) (by omega)) (br_c (fun z => ll_crown ql (br_c (fun y => h1 ((la_cr ho hc z).mp y)) (fun y => h0))) (fun z => h1 (la_kg_cr z)))
  | succ m ih =>
    intro k n hk hn
    obtain ⟨n, rfl⟩ : ∃ g, n = g + 1 := ⟨n - 1, by omega⟩
    have g := hj k (by omega)
    have q1 := hE.2.2.1 k (by omega)
    have jj := la_J q1 g.1
    have nx := ih (k + 1) n (by omega) (by omega)
    refine br_f (nI_ge (by omega) (by omega)) ?_
    rw [nI_pred k]
    refine la_sq hA hi (by omega) h13 (la_sq hA hi (by omega) h13 (ll_mid q1 jj.2.2.1 jj.2.2.2 ?_))
    rw [← jj.1]
    have loop : ∃ fu, wL_law_983 post L xs J48 (wL_law_858 post L xs J48 x2 x5 x7 x12 (nI i) x14 G.1.2.1 (nI (pp_mv G.1 i).1) (la_fw G.1.2.1) (nI s0) (nI ((pp_mv G.1 i).2 ((pp_mv G.1 i).1 - 1))) (ll_kg (G.1.1 s0)) kc ks a.1 a.2.1 a.2.2.1 a.2.2.2.1 a.2.2.2.2.1 a.2.2.2.2.2.1 a.2.2.2.2.2.2.1 a.2.2.2.2.2.2.2.1 a.2.2.2.2.2.2.2.2.1 a.2.2.2.2.2.2.2.2.2.1 a.2.2.2.2.2.2.2.2.2.2.1 a.2.2.2.2.2.2.2.2.2.2.2.1 a.2.2.2.2.2.2.2.2.2.2.2.2.1 a.2.2.2.2.2.2.2.2.2.2.2.2.2.1 a.2.2.2.2.2.2.2.2.2.2.2.2.2.2.1 a.2.2.2.2.2.2.2.2.2.2.2.2.2.2.2.1 a.2.2.2.2.2.2.2.2.2.2.2.2.2.2.2.2.1 a.2.2.2.2.2.2.2.2.2.2.2.2.2.2.2.2.2.1 a.2.2.2.2.2.2.2.2.2.2.2.2.2.2.2.2.2.2 b.1 b.2.1 b.2.2.1 b.2.2.2.1 b.2.2.2.2.1 b.2.2.2.2.2.1 b.2.2.2.2.2.2.1 b.2.2.2.2.2.2.2.1 b.2.2.2.2.2.2.2.2.1 b.2.2.2.2.2.2.2.2.2.1 b.2.2.2.2.2.2.2.2.2.2.1 b.2.2.2.2.2.2.2.2.2.2.2.1 b.2.2.2.2.2.2.2.2.2.2.2.2.1 b.2.2.2.2.2.2.2.2.2.2.2.2.2.1 b.2.2.2.2.2.2.2.2.2.2.2.2.2.2.1 b.2.2.2.2.2.2.2.2.2.2.2.2.2.2.2.1 b.2.2.2.2.2.2.2.2.2.2.2.2.2.2.2.2.1 b.2.2.2.2.2.2.2.2.2.2.2.2.2.2.2.2.2.1 b.2.2.2.2.2.2.2.2.2.2.2.2.2.2.2.2.2.2 n) x2 x5 x7 x12 (nI i) x14 G.1.2.1 (nI (pp_mv G.1 i).1) (la_fw G.1.2.1) (nI s0) (nI ((pp_mv G.1 i).2 ((pp_mv G.1 i).1 - 1))) (ll_kg (G.1.1 s0)) (nI (k + 1)) (nI (j k)) kc ks a.1 a.2.1 a.2.2.1 a.2.2.2.1 a.2.2.2.2.1 a.2.2.2.2.2.1 a.2.2.2.2.2.2.1 a.2.2.2.2.2.2.2.1 a.2.2.2.2.2.2.2.2.1 a.2.2.2.2.2.2.2.2.2.1 a.2.2.2.2.2.2.2.2.2.2.1 a.2.2.2.2.2.2.2.2.2.2.2.1 a.2.2.2.2.2.2.2.2.2.2.2.2.1 a.2.2.2.2.2.2.2.2.2.2.2.2.2.1 a.2.2.2.2.2.2.2.2.2.2.2.2.2.2.1 a.2.2.2.2.2.2.2.2.2.2.2.2.2.2.2.1 a.2.2.2.2.2.2.2.2.2.2.2.2.2.2.2.2.1 a.2.2.2.2.2.2.2.2.2.2.2.2.2.2.2.2.2.1 a.2.2.2.2.2.2.2.2.2.2.2.2.2.2.2.2.2.2 b.1 b.2.1 b.2.2.1 b.2.2.2.1 b.2.2.2.2.1 b.2.2.2.2.2.1 b.2.2.2.2.2.2.1 b.2.2.2.2.2.2.2.1 b.2.2.2.2.2.2.2.2.1 b.2.2.2.2.2.2.2.2.2.1 b.2.2.2.2.2.2.2.2.2.2.1 b.2.2.2.2.2.2.2.2.2.2.2.1 b.2.2.2.2.2.2.2.2.2.2.2.2.1 b.2.2.2.2.2.2.2.2.2.2.2.2.2.1 b.2.2.2.2.2.2.2.2.2.2.2.2.2.2.1 b.2.2.2.2.2.2.2.2.2.2.2.2.2.2.2.1 b.2.2.2.2.2.2.2.2.2.2.2.2.2.2.2.2.1 b.2.2.2.2.2.2.2.2.2.2.2.2.2.2.2.2.2.1 b.2.2.2.2.2.2.2.2.2.2.2.2.2.2.2.2.2.2 fu 1 :=
      ⟨k + 1, la_983 hA hi hE (fun h hh => (hj h hh).1) (by omega) g.2.2 nx k 0 (k + 1) (by omega) (by omega)⟩
    have c954 : wL_law_954 post L xs J48 (wL_law_858 post L xs J48 x2 x5 x7 x12 (nI i) x14 G.1.2.1 (nI (pp_mv G.1 i).1) (la_fw G.1.2.1) (nI s0) (nI ((pp_mv G.1 i).2 ((pp_mv G.1 i).1 - 1))) (ll_kg (G.1.1 s0)) kc ks a.1 a.2.1 a.2.2.1 a.2.2.2.1 a.2.2.2.2.1 a.2.2.2.2.2.1 a.2.2.2.2.2.2.1 a.2.2.2.2.2.2.2.1 a.2.2.2.2.2.2.2.2.1 a.2.2.2.2.2.2.2.2.2.1 a.2.2.2.2.2.2.2.2.2.2.1 a.2.2.2.2.2.2.2.2.2.2.2.1 a.2.2.2.2.2.2.2.2.2.2.2.2.1 a.2.2.2.2.2.2.2.2.2.2.2.2.2.1 a.2.2.2.2.2.2.2.2.2.2.2.2.2.2.1 a.2.2.2.2.2.2.2.2.2.2.2.2.2.2.2.1 a.2.2.2.2.2.2.2.2.2.2.2.2.2.2.2.2.1 a.2.2.2.2.2.2.2.2.2.2.2.2.2.2.2.2.2.1 a.2.2.2.2.2.2.2.2.2.2.2.2.2.2.2.2.2.2 b.1 b.2.1 b.2.2.1 b.2.2.2.1 b.2.2.2.2.1 b.2.2.2.2.2.1 b.2.2.2.2.2.2.1 b.2.2.2.2.2.2.2.1 b.2.2.2.2.2.2.2.2.1 b.2.2.2.2.2.2.2.2.2.1 b.2.2.2.2.2.2.2.2.2.2.1 b.2.2.2.2.2.2.2.2.2.2.2.1 b.2.2.2.2.2.2.2.2.2.2.2.2.1 b.2.2.2.2.2.2.2.2.2.2.2.2.2.1 b.2.2.2.2.2.2.2.2.2.2.2.2.2.2.1 b.2.2.2.2.2.2.2.2.2.2.2.2.2.2.2.1 b.2.2.2.2.2.2.2.2.2.2.2.2.2.2.2.2.1 b.2.2.2.2.2.2.2.2.2.2.2.2.2.2.2.2.2.1 b.2.2.2.2.2.2.2.2.2.2.2.2.2.2.2.2.2.2 n) x2 x5 x7 x12 (nI i) x14 G.1.2.1 (nI (pp_mv G.1 i).1) (la_fw G.1.2.1) (nI s0) (nI ((pp_mv G.1 i).2 ((pp_mv G.1 i).1 - 1))) (ll_kg (G.1.1 s0)) (nI (k + 1)) (nI ((pp_mv G.1 i).2 (k + 1))) (nI (j k)) kc ks a.1 a.2.1 a.2.2.1 a.2.2.2.1 a.2.2.2.2.1 a.2.2.2.2.2.1 a.2.2.2.2.2.2.1 a.2.2.2.2.2.2.2.1 a.2.2.2.2.2.2.2.2.1 a.2.2.2.2.2.2.2.2.2.1 a.2.2.2.2.2.2.2.2.2.2.1 a.2.2.2.2.2.2.2.2.2.2.2.1 a.2.2.2.2.2.2.2.2.2.2.2.2.1 a.2.2.2.2.2.2.2.2.2.2.2.2.2.1 a.2.2.2.2.2.2.2.2.2.2.2.2.2.2.1 a.2.2.2.2.2.2.2.2.2.2.2.2.2.2.2.1 a.2.2.2.2.2.2.2.2.2.2.2.2.2.2.2.2.1 a.2.2.2.2.2.2.2.2.2.2.2.2.2.2.2.2.2.1 a.2.2.2.2.2.2.2.2.2.2.2.2.2.2.2.2.2.2 b.1 b.2.1 b.2.2.1 b.2.2.2.1 b.2.2.2.2.1 b.2.2.2.2.2.1 b.2.2.2.2.2.2.1 b.2.2.2.2.2.2.2.1 b.2.2.2.2.2.2.2.2.1 b.2.2.2.2.2.2.2.2.2.1 b.2.2.2.2.2.2.2.2.2.2.1 b.2.2.2.2.2.2.2.2.2.2.2.1 b.2.2.2.2.2.2.2.2.2.2.2.2.1 b.2.2.2.2.2.2.2.2.2.2.2.2.2.1 b.2.2.2.2.2.2.2.2.2.2.2.2.2.2.1 b.2.2.2.2.2.2.2.2.2.2.2.2.2.2.2.1 b.2.2.2.2.2.2.2.2.2.2.2.2.2.2.2.2.1 b.2.2.2.2.2.2.2.2.2.2.2.2.2.2.2.2.2.1 b.2.2.2.2.2.2.2.2.2.2.2.2.2.2.2.2.2.2 := by
      refine br_c (fun z => ?_) (fun z => loop)
      have e1 : nI (pp_mv G.1 i).1 - 1 = nI ((pp_mv G.1 i).1 - 1) := pk_sub (b := 1) (by omega)
      rw [e1]
      refine pk_le ((pp_mv G.1 i).1 - 1) (k + 1) (fun y => loop) (fun y => ll_crown jj.2.2.1 ?_)
      rw [(la_cr ho hc z).mpr (g.2.1 (by omega))]
      exact br_t rfl loop
    obtain ⟨d, d1, d2, d3, d4, d5, d6, d7, d8⟩ := g.1
    have hv := eg_code hA d5
    have hfo := la_foe (v := G.1.1 (j k)) ho hc hv
    have c922 : wL_law_922 post L xs J48 (wL_law_858 post L xs J48 x2 x5 x7 x12 (nI i) x14 G.1.2.1 (nI (pp_mv G.1 i).1) (la_fw G.1.2.1) (nI s0) (nI ((pp_mv G.1 i).2 ((pp_mv G.1 i).1 - 1))) (ll_kg (G.1.1 s0)) kc ks a.1 a.2.1 a.2.2.1 a.2.2.2.1 a.2.2.2.2.1 a.2.2.2.2.2.1 a.2.2.2.2.2.2.1 a.2.2.2.2.2.2.2.1 a.2.2.2.2.2.2.2.2.1 a.2.2.2.2.2.2.2.2.2.1 a.2.2.2.2.2.2.2.2.2.2.1 a.2.2.2.2.2.2.2.2.2.2.2.1 a.2.2.2.2.2.2.2.2.2.2.2.2.1 a.2.2.2.2.2.2.2.2.2.2.2.2.2.1 a.2.2.2.2.2.2.2.2.2.2.2.2.2.2.1 a.2.2.2.2.2.2.2.2.2.2.2.2.2.2.2.1 a.2.2.2.2.2.2.2.2.2.2.2.2.2.2.2.2.1 a.2.2.2.2.2.2.2.2.2.2.2.2.2.2.2.2.2.1 a.2.2.2.2.2.2.2.2.2.2.2.2.2.2.2.2.2.2 b.1 b.2.1 b.2.2.1 b.2.2.2.1 b.2.2.2.2.1 b.2.2.2.2.2.1 b.2.2.2.2.2.2.1 b.2.2.2.2.2.2.2.1 b.2.2.2.2.2.2.2.2.1 b.2.2.2.2.2.2.2.2.2.1 b.2.2.2.2.2.2.2.2.2.2.1 b.2.2.2.2.2.2.2.2.2.2.2.1 b.2.2.2.2.2.2.2.2.2.2.2.2.1 b.2.2.2.2.2.2.2.2.2.2.2.2.2.1 b.2.2.2.2.2.2.2.2.2.2.2.2.2.2.1 b.2.2.2.2.2.2.2.2.2.2.2.2.2.2.2.1 b.2.2.2.2.2.2.2.2.2.2.2.2.2.2.2.2.1 b.2.2.2.2.2.2.2.2.2.2.2.2.2.2.2.2.2.1 b.2.2.2.2.2.2.2.2.2.2.2.2.2.2.2.2.2.2 n) x2 x5 x7 x12 (nI i) x14 G.1.2.1 (nI (pp_mv G.1 i).1) (la_fw G.1.2.1) (nI s0) (nI ((pp_mv G.1 i).2 ((pp_mv G.1 i).1 - 1))) (ll_kg (G.1.1 s0)) (nI (k + 1)) (nI ((pp_mv G.1 i).2 (k + 1))) (nI (j k)) kc ks a.1 a.2.1 a.2.2.1 a.2.2.2.1 a.2.2.2.2.1 a.2.2.2.2.2.1 a.2.2.2.2.2.2.1 a.2.2.2.2.2.2.2.1 a.2.2.2.2.2.2.2.2.1 a.2.2.2.2.2.2.2.2.2.1 a.2.2.2.2.2.2.2.2.2.2.1 a.2.2.2.2.2.2.2.2.2.2.2.1 a.2.2.2.2.2.2.2.2.2.2.2.2.1 a.2.2.2.2.2.2.2.2.2.2.2.2.2.1 a.2.2.2.2.2.2.2.2.2.2.2.2.2.2.1 a.2.2.2.2.2.2.2.2.2.2.2.2.2.2.2.1 a.2.2.2.2.2.2.2.2.2.2.2.2.2.2.2.2.1 a.2.2.2.2.2.2.2.2.2.2.2.2.2.2.2.2.2.1 a.2.2.2.2.2.2.2.2.2.2.2.2.2.2.2.2.2.2 b.1 b.2.1 b.2.2.1 b.2.2.2.1 b.2.2.2.2.1 b.2.2.2.2.2.1 b.2.2.2.2.2.2.1 b.2.2.2.2.2.2.2.1 b.2.2.2.2.2.2.2.2.1 b.2.2.2.2.2.2.2.2.2.1 b.2.2.2.2.2.2.2.2.2.2.1 b.2.2.2.2.2.2.2.2.2.2.2.1 b.2.2.2.2.2.2.2.2.2.2.2.2.1 b.2.2.2.2.2.2.2.2.2.2.2.2.2.1 b.2.2.2.2.2.2.2.2.2.2.2.2.2.2.1 b.2.2.2.2.2.2.2.2.2.2.2.2.2.2.2.1 b.2.2.2.2.2.2.2.2.2.2.2.2.2.2.2.2.1 b.2.2.2.2.2.2.2.2.2.2.2.2.2.2.2.2.2.1 b.2.2.2.2.2.2.2.2.2.2.2.2.2.2.2.2.2.2 := by
      unfold wL_law_922
      refine ex_piece d5 hA (ll_own hv (la_sd1 hsd) (fun o => br_f (by decide) (pk_eq ((pp_mv G.1 i).2 (k + 1)) s0 (fun z => c954) (fun z => ex_piece d6 hA ?_))) (fun o => absurd (hfo.mpr d7) o))
      rcases d8 with y | y
      · rw [y]; exact br_t rfl c954
      · exact absurd y z
    refine br_f (nI_pos (by omega)) (br_c (fun z => ?_) (fun z => c922))
    rw [la_shr _ d6, la_shr _ q1]
    refine br_t ?_ c922
    have r := la_row q1 d1 (by rw [d3]; exact d5) (by rw [d3, d4]; exact d6) ho hc z d2
    rw [d3, d4] at r
    exact r
theorem la_1149 {L kc ks : Nat} {xs : Nat → Int32} {post : Int32 → Prop} {J48 : _} {J1048 : Int32 → Prop} {x2 x5 x7 x12 x14 x15 x17 x18 x20 x21 lim sv : Int32} {G : eg_G} {a b : St2} {i s0 d n0 : Nat} {j : Nat → Nat} (hA : eg_R lim G sv a) (hi : i < eg_M lim G.1) (hE : dg_E (pp_mv G.1 i))
    (hj : ∀ h, h + 1 < (pp_mv G.1 i).1 → pj_J G.1.1 (G.1.1 s0) s0 ((pp_mv G.1 i).2 h) (j h) ((pp_mv G.1 i).2 (h + 1))) (hn0 : n0 < 32) (hd4 : d < 4) (h : J1048 (nI (d + 1))) :
    ∀ (m h n : Nat) (f : Int32), h + 1 + m = (pp_mv G.1 i).1 → m < n → (¬ f = 0 ∨ ∃ h', h ≤ h' ∧ h' + 1 < (pp_mv G.1 i).1 ∧ j h' = n0) → wL_law_1149 post L xs J48 J1048 x2 x5 x7 x12 (nI i) x14 x15 (nI (pp_mv G.1 i).1) x17 x18 x20 x21 (nI d) (nI n0) kc ks a.1 a.2.1 a.2.2.1 a.2.2.2.1 a.2.2.2.2.1 a.2.2.2.2.2.1 a.2.2.2.2.2.2.1 a.2.2.2.2.2.2.2.1 a.2.2.2.2.2.2.2.2.1 a.2.2.2.2.2.2.2.2.2.1 a.2.2.2.2.2.2.2.2.2.2.1 a.2.2.2.2.2.2.2.2.2.2.2.1 a.2.2.2.2.2.2.2.2.2.2.2.2.1 a.2.2.2.2.2.2.2.2.2.2.2.2.2.1 a.2.2.2.2.2.2.2.2.2.2.2.2.2.2.1 a.2.2.2.2.2.2.2.2.2.2.2.2.2.2.2.1 a.2.2.2.2.2.2.2.2.2.2.2.2.2.2.2.2.1 a.2.2.2.2.2.2.2.2.2.2.2.2.2.2.2.2.2.1 a.2.2.2.2.2.2.2.2.2.2.2.2.2.2.2.2.2.2 b.1 b.2.1 b.2.2.1 b.2.2.2.1 b.2.2.2.2.1 b.2.2.2.2.2.1 b.2.2.2.2.2.2.1 b.2.2.2.2.2.2.2.1 b.2.2.2.2.2.2.2.2.1 b.2.2.2.2.2.2.2.2.2.1 b.2.2.2.2.2.2.2.2.2.2.1 b.2.2.2.2.2.2.2.2.2.2.2.1 b.2.2.2.2.2.2.2.2.2.2.2.2.1 b.2.2.2.2.2.2.2.2.2.2.2.2.2.1 b.2.2.2.2.2.2.2.2.2.2.2.2.2.2.1 b.2.2.2.2.2.2.2.2.2.2.2.2.2.2.2.1 b.2.2.2.2.2.2.2.2.2.2.2.2.2.2.2.2.1 b.2.2.2.2.2.2.2.2.2.2.2.2.2.2.2.2.2.1 b.2.2.2.2.2.2.2.2.2.2.2.2.2.2.2.2.2.2 n f (nI (h + 1)) := by
  have h13 := hE.2.1
  intro m
  induction m with
  | zero =>
    intro h' n f hh hn hf
    obtain ⟨n, rfl⟩ : ∃ g, n = g + 1 := ⟨n - 1, by omega⟩
    refine br_t (nI_le (by omega) (by omega)) (br_f ?_ (nm_r (nI_1 d) h))
    rcases hf with z | ⟨h'', y1, y2, _⟩
    · exact z
    · omega
  | succ m ih =>
    intro h' n f hh hn hf
    obtain ⟨n, rfl⟩ : ∃ g, n = g + 1 := ⟨n - 1, by omega⟩
    have q1 := hE.2.2.1 h' (by omega)
    have jj := la_J q1 (hj h' (by omega))
    refine br_f (nI_ge (by omega) (by omega)) ?_
    rw [nI_pred h']
    refine la_sq hA hi (by omega) h13 (la_sq hA hi (by omega) h13 (ll_mid q1 jj.2.2.1 jj.2.2.2 ?_))
    rw [← jj.1]
    refine pk_eq (j h') n0 (fun z => nm_r (nI_1 (h' + 1)) (ih (h' + 1) n 1 (by omega) (by omega) (Or.inl (by decide)))) (fun z => nm_r (nI_1 (h' + 1)) (ih (h' + 1) n f (by omega) (by omega) ?_))
    rcases hf with w | ⟨h'', y1, y2, y3⟩
    · exact Or.inl w
    · refine Or.inr ⟨h'', ?_, y2, y3⟩
      by_cases e : h'' = h'
      · subst e; exact absurd y3 z
      · omega
theorem la_1048 {L kc ks : Nat} {xs : Nat → Int32} {post : Int32 → Prop} {J48 : _} {x2 x5 x7 x12 x14 lim sv : Int32} {G : eg_G} {a b : St2} {i s0 lt : Nat} {j : Nat → Nat} (hA : eg_R lim G sv a) (hi : i < eg_M lim G.1) (hE : dg_E (pp_mv G.1 i)) (hs : s0 < 32) (hlt : lt < 32) (ho : dg_own (G.1.1 s0) G.1.2.1)
    (hj : ∀ h, h + 1 < (pp_mv G.1 i).1 → pj_J G.1.1 (G.1.1 s0) s0 ((pp_mv G.1 i).2 h) (j h) ((pp_mv G.1 i).2 (h + 1)))
    (hno : ∀ d, d < 4 → dg_ok (G.1.1 s0) d → dg_T lt d < 32 → dg_T (dg_T lt d) d < 32 → (¬ G.1.1 (dg_T lt d) = 0 ∧ ¬ (G.1.1 (dg_T lt d) ≤ 2 ↔ G.1.1 s0 ≤ 2)) → (G.1.1 (dg_T (dg_T lt d) d) = 0 ∨ dg_T (dg_T lt d) d = s0) → ∃ h, h + 1 < (pp_mv G.1 i).1 ∧ j h = dg_T lt d)
    (h0 : wL_law_1204 post L xs J48 x2 x5 x7 x12 (nI i) x14 G.1.2.1 kc ks a.1 a.2.1 a.2.2.1 a.2.2.2.1 a.2.2.2.2.1 a.2.2.2.2.2.1 a.2.2.2.2.2.2.1 a.2.2.2.2.2.2.2.1 a.2.2.2.2.2.2.2.2.1 a.2.2.2.2.2.2.2.2.2.1 a.2.2.2.2.2.2.2.2.2.2.1 a.2.2.2.2.2.2.2.2.2.2.2.1 a.2.2.2.2.2.2.2.2.2.2.2.2.1 a.2.2.2.2.2.2.2.2.2.2.2.2.2.1 a.2.2.2.2.2.2.2.2.2.2.2.2.2.2.1 a.2.2.2.2.2.2.2.2.2.2.2.2.2.2.2.1 a.2.2.2.2.2.2.2.2.2.2.2.2.2.2.2.2.1 a.2.2.2.2.2.2.2.2.2.2.2.2.2.2.2.2.2.1 a.2.2.2.2.2.2.2.2.2.2.2.2.2.2.2.2.2.2 b.1 b.2.1 b.2.2.1 b.2.2.2.1 b.2.2.2.2.1 b.2.2.2.2.2.1 b.2.2.2.2.2.2.1 b.2.2.2.2.2.2.2.1 b.2.2.2.2.2.2.2.2.1 b.2.2.2.2.2.2.2.2.2.1 b.2.2.2.2.2.2.2.2.2.2.1 b.2.2.2.2.2.2.2.2.2.2.2.1 b.2.2.2.2.2.2.2.2.2.2.2.2.1 b.2.2.2.2.2.2.2.2.2.2.2.2.2.1 b.2.2.2.2.2.2.2.2.2.2.2.2.2.2.1 b.2.2.2.2.2.2.2.2.2.2.2.2.2.2.2.1 b.2.2.2.2.2.2.2.2.2.2.2.2.2.2.2.2.1 b.2.2.2.2.2.2.2.2.2.2.2.2.2.2.2.2.2.1 b.2.2.2.2.2.2.2.2.2.2.2.2.2.2.2.2.2.2) :
    ∀ (m d n : Nat), d + m = 4 → m < n → wL_law_1048 post L xs J48 x2 x5 x7 x12 (nI i) x14 G.1.2.1 (nI (pp_mv G.1 i).1) (la_fw G.1.2.1) (nI s0) (nI lt) (ll_kg (G.1.1 s0)) kc ks a.1 a.2.1 a.2.2.1 a.2.2.2.1 a.2.2.2.2.1 a.2.2.2.2.2.1 a.2.2.2.2.2.2.1 a.2.2.2.2.2.2.2.1 a.2.2.2.2.2.2.2.2.1 a.2.2.2.2.2.2.2.2.2.1 a.2.2.2.2.2.2.2.2.2.2.1 a.2.2.2.2.2.2.2.2.2.2.2.1 a.2.2.2.2.2.2.2.2.2.2.2.2.1 a.2.2.2.2.2.2.2.2.2.2.2.2.2.1 a.2.2.2.2.2.2.2.2.2.2.2.2.2.2.1 a.2.2.2.2.2.2.2.2.2.2.2.2.2.2.2.1 a.2.2.2.2.2.2.2.2.2.2.2.2.2.2.2.2.1 a.2.2.2.2.2.2.2.2.2.2.2.2.2.2.2.2.2.1 a.2.2.2.2.2.2.2.2.2.2.2.2.2.2.2.2.2.2 b.1 b.2.1 b.2.2.1 b.2.2.2.1 b.2.2.2.2.1 b.2.2.2.2.2.1 b.2.2.2.2.2.2.1 b.2.2.2.2.2.2.2.1 b.2.2.2.2.2.2.2.2.1 b.2.2.2.2.2.2.2.2.2.1 b.2.2.2.2.2.2.2.2.2.2.1 b.2.2.2.2.2.2.2.2.2.2.2.1 b.2.2.2.2.2.2.2.2.2.2.2.2.1 b.2.2.2.2.2.2.2.2.2.2.2.2.2.1 b.2.2.2.2.2.2.2.2.2.2.2.2.2.2.1 b.2.2.2.2.2.2.2.2.2.2.2.2.2.2.2.1 b.2.2.2.2.2.2.2.2.2.2.2.2.2.2.2.2.1 b.2.2.2.2.2.2.2.2.2.2.2.2.2.2.2.2.2.1 b.2.2.2.2.2.2.2.2.2.2.2.2.2.2.2.2.2.2 n (nI d) := by
  have hc := eg_code hA hs
  have hsd := eg_sd hA
  have h2 := hE.1
  intro m
  induction m with
  | zero =>
    intro d n hd hn
    obtain ⟨n, rfl⟩ : ∃ g, n = g + 1 := ⟨n - 1, by omega⟩
    obtain rfl : d = 4 := by omega
    exact br_t (nI_le (a := 4) (Nat.le_refl 4) (by omega)) h0
  | succ m ih =>
    intro d n hd hn
    obtain ⟨n, rfl⟩ : ∃ g, n = g + 1 := ⟨n - 1, by omega⟩
    have nx := ih (d + 1) n (by omega) (by omega)
    have hok := la_ok ho hc (d := d) (by omega)
    refine br_f (nI_ge (b := 4) (by omega) (by omega)) (ll_dR (by omega) (ll_dC (by omega) (ll_nb hlt (by omega) (ll_dR (by omega) (ll_dC (by omega) (ll_nb2 hlt (by omega) ?_))))))
    have go : dg_ok (G.1.1 s0) (3 - d) → wL_law_1103 post L xs J48 (wL_law_1048 post L xs J48 x2 x5 x7 x12 (nI i) x14 G.1.2.1 (nI (pp_mv G.1 i).1) (la_fw G.1.2.1) (nI s0) (nI lt) (ll_kg (G.1.1 s0)) kc ks a.1 a.2.1 a.2.2.1 a.2.2.2.1 a.2.2.2.2.1 a.2.2.2.2.2.1 a.2.2.2.2.2.2.1 a.2.2.2.2.2.2.2.1 a.2.2.2.2.2.2.2.2.1 a.2.2.2.2.2.2.2.2.2.1 a.2.2.2.2.2.2.2.2.2.2.1 a.2.2.2.2.2.2.2.2.2.2.2.1 a.2.2.2.2.2.2.2.2.2.2.2.2.1 a.2.2.2.2.2.2.2.2.2.2.2.2.2.1 a.2.2.2.2.2.2.2.2.2.2.2.2.2.2.1 a.2.2.2.2.2.2.2.2.2.2.2.2.2.2.2.1 a.2.2.2.2.2.2.2.2.2.2.2.2.2.2.2.2.1 a.2.2.2.2.2.2.2.2.2.2.2.2.2.2.2.2.2.1 a.2.2.2.2.2.2.2.2.2.2.2.2.2.2.2.2.2.2 b.1 b.2.1 b.2.2.1 b.2.2.2.1 b.2.2.2.2.1 b.2.2.2.2.2.1 b.2.2.2.2.2.2.1 b.2.2.2.2.2.2.2.1 b.2.2.2.2.2.2.2.2.1 b.2.2.2.2.2.2.2.2.2.1 b.2.2.2.2.2.2.2.2.2.2.1 b.2.2.2.2.2.2.2.2.2.2.2.1 b.2.2.2.2.2.2.2.2.2.2.2.2.1 b.2.2.2.2.2.2.2.2.2.2.2.2.2.1 b.2.2.2.2.2.2.2.2.2.2.2.2.2.2.1 b.2.2.2.2.2.2.2.2.2.2.2.2.2.2.2.1 b.2.2.2.2.2.2.2.2.2.2.2.2.2.2.2.2.1 b.2.2.2.2.2.2.2.2.2.2.2.2.2.2.2.2.2.1 b.2.2.2.2.2.2.2.2.2.2.2.2.2.2.2.2.2.2 n) x2 x5 x7 x12 (nI i) x14 G.1.2.1 (nI (pp_mv G.1 i).1) (la_fw G.1.2.1) (nI s0) (nI lt) (ll_kg (G.1.1 s0)) (nI d) (dg_enc (dg_T lt (3 - d))) (dg_enc (ll_T2 lt (3 - d))) kc ks a.1 a.2.1 a.2.2.1 a.2.2.2.1 a.2.2.2.2.1 a.2.2.2.2.2.1 a.2.2.2.2.2.2.1 a.2.2.2.2.2.2.2.1 a.2.2.2.2.2.2.2.2.1 a.2.2.2.2.2.2.2.2.2.1 a.2.2.2.2.2.2.2.2.2.2.1 a.2.2.2.2.2.2.2.2.2.2.2.1 a.2.2.2.2.2.2.2.2.2.2.2.2.1 a.2.2.2.2.2.2.2.2.2.2.2.2.2.1 a.2.2.2.2.2.2.2.2.2.2.2.2.2.2.1 a.2.2.2.2.2.2.2.2.2.2.2.2.2.2.2.1 a.2.2.2.2.2.2.2.2.2.2.2.2.2.2.2.2.1 a.2.2.2.2.2.2.2.2.2.2.2.2.2.2.2.2.2.1 a.2.2.2.2.2.2.2.2.2.2.2.2.2.2.2.2.2.2 b.1 b.2.1 b.2.2.1 b.2.2.2.1 b.2.2.2.2.1 b.2.2.2.2.2.1 b.2.2.2.2.2.2.1 b.2.2.2.2.2.2.2.1 b.2.2.2.2.2.2.2.2.1 b.2.2.2.2.2.2.2.2.2.1 b.2.2.2.2.2.2.2.2.2.2.1 b.2.2.2.2.2.2.2.2.2.2.2.1 b.2.2.2.2.2.2.2.2.2.2.2.2.1 b.2.2.2.2.2.2.2.2.2.2.2.2.2.1 b.2.2.2.2.2.2.2.2.2.2.2.2.2.2.1 b.2.2.2.2.2.2.2.2.2.2.2.2.2.2.2.1 b.2.2.2.2.2.2.2.2.2.2.2.2.2.2.2.2.1 b.2.2.2.2.2.2.2.2.2.2.2.2.2.2.2.2.2.1 b.2.2.2.2.2.2.2.2.2.2.2.2.2.2.2.2.2.2 := by
      intro k
      by_cases hT : dg_T lt (3 - d) < 32
      · have e2 : ll_T2 lt (3 - d) = dg_T (dg_T lt (3 - d)) (3 - d) := if_pos hT
        rw [e2]
        by_cases hL : dg_T (dg_T lt (3 - d)) (3 - d) < 32
        · have hv := eg_code hA hT
          have hw := eg_code hA hL
          have hfo := la_foe (v := G.1.1 (dg_T lt (3 - d))) ho hc hv
          rw [dg_enc_lt hT, dg_enc_lt hL]
          refine br_f (dg_enc_n _ hL).2 (ex_piece hT hA (ll_own hv (la_sd1 hsd) (fun o => br_f (by decide) (ex_piece hL hA ?_)) (fun o => br_t rfl (nm_r (nI_1 d) nx))))
          have use : (G.1.1 (dg_T (dg_T lt (3 - d)) (3 - d)) = 0 ∨ dg_T (dg_T lt (3 - d)) (3 - d) = s0) → ∃ fu, wL_law_1149 post L xs J48 (wL_law_1048 post L xs J48 x2 x5 x7 x12 (nI i) x14 G.1.2.1 (nI (pp_mv G.1 i).1) (la_fw G.1.2.1) (nI s0) (nI lt) (ll_kg (G.1.1 s0)) kc ks a.1 a.2.1 a.2.2.1 a.2.2.2.1 a.2.2.2.2.1 a.2.2.2.2.2.1 a.2.2.2.2.2.2.1 a.2.2.2.2.2.2.2.1 a.2.2.2.2.2.2.2.2.1 a.2.2.2.2.2.2.2.2.2.1 a.2.2.2.2.2.2.2.2.2.2.1 a.2.2.2.2.2.2.2.2.2.2.2.1 a.2.2.2.2.2.2.2.2.2.2.2.2.1 a.2.2.2.2.2.2.2.2.2.2.2.2.2.1 a.2.2.2.2.2.2.2.2.2.2.2.2.2.2.1 a.2.2.2.2.2.2.2.2.2.2.2.2.2.2.2.1 a.2.2.2.2.2.2.2.2.2.2.2.2.2.2.2.2.1 a.2.2.2.2.2.2.2.2.2.2.2.2.2.2.2.2.2.1 a.2.2.2.2.2.2.2.2.2.2.2.2.2.2.2.2.2.2 b.1 b.2.1 b.2.2.1 b.2.2.2.1 b.2.2.2.2.1 b.2.2.2.2.2.1 b.2.2.2.2.2.2.1 b.2.2.2.2.2.2.2.1 b.2.2.2.2.2.2.2.2.1 b.2.2.2.2.2.2.2.2.2.1 b.2.2.2.2.2.2.2.2.2.2.1 b.2.2.2.2.2.2.2.2.2.2.2.1 b.2.2.2.2.2.2.2.2.2.2.2.2.1 b.2.2.2.2.2.2.2.2.2.2.2.2.2.1 b.2.2.2.2.2.2.2.2.2.2.2.2.2.2.1 b.2.2.2.2.2.2.2.2.2.2.2.2.2.2.2.1 b.2.2.2.2.2.2.2.2.2.2.2.2.2.2.2.2.1 b.2.2.2.2.2.2.2.2.2.2.2.2.2.2.2.2.2.1 b.2.2.2.2.2.2.2.2.2.2.2.2.2.2.2.2.2.2 n) x2 x5 x7 x12 (nI i) x14 G.1.2.1 (nI (pp_mv G.1 i).1) (la_fw G.1.2.1) (nI s0) (nI lt) (ll_kg (G.1.1 s0)) (nI d) (nI (dg_T lt (3 - d))) kc ks a.1 a.2.1 a.2.2.1 a.2.2.2.1 a.2.2.2.2.1 a.2.2.2.2.2.1 a.2.2.2.2.2.2.1 a.2.2.2.2.2.2.2.1 a.2.2.2.2.2.2.2.2.1 a.2.2.2.2.2.2.2.2.2.1 a.2.2.2.2.2.2.2.2.2.2.1 a.2.2.2.2.2.2.2.2.2.2.2.1 a.2.2.2.2.2.2.2.2.2.2.2.2.1 a.2.2.2.2.2.2.2.2.2.2.2.2.2.1 a.2.2.2.2.2.2.2.2.2.2.2.2.2.2.1 a.2.2.2.2.2.2.2.2.2.2.2.2.2.2.2.1 a.2.2.2.2.2.2.2.2.2.2.2.2.2.2.2.2.1 a.2.2.2.2.2.2.2.2.2.2.2.2.2.2.2.2.2.1 a.2.2.2.2.2.2.2.2.2.2.2.2.2.2.2.2.2.2 b.1 b.2.1 b.2.2.1 b.2.2.2.1 b.2.2.2.2.1 b.2.2.2.2.2.1 b.2.2.2.2.2.2.1 b.2.2.2.2.2.2.2.1 b.2.2.2.2.2.2.2.2.1 b.2.2.2.2.2.2.2.2.2.1 b.2.2.2.2.2.2.2.2.2.2.1 b.2.2.2.2.2.2.2.2.2.2.2.1 b.2.2.2.2.2.2.2.2.2.2.2.2.1 b.2.2.2.2.2.2.2.2.2.2.2.2.2.1 b.2.2.2.2.2.2.2.2.2.2.2.2.2.2.1 b.2.2.2.2.2.2.2.2.2.2.2.2.2.2.2.1 b.2.2.2.2.2.2.2.2.2.2.2.2.2.2.2.2.1 b.2.2.2.2.2.2.2.2.2.2.2.2.2.2.2.2.2.1 b.2.2.2.2.2.2.2.2.2.2.2.2.2.2.2.2.2.2 fu 0 1 := by
            intro hz
            obtain ⟨h', y1, y2⟩ := hno (3 - d) (by omega) k hT hL (hfo.mp o) hz
            exact ⟨(pp_mv G.1 i).1, la_1149 hA hi hE hj hT (by omega) nx ((pp_mv G.1 i).1 - 1) 0 _ 0 (by omega) (by omega) (Or.inr ⟨h', Nat.zero_le _, y1, y2⟩)⟩
          exact pk_eq (G.1.1 (dg_T (dg_T lt (3 - d)) (3 - d))) 0 (fun z => use (Or.inl z)) (fun z => pk_eq (dg_T (dg_T lt (3 - d)) (3 - d)) s0 (fun y => use (Or.inr y)) (fun y => nm_r (nI_1 d) nx))
        · rw [dg_enc_ge hL]
          exact br_t (by decide) (nm_r (nI_1 d) nx)
      · have e2 : ll_T2 lt (3 - d) = 32 := if_neg hT
        rw [e2, dg_enc_ge (n := 32) (by omega)]
        exact br_t (by decide) (nm_r (nI_1 d) nx)
    exact br_c (fun z => ll_dR (by omega) (br_c (fun y => go (hok.mp (Or.inr y))) (fun y => nm_r (nI_1 d) nx))) (fun z => go (hok.mp (Or.inl z)))
/-- the whole test of the move -/
theorem la_574 {L kc ks : Nat} {xs : Nat → Int32} {post : Int32 → Prop} {J48 : _} {x2 x5 x7 x12 x14 lim sv : Int32} {G : eg_G} {a b : St2} {i : Nat} (hA : eg_R lim G sv a) (hi : i < eg_M lim G.1)
    (h0 : wL_law_1204 post L xs J48 x2 x5 x7 x12 (nI i) x14 G.1.2.1 kc ks a.1 a.2.1 a.2.2.1 a.2.2.2.1 a.2.2.2.2.1 a.2.2.2.2.2.1 a.2.2.2.2.2.2.1 a.2.2.2.2.2.2.2.1 a.2.2.2.2.2.2.2.2.1 a.2.2.2.2.2.2.2.2.2.1 a.2.2.2.2.2.2.2.2.2.2.1 a.2.2.2.2.2.2.2.2.2.2.2.1 a.2.2.2.2.2.2.2.2.2.2.2.2.1 a.2.2.2.2.2.2.2.2.2.2.2.2.2.1 a.2.2.2.2.2.2.2.2.2.2.2.2.2.2.1 a.2.2.2.2.2.2.2.2.2.2.2.2.2.2.2.1 a.2.2.2.2.2.2.2.2.2.2.2.2.2.2.2.2.1 a.2.2.2.2.2.2.2.2.2.2.2.2.2.2.2.2.2.1 a.2.2.2.2.2.2.2.2.2.2.2.2.2.2.2.2.2.2 b.1 b.2.1 b.2.2.1 b.2.2.2.1 b.2.2.2.2.1 b.2.2.2.2.2.1 b.2.2.2.2.2.2.1 b.2.2.2.2.2.2.2.1 b.2.2.2.2.2.2.2.2.1 b.2.2.2.2.2.2.2.2.2.1 b.2.2.2.2.2.2.2.2.2.2.1 b.2.2.2.2.2.2.2.2.2.2.2.1 b.2.2.2.2.2.2.2.2.2.2.2.2.1 b.2.2.2.2.2.2.2.2.2.2.2.2.2.1 b.2.2.2.2.2.2.2.2.2.2.2.2.2.2.1 b.2.2.2.2.2.2.2.2.2.2.2.2.2.2.2.1 b.2.2.2.2.2.2.2.2.2.2.2.2.2.2.2.2.1 b.2.2.2.2.2.2.2.2.2.2.2.2.2.2.2.2.2.1 b.2.2.2.2.2.2.2.2.2.2.2.2.2.2.2.2.2.2) :
    wL_law_574 post L xs J48 x2 x5 x7 x12 (nI i) x14 G.1.2.1 (nI (pp_mv G.1 i).1) (la_fw G.1.2.1) kc ks a.1 a.2.1 a.2.2.1 a.2.2.2.1 a.2.2.2.2.1 a.2.2.2.2.2.1 a.2.2.2.2.2.2.1 a.2.2.2.2.2.2.2.1 a.2.2.2.2.2.2.2.2.1 a.2.2.2.2.2.2.2.2.2.1 a.2.2.2.2.2.2.2.2.2.2.1 a.2.2.2.2.2.2.2.2.2.2.2.1 a.2.2.2.2.2.2.2.2.2.2.2.2.1 a.2.2.2.2.2.2.2.2.2.2.2.2.2.1 a.2.2.2.2.2.2.2.2.2.2.2.2.2.2.1 a.2.2.2.2.2.2.2.2.2.2.2.2.2.2.2.1 a.2.2.2.2.2.2.2.2.2.2.2.2.2.2.2.2.1 a.2.2.2.2.2.2.2.2.2.2.2.2.2.2.2.2.2.1 a.2.2.2.2.2.2.2.2.2.2.2.2.2.2.2.2.2.2 b.1 b.2.1 b.2.2.1 b.2.2.2.1 b.2.2.2.2.1 b.2.2.2.2.2.1 b.2.2.2.2.2.2.1 b.2.2.2.2.2.2.2.1 b.2.2.2.2.2.2.2.2.1 b.2.2.2.2.2.2.2.2.2.1 b.2.2.2.2.2.2.2.2.2.2.1 b.2.2.2.2.2.2.2.2.2.2.2.1 b.2.2.2.2.2.2.2.2.2.2.2.2.1 b.2.2.2.2.2.2.2.2.2.2.2.2.2.1 b.2.2.2.2.2.2.2.2.2.2.2.2.2.2.1 b.2.2.2.2.2.2.2.2.2.2.2.2.2.2.2.1 b.2.2.2.2.2.2.2.2.2.2.2.2.2.2.2.2.1 b.2.2.2.2.2.2.2.2.2.2.2.2.2.2.2.2.2.1 b.2.2.2.2.2.2.2.2.2.2.2.2.2.2.2.2.2.2 := by
  have hM : eg_M lim G.1 ≤ (pp_ls G.1).length := by unfold eg_M; split <;> omega
  obtain ⟨hE, hmem⟩ := pp_mv_E (P := G.1) (i := i) (by omega)
  have h2 := hE.1
  have h13 := hE.2.1
  have hsd := eg_sd hA
  have q0 := hE.2.2.1 0 (by omega)
  have ql := hE.2.2.1 ((pp_mv G.1 i).1 - 1) (by omega)
  have hc := eg_code hA q0
  have key : dg_own (G.1.1 ((pp_mv G.1 i).2 0)) G.1.2.1 ∧ (∃ fu, wL_law_638 post L xs J48 x2 x5 x7 x12 (nI i) x14 G.1.2.1 (nI (pp_mv G.1 i).1) (la_fw G.1.2.1) (nI ((pp_mv G.1 i).2 0)) (nI ((pp_mv G.1 i).2 ((pp_mv G.1 i).1 - 1))) (ll_kg (G.1.1 ((pp_mv G.1 i).2 0))) kc ks a.1 a.2.1 a.2.2.1 a.2.2.2.1 a.2.2.2.2.1 a.2.2.2.2.2.1 a.2.2.2.2.2.2.1 a.2.2.2.2.2.2.2.1 a.2.2.2.2.2.2.2.2.1 a.2.2.2.2.2.2.2.2.2.1 a.2.2.2.2.2.2.2.2.2.2.1 a.2.2.2.2.2.2.2.2.2.2.2.1 a.2.2.2.2.2.2.2.2.2.2.2.2.1 a.2.2.2.2.2.2.2.2.2.2.2.2.2.1 a.2.2.2.2.2.2.2.2.2.2.2.2.2.2.1 a.2.2.2.2.2.2.2.2.2.2.2.2.2.2.2.1 a.2.2.2.2.2.2.2.2.2.2.2.2.2.2.2.2.1 a.2.2.2.2.2.2.2.2.2.2.2.2.2.2.2.2.2.1 a.2.2.2.2.2.2.2.2.2.2.2.2.2.2.2.2.2.2 b.1 b.2.1 b.2.2.1 b.2.2.2.1 b.2.2.2.2.1 b.2.2.2.2.2.1 b.2.2.2.2.2.2.1 b.2.2.2.2.2.2.2.1 b.2.2.2.2.2.2.2.2.1 b.2.2.2.2.2.2.2.2.2.1 b.2.2.2.2.2.2.2.2.2.2.1 b.2.2.2.2.2.2.2.2.2.2.2.1 b.2.2.2.2.2.2.2.2.2.2.2.2.1 b.2.2.2.2.2.2.2.2.2.2.2.2.2.1 b.2.2.2.2.2.2.2.2.2.2.2.2.2.2.1 b.2.2.2.2.2.2.2.2.2.2.2.2.2.2.2.1 b.2.2.2.2.2.2.2.2.2.2.2.2.2.2.2.2.1 b.2.2.2.2.2.2.2.2.2.2.2.2.2.2.2.2.2.1 b.2.2.2.2.2.2.2.2.2.2.2.2.2.2.2.2.2.2 fu 0 0) := by
    have fl0 : (¬ (0 : Int32) = 0 ↔ ∃ q' d', q' < 0 ∧ d' < 4 ∧ la_C G.1.1 G.1.2.1 q' d') := ⟨fun z => absurd rfl z, fun ⟨_, _, z, _⟩ => absurd z (Nat.not_lt_zero _)⟩
    rcases pj_ls hmem with ⟨hcan, s0, hs, ho, hp⟩ | ⟨hcan, s0, hs, ho, d0, hd0, hR, he⟩
    · obtain ⟨e0, _, j, hj, hend⟩ := hp
      subst e0
      refine ⟨ho, 33, la_638 hA (fun z => absurd hcan z) (fun _ => ⟨14, ?_⟩) 32 0 33 0 (by omega) (by omega) (Or.inl rfl) fl0⟩
      refine la_858 hA hi hE hs ho hj h0 (fun hncr => ⟨5, ?_⟩) ((pp_mv G.1 i).1 - 1) 0 14 (by omega) (by omega)
      refine la_1048 hA hi hE hs ql ho (fun h hh => (hj h hh).1) ?_ h0 4 0 5 (by omega) (by omega)
      rcases hend with z | z
      · exact absurd z hncr
      · exact z
    · rw [he]
      refine ⟨ho, 33, la_638 hA (fun _ => ⟨5, ?_⟩) (fun z => absurd z hcan) 32 0 33 0 (by omega) (by omega) (Or.inl rfl) fl0⟩
      exact la_780 hA hs ho hd0 hR h0 4 0 5 0 (by omega) (by omega) (Or.inr (Nat.zero_le _))
  have e1 : nI (pp_mv G.1 i).1 - 1 = nI ((pp_mv G.1 i).1 - 1) := pk_sub (b := 1) (by omega)
  refine br_t (nI_le (a := 2) h2 (by omega)) ?_
  rw [e1]
  exact la_sq (k := 0) hA hi (by omega) h13 (ex_piece q0 hA (la_sq hA hi (by omega) h13 (ll_own hc hsd (fun o => br_f (by decide) (ll_king hc key.2)) (fun o => absurd key.1 o))))
end
section
/-! positions that can be laid anew piece by piece -/
def lo_w (v c : Nat) : Nat := if v ≠ 0 ∧ (v ≤ 2 ↔ c ≤ 2) then 1 else 0
theorem lo_out {b : Nat → Nat} {c s s' : Nat} : ∀ n q, (∀ r, q ≤ r → r < q + n → r ≠ s ∧ r ≠ s') → dg_cn b c s n q = dg_cn b c s' n q := by
  intro n
  induction n with
  | zero => intro q _; rfl
  | succ n ih =>
    intro q h
    have h0 := h q (Nat.le_refl q) (by omega)
    have e := ih (q + 1) (fun r h1 h2 => h r (by omega) (by omega))
    by_cases z : b q ≠ 0 ∧ (b q ≤ 2 ↔ c ≤ 2)
    · rw [dg_cn_y ⟨h0.1, z⟩, dg_cn_y ⟨h0.2, z⟩, e]
    · rw [dg_cn_n (fun y => z y.2), dg_cn_n (fun y => z y.2), e]
theorem lo_split {b : Nat → Nat} {c s : Nat} : ∀ n q, q ≤ s → s < q + n → q + n ≤ 32 → dg_cn b c 32 n q = dg_cn b c s n q + lo_w (b s) c := by
  intro n
  induction n with
  | zero => intro q h1 h2; omega
  | succ n ih =>
    intro q h1 h2 h3
    by_cases e : q = s
    · subst e
      have o := lo_out (b := b) (c := c) (s := 32) (s' := q) n (q + 1) (fun r h4 h5 => ⟨by omega, by omega⟩)
      rw [dg_cn_n (s := q) (fun y => y.1 rfl)]
      unfold lo_w
      by_cases z : b q ≠ 0 ∧ (b q ≤ 2 ↔ c ≤ 2)
      · rw [dg_cn_y ⟨by omega, z⟩, if_pos z, o]; omega
      · rw [dg_cn_n (fun y => z y.2), if_neg z, o]; omega
    · have g := ih (q + 1) (by omega) (by omega) (by omega)
      by_cases z : b q ≠ 0 ∧ (b q ≤ 2 ↔ c ≤ 2)
      · rw [dg_cn_y ⟨by omega, z⟩, dg_cn_y ⟨e, z⟩, g]; omega
      · rw [dg_cn_n (fun y => z y.2), dg_cn_n (fun y => z y.2), g]
theorem lo_ign {b b' : Nat → Nat} {c s : Nat} : ∀ n q, (∀ r, q ≤ r → r < q + n → r ≠ s → b r = b' r) → dg_cn b c s n q = dg_cn b' c s n q := by
  intro n
  induction n with
  | zero => intro q _; rfl
  | succ n ih =>
    intro q h
    have e := ih (q + 1) (fun r h1 h2 => h r (by omega) (by omega))
    by_cases z : q ≠ s ∧ b q ≠ 0 ∧ (b q ≤ 2 ↔ c ≤ 2)
    · have hq := h q (Nat.le_refl q) (by omega) z.1
      have z' : q ≠ s ∧ b' q ≠ 0 ∧ (b' q ≤ 2 ↔ c ≤ 2) := by rw [← hq]; exact z
      rw [dg_cn_y z, dg_cn_y z', e]
    · have z' : ¬ (q ≠ s ∧ b' q ≠ 0 ∧ (b' q ≤ 2 ↔ c ≤ 2)) := by
        intro y
        have hq := h q (Nat.le_refl q) (by omega) y.1
        rw [← hq] at y
        exact z y
      rw [dg_cn_n z, dg_cn_n z', e]
theorem lo_mono {b b' : Nat → Nat} {c s : Nat} : ∀ n q, (∀ r, q ≤ r → r < q + n → b r = 0 ∨ b r = b' r) → dg_cn b c s n q ≤ dg_cn b' c s n q := by
  intro n
  induction n with
  | zero => intro q _; exact Nat.le_refl _
  | succ n ih =>
    intro q h
    have e := ih (q + 1) (fun r h1 h2 => h r (by omega) (by omega))
    have hq := h q (Nat.le_refl q) (by omega)
    by_cases z : q ≠ s ∧ b q ≠ 0 ∧ (b q ≤ 2 ↔ c ≤ 2)
    · have hq' : b q = b' q := by
        rcases hq with y | y
        · exact absurd y z.2.1
        · exact y
      have z' : q ≠ s ∧ b' q ≠ 0 ∧ (b' q ≤ 2 ↔ c ≤ 2) := by rw [← hq']; exact z
      rw [dg_cn_y z, dg_cn_y z']; omega
    · rw [dg_cn_n z]
      by_cases z' : q ≠ s ∧ b' q ≠ 0 ∧ (b' q ≤ 2 ↔ c ≤ 2)
      · rw [dg_cn_y z']; omega
      · rw [dg_cn_n z']; exact e
theorem lo_cc {b : Nat → Nat} {c c' s : Nat} (h : c ≤ 2 ↔ c' ≤ 2) : ∀ n q, dg_cn b c s n q = dg_cn b c' s n q := by
  intro n
  induction n with
  | zero => intro q; rfl
  | succ n ih =>
    intro q
    by_cases z : q ≠ s ∧ b q ≠ 0 ∧ (b q ≤ 2 ↔ c ≤ 2)
    · rw [dg_cn_y z, dg_cn_y (c := c') (by rw [← h]; exact z), ih]
    · rw [dg_cn_n z, dg_cn_n (c := c') (by rw [← h]; exact z), ih]
/-- how many pieces of a colour stand -/
def lo_t (b : Nat → Nat) (c : Nat) : Nat := dg_cn b c 32 32 0
theorem lo_t_at {b : Nat → Nat} {c s : Nat} (hs : s < 32) : lo_t b c = dg_cn b c s 32 0 + lo_w (b s) c := lo_split 32 0 (Nat.zero_le _) (by omega) (by omega)
theorem lo_t_u {b : Nat → Nat} {c s v : Nat} (hs : s < 32) : lo_t (dg_u b s v) c + lo_w (b s) c = lo_t b c + lo_w v c := by
  have e1 := lo_t_at (b := b) (c := c) hs
  have e2 := lo_t_at (b := dg_u b s v) (c := c) hs
  have e3 := lo_ign (b := dg_u b s v) (b' := b) (c := c) (s := s) 32 0 (fun r _ _ h => dg_un h)
  rw [dg_us] at e2
  omega
theorem lo_w_1 (v c : Nat) : lo_w v c ≤ 1 := by unfold lo_w; split <;> omega
theorem lo_w_0 (c : Nat) : lo_w 0 c = 0 := if_neg (fun z => z.1 rfl)
def lo_ok (b : Nat → Nat) : Prop := (∀ q, q < 32 → b q ≤ 4 ∧ dg_cro (b q) q = 0) ∧ lo_t b 1 ≤ 12 ∧ lo_t b 3 ≤ 12
theorem lo_t12 {b : Nat → Nat} (h : lo_ok b) (c : Nat) : lo_t b c ≤ 12 := by
  by_cases hc : c ≤ 2
  · have e : lo_t b c = lo_t b 1 := lo_cc (by omega) 32 0
    rw [e]; exact h.2.1
  · have e : lo_t b c = lo_t b 3 := lo_cc (by omega) 32 0
    rw [e]; exact h.2.2
theorem lo_place {b : Nat → Nat} {s c : Nat} (h : lo_ok b) (hs : s < 32) (hc : c ≤ 4) (hk : eg_can b s c) : lo_ok (dg_u b s c) := by
  have key : ∀ k, lo_t (dg_u b s c) k ≤ 12 := by
    intro k
    have e1 := lo_t_at (b := dg_u b s c) (c := k) hs
    have e3 := lo_ign (b := dg_u b s c) (b' := b) (c := k) (s := s) 32 0 (fun r _ _ h => dg_un h)
    have e4 := lo_t_at (b := b) (c := k) hs
    have e5 := lo_t12 h k
    rw [dg_us, e3] at e1
    by_cases z : c ≠ 0 ∧ (c ≤ 2 ↔ k ≤ 2)
    · have w : lo_w c k = 1 := if_pos z
      have cc := lo_cc (b := b) (s := s) z.2 32 0
      rcases hk.2 with y | y
      · exact absurd y z.1
      · omega
    · have w : lo_w c k = 0 := if_neg z
      omega
  refine ⟨fun q hq => ?_, key 1, key 3⟩
  by_cases e : q = s
  · subst e; rw [dg_us]; exact ⟨hc, hk.1⟩
  · rw [dg_un e]; exact h.1 q hq
theorem lo_ap {b : Nat → Nat} {e : Nat × (Nat → Nat)} (h : lo_ok b) (hE : dg_E e) : lo_ok (pb_ap b e.1 e.2) := by
  have h2 := hE.1
  have q0 := hE.2.2.1 0 (by omega)
  have ql := hE.2.2.1 (e.1 - 1) (by omega)
  have hC := dg_C2_c (q := e.2) h2
  have hb0 := h.1 _ q0
  -- taking never adds
  have tk : ∀ i, i ≤ e.1 - 1 → (∀ q, q < 32 → pb_tk (dg_u b (e.2 0) 0) e.2 i q = 0 ∨ pb_tk (dg_u b (e.2 0) 0) e.2 i q = b q) ∧ ∀ k, lo_t (pb_tk (dg_u b (e.2 0) 0) e.2 i) k + lo_w (b (e.2 0)) k ≤ lo_t b k := by
    intro i
    induction i with
    | zero =>
      intro _
      refine ⟨fun q hq => ?_, fun k => ?_⟩
      · show dg_u b (e.2 0) 0 q = 0 ∨ dg_u b (e.2 0) 0 q = b q
        by_cases z : q = e.2 0
        · rw [z, dg_us]; exact Or.inl rfl
        · rw [dg_un z]; exact Or.inr rfl
      · have := lo_t_u (b := b) (c := k) (s := e.2 0) (v := 0) q0
        rw [lo_w_0] at this
        show lo_t (dg_u b (e.2 0) 0) k + lo_w (b (e.2 0)) k ≤ lo_t b k
        omega
    | succ i ih =>
      intro hi
      have g := ih (by omega)
      have hm := dg_mid_lt (hE.2.2.1 i (by omega)) (hE.2.2.1 (i + 1) (by omega))
      refine ⟨fun q hq => ?_, fun k => ?_⟩
      · show dg_u (pb_tk (dg_u b (e.2 0) 0) e.2 i) (dg_mid (e.2 i) (e.2 (i + 1))) 0 q = 0 ∨ _
        by_cases z : q = dg_mid (e.2 i) (e.2 (i + 1))
        · rw [z, dg_us]; exact Or.inl rfl
        · rw [dg_un z]
          show pb_tk (dg_u b (e.2 0) 0) e.2 i q = 0 ∨ dg_u (pb_tk (dg_u b (e.2 0) 0) e.2 i) (dg_mid (e.2 i) (e.2 (i + 1))) 0 q = b q
          rw [dg_un z]
          exact g.1 q hq
      · have := lo_t_u (b := pb_tk (dg_u b (e.2 0) 0) e.2 i) (c := k) (s := dg_mid (e.2 i) (e.2 (i + 1))) (v := 0) hm
        rw [lo_w_0] at this
        have g2 := g.2 k
        show lo_t (dg_u (pb_tk (dg_u b (e.2 0) 0) e.2 i) (dg_mid (e.2 i) (e.2 (i + 1))) 0) k + lo_w (b (e.2 0)) k ≤ lo_t b k
        omega
  obtain ⟨t1, t2⟩ := tk (dg_C2 e.2 e.1) (by omega)
  have hcro : dg_cro (b (e.2 0)) (e.2 (e.1 - 1)) = 0 ∨ (dg_cro (b (e.2 0)) (e.2 (e.1 - 1)) = 1 ∧ (b (e.2 0) = 1 ∨ b (e.2 0) = 3)) := by
    unfold dg_cro
    split
    · right; exact ⟨rfl, by omega⟩
    · left; rfl
  have key : ∀ k, lo_t (pb_ap b e.1 e.2) k ≤ 12 := by
    intro k
    have u := lo_t_u (b := pb_tk (dg_u b (e.2 0) 0) e.2 (dg_C2 e.2 e.1)) (c := k) (s := e.2 (e.1 - 1)) (v := b (e.2 0) + dg_cro (b (e.2 0)) (e.2 (e.1 - 1))) ql
    have t3 := t2 k
    have t4 := lo_t12 h k
    have w : lo_w (b (e.2 0) + dg_cro (b (e.2 0)) (e.2 (e.1 - 1))) k ≤ lo_w (b (e.2 0)) k := by
      rcases hcro with y | ⟨y, y2⟩
      · rw [y]; exact Nat.le_refl _
      · rw [y]
        unfold lo_w
        by_cases z : b (e.2 0) + 1 ≠ 0 ∧ (b (e.2 0) + 1 ≤ 2 ↔ k ≤ 2)
        · rw [if_pos z, if_pos (by omega)]; exact Nat.le_refl _
        · rw [if_neg z]; exact Nat.zero_le _
    show lo_t (dg_u (pb_tk (dg_u b (e.2 0) 0) e.2 (dg_C2 e.2 e.1)) (e.2 (e.1 - 1)) (b (e.2 0) + dg_cro (b (e.2 0)) (e.2 (e.1 - 1)))) k ≤ 12
    omega
  refine ⟨fun q hq => ?_, key 1, key 3⟩
  show dg_u (pb_tk (dg_u b (e.2 0) 0) e.2 (dg_C2 e.2 e.1)) (e.2 (e.1 - 1)) (b (e.2 0) + dg_cro (b (e.2 0)) (e.2 (e.1 - 1))) q ≤ 4 ∧ dg_cro (dg_u (pb_tk (dg_u b (e.2 0) 0) e.2 (dg_C2 e.2 e.1)) (e.2 (e.1 - 1)) (b (e.2 0) + dg_cro (b (e.2 0)) (e.2 (e.1 - 1))) q) q = 0
  by_cases z : q = e.2 (e.1 - 1)
  · rw [z, dg_us]
    refine ⟨dg_cro_le hb0.1, ?_⟩
    rcases hcro with y | ⟨y, y2⟩
    · rw [y]; exact y
    · rw [y]
      unfold dg_cro
      exact if_neg (by omega)
  · rw [dg_un z]
    rcases t1 q hq with y | y
    · rw [y]; exact ⟨by omega, if_neg (by omega)⟩
    · rw [y]; exact h.1 q hq
theorem lo_start : ∀ q, q < 32 → eg_B0 0 q ≤ 4 ∧ dg_cro (eg_B0 0 q) q = 0 := by decide +kernel
theorem lo_start1 : lo_t (eg_B0 0) 1 ≤ 12 := by decide +kernel
theorem lo_start3 : lo_t (eg_B0 0) 3 ≤ 12 := by decide +kernel
theorem lo_empty : ∀ q, q < 32 → eg_B0 1 q ≤ 4 ∧ dg_cro (eg_B0 1 q) q = 0 := by decide +kernel
theorem lo_empty1 : lo_t (eg_B0 1) 1 ≤ 12 := by decide +kernel
theorem lo_empty3 : lo_t (eg_B0 1) 3 ≤ 12 := by decide +kernel
theorem lo_ok0 : lo_ok (eg_B0 0) := ⟨lo_start, lo_start1, lo_start3⟩
theorem lo_ok1 : lo_ok (eg_B0 1) := ⟨lo_empty, lo_empty1, lo_empty3⟩
/-- a position laid anew: the same board and side, the counter from nought -/
def pr_R (c0 lv : Nat) (Q P : pp_Pos) : Prop := (∀ n, n < 32 → Q.1 n = P.1 n) ∧ Q.2.1 = P.2.1 ∧ ((Q.2.2 = nI lv ∧ P.2.2 = nI (c0 + lv)) ∨ ∃ m, m < lv ∧ Q.2.2 = nI m ∧ P.2.2 = nI m)
theorem pr_ls {c0 lv : Nat} {Q P : pp_Pos} (h : pr_R c0 lv Q P) : pp_ls Q = pp_ls P := by
  unfold pp_ls
  rw [h.2.1, pv_ls_congr h.1]
theorem pr_mv {c0 lv : Nat} {Q P : pp_Pos} (h : pr_R c0 lv Q P) (i : Nat) : pp_mv Q i = pp_mv P i := by
  unfold pp_mv
  rw [pr_ls h]
theorem pr_ap {c0 lv i : Nat} {Q P : pp_Pos} (h : pr_R c0 lv Q P) (hi : i < (pp_ls P).length) : pr_R c0 (lv + 1) (pp_ap Q (pp_mv Q i)) (pp_ap P (pp_mv P i)) := by
  rw [pr_mv h i]
  have hE := (pp_mv_E hi).1
  have q0 := hE.2.2.1 0 (by have := hE.1; omega)
  have g := pb_ap_congr (b := Q.1) (b' := P.1) (q := (pp_mv P i).2) (q' := (pp_mv P i).2) (L := (pp_mv P i).1) h.1 hE.1 (fun _ _ => rfl) q0
  refine ⟨g.1, ?_, ?_⟩
  · show (if Q.2.1 = 0 then (1 : Int32) else 0) = (if P.2.1 = 0 then 1 else 0)
    rw [h.2.1]
  · show ((if 0 < dg_C2 (pp_mv P i).2 (pp_mv P i).1 ∨ Q.1 ((pp_mv P i).2 0) = 1 ∨ Q.1 ((pp_mv P i).2 0) = 3 then 0 else Q.2.2 + 1) = nI (lv + 1) ∧ (if 0 < dg_C2 (pp_mv P i).2 (pp_mv P i).1 ∨ P.1 ((pp_mv P i).2 0) = 1 ∨ P.1 ((pp_mv P i).2 0) = 3 then 0 else P.2.2 + 1) = nI (c0 + (lv + 1))) ∨ ∃ m, m < lv + 1 ∧ (if 0 < dg_C2 (pp_mv P i).2 (pp_mv P i).1 ∨ Q.1 ((pp_mv P i).2 0) = 1 ∨ Q.1 ((pp_mv P i).2 0) = 3 then 0 else Q.2.2 + 1) = nI m ∧ (if 0 < dg_C2 (pp_mv P i).2 (pp_mv P i).1 ∨ P.1 ((pp_mv P i).2 0) = 1 ∨ P.1 ((pp_mv P i).2 0) = 3 then 0 else P.2.2 + 1) = nI m
    rw [g.2.2]
    by_cases z : 0 < dg_C2 (pp_mv P i).2 (pp_mv P i).1 ∨ P.1 ((pp_mv P i).2 0) = 1 ∨ P.1 ((pp_mv P i).2 0) = 3
    · rw [if_pos z, if_pos z]
      exact Or.inr ⟨0, by omega, rfl, rfl⟩
    · rw [if_neg z, if_neg z]
      rcases h.2.2 with ⟨y1, y2⟩ | ⟨m, y0, y1, y2⟩
      · rw [y1, y2]
        exact Or.inl ⟨nI_1 lv, nI_1 (c0 + lv)⟩
      · rw [y1, y2]
        exact Or.inr ⟨m + 1, by omega, nI_1 m, nI_1 m⟩
end
section
/-! the law reckons the value again, with the second engine -/
theorem pp_f_r {f : Nat → Int} : ∀ n, (∀ i, i < n → -10000 ≤ f i ∧ f i ≤ 10000) → (n = 0 ∧ pp_f f n = -20000) ∨ (0 < n ∧ -10000 ≤ pp_f f n ∧ pp_f f n ≤ 10000) := by
  intro n
  induction n with
  | zero => intro _; exact Or.inl ⟨rfl, rfl⟩
  | succ n ih =>
    intro h
    have g := ih (fun i hi => h i (by omega))
    have hn := h n (by omega)
    refine Or.inr ⟨by omega, ?_⟩
    show -10000 ≤ (if pp_f f n < f n then f n else pp_f f n) ∧ (if pp_f f n < f n then f n else pp_f f n) ≤ 10000
    split
    · exact hn
    · omega
theorem pp_lv_r {lim : Int32} {lv : Nat} {P : pp_Pos} (h : lv < 4) : -10000 ≤ pp_lv lim lv P ∧ pp_lv lim lv P ≤ 10000 := by
  have g := dg_ev_r P.1 P.2.1 32 0 (by omega)
  unfold pp_lv
  split
  · omega
  · split <;> omega
theorem pp_nv_r {lim : Int32} {pl : Nat} : ∀ (r lv : Nat) (P : pp_Pos), lv + r ≤ 3 → -10000 ≤ pp_nv lim pl r lv P ∧ pp_nv lim pl r lv P ≤ 10000 := by
  intro r
  induction r with
  | zero => intro lv P h; rw [pp_nv]; exact pp_lv_r (by omega)
  | succ r ih =>
    intro lv P h
    by_cases hl : pp_lf lim pl lv P
    · rw [pp_nv_leaf hl]; exact pp_lv_r (by omega)
    · rw [pp_nv, if_neg hl]
      have hne : ¬ (pp_ls P).length = 0 := fun z => hl (Or.inl z)
      rcases pp_f_r (f := fun i => - pp_nv lim pl r (lv + 1) (pp_ap P (pp_mv P i))) (pp_ls P).length (fun i _ => by
        have := ih (lv + 1) (pp_ap P (pp_mv P i)) (by omega)
        show -10000 ≤ - pp_nv lim pl r (lv + 1) (pp_ap P (pp_mv P i)) ∧ - pp_nv lim pl r (lv + 1) (pp_ap P (pp_mv P i)) ≤ 10000
        omega) with g | g
      · omega
      · exact g.2
theorem pp_ch_r {lim : Int32} {pl lv : Nat} {P : pp_Pos} (hl : lv < pl) (hp : pl ≤ 3) (i : Nat) : -10000 ≤ pp_ch lim pl lv P i ∧ pp_ch lim pl lv P i ≤ 10000 := by
  have := pp_nv_r (lim := lim) (pl := pl) (pl - (lv + 1)) (lv + 1) (pp_ap P (pp_mv P i)) (by omega)
  unfold pp_ch
  omega
def lb_acc (f : Nat → Int) (j : Nat) : Int32 := dg_i (if j = 0 then -1000000 else pp_f f j)
def lb_arg (f : Nat → Int) (j : Nat) : Int32 := if j = 0 then -1 else nI (pp_a f j)
theorem lb_step {f : Nat → Int} {j : Nat} (h : ∀ i, i ≤ j → -10000 ≤ f i ∧ f i ≤ 10000) : (dg_i (f j) ≤ lb_acc f j → lb_acc f j = lb_acc f (j + 1) ∧ lb_arg f j = lb_arg f (j + 1)) ∧ (¬ dg_i (f j) ≤ lb_acc f j → dg_i (f j) = lb_acc f (j + 1) ∧ nI j = lb_arg f (j + 1)) := by
  have hj := h j (Nat.le_refl j)
  have e1 : lb_acc f (j + 1) = dg_i (if pp_f f j < f j then f j else pp_f f j) := by unfold lb_acc; rw [if_neg (by omega)]; rfl
  have e2 : lb_arg f (j + 1) = nI (if pp_f f j < f j then j else pp_a f j) := by unfold lb_arg; rw [if_neg (by omega)]; rfl
  rw [e1, e2]
  unfold lb_acc lb_arg
  rcases pp_f_r j (fun i hi => h i (by omega)) with ⟨g1, g2⟩ | ⟨g1, g2, g3⟩
  · subst g1
    have c : pp_f f 0 < f 0 := by rw [g2]; omega
    rw [if_pos rfl, if_pos rfl, if_pos c, if_pos c]
    refine ⟨fun z => ?_, fun _ => ⟨rfl, rfl⟩⟩
    rw [dg_i_le (by omega) (by omega) (by omega) (by omega)] at z
    omega
  · have j0 : ¬ j = 0 := by omega
    rw [if_neg j0, if_neg j0, dg_i_le (by omega) (by omega) (by omega) (by omega)]
    refine ⟨fun z => ?_, fun z => ?_⟩
    · have c : ¬ pp_f f j < f j := by omega
      rw [if_neg c, if_neg c]; exact ⟨rfl, rfl⟩
    · have c : pp_f f j < f j := by omega
      rw [if_pos c, if_pos c]; exact ⟨rfl, rfl⟩
section
variable {L kc ks : Nat} {xs : Nat → Int32} {post : Int32 → Prop} {x2 x5 x7 x12 x13 x14 x15 x23 x24 x25 x26 x27 x28 x29 x30 x31 x32 x33 x34 lim sv svb : Int32} {a b : St2}
theorem lb_c1 {J48 J1247 : _} {f : Nat → Int} {j : Nat} {v : Int} (hf : ∀ i, i ≤ j → -10000 ≤ f i ∧ f i ≤ 10000) (hv : f j = - v) (h : J1247 (lb_acc f (j + 1)) (lb_arg f (j + 1)) x26 x27 x28 x29 (nI (j + 1)) x31 x32 x33 a.1 a.2.1 a.2.2.1 a.2.2.2.1 a.2.2.2.2.1 a.2.2.2.2.2.1 a.2.2.2.2.2.2.1 a.2.2.2.2.2.2.2.1 a.2.2.2.2.2.2.2.2.1 a.2.2.2.2.2.2.2.2.2.1 a.2.2.2.2.2.2.2.2.2.2.1 a.2.2.2.2.2.2.2.2.2.2.2.1 a.2.2.2.2.2.2.2.2.2.2.2.2.1 a.2.2.2.2.2.2.2.2.2.2.2.2.2.1 a.2.2.2.2.2.2.2.2.2.2.2.2.2.2.1 a.2.2.2.2.2.2.2.2.2.2.2.2.2.2.2.1 a.2.2.2.2.2.2.2.2.2.2.2.2.2.2.2.2.1 a.2.2.2.2.2.2.2.2.2.2.2.2.2.2.2.2.2.1 a.2.2.2.2.2.2.2.2.2.2.2.2.2.2.2.2.2.2 b.1 b.2.1 b.2.2.1 b.2.2.2.1 b.2.2.2.2.1 b.2.2.2.2.2.1 b.2.2.2.2.2.2.1 b.2.2.2.2.2.2.2.1 b.2.2.2.2.2.2.2.2.1 b.2.2.2.2.2.2.2.2.2.1 b.2.2.2.2.2.2.2.2.2.2.1 b.2.2.2.2.2.2.2.2.2.2.2.1 b.2.2.2.2.2.2.2.2.2.2.2.2.1 b.2.2.2.2.2.2.2.2.2.2.2.2.2.1 b.2.2.2.2.2.2.2.2.2.2.2.2.2.2.1 b.2.2.2.2.2.2.2.2.2.2.2.2.2.2.2.1 b.2.2.2.2.2.2.2.2.2.2.2.2.2.2.2.2.1 b.2.2.2.2.2.2.2.2.2.2.2.2.2.2.2.2.2.1 b.2.2.2.2.2.2.2.2.2.2.2.2.2.2.2.2.2.2) :
    wL_law_1652 post L xs J48 J1247 x2 x5 x7 x12 x13 x14 x15 x23 (lb_acc f j) (lb_arg f j) x26 x27 x28 x29 (nI j) x31 x32 x33 x34 (dg_i v) kc ks a.1 a.2.1 a.2.2.1 a.2.2.2.1 a.2.2.2.2.1 a.2.2.2.2.2.1 a.2.2.2.2.2.2.1 a.2.2.2.2.2.2.2.1 a.2.2.2.2.2.2.2.2.1 a.2.2.2.2.2.2.2.2.2.1 a.2.2.2.2.2.2.2.2.2.2.1 a.2.2.2.2.2.2.2.2.2.2.2.1 a.2.2.2.2.2.2.2.2.2.2.2.2.1 a.2.2.2.2.2.2.2.2.2.2.2.2.2.1 a.2.2.2.2.2.2.2.2.2.2.2.2.2.2.1 a.2.2.2.2.2.2.2.2.2.2.2.2.2.2.2.1 a.2.2.2.2.2.2.2.2.2.2.2.2.2.2.2.2.1 a.2.2.2.2.2.2.2.2.2.2.2.2.2.2.2.2.2.1 a.2.2.2.2.2.2.2.2.2.2.2.2.2.2.2.2.2.2 b.1 b.2.1 b.2.2.1 b.2.2.2.1 b.2.2.2.2.1 b.2.2.2.2.2.1 b.2.2.2.2.2.2.1 b.2.2.2.2.2.2.2.1 b.2.2.2.2.2.2.2.2.1 b.2.2.2.2.2.2.2.2.2.1 b.2.2.2.2.2.2.2.2.2.2.1 b.2.2.2.2.2.2.2.2.2.2.2.1 b.2.2.2.2.2.2.2.2.2.2.2.2.1 b.2.2.2.2.2.2.2.2.2.2.2.2.2.1 b.2.2.2.2.2.2.2.2.2.2.2.2.2.2.1 b.2.2.2.2.2.2.2.2.2.2.2.2.2.2.2.1 b.2.2.2.2.2.2.2.2.2.2.2.2.2.2.2.2.1 b.2.2.2.2.2.2.2.2.2.2.2.2.2.2.2.2.2.1 b.2.2.2.2.2.2.2.2.2.2.2.2.2.2.2.2.2.2 := by
  have s := lb_step hf
  unfold wL_law_1652
  rw [dg_i_neg, ← hv]
  refine br_c (fun z => nm_r (nI_1 j) ?_) (fun z => nm_r (s.2 z).1 (nm_r (nI_1 j) ?_))
  · rw [(s.1 z).1, (s.1 z).2]; exact h
  · rw [(s.2 z).2]; exact h
theorem lb_c2 {J48 J1247 : _} {f : Nat → Int} {j m : Nat} {v : Int} (hf : ∀ i, i ≤ j → -10000 ≤ f i ∧ f i ≤ 10000) (hv : f j = - v) (hm : m ≤ 48) (hj : j < m)
    (hmore : j + 1 < m → J1247 x24 x25 (lb_acc f (j + 1)) x27 (nI m) x29 x30 (nI (j + 1)) x32 2 a.1 a.2.1 a.2.2.1 a.2.2.2.1 a.2.2.2.2.1 a.2.2.2.2.2.1 a.2.2.2.2.2.2.1 a.2.2.2.2.2.2.2.1 a.2.2.2.2.2.2.2.2.1 a.2.2.2.2.2.2.2.2.2.1 a.2.2.2.2.2.2.2.2.2.2.1 a.2.2.2.2.2.2.2.2.2.2.2.1 a.2.2.2.2.2.2.2.2.2.2.2.2.1 a.2.2.2.2.2.2.2.2.2.2.2.2.2.1 a.2.2.2.2.2.2.2.2.2.2.2.2.2.2.1 a.2.2.2.2.2.2.2.2.2.2.2.2.2.2.2.1 a.2.2.2.2.2.2.2.2.2.2.2.2.2.2.2.2.1 a.2.2.2.2.2.2.2.2.2.2.2.2.2.2.2.2.2.1 a.2.2.2.2.2.2.2.2.2.2.2.2.2.2.2.2.2.2 b.1 b.2.1 b.2.2.1 b.2.2.2.1 b.2.2.2.2.1 b.2.2.2.2.2.1 b.2.2.2.2.2.2.1 b.2.2.2.2.2.2.2.1 b.2.2.2.2.2.2.2.2.1 b.2.2.2.2.2.2.2.2.2.1 b.2.2.2.2.2.2.2.2.2.2.1 b.2.2.2.2.2.2.2.2.2.2.2.1 b.2.2.2.2.2.2.2.2.2.2.2.2.1 b.2.2.2.2.2.2.2.2.2.2.2.2.2.1 b.2.2.2.2.2.2.2.2.2.2.2.2.2.2.1 b.2.2.2.2.2.2.2.2.2.2.2.2.2.2.2.1 b.2.2.2.2.2.2.2.2.2.2.2.2.2.2.2.2.1 b.2.2.2.2.2.2.2.2.2.2.2.2.2.2.2.2.2.1 b.2.2.2.2.2.2.2.2.2.2.2.2.2.2.2.2.2.2)
    (hdone : j + 1 = m → wL_law_1652 post L xs J48 J1247 x2 x5 x7 x12 x13 x14 x15 x23 x24 x25 (lb_acc f (j + 1)) x27 (nI m) x29 x30 (nI (j + 1)) x32 1 x34 (lb_acc f (j + 1)) kc ks a.1 a.2.1 a.2.2.1 a.2.2.2.1 a.2.2.2.2.1 a.2.2.2.2.2.1 a.2.2.2.2.2.2.1 a.2.2.2.2.2.2.2.1 a.2.2.2.2.2.2.2.2.1 a.2.2.2.2.2.2.2.2.2.1 a.2.2.2.2.2.2.2.2.2.2.1 a.2.2.2.2.2.2.2.2.2.2.2.1 a.2.2.2.2.2.2.2.2.2.2.2.2.1 a.2.2.2.2.2.2.2.2.2.2.2.2.2.1 a.2.2.2.2.2.2.2.2.2.2.2.2.2.2.1 a.2.2.2.2.2.2.2.2.2.2.2.2.2.2.2.1 a.2.2.2.2.2.2.2.2.2.2.2.2.2.2.2.2.1 a.2.2.2.2.2.2.2.2.2.2.2.2.2.2.2.2.2.1 a.2.2.2.2.2.2.2.2.2.2.2.2.2.2.2.2.2.2 b.1 b.2.1 b.2.2.1 b.2.2.2.1 b.2.2.2.2.1 b.2.2.2.2.2.1 b.2.2.2.2.2.2.1 b.2.2.2.2.2.2.2.1 b.2.2.2.2.2.2.2.2.1 b.2.2.2.2.2.2.2.2.2.1 b.2.2.2.2.2.2.2.2.2.2.1 b.2.2.2.2.2.2.2.2.2.2.2.1 b.2.2.2.2.2.2.2.2.2.2.2.2.1 b.2.2.2.2.2.2.2.2.2.2.2.2.2.1 b.2.2.2.2.2.2.2.2.2.2.2.2.2.2.1 b.2.2.2.2.2.2.2.2.2.2.2.2.2.2.2.1 b.2.2.2.2.2.2.2.2.2.2.2.2.2.2.2.2.1 b.2.2.2.2.2.2.2.2.2.2.2.2.2.2.2.2.2.1 b.2.2.2.2.2.2.2.2.2.2.2.2.2.2.2.2.2.2) :
    wL_law_1613 post L xs J48 J1247 x2 x5 x7 x12 x13 x14 x15 x23 x24 x25 (lb_acc f j) x27 (nI m) x29 x30 (nI j) x32 2 x34 (dg_i v) kc ks a.1 a.2.1 a.2.2.1 a.2.2.2.1 a.2.2.2.2.1 a.2.2.2.2.2.1 a.2.2.2.2.2.2.1 a.2.2.2.2.2.2.2.1 a.2.2.2.2.2.2.2.2.1 a.2.2.2.2.2.2.2.2.2.1 a.2.2.2.2.2.2.2.2.2.2.1 a.2.2.2.2.2.2.2.2.2.2.2.1 a.2.2.2.2.2.2.2.2.2.2.2.2.1 a.2.2.2.2.2.2.2.2.2.2.2.2.2.1 a.2.2.2.2.2.2.2.2.2.2.2.2.2.2.1 a.2.2.2.2.2.2.2.2.2.2.2.2.2.2.2.1 a.2.2.2.2.2.2.2.2.2.2.2.2.2.2.2.2.1 a.2.2.2.2.2.2.2.2.2.2.2.2.2.2.2.2.2.1 a.2.2.2.2.2.2.2.2.2.2.2.2.2.2.2.2.2.2 b.1 b.2.1 b.2.2.1 b.2.2.2.1 b.2.2.2.2.1 b.2.2.2.2.2.1 b.2.2.2.2.2.2.1 b.2.2.2.2.2.2.2.1 b.2.2.2.2.2.2.2.2.1 b.2.2.2.2.2.2.2.2.2.1 b.2.2.2.2.2.2.2.2.2.2.1 b.2.2.2.2.2.2.2.2.2.2.2.1 b.2.2.2.2.2.2.2.2.2.2.2.2.1 b.2.2.2.2.2.2.2.2.2.2.2.2.2.1 b.2.2.2.2.2.2.2.2.2.2.2.2.2.2.1 b.2.2.2.2.2.2.2.2.2.2.2.2.2.2.2.1 b.2.2.2.2.2.2.2.2.2.2.2.2.2.2.2.2.1 b.2.2.2.2.2.2.2.2.2.2.2.2.2.2.2.2.2.1 b.2.2.2.2.2.2.2.2.2.2.2.2.2.2.2.2.2.2 := by
  have s := lb_step hf
  have nx : wL_law_1632 post L xs J48 J1247 x2 x5 x7 x12 x13 x14 x15 x23 x24 x25 (lb_acc f (j + 1)) x27 (nI m) x29 x30 (nI j) x32 2 x34 kc ks a.1 a.2.1 a.2.2.1 a.2.2.2.1 a.2.2.2.2.1 a.2.2.2.2.2.1 a.2.2.2.2.2.2.1 a.2.2.2.2.2.2.2.1 a.2.2.2.2.2.2.2.2.1 a.2.2.2.2.2.2.2.2.2.1 a.2.2.2.2.2.2.2.2.2.2.1 a.2.2.2.2.2.2.2.2.2.2.2.1 a.2.2.2.2.2.2.2.2.2.2.2.2.1 a.2.2.2.2.2.2.2.2.2.2.2.2.2.1 a.2.2.2.2.2.2.2.2.2.2.2.2.2.2.1 a.2.2.2.2.2.2.2.2.2.2.2.2.2.2.2.1 a.2.2.2.2.2.2.2.2.2.2.2.2.2.2.2.2.1 a.2.2.2.2.2.2.2.2.2.2.2.2.2.2.2.2.2.1 a.2.2.2.2.2.2.2.2.2.2.2.2.2.2.2.2.2.2 b.1 b.2.1 b.2.2.1 b.2.2.2.1 b.2.2.2.2.1 b.2.2.2.2.2.1 b.2.2.2.2.2.2.1 b.2.2.2.2.2.2.2.1 b.2.2.2.2.2.2.2.2.1 b.2.2.2.2.2.2.2.2.2.1 b.2.2.2.2.2.2.2.2.2.2.1 b.2.2.2.2.2.2.2.2.2.2.2.1 b.2.2.2.2.2.2.2.2.2.2.2.2.1 b.2.2.2.2.2.2.2.2.2.2.2.2.2.1 b.2.2.2.2.2.2.2.2.2.2.2.2.2.2.1 b.2.2.2.2.2.2.2.2.2.2.2.2.2.2.2.1 b.2.2.2.2.2.2.2.2.2.2.2.2.2.2.2.2.1 b.2.2.2.2.2.2.2.2.2.2.2.2.2.2.2.2.2.1 b.2.2.2.2.2.2.2.2.2.2.2.2.2.2.2.2.2.2 :=
    nm_r (nI_1 j) (pk_le m (j + 1) (fun y => hdone (by omega)) (fun y => hmore y))
  unfold wL_law_1613
  rw [dg_i_neg, ← hv]
  refine br_t rfl (br_c (fun z => ?_) (fun z => nm_r (s.2 z).1 nx))
  rw [(s.1 z).1]
  exact nx
theorem lb_c3 {J48 J1247 : _} {f : Nat → Int} {j m : Nat} {v : Int} (hf : ∀ i, i ≤ j → -10000 ≤ f i ∧ f i ≤ 10000) (hv : f j = - v) (hm : m ≤ 48) (hj : j < m)
    (hmore : j + 1 < m → J1247 x24 x25 x26 (lb_acc f (j + 1)) x28 (nI m) x30 x31 (nI (j + 1)) 3 a.1 a.2.1 a.2.2.1 a.2.2.2.1 a.2.2.2.2.1 a.2.2.2.2.2.1 a.2.2.2.2.2.2.1 a.2.2.2.2.2.2.2.1 a.2.2.2.2.2.2.2.2.1 a.2.2.2.2.2.2.2.2.2.1 a.2.2.2.2.2.2.2.2.2.2.1 a.2.2.2.2.2.2.2.2.2.2.2.1 a.2.2.2.2.2.2.2.2.2.2.2.2.1 a.2.2.2.2.2.2.2.2.2.2.2.2.2.1 a.2.2.2.2.2.2.2.2.2.2.2.2.2.2.1 a.2.2.2.2.2.2.2.2.2.2.2.2.2.2.2.1 a.2.2.2.2.2.2.2.2.2.2.2.2.2.2.2.2.1 a.2.2.2.2.2.2.2.2.2.2.2.2.2.2.2.2.2.1 a.2.2.2.2.2.2.2.2.2.2.2.2.2.2.2.2.2.2 b.1 b.2.1 b.2.2.1 b.2.2.2.1 b.2.2.2.2.1 b.2.2.2.2.2.1 b.2.2.2.2.2.2.1 b.2.2.2.2.2.2.2.1 b.2.2.2.2.2.2.2.2.1 b.2.2.2.2.2.2.2.2.2.1 b.2.2.2.2.2.2.2.2.2.2.1 b.2.2.2.2.2.2.2.2.2.2.2.1 b.2.2.2.2.2.2.2.2.2.2.2.2.1 b.2.2.2.2.2.2.2.2.2.2.2.2.2.1 b.2.2.2.2.2.2.2.2.2.2.2.2.2.2.1 b.2.2.2.2.2.2.2.2.2.2.2.2.2.2.2.1 b.2.2.2.2.2.2.2.2.2.2.2.2.2.2.2.2.1 b.2.2.2.2.2.2.2.2.2.2.2.2.2.2.2.2.2.1 b.2.2.2.2.2.2.2.2.2.2.2.2.2.2.2.2.2.2)
    (hdone : j + 1 = m → wL_law_1613 post L xs J48 J1247 x2 x5 x7 x12 x13 x14 x15 x23 x24 x25 x26 (lb_acc f (j + 1)) x28 (nI m) x30 x31 (nI (j + 1)) 2 x34 (lb_acc f (j + 1)) kc ks a.1 a.2.1 a.2.2.1 a.2.2.2.1 a.2.2.2.2.1 a.2.2.2.2.2.1 a.2.2.2.2.2.2.1 a.2.2.2.2.2.2.2.1 a.2.2.2.2.2.2.2.2.1 a.2.2.2.2.2.2.2.2.2.1 a.2.2.2.2.2.2.2.2.2.2.1 a.2.2.2.2.2.2.2.2.2.2.2.1 a.2.2.2.2.2.2.2.2.2.2.2.2.1 a.2.2.2.2.2.2.2.2.2.2.2.2.2.1 a.2.2.2.2.2.2.2.2.2.2.2.2.2.2.1 a.2.2.2.2.2.2.2.2.2.2.2.2.2.2.2.1 a.2.2.2.2.2.2.2.2.2.2.2.2.2.2.2.2.1 a.2.2.2.2.2.2.2.2.2.2.2.2.2.2.2.2.2.1 a.2.2.2.2.2.2.2.2.2.2.2.2.2.2.2.2.2.2 b.1 b.2.1 b.2.2.1 b.2.2.2.1 b.2.2.2.2.1 b.2.2.2.2.2.1 b.2.2.2.2.2.2.1 b.2.2.2.2.2.2.2.1 b.2.2.2.2.2.2.2.2.1 b.2.2.2.2.2.2.2.2.2.1 b.2.2.2.2.2.2.2.2.2.2.1 b.2.2.2.2.2.2.2.2.2.2.2.1 b.2.2.2.2.2.2.2.2.2.2.2.2.1 b.2.2.2.2.2.2.2.2.2.2.2.2.2.1 b.2.2.2.2.2.2.2.2.2.2.2.2.2.2.1 b.2.2.2.2.2.2.2.2.2.2.2.2.2.2.2.1 b.2.2.2.2.2.2.2.2.2.2.2.2.2.2.2.2.1 b.2.2.2.2.2.2.2.2.2.2.2.2.2.2.2.2.2.1 b.2.2.2.2.2.2.2.2.2.2.2.2.2.2.2.2.2.2) :
    wL_law_1574 post L xs J48 J1247 x2 x5 x7 x12 x13 x14 x15 x23 x24 x25 x26 (lb_acc f j) x28 (nI m) x30 x31 (nI j) 3 x34 (dg_i v) kc ks a.1 a.2.1 a.2.2.1 a.2.2.2.1 a.2.2.2.2.1 a.2.2.2.2.2.1 a.2.2.2.2.2.2.1 a.2.2.2.2.2.2.2.1 a.2.2.2.2.2.2.2.2.1 a.2.2.2.2.2.2.2.2.2.1 a.2.2.2.2.2.2.2.2.2.2.1 a.2.2.2.2.2.2.2.2.2.2.2.1 a.2.2.2.2.2.2.2.2.2.2.2.2.1 a.2.2.2.2.2.2.2.2.2.2.2.2.2.1 a.2.2.2.2.2.2.2.2.2.2.2.2.2.2.1 a.2.2.2.2.2.2.2.2.2.2.2.2.2.2.2.1 a.2.2.2.2.2.2.2.2.2.2.2.2.2.2.2.2.1 a.2.2.2.2.2.2.2.2.2.2.2.2.2.2.2.2.2.1 a.2.2.2.2.2.2.2.2.2.2.2.2.2.2.2.2.2.2 b.1 b.2.1 b.2.2.1 b.2.2.2.1 b.2.2.2.2.1 b.2.2.2.2.2.1 b.2.2.2.2.2.2.1 b.2.2.2.2.2.2.2.1 b.2.2.2.2.2.2.2.2.1 b.2.2.2.2.2.2.2.2.2.1 b.2.2.2.2.2.2.2.2.2.2.1 b.2.2.2.2.2.2.2.2.2.2.2.1 b.2.2.2.2.2.2.2.2.2.2.2.2.1 b.2.2.2.2.2.2.2.2.2.2.2.2.2.1 b.2.2.2.2.2.2.2.2.2.2.2.2.2.2.1 b.2.2.2.2.2.2.2.2.2.2.2.2.2.2.2.1 b.2.2.2.2.2.2.2.2.2.2.2.2.2.2.2.2.1 b.2.2.2.2.2.2.2.2.2.2.2.2.2.2.2.2.2.1 b.2.2.2.2.2.2.2.2.2.2.2.2.2.2.2.2.2.2 := by
  have s := lb_step hf
  have nx : wL_law_1593 post L xs J48 J1247 x2 x5 x7 x12 x13 x14 x15 x23 x24 x25 x26 (lb_acc f (j + 1)) x28 (nI m) x30 x31 (nI j) 3 x34 kc ks a.1 a.2.1 a.2.2.1 a.2.2.2.1 a.2.2.2.2.1 a.2.2.2.2.2.1 a.2.2.2.2.2.2.1 a.2.2.2.2.2.2.2.1 a.2.2.2.2.2.2.2.2.1 a.2.2.2.2.2.2.2.2.2.1 a.2.2.2.2.2.2.2.2.2.2.1 a.2.2.2.2.2.2.2.2.2.2.2.1 a.2.2.2.2.2.2.2.2.2.2.2.2.1 a.2.2.2.2.2.2.2.2.2.2.2.2.2.1 a.2.2.2.2.2.2.2.2.2.2.2.2.2.2.1 a.2.2.2.2.2.2.2.2.2.2.2.2.2.2.2.1 a.2.2.2.2.2.2.2.2.2.2.2.2.2.2.2.2.1 a.2.2.2.2.2.2.2.2.2.2.2.2.2.2.2.2.2.1 a.2.2.2.2.2.2.2.2.2.2.2.2.2.2.2.2.2.2 b.1 b.2.1 b.2.2.1 b.2.2.2.1 b.2.2.2.2.1 b.2.2.2.2.2.1 b.2.2.2.2.2.2.1 b.2.2.2.2.2.2.2.1 b.2.2.2.2.2.2.2.2.1 b.2.2.2.2.2.2.2.2.2.1 b.2.2.2.2.2.2.2.2.2.2.1 b.2.2.2.2.2.2.2.2.2.2.2.1 b.2.2.2.2.2.2.2.2.2.2.2.2.1 b.2.2.2.2.2.2.2.2.2.2.2.2.2.1 b.2.2.2.2.2.2.2.2.2.2.2.2.2.2.1 b.2.2.2.2.2.2.2.2.2.2.2.2.2.2.2.1 b.2.2.2.2.2.2.2.2.2.2.2.2.2.2.2.2.1 b.2.2.2.2.2.2.2.2.2.2.2.2.2.2.2.2.2.1 b.2.2.2.2.2.2.2.2.2.2.2.2.2.2.2.2.2.2 :=
    nm_r (nI_1 j) (pk_le m (j + 1) (fun y => hdone (by omega)) (fun y => hmore y))
  unfold wL_law_1574
  rw [dg_i_neg, ← hv]
  refine br_t rfl (br_c (fun z => ?_) (fun z => nm_r (s.2 z).1 nx))
  rw [(s.1 z).1]
  exact nx
theorem lb_1497 {J48 J1247 : _} {J1427 : Int32 → Int32 → Prop} {c q : Nat} {sd : Int32} {z w : Int} (hc : c ≤ 4) (hs : sd = 0 ∨ sd = 1) (h1 : dg_own c sd → J1427 (dg_i (z + w)) (nI (q + 1))) (h0 : ¬ dg_own c sd → J1427 (dg_i (z + - w)) (nI (q + 1))) :
    wL_law_1497 post L xs J48 J1247 J1427 x2 x5 x7 x12 x13 x14 x15 x23 x24 x25 x26 x27 x28 x29 x30 x31 x32 x33 x34 (dg_i z) sd (nI q) (nI c) (dg_i w) kc ks a.1 a.2.1 a.2.2.1 a.2.2.2.1 a.2.2.2.2.1 a.2.2.2.2.2.1 a.2.2.2.2.2.2.1 a.2.2.2.2.2.2.2.1 a.2.2.2.2.2.2.2.2.1 a.2.2.2.2.2.2.2.2.2.1 a.2.2.2.2.2.2.2.2.2.2.1 a.2.2.2.2.2.2.2.2.2.2.2.1 a.2.2.2.2.2.2.2.2.2.2.2.2.1 a.2.2.2.2.2.2.2.2.2.2.2.2.2.1 a.2.2.2.2.2.2.2.2.2.2.2.2.2.2.1 a.2.2.2.2.2.2.2.2.2.2.2.2.2.2.2.1 a.2.2.2.2.2.2.2.2.2.2.2.2.2.2.2.2.1 a.2.2.2.2.2.2.2.2.2.2.2.2.2.2.2.2.2.1 a.2.2.2.2.2.2.2.2.2.2.2.2.2.2.2.2.2.2 b.1 b.2.1 b.2.2.1 b.2.2.2.1 b.2.2.2.2.1 b.2.2.2.2.2.1 b.2.2.2.2.2.2.1 b.2.2.2.2.2.2.2.1 b.2.2.2.2.2.2.2.2.1 b.2.2.2.2.2.2.2.2.2.1 b.2.2.2.2.2.2.2.2.2.2.1 b.2.2.2.2.2.2.2.2.2.2.2.1 b.2.2.2.2.2.2.2.2.2.2.2.2.1 b.2.2.2.2.2.2.2.2.2.2.2.2.2.1 b.2.2.2.2.2.2.2.2.2.2.2.2.2.2.1 b.2.2.2.2.2.2.2.2.2.2.2.2.2.2.2.1 b.2.2.2.2.2.2.2.2.2.2.2.2.2.2.2.2.1 b.2.2.2.2.2.2.2.2.2.2.2.2.2.2.2.2.2.1 b.2.2.2.2.2.2.2.2.2.2.2.2.2.2.2.2.2.2 := by
  unfold wL_law_1497
  exact ll_own hc hs (fun o => br_f (by decide) (nm_r (dg_i_add z w) (nm_r (nI_1 q) (h1 o)))) (fun o => br_t rfl (nm_r (by rw [dg_i_neg, dg_i_add]) (nm_r (nI_1 q) (h0 o))))
theorem lb_1427 {J48 J1247 : _} {G : eg_G} (hB : eg_R lim G svb b) :
    ∀ (m q n : Nat) (z : Int), q + m = 32 → m < n → wL_law_1574 post L xs J48 J1247 x2 x5 x7 x12 x13 x14 x15 x23 x24 x25 x26 x27 x28 x29 x30 x31 x32 x33 x34 (dg_i (z + dg_ev G.1.1 G.1.2.1 m q)) kc ks a.1 a.2.1 a.2.2.1 a.2.2.2.1 a.2.2.2.2.1 a.2.2.2.2.2.1 a.2.2.2.2.2.2.1 a.2.2.2.2.2.2.2.1 a.2.2.2.2.2.2.2.2.1 a.2.2.2.2.2.2.2.2.2.1 a.2.2.2.2.2.2.2.2.2.2.1 a.2.2.2.2.2.2.2.2.2.2.2.1 a.2.2.2.2.2.2.2.2.2.2.2.2.1 a.2.2.2.2.2.2.2.2.2.2.2.2.2.1 a.2.2.2.2.2.2.2.2.2.2.2.2.2.2.1 a.2.2.2.2.2.2.2.2.2.2.2.2.2.2.2.1 a.2.2.2.2.2.2.2.2.2.2.2.2.2.2.2.2.1 a.2.2.2.2.2.2.2.2.2.2.2.2.2.2.2.2.2.1 a.2.2.2.2.2.2.2.2.2.2.2.2.2.2.2.2.2.2 b.1 b.2.1 b.2.2.1 b.2.2.2.1 b.2.2.2.2.1 b.2.2.2.2.2.1 b.2.2.2.2.2.2.1 b.2.2.2.2.2.2.2.1 b.2.2.2.2.2.2.2.2.1 b.2.2.2.2.2.2.2.2.2.1 b.2.2.2.2.2.2.2.2.2.2.1 b.2.2.2.2.2.2.2.2.2.2.2.1 b.2.2.2.2.2.2.2.2.2.2.2.2.1 b.2.2.2.2.2.2.2.2.2.2.2.2.2.1 b.2.2.2.2.2.2.2.2.2.2.2.2.2.2.1 b.2.2.2.2.2.2.2.2.2.2.2.2.2.2.2.1 b.2.2.2.2.2.2.2.2.2.2.2.2.2.2.2.2.1 b.2.2.2.2.2.2.2.2.2.2.2.2.2.2.2.2.2.1 b.2.2.2.2.2.2.2.2.2.2.2.2.2.2.2.2.2.2 → wL_law_1427 post L xs J48 J1247 x2 x5 x7 x12 x13 x14 x15 x23 x24 x25 x26 x27 x28 x29 x30 x31 x32 x33 x34 G.1.2.1 kc ks a.1 a.2.1 a.2.2.1 a.2.2.2.1 a.2.2.2.2.1 a.2.2.2.2.2.1 a.2.2.2.2.2.2.1 a.2.2.2.2.2.2.2.1 a.2.2.2.2.2.2.2.2.1 a.2.2.2.2.2.2.2.2.2.1 a.2.2.2.2.2.2.2.2.2.2.1 a.2.2.2.2.2.2.2.2.2.2.2.1 a.2.2.2.2.2.2.2.2.2.2.2.2.1 a.2.2.2.2.2.2.2.2.2.2.2.2.2.1 a.2.2.2.2.2.2.2.2.2.2.2.2.2.2.1 a.2.2.2.2.2.2.2.2.2.2.2.2.2.2.2.1 a.2.2.2.2.2.2.2.2.2.2.2.2.2.2.2.2.1 a.2.2.2.2.2.2.2.2.2.2.2.2.2.2.2.2.2.1 a.2.2.2.2.2.2.2.2.2.2.2.2.2.2.2.2.2.2 b.1 b.2.1 b.2.2.1 b.2.2.2.1 b.2.2.2.2.1 b.2.2.2.2.2.1 b.2.2.2.2.2.2.1 b.2.2.2.2.2.2.2.1 b.2.2.2.2.2.2.2.2.1 b.2.2.2.2.2.2.2.2.2.1 b.2.2.2.2.2.2.2.2.2.2.1 b.2.2.2.2.2.2.2.2.2.2.2.1 b.2.2.2.2.2.2.2.2.2.2.2.2.1 b.2.2.2.2.2.2.2.2.2.2.2.2.2.1 b.2.2.2.2.2.2.2.2.2.2.2.2.2.2.1 b.2.2.2.2.2.2.2.2.2.2.2.2.2.2.2.1 b.2.2.2.2.2.2.2.2.2.2.2.2.2.2.2.2.1 b.2.2.2.2.2.2.2.2.2.2.2.2.2.2.2.2.2.1 b.2.2.2.2.2.2.2.2.2.2.2.2.2.2.2.2.2.2 n (dg_i z) (nI q) := by
  have hsd := eg_sd hB
  intro m
  induction m with
  | zero =>
    intro q n z hq hn h
    obtain ⟨n, rfl⟩ : ∃ g, n = g + 1 := ⟨n - 1, by omega⟩
    obtain rfl : q = 32 := by omega
    rw [dg_ev, Int.add_zero] at h
    exact br_t (nI_le (a := 32) (Nat.le_refl 32) (by omega)) h
  | succ m ih =>
    intro q n z hq hn h
    obtain ⟨n, rfl⟩ : ∃ g, n = g + 1 := ⟨n - 1, by omega⟩
    have q32 : q < 32 := by omega
    have hc := eg_code hB q32
    have fin : ∀ w : Int, w = dg_wo (G.1.1 q) q → wL_law_1497 post L xs J48 J1247 (wL_law_1427 post L xs J48 J1247 x2 x5 x7 x12 x13 x14 x15 x23 x24 x25 x26 x27 x28 x29 x30 x31 x32 x33 x34 G.1.2.1 kc ks a.1 a.2.1 a.2.2.1 a.2.2.2.1 a.2.2.2.2.1 a.2.2.2.2.2.1 a.2.2.2.2.2.2.1 a.2.2.2.2.2.2.2.1 a.2.2.2.2.2.2.2.2.1 a.2.2.2.2.2.2.2.2.2.1 a.2.2.2.2.2.2.2.2.2.2.1 a.2.2.2.2.2.2.2.2.2.2.2.1 a.2.2.2.2.2.2.2.2.2.2.2.2.1 a.2.2.2.2.2.2.2.2.2.2.2.2.2.1 a.2.2.2.2.2.2.2.2.2.2.2.2.2.2.1 a.2.2.2.2.2.2.2.2.2.2.2.2.2.2.2.1 a.2.2.2.2.2.2.2.2.2.2.2.2.2.2.2.2.1 a.2.2.2.2.2.2.2.2.2.2.2.2.2.2.2.2.2.1 a.2.2.2.2.2.2.2.2.2.2.2.2.2.2.2.2.2.2 b.1 b.2.1 b.2.2.1 b.2.2.2.1 b.2.2.2.2.1 b.2.2.2.2.2.1 b.2.2.2.2.2.2.1 b.2.2.2.2.2.2.2.1 b.2.2.2.2.2.2.2.2.1 b.2.2.2.2.2.2.2.2.2.1 b.2.2.2.2.2.2.2.2.2.2.1 b.2.2.2.2.2.2.2.2.2.2.2.1 b.2.2.2.2.2.2.2.2.2.2.2.2.1 b.2.2.2.2.2.2.2.2.2.2.2.2.2.1 b.2.2.2.2.2.2.2.2.2.2.2.2.2.2.1 b.2.2.2.2.2.2.2.2.2.2.2.2.2.2.2.1 b.2.2.2.2.2.2.2.2.2.2.2.2.2.2.2.2.1 b.2.2.2.2.2.2.2.2.2.2.2.2.2.2.2.2.2.1 b.2.2.2.2.2.2.2.2.2.2.2.2.2.2.2.2.2.2 n) x2 x5 x7 x12 x13 x14 x15 x23 x24 x25 x26 x27 x28 x29 x30 x31 x32 x33 x34 (dg_i z) G.1.2.1 (nI q) (nI (G.1.1 q)) (dg_i w) kc ks a.1 a.2.1 a.2.2.1 a.2.2.2.1 a.2.2.2.2.1 a.2.2.2.2.2.1 a.2.2.2.2.2.2.1 a.2.2.2.2.2.2.2.1 a.2.2.2.2.2.2.2.2.1 a.2.2.2.2.2.2.2.2.2.1 a.2.2.2.2.2.2.2.2.2.2.1 a.2.2.2.2.2.2.2.2.2.2.2.1 a.2.2.2.2.2.2.2.2.2.2.2.2.1 a.2.2.2.2.2.2.2.2.2.2.2.2.2.1 a.2.2.2.2.2.2.2.2.2.2.2.2.2.2.1 a.2.2.2.2.2.2.2.2.2.2.2.2.2.2.2.1 a.2.2.2.2.2.2.2.2.2.2.2.2.2.2.2.2.1 a.2.2.2.2.2.2.2.2.2.2.2.2.2.2.2.2.2.1 a.2.2.2.2.2.2.2.2.2.2.2.2.2.2.2.2.2.2 b.1 b.2.1 b.2.2.1 b.2.2.2.1 b.2.2.2.2.1 b.2.2.2.2.2.1 b.2.2.2.2.2.2.1 b.2.2.2.2.2.2.2.1 b.2.2.2.2.2.2.2.2.1 b.2.2.2.2.2.2.2.2.2.1 b.2.2.2.2.2.2.2.2.2.2.1 b.2.2.2.2.2.2.2.2.2.2.2.1 b.2.2.2.2.2.2.2.2.2.2.2.2.1 b.2.2.2.2.2.2.2.2.2.2.2.2.2.1 b.2.2.2.2.2.2.2.2.2.2.2.2.2.2.1 b.2.2.2.2.2.2.2.2.2.2.2.2.2.2.2.1 b.2.2.2.2.2.2.2.2.2.2.2.2.2.2.2.2.1 b.2.2.2.2.2.2.2.2.2.2.2.2.2.2.2.2.2.1 b.2.2.2.2.2.2.2.2.2.2.2.2.2.2.2.2.2.2 := by
      intro w hw
      refine lb_1497 hc hsd (fun o => ih (q + 1) n _ (by omega) (by omega) ?_) (fun o => ih (q + 1) n _ (by omega) (by omega) ?_)
      · rw [dg_ev_y o, ← Int.add_assoc] at h
        rw [hw]; exact h
      · rw [dg_ev_n o, ← Int.add_assoc] at h
        rw [hw]; exact h
    refine br_f (nI_ge (b := 32) (by omega) (by omega)) (ex_piece q32 hB (pk_lt (G.1.1 q) 1 (fun l => nm_r (nI_1 q) (ih (q + 1) n z (by omega) (by omega) ?_)) (fun l => pk_le (G.1.1 q) 4 (fun _ => ll_king hc ?_) (fun y => absurd y (by omega)))))
    · have e0 : G.1.1 q = 0 := by omega
      have hno : ¬ dg_own (G.1.1 q) G.1.2.1 := by
        rw [e0]
        rintro (y | y)
        · exact y.1 rfl
        · have := y.1; omega
      have hw0 : dg_wo (G.1.1 q) q = 0 := by rw [e0]; rfl
      rw [dg_ev_n hno, hw0, Int.neg_zero, Int.zero_add] at h
      exact h
    · rw [la_shr q q32]
      unfold ll_kg
      by_cases hk : G.1.1 q = 2 ∨ G.1.1 q = 4
      · rw [if_pos hk]
        refine br_f (by decide) (fin 250 ?_)
        unfold dg_wo
        rw [if_neg (by omega), if_neg (by omega), if_neg (by omega)]
      · rw [if_neg hk]
        refine br_t rfl (pk_eq (G.1.1 q) 1 (fun e => ?_) (fun e => ?_))
        · unfold wL_law_1495
          have e6 : (100 : Int32) + 4 * nI (q / 4) = dg_i (100 + 4 * ((q / 4 : Nat) : Int)) := by
            rw [show (100 : Int32) = nI 100 from rfl, wx_4, pk_mul, nI_add, dg_i_nI]
            exact congrArg dg_i (by omega)
          rw [e6]
          exact fin _ (by unfold dg_wo; rw [if_pos e])
        · unfold wL_law_1495
          have e6 : (100 : Int32) + 4 * (7 - nI (q / 4)) = dg_i (100 + 4 * ((7 - q / 4 : Nat) : Int)) := by
            rw [show (100 : Int32) = nI 100 from rfl, show (7 : Int32) = nI 7 from rfl, pk_sub (by omega), wx_4, pk_mul, nI_add, dg_i_nI]
            exact congrArg dg_i (by omega)
          rw [e6]
          exact fin _ (by unfold dg_wo; rw [if_neg e, if_pos (by omega)])
/-- a node of the law's tree -/
theorem lb_1343 {J48 J1247 : _} {G : eg_G} {P : pp_Pos} {c0 lv l0 D : Nat} (hB : eg_R (nI l0) G svb b) (hpr : pr_R c0 lv G.1 P) (h1 : 1 ≤ lv) (h3 : lv ≤ 3) (hl0 : 4 ≤ l0) (hl1 : l0 ≤ 80) (hc0 : c0 < 1000) (hD : D ≤ 3)
    (hleaf : pp_lf (nI l0) D lv P → wL_law_1574 post L xs J48 J1247 (nI l0) x5 x7 (nI D) x13 x14 x15 x23 x24 x25 x26 x27 x28 x29 x30 x31 x32 (nI lv) (nI c0) (dg_i (pp_lv (nI l0) lv P)) kc ks a.1 a.2.1 a.2.2.1 a.2.2.2.1 a.2.2.2.2.1 a.2.2.2.2.2.1 a.2.2.2.2.2.2.1 a.2.2.2.2.2.2.2.1 a.2.2.2.2.2.2.2.2.1 a.2.2.2.2.2.2.2.2.2.1 a.2.2.2.2.2.2.2.2.2.2.1 a.2.2.2.2.2.2.2.2.2.2.2.1 a.2.2.2.2.2.2.2.2.2.2.2.2.1 a.2.2.2.2.2.2.2.2.2.2.2.2.2.1 a.2.2.2.2.2.2.2.2.2.2.2.2.2.2.1 a.2.2.2.2.2.2.2.2.2.2.2.2.2.2.2.1 a.2.2.2.2.2.2.2.2.2.2.2.2.2.2.2.2.1 a.2.2.2.2.2.2.2.2.2.2.2.2.2.2.2.2.2.1 a.2.2.2.2.2.2.2.2.2.2.2.2.2.2.2.2.2.2 b.1 b.2.1 b.2.2.1 b.2.2.2.1 b.2.2.2.2.1 b.2.2.2.2.2.1 b.2.2.2.2.2.2.1 b.2.2.2.2.2.2.2.1 b.2.2.2.2.2.2.2.2.1 b.2.2.2.2.2.2.2.2.2.1 b.2.2.2.2.2.2.2.2.2.2.1 b.2.2.2.2.2.2.2.2.2.2.2.1 b.2.2.2.2.2.2.2.2.2.2.2.2.1 b.2.2.2.2.2.2.2.2.2.2.2.2.2.1 b.2.2.2.2.2.2.2.2.2.2.2.2.2.2.1 b.2.2.2.2.2.2.2.2.2.2.2.2.2.2.2.1 b.2.2.2.2.2.2.2.2.2.2.2.2.2.2.2.2.1 b.2.2.2.2.2.2.2.2.2.2.2.2.2.2.2.2.2.1 b.2.2.2.2.2.2.2.2.2.2.2.2.2.2.2.2.2.2)
    (hin1 : ¬ pp_lf (nI l0) D lv P → lv = 1 → J1247 x24 x25 x23 x27 (nI (pp_ls P).length) x29 x30 0 x32 (nI 2) a.1 a.2.1 a.2.2.1 a.2.2.2.1 a.2.2.2.2.1 a.2.2.2.2.2.1 a.2.2.2.2.2.2.1 a.2.2.2.2.2.2.2.1 a.2.2.2.2.2.2.2.2.1 a.2.2.2.2.2.2.2.2.2.1 a.2.2.2.2.2.2.2.2.2.2.1 a.2.2.2.2.2.2.2.2.2.2.2.1 a.2.2.2.2.2.2.2.2.2.2.2.2.1 a.2.2.2.2.2.2.2.2.2.2.2.2.2.1 a.2.2.2.2.2.2.2.2.2.2.2.2.2.2.1 a.2.2.2.2.2.2.2.2.2.2.2.2.2.2.2.1 a.2.2.2.2.2.2.2.2.2.2.2.2.2.2.2.2.1 a.2.2.2.2.2.2.2.2.2.2.2.2.2.2.2.2.2.1 a.2.2.2.2.2.2.2.2.2.2.2.2.2.2.2.2.2.2 b.1 b.2.1 b.2.2.1 b.2.2.2.1 b.2.2.2.2.1 b.2.2.2.2.2.1 b.2.2.2.2.2.2.1 b.2.2.2.2.2.2.2.1 b.2.2.2.2.2.2.2.2.1 b.2.2.2.2.2.2.2.2.2.1 b.2.2.2.2.2.2.2.2.2.2.1 b.2.2.2.2.2.2.2.2.2.2.2.1 b.2.2.2.2.2.2.2.2.2.2.2.2.1 b.2.2.2.2.2.2.2.2.2.2.2.2.2.1 b.2.2.2.2.2.2.2.2.2.2.2.2.2.2.1 b.2.2.2.2.2.2.2.2.2.2.2.2.2.2.2.1 b.2.2.2.2.2.2.2.2.2.2.2.2.2.2.2.2.1 b.2.2.2.2.2.2.2.2.2.2.2.2.2.2.2.2.2.1 b.2.2.2.2.2.2.2.2.2.2.2.2.2.2.2.2.2.2)
    (hin2 : ¬ pp_lf (nI l0) D lv P → lv ≠ 1 → J1247 x24 x25 x26 x23 x28 (nI (pp_ls P).length) x30 x31 0 (nI (lv + 1)) a.1 a.2.1 a.2.2.1 a.2.2.2.1 a.2.2.2.2.1 a.2.2.2.2.2.1 a.2.2.2.2.2.2.1 a.2.2.2.2.2.2.2.1 a.2.2.2.2.2.2.2.2.1 a.2.2.2.2.2.2.2.2.2.1 a.2.2.2.2.2.2.2.2.2.2.1 a.2.2.2.2.2.2.2.2.2.2.2.1 a.2.2.2.2.2.2.2.2.2.2.2.2.1 a.2.2.2.2.2.2.2.2.2.2.2.2.2.1 a.2.2.2.2.2.2.2.2.2.2.2.2.2.2.1 a.2.2.2.2.2.2.2.2.2.2.2.2.2.2.2.1 a.2.2.2.2.2.2.2.2.2.2.2.2.2.2.2.2.1 a.2.2.2.2.2.2.2.2.2.2.2.2.2.2.2.2.2.1 a.2.2.2.2.2.2.2.2.2.2.2.2.2.2.2.2.2.2 b.1 b.2.1 b.2.2.1 b.2.2.2.1 b.2.2.2.2.1 b.2.2.2.2.2.1 b.2.2.2.2.2.2.1 b.2.2.2.2.2.2.2.1 b.2.2.2.2.2.2.2.2.1 b.2.2.2.2.2.2.2.2.2.1 b.2.2.2.2.2.2.2.2.2.2.1 b.2.2.2.2.2.2.2.2.2.2.2.1 b.2.2.2.2.2.2.2.2.2.2.2.2.1 b.2.2.2.2.2.2.2.2.2.2.2.2.2.1 b.2.2.2.2.2.2.2.2.2.2.2.2.2.2.1 b.2.2.2.2.2.2.2.2.2.2.2.2.2.2.2.1 b.2.2.2.2.2.2.2.2.2.2.2.2.2.2.2.2.1 b.2.2.2.2.2.2.2.2.2.2.2.2.2.2.2.2.2.1 b.2.2.2.2.2.2.2.2.2.2.2.2.2.2.2.2.2.2) :
    wL_law_1343 post L xs J48 J1247 (nI l0) x5 x7 (nI D) x13 x14 x15 x23 x24 x25 x26 x27 x28 x29 x30 x31 x32 (nI lv) (nI c0) kc ks a.1 a.2.1 a.2.2.1 a.2.2.2.1 a.2.2.2.2.1 a.2.2.2.2.2.1 a.2.2.2.2.2.2.1 a.2.2.2.2.2.2.2.1 a.2.2.2.2.2.2.2.2.1 a.2.2.2.2.2.2.2.2.2.1 a.2.2.2.2.2.2.2.2.2.2.1 a.2.2.2.2.2.2.2.2.2.2.2.1 a.2.2.2.2.2.2.2.2.2.2.2.2.1 a.2.2.2.2.2.2.2.2.2.2.2.2.2.1 a.2.2.2.2.2.2.2.2.2.2.2.2.2.2.1 a.2.2.2.2.2.2.2.2.2.2.2.2.2.2.2.1 a.2.2.2.2.2.2.2.2.2.2.2.2.2.2.2.2.1 a.2.2.2.2.2.2.2.2.2.2.2.2.2.2.2.2.2.1 a.2.2.2.2.2.2.2.2.2.2.2.2.2.2.2.2.2.2 b.1 b.2.1 b.2.2.1 b.2.2.2.1 b.2.2.2.2.1 b.2.2.2.2.2.1 b.2.2.2.2.2.2.1 b.2.2.2.2.2.2.2.1 b.2.2.2.2.2.2.2.2.1 b.2.2.2.2.2.2.2.2.2.1 b.2.2.2.2.2.2.2.2.2.2.1 b.2.2.2.2.2.2.2.2.2.2.2.1 b.2.2.2.2.2.2.2.2.2.2.2.2.1 b.2.2.2.2.2.2.2.2.2.2.2.2.2.1 b.2.2.2.2.2.2.2.2.2.2.2.2.2.2.1 b.2.2.2.2.2.2.2.2.2.2.2.2.2.2.2.1 b.2.2.2.2.2.2.2.2.2.2.2.2.2.2.2.2.1 b.2.2.2.2.2.2.2.2.2.2.2.2.2.2.2.2.2.1 b.2.2.2.2.2.2.2.2.2.2.2.2.2.2.2.2.2.2 := by
  have els := pr_ls hpr
  have h48 : (pp_ls P).length ≤ 48 := (pv_gen 0 P.1 P.2.1 (fun _ => 0) (fun _ => 0) (fun _ => 0)).1.1
  have hdc : ∃ m, m ≤ 3 ∧ G.1.2.2 = nI m := by
    rcases hpr.2.2 with ⟨y, _⟩ | ⟨m, y0, y, _⟩
    · exact ⟨lv, h3, y⟩
    · exact ⟨m, by omega, y⟩
  obtain ⟨m, hm3, hm⟩ := hdc
  have hnl : ¬ nI l0 ≤ G.1.2.2 := by rw [hm]; exact nI_ge (by omega) (by omega)
  unfold wL_law_1343
  refine ex_status hB (ex_draw hB ?_)
  unfold eg_st
  rw [els]
  by_cases hz : (pp_ls P).length = 0
  · have e0 : nI (pp_ls P).length = 0 := by rw [hz]; rfl
    rw [dg_st_w e0]
    have hv : wL_law_1372 post L xs J48 J1247 (nI l0) x5 x7 (nI D) x13 x14 x15 x23 x24 x25 x26 x27 x28 x29 x30 x31 x32 (nI lv) (nI c0) kc ks a.1 a.2.1 a.2.2.1 a.2.2.2.1 a.2.2.2.2.1 a.2.2.2.2.2.1 a.2.2.2.2.2.2.1 a.2.2.2.2.2.2.2.1 a.2.2.2.2.2.2.2.2.1 a.2.2.2.2.2.2.2.2.2.1 a.2.2.2.2.2.2.2.2.2.2.1 a.2.2.2.2.2.2.2.2.2.2.2.1 a.2.2.2.2.2.2.2.2.2.2.2.2.1 a.2.2.2.2.2.2.2.2.2.2.2.2.2.1 a.2.2.2.2.2.2.2.2.2.2.2.2.2.2.1 a.2.2.2.2.2.2.2.2.2.2.2.2.2.2.2.1 a.2.2.2.2.2.2.2.2.2.2.2.2.2.2.2.2.1 a.2.2.2.2.2.2.2.2.2.2.2.2.2.2.2.2.2.1 a.2.2.2.2.2.2.2.2.2.2.2.2.2.2.2.2.2.2 b.1 b.2.1 b.2.2.1 b.2.2.2.1 b.2.2.2.2.1 b.2.2.2.2.2.1 b.2.2.2.2.2.2.1 b.2.2.2.2.2.2.2.1 b.2.2.2.2.2.2.2.2.1 b.2.2.2.2.2.2.2.2.2.1 b.2.2.2.2.2.2.2.2.2.2.1 b.2.2.2.2.2.2.2.2.2.2.2.1 b.2.2.2.2.2.2.2.2.2.2.2.2.1 b.2.2.2.2.2.2.2.2.2.2.2.2.2.1 b.2.2.2.2.2.2.2.2.2.2.2.2.2.2.1 b.2.2.2.2.2.2.2.2.2.2.2.2.2.2.2.1 b.2.2.2.2.2.2.2.2.2.2.2.2.2.2.2.2.1 b.2.2.2.2.2.2.2.2.2.2.2.2.2.2.2.2.2.1 b.2.2.2.2.2.2.2.2.2.2.2.2.2.2.2.2.2.2 := by
      refine nm_r (xe_loss lv) ?_
      have := hleaf (Or.inl hz)
      unfold pp_lv at this
      rw [if_pos hz] at this
      exact this
    split
    · exact br_f (by decide) (br_t rfl hv)
    · exact br_t rfl hv
  · have e0 : ¬ nI (pp_ls P).length = 0 := nI_ne0 (by omega) (by omega)
    rw [dg_st_o e0 hnl]
    refine br_f (by decide) (br_f (by decide) ?_)
    have go : ∀ z0, z0 = P.2.2 → wL_law_1400 post L xs J48 J1247 (nI l0) x5 x7 (nI D) x13 x14 x15 x23 x24 x25 x26 x27 x28 x29 x30 x31 x32 (nI lv) (nI c0) 0 z0 kc ks a.1 a.2.1 a.2.2.1 a.2.2.2.1 a.2.2.2.2.1 a.2.2.2.2.2.1 a.2.2.2.2.2.2.1 a.2.2.2.2.2.2.2.1 a.2.2.2.2.2.2.2.2.1 a.2.2.2.2.2.2.2.2.2.1 a.2.2.2.2.2.2.2.2.2.2.1 a.2.2.2.2.2.2.2.2.2.2.2.1 a.2.2.2.2.2.2.2.2.2.2.2.2.1 a.2.2.2.2.2.2.2.2.2.2.2.2.2.1 a.2.2.2.2.2.2.2.2.2.2.2.2.2.2.1 a.2.2.2.2.2.2.2.2.2.2.2.2.2.2.2.1 a.2.2.2.2.2.2.2.2.2.2.2.2.2.2.2.2.1 a.2.2.2.2.2.2.2.2.2.2.2.2.2.2.2.2.2.1 a.2.2.2.2.2.2.2.2.2.2.2.2.2.2.2.2.2.2 b.1 b.2.1 b.2.2.1 b.2.2.2.1 b.2.2.2.2.1 b.2.2.2.2.2.1 b.2.2.2.2.2.2.1 b.2.2.2.2.2.2.2.1 b.2.2.2.2.2.2.2.2.1 b.2.2.2.2.2.2.2.2.2.1 b.2.2.2.2.2.2.2.2.2.2.1 b.2.2.2.2.2.2.2.2.2.2.2.1 b.2.2.2.2.2.2.2.2.2.2.2.2.1 b.2.2.2.2.2.2.2.2.2.2.2.2.2.1 b.2.2.2.2.2.2.2.2.2.2.2.2.2.2.1 b.2.2.2.2.2.2.2.2.2.2.2.2.2.2.2.1 b.2.2.2.2.2.2.2.2.2.2.2.2.2.2.2.2.1 b.2.2.2.2.2.2.2.2.2.2.2.2.2.2.2.2.2.1 b.2.2.2.2.2.2.2.2.2.2.2.2.2.2.2.2.2.2 := by
      intro z0 ez
      subst ez
      refine br_c (fun dl => ?_) (fun dl => ?_)
      · have hnd : ¬ nI l0 ≤ P.2.2 := Int32.not_le.mpr dl
        refine pk_eq lv D (fun e => ?_) (fun e => ?_)
        · refine ex_sidem hB ⟨33, lb_1427 hB 32 0 33 0 (by omega) (by omega) ?_⟩
          have hh := hleaf (Or.inr (Or.inr e))
          unfold pp_lv at hh
          rw [if_neg hz, if_neg hnd] at hh
          rw [Int.zero_add, pv_ev_congr hpr.1 _ 32 0 (by omega), hpr.2.1]
          exact hh
        · have hnf : ¬ pp_lf (nI l0) D lv P := by
            rintro (y | y | y)
            · exact hz y
            · exact hnd y
            · exact e y
          have eM : eg_M (nI l0) G.1 = (pp_ls P).length := by
            unfold eg_M eg_st
            rw [els, dg_st_o e0 hnl, if_pos rfl]
          refine pk_eq lv 1 (fun y => ex_count hB ?_) (fun y => ex_count hB ?_)
          · rw [eM]
            subst y
            exact nm_r (nI_1 1) (hin1 hnf rfl)
          · rw [eM]
            exact nm_r (nI_1 lv) (hin2 hnf y)
      · have hh := hleaf (Or.inr (Or.inl (Int32.not_lt.mp dl)))
        unfold pp_lv at hh
        rw [if_neg hz, if_pos (Int32.not_lt.mp dl)] at hh
        exact hh
    rcases hpr.2.2 with ⟨y1, y2⟩ | ⟨k, y0, y1, y2⟩
    · refine br_t y1 (go _ ?_)
      rw [y2, nI_add]
    · refine br_f ?_ (go _ (by rw [y1, y2]))
      rw [y1, nI_eq (by omega) (by omega)]
      omega
end
end
section
/-! the second engine is laid anew and led to a node; the whole tree -/
theorem lb_play {sv : Int32} {G : eg_G} {b : St2} {post : Int32 → St2 → Prop} {P : pp_Pos} {c0 lv l0 i : Nat} (hB : eg_R (nI l0) G sv b) (hpr : pr_R c0 lv G.1 P) (hl0 : 4 ≤ l0) (hl1 : l0 ≤ 80) (hlv : lv ≤ 2) (hi : i < (pp_ls P).length)
    (h : ∀ r u' G', eg_R (nI l0) G' sv u' → pr_R c0 (lv + 1) G'.1 (pp_ap P (pp_mv P i)) → post r u') : wpX_play post b (nI i) := by
  have els := pr_ls hpr
  have h48 : (pp_ls P).length ≤ 48 := (pv_gen 0 P.1 P.2.1 (fun _ => 0) (fun _ => 0) (fun _ => 0)).1.1
  have hnl : ¬ nI l0 ≤ G.1.2.2 := by
    rcases hpr.2.2 with ⟨y, _⟩ | ⟨m, y0, y, _⟩
    · rw [y]; exact nI_ge (by omega) (by omega)
    · rw [y]; exact nI_ge (by omega) (by omega)
  have e0 : ¬ nI (pp_ls P).length = 0 := nI_ne0 (by omega) (by omega)
  have eM : eg_M (nI l0) G.1 = (pp_ls P).length := by
    unfold eg_M eg_st
    rw [els, dg_st_o e0 hnl, if_pos rfl]
  refine ex_play hB fun r u' hu' => ?_
  unfold eg_play at hu'
  rw [nI_clamp (by omega), eM, if_pos ⟨nI_pos (by omega), hi⟩] at hu'
  exact h r u' _ hu' (pr_ap hpr hi)
section
variable {L kc ks : Nat} {xs : Nat → Int32} {post : Int32 → Prop} {x2 x5 x7 x12 x13 x14 x15 x23 x24 x25 x26 x27 x28 x29 x30 x31 x32 x33 x34 lim sv svb : Int32} {a b : St2}
theorem lb_1263 {J48 J1247 : _} {G : eg_G} {Pl : pp_Pos} {c0 l0 lv j1 j2 j3 : Nat} (hA : eg_R (nI l0) G sv a) (hok : lo_ok G.1.1) (hc : G.1.2.2 = nI c0) (hl0 : 4 ≤ l0) (hl1 : l0 ≤ 80) (hj1 : j1 < (pp_ls G.1).length)
    (hlv : (lv = 1 ∧ Pl = pp_ap G.1 (pp_mv G.1 j1)) ∨ (lv = 2 ∧ ∃ P1, P1 = pp_ap G.1 (pp_mv G.1 j1) ∧ j2 < (pp_ls P1).length ∧ Pl = pp_ap P1 (pp_mv P1 j2)) ∨ (lv = 3 ∧ ∃ P1 P2, P1 = pp_ap G.1 (pp_mv G.1 j1) ∧ j2 < (pp_ls P1).length ∧ P2 = pp_ap P1 (pp_mv P1 j2) ∧ j3 < (pp_ls P2).length ∧ Pl = pp_ap P2 (pp_mv P2 j3)))
    (hx31 : 2 ≤ lv → x31 = nI j2) (hx32 : 3 ≤ lv → x32 = nI j3)
    (fin : ∀ b' G', eg_R (nI l0) G' svb b' → pr_R c0 lv G'.1 Pl → wL_law_1343 post L xs J48 J1247 x2 x5 x7 x12 x13 x14 G.1.2.1 x23 x24 x25 x26 x27 x28 x29 (nI j1) x31 x32 (nI lv) x34 kc ks a.1 a.2.1 a.2.2.1 a.2.2.2.1 a.2.2.2.2.1 a.2.2.2.2.2.1 a.2.2.2.2.2.2.1 a.2.2.2.2.2.2.2.1 a.2.2.2.2.2.2.2.2.1 a.2.2.2.2.2.2.2.2.2.1 a.2.2.2.2.2.2.2.2.2.2.1 a.2.2.2.2.2.2.2.2.2.2.2.1 a.2.2.2.2.2.2.2.2.2.2.2.2.1 a.2.2.2.2.2.2.2.2.2.2.2.2.2.1 a.2.2.2.2.2.2.2.2.2.2.2.2.2.2.1 a.2.2.2.2.2.2.2.2.2.2.2.2.2.2.2.1 a.2.2.2.2.2.2.2.2.2.2.2.2.2.2.2.2.1 a.2.2.2.2.2.2.2.2.2.2.2.2.2.2.2.2.2.1 a.2.2.2.2.2.2.2.2.2.2.2.2.2.2.2.2.2.2 b'.1 b'.2.1 b'.2.2.1 b'.2.2.2.1 b'.2.2.2.2.1 b'.2.2.2.2.2.1 b'.2.2.2.2.2.2.1 b'.2.2.2.2.2.2.2.1 b'.2.2.2.2.2.2.2.2.1 b'.2.2.2.2.2.2.2.2.2.1 b'.2.2.2.2.2.2.2.2.2.2.1 b'.2.2.2.2.2.2.2.2.2.2.2.1 b'.2.2.2.2.2.2.2.2.2.2.2.2.1 b'.2.2.2.2.2.2.2.2.2.2.2.2.2.1 b'.2.2.2.2.2.2.2.2.2.2.2.2.2.2.1 b'.2.2.2.2.2.2.2.2.2.2.2.2.2.2.2.1 b'.2.2.2.2.2.2.2.2.2.2.2.2.2.2.2.2.1 b'.2.2.2.2.2.2.2.2.2.2.2.2.2.2.2.2.2.1 b'.2.2.2.2.2.2.2.2.2.2.2.2.2.2.2.2.2.2) :
    ∀ (m q n : Nat) (b : St2) (GB : eg_G), q + m = 32 → m < n → eg_R (nI l0) GB svb b → (∀ r, r < 32 → GB.1.1 r = if r < q then G.1.1 r else 0) →
      wL_law_1263 post L xs J48 J1247 x2 x5 x7 x12 x13 x14 G.1.2.1 x23 x24 x25 x26 x27 x28 x29 (nI j1) x31 x32 (nI lv) x34 kc ks n (nI q) a.1 a.2.1 a.2.2.1 a.2.2.2.1 a.2.2.2.2.1 a.2.2.2.2.2.1 a.2.2.2.2.2.2.1 a.2.2.2.2.2.2.2.1 a.2.2.2.2.2.2.2.2.1 a.2.2.2.2.2.2.2.2.2.1 a.2.2.2.2.2.2.2.2.2.2.1 a.2.2.2.2.2.2.2.2.2.2.2.1 a.2.2.2.2.2.2.2.2.2.2.2.2.1 a.2.2.2.2.2.2.2.2.2.2.2.2.2.1 a.2.2.2.2.2.2.2.2.2.2.2.2.2.2.1 a.2.2.2.2.2.2.2.2.2.2.2.2.2.2.2.1 a.2.2.2.2.2.2.2.2.2.2.2.2.2.2.2.2.1 a.2.2.2.2.2.2.2.2.2.2.2.2.2.2.2.2.2.1 a.2.2.2.2.2.2.2.2.2.2.2.2.2.2.2.2.2.2 b.1 b.2.1 b.2.2.1 b.2.2.2.1 b.2.2.2.2.1 b.2.2.2.2.2.1 b.2.2.2.2.2.2.1 b.2.2.2.2.2.2.2.1 b.2.2.2.2.2.2.2.2.1 b.2.2.2.2.2.2.2.2.2.1 b.2.2.2.2.2.2.2.2.2.2.1 b.2.2.2.2.2.2.2.2.2.2.2.1 b.2.2.2.2.2.2.2.2.2.2.2.2.1 b.2.2.2.2.2.2.2.2.2.2.2.2.2.1 b.2.2.2.2.2.2.2.2.2.2.2.2.2.2.1 b.2.2.2.2.2.2.2.2.2.2.2.2.2.2.2.1 b.2.2.2.2.2.2.2.2.2.2.2.2.2.2.2.2.1 b.2.2.2.2.2.2.2.2.2.2.2.2.2.2.2.2.2.1 b.2.2.2.2.2.2.2.2.2.2.2.2.2.2.2.2.2.2 := by
  have hsd := eg_sd hA
  intro m
  induction m with
  | zero =>
    intro q n b GB hq hn hB hb
    obtain ⟨n, rfl⟩ : ∃ g, n = g + 1 := ⟨n - 1, by omega⟩
    obtain rfl : q = 32 := by omega
    refine br_t (nI_le (a := 32) (Nat.le_refl 32) (by omega)) (ex_side hB fun r u1 hu1 => ?_)
    unfold eg_side at hu1
    rw [if_pos hsd] at hu1
    have pr0 : pr_R c0 0 ((GB.1.1, G.1.2.1, 0) : pp_Pos) G.1 := ⟨fun r hr => by rw [hb r hr, if_pos hr], rfl, Or.inl ⟨rfl, hc⟩⟩
    refine lb_play hu1 pr0 hl0 hl1 (by omega) hj1 fun r u2 G2 hu2 pr1 => ?_
    rcases hlv with ⟨rfl, rfl⟩ | ⟨rfl, P1, rfl, hj2, rfl⟩ | ⟨rfl, P1, P2, rfl, hj2, rfl, hj3, rfl⟩
    · exact br_t (by decide) (br_t (by decide) (fin u2 G2 hu2 pr1))
    · rw [hx31 (by omega)]
      refine br_f (by decide) (lb_play hu2 pr1 hl0 hl1 (by omega) hj2 fun r u3 G3 hu3 pr2 => ?_)
      rw [hx31 (by omega)] at fin
      exact br_t (by decide) (fin u3 G3 hu3 pr2)
    · rw [hx31 (by omega)]
      refine br_f (by decide) (lb_play hu2 pr1 hl0 hl1 (by omega) hj2 fun r u3 G3 hu3 pr2 => ?_)
      rw [hx32 (by omega)]
      refine br_f (by decide) (lb_play hu3 pr2 hl0 hl1 (by omega) hj3 fun r u4 G4 hu4 pr3 => ?_)
      rw [hx31 (by omega), hx32 (by omega)] at fin
      exact fin u4 G4 hu4 pr3
  | succ m ih =>
    intro q n b GB hq hn hB hb
    obtain ⟨n, rfl⟩ : ∃ g, n = g + 1 := ⟨n - 1, by omega⟩
    have q32 : q < 32 := by omega
    have hcode := (hok.1 q q32)
    refine br_f (nI_ge (b := 32) (by omega) (by omega)) (ex_piece q32 hA (pk_eq (G.1.1 q) 0 (fun z => nm_r (nI_1 q) (ih (q + 1) n b GB (by omega) (by omega) hB ?_)) (fun z => ex_piece q32 hA (ex_place hB fun r u' hu' => nm_r (nI_1 q) (ih (q + 1) n u' _ (by omega) (by omega) hu' ?_)))))
    · intro r hr
      rw [hb r hr]
      by_cases e : r = q
      · subst e; rw [if_neg (by omega), if_pos (by omega)]; exact z.symm
      · by_cases l : r < q
        · rw [if_pos l, if_pos (by omega)]
        · rw [if_neg l, if_neg (by omega)]
    · unfold eg_place
      rw [nI_clamp (n := q) (by omega), nI_clamp (n := G.1.1 q) (by omega)]
      have hcan : eg_can GB.1.1 q (G.1.1 q) := by
        refine ⟨hcode.2, Or.inr ?_⟩
        have m1 := lo_mono (b := GB.1.1) (b' := G.1.1) (c := G.1.1 q) (s := q) 32 0 (fun r _ hr => by
          rw [hb r (by omega)]
          by_cases l : r < q
          · rw [if_pos l]; exact Or.inr rfl
          · rw [if_neg l]; exact Or.inl rfl)
        have m2 := lo_t_at (b := G.1.1) (c := G.1.1 q) q32
        have m3 := lo_t12 hok (G.1.1 q)
        have m4 : lo_w (G.1.1 q) (G.1.1 q) = 1 := if_pos ⟨z, Iff.rfl⟩
        omega
      rw [if_pos ⟨nI_pos (by omega), q32, nI_pos (by omega), hcode.1, hcan⟩]
      intro r hr
      show dg_u GB.1.1 q (G.1.1 q) r = _
      by_cases e : r = q
      · subst e; rw [dg_us, if_pos (by omega)]
      · rw [dg_un e, hb r hr]
        by_cases l : r < q
        · rw [if_pos l, if_pos (by omega)]
        · rw [if_neg l, if_neg (by omega)]
end
theorem lb_len (P : pp_Pos) : (pp_ls P).length ≤ 48 := (pv_gen 0 P.1 P.2.1 (fun _ => 0) (fun _ => 0) (fun _ => 0)).1.1
/-- the law's tree, from any state of its walk -/
theorem lb_main {L kc ks : Nat} {xs : Nat → Int32} {post : Int32 → Prop} {x5 x7 sv : Int32} {a : St2} {J48 : _} {G : eg_G} {c0 l0 D : Nat} (hA : eg_R (nI l0) G sv a) (hok : lo_ok G.1.1) (hc : G.1.2.2 = nI c0) (hc0 : c0 < 1000) (hl0 : 4 ≤ l0) (hl1 : l0 ≤ 80) (hD1 : 1 ≤ D) (hD3 : D ≤ 3) (hM : 0 < (pp_ls G.1).length)
    (hsv : sv = dg_i (pp_f (pp_ch (nI l0) D 0 G.1) (pp_ls G.1).length))
    (hend : ∀ b' GB' svb', eg_R (nI l0) (eg_reset 0 GB') svb' b' → J48 x5 1 x7 a.1 a.2.1 a.2.2.1 a.2.2.2.1 a.2.2.2.2.1 a.2.2.2.2.2.1 a.2.2.2.2.2.2.1 a.2.2.2.2.2.2.2.1 a.2.2.2.2.2.2.2.2.1 a.2.2.2.2.2.2.2.2.2.1 a.2.2.2.2.2.2.2.2.2.2.1 a.2.2.2.2.2.2.2.2.2.2.2.1 a.2.2.2.2.2.2.2.2.2.2.2.2.1 a.2.2.2.2.2.2.2.2.2.2.2.2.2.1 a.2.2.2.2.2.2.2.2.2.2.2.2.2.2.1 a.2.2.2.2.2.2.2.2.2.2.2.2.2.2.2.1 a.2.2.2.2.2.2.2.2.2.2.2.2.2.2.2.2.1 a.2.2.2.2.2.2.2.2.2.2.2.2.2.2.2.2.2.1 a.2.2.2.2.2.2.2.2.2.2.2.2.2.2.2.2.2.2 b'.1 b'.2.1 b'.2.2.1 b'.2.2.2.1 b'.2.2.2.2.1 b'.2.2.2.2.2.1 b'.2.2.2.2.2.2.1 b'.2.2.2.2.2.2.2.1 b'.2.2.2.2.2.2.2.2.1 b'.2.2.2.2.2.2.2.2.2.1 b'.2.2.2.2.2.2.2.2.2.2.1 b'.2.2.2.2.2.2.2.2.2.2.2.1 b'.2.2.2.2.2.2.2.2.2.2.2.2.1 b'.2.2.2.2.2.2.2.2.2.2.2.2.2.1 b'.2.2.2.2.2.2.2.2.2.2.2.2.2.2.1 b'.2.2.2.2.2.2.2.2.2.2.2.2.2.2.2.1 b'.2.2.2.2.2.2.2.2.2.2.2.2.2.2.2.2.1 b'.2.2.2.2.2.2.2.2.2.2.2.2.2.2.2.2.2.1 b'.2.2.2.2.2.2.2.2.2.2.2.2.2.2.2.2.2.2) :
    ∀ (u n : Nat), u ≤ n →
      (∀ (j1 : Nat) (x26 x27 x28 x29 x31 x32 svb : Int32) (b : St2) (GB : eg_G), j1 ≤ (pp_ls G.1).length → ((pp_ls G.1).length - j1) * 4706 < u → eg_R (nI l0) GB svb b →
        wL_law_1247 post L xs J48 (nI l0) x5 x7 (nI D) (nI (pp_a (pp_ch (nI l0) D 0 G.1) (pp_ls G.1).length)) (nI (pp_ls G.1).length) G.1.2.1 (-1000000) (nI c0) kc ks n (lb_acc (pp_ch (nI l0) D 0 G.1) j1) (lb_arg (pp_ch (nI l0) D 0 G.1) j1) x26 x27 x28 x29 (nI j1) x31 x32 1 a.1 a.2.1 a.2.2.1 a.2.2.2.1 a.2.2.2.2.1 a.2.2.2.2.2.1 a.2.2.2.2.2.2.1 a.2.2.2.2.2.2.2.1 a.2.2.2.2.2.2.2.2.1 a.2.2.2.2.2.2.2.2.2.1 a.2.2.2.2.2.2.2.2.2.2.1 a.2.2.2.2.2.2.2.2.2.2.2.1 a.2.2.2.2.2.2.2.2.2.2.2.2.1 a.2.2.2.2.2.2.2.2.2.2.2.2.2.1 a.2.2.2.2.2.2.2.2.2.2.2.2.2.2.1 a.2.2.2.2.2.2.2.2.2.2.2.2.2.2.2.1 a.2.2.2.2.2.2.2.2.2.2.2.2.2.2.2.2.1 a.2.2.2.2.2.2.2.2.2.2.2.2.2.2.2.2.2.1 a.2.2.2.2.2.2.2.2.2.2.2.2.2.2.2.2.2.2 b.1 b.2.1 b.2.2.1 b.2.2.2.1 b.2.2.2.2.1 b.2.2.2.2.2.1 b.2.2.2.2.2.2.1 b.2.2.2.2.2.2.2.1 b.2.2.2.2.2.2.2.2.1 b.2.2.2.2.2.2.2.2.2.1 b.2.2.2.2.2.2.2.2.2.2.1 b.2.2.2.2.2.2.2.2.2.2.2.1 b.2.2.2.2.2.2.2.2.2.2.2.2.1 b.2.2.2.2.2.2.2.2.2.2.2.2.2.1 b.2.2.2.2.2.2.2.2.2.2.2.2.2.2.1 b.2.2.2.2.2.2.2.2.2.2.2.2.2.2.2.1 b.2.2.2.2.2.2.2.2.2.2.2.2.2.2.2.2.1 b.2.2.2.2.2.2.2.2.2.2.2.2.2.2.2.2.2.1 b.2.2.2.2.2.2.2.2.2.2.2.2.2.2.2.2.2.2) ∧
      (∀ (j1 j2 : Nat) (P1 : pp_Pos) (x27 x29 x32 svb : Int32) (b : St2) (GB : eg_G), j1 < (pp_ls G.1).length → P1 = pp_ap G.1 (pp_mv G.1 j1) → ¬ pp_lf (nI l0) D 1 P1 → 1 < D → j2 < (pp_ls P1).length → ((pp_ls G.1).length - j1 - 1) * 4706 + ((pp_ls P1).length - j2) * 98 + 1 < u → eg_R (nI l0) GB svb b →
        wL_law_1247 post L xs J48 (nI l0) x5 x7 (nI D) (nI (pp_a (pp_ch (nI l0) D 0 G.1) (pp_ls G.1).length)) (nI (pp_ls G.1).length) G.1.2.1 (-1000000) (nI c0) kc ks n (lb_acc (pp_ch (nI l0) D 0 G.1) j1) (lb_arg (pp_ch (nI l0) D 0 G.1) j1) (lb_acc (pp_ch (nI l0) D 1 P1) j2) x27 (nI (pp_ls P1).length) x29 (nI j1) (nI j2) x32 2 a.1 a.2.1 a.2.2.1 a.2.2.2.1 a.2.2.2.2.1 a.2.2.2.2.2.1 a.2.2.2.2.2.2.1 a.2.2.2.2.2.2.2.1 a.2.2.2.2.2.2.2.2.1 a.2.2.2.2.2.2.2.2.2.1 a.2.2.2.2.2.2.2.2.2.2.1 a.2.2.2.2.2.2.2.2.2.2.2.1 a.2.2.2.2.2.2.2.2.2.2.2.2.1 a.2.2.2.2.2.2.2.2.2.2.2.2.2.1 a.2.2.2.2.2.2.2.2.2.2.2.2.2.2.1 a.2.2.2.2.2.2.2.2.2.2.2.2.2.2.2.1 a.2.2.2.2.2.2.2.2.2.2.2.2.2.2.2.2.1 a.2.2.2.2.2.2.2.2.2.2.2.2.2.2.2.2.2.1 a.2.2.2.2.2.2.2.2.2.2.2.2.2.2.2.2.2.2 b.1 b.2.1 b.2.2.1 b.2.2.2.1 b.2.2.2.2.1 b.2.2.2.2.2.1 b.2.2.2.2.2.2.1 b.2.2.2.2.2.2.2.1 b.2.2.2.2.2.2.2.2.1 b.2.2.2.2.2.2.2.2.2.1 b.2.2.2.2.2.2.2.2.2.2.1 b.2.2.2.2.2.2.2.2.2.2.2.1 b.2.2.2.2.2.2.2.2.2.2.2.2.1 b.2.2.2.2.2.2.2.2.2.2.2.2.2.1 b.2.2.2.2.2.2.2.2.2.2.2.2.2.2.1 b.2.2.2.2.2.2.2.2.2.2.2.2.2.2.2.1 b.2.2.2.2.2.2.2.2.2.2.2.2.2.2.2.2.1 b.2.2.2.2.2.2.2.2.2.2.2.2.2.2.2.2.2.1 b.2.2.2.2.2.2.2.2.2.2.2.2.2.2.2.2.2.2) ∧
      (∀ (j1 j2 j3 : Nat) (P1 P2 : pp_Pos) (svb : Int32) (b : St2) (GB : eg_G), j1 < (pp_ls G.1).length → P1 = pp_ap G.1 (pp_mv G.1 j1) → ¬ pp_lf (nI l0) D 1 P1 → 2 < D → j2 < (pp_ls P1).length → P2 = pp_ap P1 (pp_mv P1 j2) → ¬ pp_lf (nI l0) D 2 P2 → j3 < (pp_ls P2).length → ((pp_ls G.1).length - j1 - 1) * 4706 + ((pp_ls P1).length - j2 - 1) * 98 + ((pp_ls P2).length - j3) * 2 + 1 < u → eg_R (nI l0) GB svb b →
        wL_law_1247 post L xs J48 (nI l0) x5 x7 (nI D) (nI (pp_a (pp_ch (nI l0) D 0 G.1) (pp_ls G.1).length)) (nI (pp_ls G.1).length) G.1.2.1 (-1000000) (nI c0) kc ks n (lb_acc (pp_ch (nI l0) D 0 G.1) j1) (lb_arg (pp_ch (nI l0) D 0 G.1) j1) (lb_acc (pp_ch (nI l0) D 1 P1) j2) (lb_acc (pp_ch (nI l0) D 2 P2) j3) (nI (pp_ls P1).length) (nI (pp_ls P2).length) (nI j1) (nI j2) (nI j3) 3 a.1 a.2.1 a.2.2.1 a.2.2.2.1 a.2.2.2.2.1 a.2.2.2.2.2.1 a.2.2.2.2.2.2.1 a.2.2.2.2.2.2.2.1 a.2.2.2.2.2.2.2.2.1 a.2.2.2.2.2.2.2.2.2.1 a.2.2.2.2.2.2.2.2.2.2.1 a.2.2.2.2.2.2.2.2.2.2.2.1 a.2.2.2.2.2.2.2.2.2.2.2.2.1 a.2.2.2.2.2.2.2.2.2.2.2.2.2.1 a.2.2.2.2.2.2.2.2.2.2.2.2.2.2.1 a.2.2.2.2.2.2.2.2.2.2.2.2.2.2.2.1 a.2.2.2.2.2.2.2.2.2.2.2.2.2.2.2.2.1 a.2.2.2.2.2.2.2.2.2.2.2.2.2.2.2.2.2.1 a.2.2.2.2.2.2.2.2.2.2.2.2.2.2.2.2.2.2 b.1 b.2.1 b.2.2.1 b.2.2.2.1 b.2.2.2.2.1 b.2.2.2.2.2.1 b.2.2.2.2.2.2.1 b.2.2.2.2.2.2.2.1 b.2.2.2.2.2.2.2.2.1 b.2.2.2.2.2.2.2.2.2.1 b.2.2.2.2.2.2.2.2.2.2.1 b.2.2.2.2.2.2.2.2.2.2.2.1 b.2.2.2.2.2.2.2.2.2.2.2.2.1 b.2.2.2.2.2.2.2.2.2.2.2.2.2.1 b.2.2.2.2.2.2.2.2.2.2.2.2.2.2.1 b.2.2.2.2.2.2.2.2.2.2.2.2.2.2.2.1 b.2.2.2.2.2.2.2.2.2.2.2.2.2.2.2.2.1 b.2.2.2.2.2.2.2.2.2.2.2.2.2.2.2.2.2.1 b.2.2.2.2.2.2.2.2.2.2.2.2.2.2.2.2.2.2) := by
  have h48 := lb_len G.1
  have b0 : ∀ (GB : eg_G) (r : Nat), r < 32 → (eg_reset 1 GB).1.1 r = if r < 0 then G.1.1 r else 0 := by
    intro GB r hr
    rw [if_neg (by omega)]
    show eg_B0 1 r = 0
    unfold eg_B0
    rw [if_neg (by decide)]
  intro u
  induction u with
  | zero => intro n _; exact ⟨fun _ _ _ _ _ _ _ _ _ _ _ h => absurd h (Nat.not_lt_zero _), fun _ _ _ _ _ _ _ _ _ _ _ _ _ _ h => absurd h (Nat.not_lt_zero _), fun _ _ _ _ _ _ _ _ _ _ _ _ _ _ _ _ h => absurd h (Nat.not_lt_zero _)⟩
  | succ u ih =>
    intro n hn
    obtain ⟨n, rfl⟩ : ∃ g, n = g + 1 := ⟨n - 1, by omega⟩
    obtain ⟨K1, K2, K3⟩ := ih n (by omega)
    refine ⟨?_, ?_, ?_⟩
    · intro j1 x26 x27 x28 x29 x31 x32 svb b GB hj hmu hB
      by_cases he : j1 = (pp_ls G.1).length
      · subst he
        have ea : lb_acc (pp_ch (nI l0) D 0 G.1) (pp_ls G.1).length = sv := by unfold lb_acc; rw [if_neg (by omega), hsv]
        have eb : lb_arg (pp_ch (nI l0) D 0 G.1) (pp_ls G.1).length = nI (pp_a (pp_ch (nI l0) D 0 G.1) (pp_ls G.1).length) := by unfold lb_arg; rw [if_neg (by omega)]
        rw [ea, eb]
        exact br_t (nI_le (Nat.le_refl _) (by omega)) (ex_last hA (br_t rfl (br_t rfl (ex_reset hB fun u' hu' => hend u' GB svb hu'))))
      · have hj1 : j1 < (pp_ls G.1).length := by omega
        refine br_f (nI_ge (by omega) (by omega)) (ex_reset hB fun u' hu' => ⟨33, ?_⟩)
        have e3 : ((pp_ls G.1).length - j1) * 4706 = ((pp_ls G.1).length - j1 - 1) * 4706 + 4706 := by omega
        refine lb_1263 (lv := 1) (j2 := 0) (j3 := 0) hA hok hc hl0 hl1 hj1 (Or.inl ⟨rfl, rfl⟩) (fun z => absurd z (by omega)) (fun z => absurd z (by omega)) (fun b' G' hb' hpr => ?_) 32 0 33 u' _ (by omega) (by omega) hu' (b0 GB)
        have hlen := lb_len (pp_ap G.1 (pp_mv G.1 j1))
        refine lb_1343 hb' hpr (by omega) (by omega) hl0 hl1 hc0 hD3 (fun hlf => ?_) (fun hnf _ => ?_) (fun _ z => absurd rfl z)
        · refine br_f (by decide) (br_f (by decide) (lb_c1 (fun i _ => pp_ch_r (by omega) hD3 i) ?_ (K1 (j1 + 1) _ _ _ _ _ _ _ b' G' (by omega) (by omega) hb')))
          unfold pp_ch
          rw [pp_nv_leaf hlf]
        · have hne : ¬ (pp_ls (pp_ap G.1 (pp_mv G.1 j1))).length = 0 := fun z => hnf (Or.inl z)
          have hD : 1 < D := by
            apply Classical.byContradiction
            intro z
            exact hnf (Or.inr (Or.inr (by omega)))
          exact K2 j1 0 _ _ _ _ _ b' G' hj1 rfl hnf hD (by omega) (by omega) hb'
    · intro j1 j2 P1 x27 x29 x32 svb b GB hj1 eP1 hnf1 hD hj2 hmu hB
      have hl1' := lb_len P1
      refine br_f (nI_ge (by omega) (by omega)) (ex_reset hB fun u' hu' => ⟨33, ?_⟩)
      have e3 : ((pp_ls P1).length - j2) * 98 = ((pp_ls P1).length - j2 - 1) * 98 + 98 := by omega
      refine lb_1263 (lv := 2) (j2 := j2) (j3 := 0) hA hok hc hl0 hl1 hj1 (Or.inr (Or.inl ⟨rfl, P1, eP1, hj2, rfl⟩)) (fun _ => rfl) (fun z => absurd z (by omega)) (fun b' G' hb' hpr => ?_) 32 0 33 u' _ (by omega) (by omega) hu' (b0 GB)
      have hlen := lb_len (pp_ap P1 (pp_mv P1 j2))
      refine lb_1343 hb' hpr (by omega) (by omega) hl0 hl1 hc0 hD3 (fun hlf => ?_) (fun _ z => absurd z (by omega)) (fun hnf _ => ?_)
      · refine br_f (by decide) (lb_c2 (fun i _ => pp_ch_r hD hD3 i) ?_ hl1' hj2 (fun more => K2 j1 (j2 + 1) P1 _ _ _ _ b' G' hj1 eP1 hnf1 hD more (by omega) hb') (fun done => ?_))
        · unfold pp_ch
          rw [pp_nv_leaf hlf]
        · have ea : lb_acc (pp_ch (nI l0) D 1 P1) (j2 + 1) = dg_i (pp_f (pp_ch (nI l0) D 1 P1) (pp_ls P1).length) := by unfold lb_acc; rw [if_neg (by omega), done]
          have hv : pp_ch (nI l0) D 0 G.1 j1 = - pp_f (pp_ch (nI l0) D 1 P1) (pp_ls P1).length := by
            show - pp_nv (nI l0) D (D - 1) 1 (pp_ap G.1 (pp_mv G.1 j1)) = _
            rw [← eP1, pp_nv_in hnf1 hD]
          have r := lb_c1 (J48 := J48) (post := post) (L := L) (xs := xs) (kc := kc) (ks := ks) (a := a) (b := b') (x2 := nI l0) (x5 := x5) (x7 := x7) (x12 := nI D) (x13 := nI (pp_a (pp_ch (nI l0) D 0 G.1) (pp_ls G.1).length)) (x14 := nI (pp_ls G.1).length) (x15 := G.1.2.1) (x23 := -1000000) (x34 := nI c0) (fun i _ => pp_ch_r (lim := nI l0) (P := G.1) (lv := 0) (pl := D) (by omega) hD3 i) hv (K1 (j1 + 1) (lb_acc (pp_ch (nI l0) D 1 P1) (j2 + 1)) x27 (nI (pp_ls P1).length) x29 (nI (j2 + 1)) x32 _ b' G' (by omega) (by omega) hb')
          rw [← ea] at r
          exact r
      · have hne : ¬ (pp_ls (pp_ap P1 (pp_mv P1 j2))).length = 0 := fun z => hnf (Or.inl z)
        have hD2 : 2 < D := by
          apply Classical.byContradiction
          intro z
          exact hnf (Or.inr (Or.inr (by omega)))
        exact K3 j1 j2 0 P1 _ _ b' G' hj1 eP1 hnf1 hD2 hj2 rfl hnf (by omega) (by omega) hb'
    · intro j1 j2 j3 P1 P2 svb b GB hj1 eP1 hnf1 hD hj2 eP2 hnf2 hj3 hmu hB
      have hl1' := lb_len P1
      have hl2' := lb_len P2
      refine br_f (nI_ge (by omega) (by omega)) (ex_reset hB fun u' hu' => ⟨33, ?_⟩)
      refine lb_1263 (lv := 3) (j2 := j2) (j3 := j3) hA hok hc hl0 hl1 hj1 (Or.inr (Or.inr ⟨rfl, P1, P2, eP1, hj2, eP2, hj3, rfl⟩)) (fun _ => rfl) (fun _ => rfl) (fun b' G' hb' hpr => ?_) 32 0 33 u' _ (by omega) (by omega) hu' (b0 GB)
      have hD3' : D = 3 := by omega
      have hlf : pp_lf (nI l0) D 3 (pp_ap P2 (pp_mv P2 j3)) := Or.inr (Or.inr hD3'.symm)
      refine lb_1343 hb' hpr (by omega) (by omega) hl0 hl1 hc0 hD3 (fun _ => ?_) (fun hnf _ => absurd hlf hnf) (fun hnf _ => absurd hlf hnf)
      refine lb_c3 (fun i _ => pp_ch_r hD hD3 i) ?_ hl2' hj3 (fun more => K3 j1 j2 (j3 + 1) P1 P2 _ b' G' hj1 eP1 hnf1 hD hj2 eP2 hnf2 more (by omega) hb') (fun done => ?_)
      · unfold pp_ch
        rw [pp_nv_leaf hlf]
      · have ea2 : lb_acc (pp_ch (nI l0) D 2 P2) (j3 + 1) = dg_i (pp_f (pp_ch (nI l0) D 2 P2) (pp_ls P2).length) := by unfold lb_acc; rw [if_neg (by omega), done]
        have hv2 : pp_ch (nI l0) D 1 P1 j2 = - pp_f (pp_ch (nI l0) D 2 P2) (pp_ls P2).length := by
          show - pp_nv (nI l0) D (D - 2) 2 (pp_ap P1 (pp_mv P1 j2)) = _
          rw [← eP2, pp_nv_in hnf2 hD]
        have r2 := lb_c2 (post := post) (L := L) (xs := xs) (kc := kc) (ks := ks) (a := a) (b := b') (J48 := J48) (J1247 := wL_law_1247 post L xs J48 (nI l0) x5 x7 (nI D) (nI (pp_a (pp_ch (nI l0) D 0 G.1) (pp_ls G.1).length)) (nI (pp_ls G.1).length) G.1.2.1 (-1000000) (nI c0) kc ks n) (x2 := nI l0) (x5 := x5) (x7 := x7) (x12 := nI D) (x13 := nI (pp_a (pp_ch (nI l0) D 0 G.1) (pp_ls G.1).length)) (x14 := nI (pp_ls G.1).length) (x15 := G.1.2.1) (x23 := -1000000) (x24 := lb_acc (pp_ch (nI l0) D 0 G.1) j1) (x25 := lb_arg (pp_ch (nI l0) D 0 G.1) j1) (x27 := lb_acc (pp_ch (nI l0) D 2 P2) (j3 + 1)) (x29 := nI (pp_ls P2).length) (x30 := nI j1) (x32 := nI (j3 + 1)) (x34 := nI c0) (fun i _ => pp_ch_r (lim := nI l0) (P := P1) (lv := 1) (pl := D) (by omega) hD3 i) hv2 hl1' hj2 (fun more => K2 j1 (j2 + 1) P1 _ _ _ _ b' G' hj1 eP1 hnf1 (by omega) more (by omega) hb') (fun done2 => by
          have ea : lb_acc (pp_ch (nI l0) D 1 P1) (j2 + 1) = dg_i (pp_f (pp_ch (nI l0) D 1 P1) (pp_ls P1).length) := by unfold lb_acc; rw [if_neg (by omega), done2]
          have hv : pp_ch (nI l0) D 0 G.1 j1 = - pp_f (pp_ch (nI l0) D 1 P1) (pp_ls P1).length := by
            show - pp_nv (nI l0) D (D - 1) 1 (pp_ap G.1 (pp_mv G.1 j1)) = _
            rw [← eP1, pp_nv_in hnf1 (by omega)]
          have r := lb_c1 (J48 := J48) (post := post) (L := L) (xs := xs) (kc := kc) (ks := ks) (a := a) (b := b') (x2 := nI l0) (x5 := x5) (x7 := x7) (x12 := nI D) (x13 := nI (pp_a (pp_ch (nI l0) D 0 G.1) (pp_ls G.1).length)) (x14 := nI (pp_ls G.1).length) (x15 := G.1.2.1) (x23 := -1000000) (x34 := nI c0) (fun i _ => pp_ch_r (lim := nI l0) (P := G.1) (lv := 0) (pl := D) (by omega) hD3 i) hv (K1 (j1 + 1) (lb_acc (pp_ch (nI l0) D 1 P1) (j2 + 1)) (lb_acc (pp_ch (nI l0) D 2 P2) (j3 + 1)) (nI (pp_ls P1).length) (nI (pp_ls P2).length) (nI (j2 + 1)) (nI (j3 + 1)) _ b' G' (by omega) (by omega) hb')
          rw [← ea] at r
          exact r)
        rw [← ea2] at r2
        exact r2
end
section
/-! the law's operations, and its loop -/
noncomputable def eg_op (lim x9 x10 : Int32) (G : eg_G) : eg_G :=
  if x9 < 3 ∨ (x9 = 4 ∧ ¬ (x10 &&& 6) = 0) then (if eg_M lim G.1 = 0 then G else eg_play lim (x10 - x10 / nI (eg_M lim G.1) * nI (eg_M lim G.1)) G)
  else if x9 = 3 ∨ x9 = 6 then eg_place ((x10 - x10 / 36 * 36) - 2) (((x10 / 36) - (x10 / 36) / 7 * 7) - 1) G
  else if x9 = 4 then eg_reset (if (x10 &&& 1) = 1 then 1 else 0) G
  else eg_side (x10 - x10 / 3 * 3) G
theorem ls_116 {L kc ks : Nat} {xs : Nat → Int32} {post : Int32 → Prop} {J48 J99 : _} {x2 x5 x6 x7 x9 x10 x11 lim sv : Int32} {G : eg_G} {a b : St2} (hX : eg_R lim G sv b)
    (h : ∀ b', eg_R lim (eg_op lim x9 x10 G) sv b' → J99 (x11 + 1) a.1 a.2.1 a.2.2.1 a.2.2.2.1 a.2.2.2.2.1 a.2.2.2.2.2.1 a.2.2.2.2.2.2.1 a.2.2.2.2.2.2.2.1 a.2.2.2.2.2.2.2.2.1 a.2.2.2.2.2.2.2.2.2.1 a.2.2.2.2.2.2.2.2.2.2.1 a.2.2.2.2.2.2.2.2.2.2.2.1 a.2.2.2.2.2.2.2.2.2.2.2.2.1 a.2.2.2.2.2.2.2.2.2.2.2.2.2.1 a.2.2.2.2.2.2.2.2.2.2.2.2.2.2.1 a.2.2.2.2.2.2.2.2.2.2.2.2.2.2.2.1 a.2.2.2.2.2.2.2.2.2.2.2.2.2.2.2.2.1 a.2.2.2.2.2.2.2.2.2.2.2.2.2.2.2.2.2.1 a.2.2.2.2.2.2.2.2.2.2.2.2.2.2.2.2.2.2 b'.1 b'.2.1 b'.2.2.1 b'.2.2.2.1 b'.2.2.2.2.1 b'.2.2.2.2.2.1 b'.2.2.2.2.2.2.1 b'.2.2.2.2.2.2.2.1 b'.2.2.2.2.2.2.2.2.1 b'.2.2.2.2.2.2.2.2.2.1 b'.2.2.2.2.2.2.2.2.2.2.1 b'.2.2.2.2.2.2.2.2.2.2.2.1 b'.2.2.2.2.2.2.2.2.2.2.2.2.1 b'.2.2.2.2.2.2.2.2.2.2.2.2.2.1 b'.2.2.2.2.2.2.2.2.2.2.2.2.2.2.1 b'.2.2.2.2.2.2.2.2.2.2.2.2.2.2.2.1 b'.2.2.2.2.2.2.2.2.2.2.2.2.2.2.2.2.1 b'.2.2.2.2.2.2.2.2.2.2.2.2.2.2.2.2.2.1 b'.2.2.2.2.2.2.2.2.2.2.2.2.2.2.2.2.2.2) : wL_law_116 post L xs J48 J99 x2 x5 x6 x7 x9 x10 x11 kc ks a.1 a.2.1 a.2.2.1 a.2.2.2.1 a.2.2.2.2.1 a.2.2.2.2.2.1 a.2.2.2.2.2.2.1 a.2.2.2.2.2.2.2.1 a.2.2.2.2.2.2.2.2.1 a.2.2.2.2.2.2.2.2.2.1 a.2.2.2.2.2.2.2.2.2.2.1 a.2.2.2.2.2.2.2.2.2.2.2.1 a.2.2.2.2.2.2.2.2.2.2.2.2.1 a.2.2.2.2.2.2.2.2.2.2.2.2.2.1 a.2.2.2.2.2.2.2.2.2.2.2.2.2.2.1 a.2.2.2.2.2.2.2.2.2.2.2.2.2.2.2.1 a.2.2.2.2.2.2.2.2.2.2.2.2.2.2.2.2.1 a.2.2.2.2.2.2.2.2.2.2.2.2.2.2.2.2.2.1 a.2.2.2.2.2.2.2.2.2.2.2.2.2.2.2.2.2.2 b.1 b.2.1 b.2.2.1 b.2.2.2.1 b.2.2.2.2.1 b.2.2.2.2.2.1 b.2.2.2.2.2.2.1 b.2.2.2.2.2.2.2.1 b.2.2.2.2.2.2.2.2.1 b.2.2.2.2.2.2.2.2.2.1 b.2.2.2.2.2.2.2.2.2.2.1 b.2.2.2.2.2.2.2.2.2.2.2.1 b.2.2.2.2.2.2.2.2.2.2.2.2.1 b.2.2.2.2.2.2.2.2.2.2.2.2.2.1 b.2.2.2.2.2.2.2.2.2.2.2.2.2.2.1 b.2.2.2.2.2.2.2.2.2.2.2.2.2.2.2.1 b.2.2.2.2.2.2.2.2.2.2.2.2.2.2.2.2.1 b.2.2.2.2.2.2.2.2.2.2.2.2.2.2.2.2.2.1 b.2.2.2.2.2.2.2.2.2.2.2.2.2.2.2.2.2.2 := by
  have hM := eg_M_le lim G.1
  unfold eg_op at h
  have play : (x9 < 3 ∨ (x9 = 4 ∧ ¬ (x10 &&& 6) = 0)) → wL_law_138 post L xs J48 J99 x2 x5 x6 x7 x9 x10 x11 kc ks a.1 a.2.1 a.2.2.1 a.2.2.2.1 a.2.2.2.2.1 a.2.2.2.2.2.1 a.2.2.2.2.2.2.1 a.2.2.2.2.2.2.2.1 a.2.2.2.2.2.2.2.2.1 a.2.2.2.2.2.2.2.2.2.1 a.2.2.2.2.2.2.2.2.2.2.1 a.2.2.2.2.2.2.2.2.2.2.2.1 a.2.2.2.2.2.2.2.2.2.2.2.2.1 a.2.2.2.2.2.2.2.2.2.2.2.2.2.1 a.2.2.2.2.2.2.2.2.2.2.2.2.2.2.1 a.2.2.2.2.2.2.2.2.2.2.2.2.2.2.2.1 a.2.2.2.2.2.2.2.2.2.2.2.2.2.2.2.2.1 a.2.2.2.2.2.2.2.2.2.2.2.2.2.2.2.2.2.1 a.2.2.2.2.2.2.2.2.2.2.2.2.2.2.2.2.2.2 b.1 b.2.1 b.2.2.1 b.2.2.2.1 b.2.2.2.2.1 b.2.2.2.2.2.1 b.2.2.2.2.2.2.1 b.2.2.2.2.2.2.2.1 b.2.2.2.2.2.2.2.2.1 b.2.2.2.2.2.2.2.2.2.1 b.2.2.2.2.2.2.2.2.2.2.1 b.2.2.2.2.2.2.2.2.2.2.2.1 b.2.2.2.2.2.2.2.2.2.2.2.2.1 b.2.2.2.2.2.2.2.2.2.2.2.2.2.1 b.2.2.2.2.2.2.2.2.2.2.2.2.2.2.1 b.2.2.2.2.2.2.2.2.2.2.2.2.2.2.2.1 b.2.2.2.2.2.2.2.2.2.2.2.2.2.2.2.2.1 b.2.2.2.2.2.2.2.2.2.2.2.2.2.2.2.2.2.1 b.2.2.2.2.2.2.2.2.2.2.2.2.2.2.2.2.2.2 := by
    intro z
    rw [if_pos z] at h
    unfold wL_law_138
    refine ex_count hX (br_c (fun y => nm_e (h _ ?_)) (fun y => ⟨?_, ex_play hX fun r u' hu' => nm_e (h u' ?_)⟩))
    · have e0 : eg_M lim G.1 = 0 := by
        rw [← nI_0, nI_leI (by omega) (by omega)] at y
        omega
      rw [if_pos e0]; exact hX
    · intro e
      rw [e] at y
      exact y (by decide)
    · have e0 : ¬ eg_M lim G.1 = 0 := by
        intro e
        rw [e] at y
        exact y (by decide)
      rw [if_neg e0]; exact hu'
  have rest : ¬ (x9 < 3 ∨ (x9 = 4 ∧ ¬ (x10 &&& 6) = 0)) → wL_law_164 post L xs J48 J99 x2 x5 x6 x7 x9 x10 x11 kc ks a.1 a.2.1 a.2.2.1 a.2.2.2.1 a.2.2.2.2.1 a.2.2.2.2.2.1 a.2.2.2.2.2.2.1 a.2.2.2.2.2.2.2.1 a.2.2.2.2.2.2.2.2.1 a.2.2.2.2.2.2.2.2.2.1 a.2.2.2.2.2.2.2.2.2.2.1 a.2.2.2.2.2.2.2.2.2.2.2.1 a.2.2.2.2.2.2.2.2.2.2.2.2.1 a.2.2.2.2.2.2.2.2.2.2.2.2.2.1 a.2.2.2.2.2.2.2.2.2.2.2.2.2.2.1 a.2.2.2.2.2.2.2.2.2.2.2.2.2.2.2.1 a.2.2.2.2.2.2.2.2.2.2.2.2.2.2.2.2.1 a.2.2.2.2.2.2.2.2.2.2.2.2.2.2.2.2.2.1 a.2.2.2.2.2.2.2.2.2.2.2.2.2.2.2.2.2.2 b.1 b.2.1 b.2.2.1 b.2.2.2.1 b.2.2.2.2.1 b.2.2.2.2.2.1 b.2.2.2.2.2.2.1 b.2.2.2.2.2.2.2.1 b.2.2.2.2.2.2.2.2.1 b.2.2.2.2.2.2.2.2.2.1 b.2.2.2.2.2.2.2.2.2.2.1 b.2.2.2.2.2.2.2.2.2.2.2.1 b.2.2.2.2.2.2.2.2.2.2.2.2.1 b.2.2.2.2.2.2.2.2.2.2.2.2.2.1 b.2.2.2.2.2.2.2.2.2.2.2.2.2.2.1 b.2.2.2.2.2.2.2.2.2.2.2.2.2.2.2.1 b.2.2.2.2.2.2.2.2.2.2.2.2.2.2.2.2.1 b.2.2.2.2.2.2.2.2.2.2.2.2.2.2.2.2.2.1 b.2.2.2.2.2.2.2.2.2.2.2.2.2.2.2.2.2.2 := by
    intro z
    rw [if_neg z] at h
    have pl : (x9 = 3 ∨ x9 = 6) → wL_law_177 post L xs J48 J99 x2 x5 x6 x7 x9 x10 x11 kc ks a.1 a.2.1 a.2.2.1 a.2.2.2.1 a.2.2.2.2.1 a.2.2.2.2.2.1 a.2.2.2.2.2.2.1 a.2.2.2.2.2.2.2.1 a.2.2.2.2.2.2.2.2.1 a.2.2.2.2.2.2.2.2.2.1 a.2.2.2.2.2.2.2.2.2.2.1 a.2.2.2.2.2.2.2.2.2.2.2.1 a.2.2.2.2.2.2.2.2.2.2.2.2.1 a.2.2.2.2.2.2.2.2.2.2.2.2.2.1 a.2.2.2.2.2.2.2.2.2.2.2.2.2.2.1 a.2.2.2.2.2.2.2.2.2.2.2.2.2.2.2.1 a.2.2.2.2.2.2.2.2.2.2.2.2.2.2.2.2.1 a.2.2.2.2.2.2.2.2.2.2.2.2.2.2.2.2.2.1 a.2.2.2.2.2.2.2.2.2.2.2.2.2.2.2.2.2.2 b.1 b.2.1 b.2.2.1 b.2.2.2.1 b.2.2.2.2.1 b.2.2.2.2.2.1 b.2.2.2.2.2.2.1 b.2.2.2.2.2.2.2.1 b.2.2.2.2.2.2.2.2.1 b.2.2.2.2.2.2.2.2.2.1 b.2.2.2.2.2.2.2.2.2.2.1 b.2.2.2.2.2.2.2.2.2.2.2.1 b.2.2.2.2.2.2.2.2.2.2.2.2.1 b.2.2.2.2.2.2.2.2.2.2.2.2.2.1 b.2.2.2.2.2.2.2.2.2.2.2.2.2.2.1 b.2.2.2.2.2.2.2.2.2.2.2.2.2.2.2.1 b.2.2.2.2.2.2.2.2.2.2.2.2.2.2.2.2.1 b.2.2.2.2.2.2.2.2.2.2.2.2.2.2.2.2.2.1 b.2.2.2.2.2.2.2.2.2.2.2.2.2.2.2.2.2.2 := by
      intro y
      rw [if_pos y] at h
      exact ⟨by decide, by decide, by decide, ex_place hX fun r u' hu' => nm_e (h u' hu')⟩
    refine br_c (fun y => pl (Or.inl y)) (fun y3 => br_c (fun y => pl (Or.inr y)) (fun y6 => br_c (fun y4 => ?_) (fun y4 => ⟨by decide, ex_side hX fun r u' hu' => nm_e (h u' ?_)⟩)))
    · have n36 : ¬ (x9 = 3 ∨ x9 = 6) := by rintro (w | w); exact y3 w; exact y6 w
      rw [if_neg n36, if_pos y4] at h
      refine br_c (fun w => ?_) (fun w => ?_)
      · unfold wL_law_224
        rw [if_pos w] at h
        exact ex_reset hX fun u' hu' => nm_e (h u' hu')
      · unfold wL_law_224
        rw [if_neg w] at h
        exact ex_reset hX fun u' hu' => nm_e (h u' hu')
    · have n36 : ¬ (x9 = 3 ∨ x9 = 6) := by rintro (w | w); exact y3 w; exact y6 w
      rw [if_neg n36, if_neg y4]; exact hu'
  refine br_c (fun y => play (Or.inl y)) (fun y => br_c (fun y4 => br_c (fun w => rest ?_) (fun w => play (Or.inr ⟨y4, w⟩))) (fun y4 => rest ?_))
  · rintro (v | v)
    · exact y v
    · exact v.2 w
  · rintro (v | v)
    · exact y v
    · exact y4 v.1
theorem ls_116_2 {L kc ks : Nat} {xs : Nat → Int32} {post : Int32 → Prop} {J48 J99 : _} {x2 x5 x6 x7 x9 x10 x11 lim sv : Int32} {G : eg_G} {a b : St2} (hX : eg_R lim G sv a)
    (h : ∀ a', eg_R lim (eg_op lim x9 x10 G) sv a' → J99 (x11 + 1) a'.1 a'.2.1 a'.2.2.1 a'.2.2.2.1 a'.2.2.2.2.1 a'.2.2.2.2.2.1 a'.2.2.2.2.2.2.1 a'.2.2.2.2.2.2.2.1 a'.2.2.2.2.2.2.2.2.1 a'.2.2.2.2.2.2.2.2.2.1 a'.2.2.2.2.2.2.2.2.2.2.1 a'.2.2.2.2.2.2.2.2.2.2.2.1 a'.2.2.2.2.2.2.2.2.2.2.2.2.1 a'.2.2.2.2.2.2.2.2.2.2.2.2.2.1 a'.2.2.2.2.2.2.2.2.2.2.2.2.2.2.1 a'.2.2.2.2.2.2.2.2.2.2.2.2.2.2.2.1 a'.2.2.2.2.2.2.2.2.2.2.2.2.2.2.2.2.1 a'.2.2.2.2.2.2.2.2.2.2.2.2.2.2.2.2.2.1 a'.2.2.2.2.2.2.2.2.2.2.2.2.2.2.2.2.2.2 b.1 b.2.1 b.2.2.1 b.2.2.2.1 b.2.2.2.2.1 b.2.2.2.2.2.1 b.2.2.2.2.2.2.1 b.2.2.2.2.2.2.2.1 b.2.2.2.2.2.2.2.2.1 b.2.2.2.2.2.2.2.2.2.1 b.2.2.2.2.2.2.2.2.2.2.1 b.2.2.2.2.2.2.2.2.2.2.2.1 b.2.2.2.2.2.2.2.2.2.2.2.2.1 b.2.2.2.2.2.2.2.2.2.2.2.2.2.1 b.2.2.2.2.2.2.2.2.2.2.2.2.2.2.1 b.2.2.2.2.2.2.2.2.2.2.2.2.2.2.2.1 b.2.2.2.2.2.2.2.2.2.2.2.2.2.2.2.2.1 b.2.2.2.2.2.2.2.2.2.2.2.2.2.2.2.2.2.1 b.2.2.2.2.2.2.2.2.2.2.2.2.2.2.2.2.2.2) : wL_law_116_2 post L xs J48 J99 x2 x5 x6 x7 x9 x10 x11 kc ks a.1 a.2.1 a.2.2.1 a.2.2.2.1 a.2.2.2.2.1 a.2.2.2.2.2.1 a.2.2.2.2.2.2.1 a.2.2.2.2.2.2.2.1 a.2.2.2.2.2.2.2.2.1 a.2.2.2.2.2.2.2.2.2.1 a.2.2.2.2.2.2.2.2.2.2.1 a.2.2.2.2.2.2.2.2.2.2.2.1 a.2.2.2.2.2.2.2.2.2.2.2.2.1 a.2.2.2.2.2.2.2.2.2.2.2.2.2.1 a.2.2.2.2.2.2.2.2.2.2.2.2.2.2.1 a.2.2.2.2.2.2.2.2.2.2.2.2.2.2.2.1 a.2.2.2.2.2.2.2.2.2.2.2.2.2.2.2.2.1 a.2.2.2.2.2.2.2.2.2.2.2.2.2.2.2.2.2.1 a.2.2.2.2.2.2.2.2.2.2.2.2.2.2.2.2.2.2 b.1 b.2.1 b.2.2.1 b.2.2.2.1 b.2.2.2.2.1 b.2.2.2.2.2.1 b.2.2.2.2.2.2.1 b.2.2.2.2.2.2.2.1 b.2.2.2.2.2.2.2.2.1 b.2.2.2.2.2.2.2.2.2.1 b.2.2.2.2.2.2.2.2.2.2.1 b.2.2.2.2.2.2.2.2.2.2.2.1 b.2.2.2.2.2.2.2.2.2.2.2.2.1 b.2.2.2.2.2.2.2.2.2.2.2.2.2.1 b.2.2.2.2.2.2.2.2.2.2.2.2.2.2.1 b.2.2.2.2.2.2.2.2.2.2.2.2.2.2.2.1 b.2.2.2.2.2.2.2.2.2.2.2.2.2.2.2.2.1 b.2.2.2.2.2.2.2.2.2.2.2.2.2.2.2.2.2.1 b.2.2.2.2.2.2.2.2.2.2.2.2.2.2.2.2.2.2 := by
  have hM := eg_M_le lim G.1
  unfold eg_op at h
  have play : (x9 < 3 ∨ (x9 = 4 ∧ ¬ (x10 &&& 6) = 0)) → wL_law_138_2 post L xs J48 J99 x2 x5 x6 x7 x9 x10 x11 kc ks a.1 a.2.1 a.2.2.1 a.2.2.2.1 a.2.2.2.2.1 a.2.2.2.2.2.1 a.2.2.2.2.2.2.1 a.2.2.2.2.2.2.2.1 a.2.2.2.2.2.2.2.2.1 a.2.2.2.2.2.2.2.2.2.1 a.2.2.2.2.2.2.2.2.2.2.1 a.2.2.2.2.2.2.2.2.2.2.2.1 a.2.2.2.2.2.2.2.2.2.2.2.2.1 a.2.2.2.2.2.2.2.2.2.2.2.2.2.1 a.2.2.2.2.2.2.2.2.2.2.2.2.2.2.1 a.2.2.2.2.2.2.2.2.2.2.2.2.2.2.2.1 a.2.2.2.2.2.2.2.2.2.2.2.2.2.2.2.2.1 a.2.2.2.2.2.2.2.2.2.2.2.2.2.2.2.2.2.1 a.2.2.2.2.2.2.2.2.2.2.2.2.2.2.2.2.2.2 b.1 b.2.1 b.2.2.1 b.2.2.2.1 b.2.2.2.2.1 b.2.2.2.2.2.1 b.2.2.2.2.2.2.1 b.2.2.2.2.2.2.2.1 b.2.2.2.2.2.2.2.2.1 b.2.2.2.2.2.2.2.2.2.1 b.2.2.2.2.2.2.2.2.2.2.1 b.2.2.2.2.2.2.2.2.2.2.2.1 b.2.2.2.2.2.2.2.2.2.2.2.2.1 b.2.2.2.2.2.2.2.2.2.2.2.2.2.1 b.2.2.2.2.2.2.2.2.2.2.2.2.2.2.1 b.2.2.2.2.2.2.2.2.2.2.2.2.2.2.2.1 b.2.2.2.2.2.2.2.2.2.2.2.2.2.2.2.2.1 b.2.2.2.2.2.2.2.2.2.2.2.2.2.2.2.2.2.1 b.2.2.2.2.2.2.2.2.2.2.2.2.2.2.2.2.2.2 := by
    intro z
    rw [if_pos z] at h
    unfold wL_law_138_2
    refine ex_count hX (br_c (fun y => nm_e (h _ ?_)) (fun y => ⟨?_, ex_play hX fun r u' hu' => nm_e (h u' ?_)⟩))
    · have e0 : eg_M lim G.1 = 0 := by
        rw [← nI_0, nI_leI (by omega) (by omega)] at y
        omega
      rw [if_pos e0]; exact hX
    · intro e
      rw [e] at y
      exact y (by decide)
    · have e0 : ¬ eg_M lim G.1 = 0 := by
        intro e
        rw [e] at y
        exact y (by decide)
      rw [if_neg e0]; exact hu'
  have rest : ¬ (x9 < 3 ∨ (x9 = 4 ∧ ¬ (x10 &&& 6) = 0)) → wL_law_164_2 post L xs J48 J99 x2 x5 x6 x7 x9 x10 x11 kc ks a.1 a.2.1 a.2.2.1 a.2.2.2.1 a.2.2.2.2.1 a.2.2.2.2.2.1 a.2.2.2.2.2.2.1 a.2.2.2.2.2.2.2.1 a.2.2.2.2.2.2.2.2.1 a.2.2.2.2.2.2.2.2.2.1 a.2.2.2.2.2.2.2.2.2.2.1 a.2.2.2.2.2.2.2.2.2.2.2.1 a.2.2.2.2.2.2.2.2.2.2.2.2.1 a.2.2.2.2.2.2.2.2.2.2.2.2.2.1 a.2.2.2.2.2.2.2.2.2.2.2.2.2.2.1 a.2.2.2.2.2.2.2.2.2.2.2.2.2.2.2.1 a.2.2.2.2.2.2.2.2.2.2.2.2.2.2.2.2.1 a.2.2.2.2.2.2.2.2.2.2.2.2.2.2.2.2.2.1 a.2.2.2.2.2.2.2.2.2.2.2.2.2.2.2.2.2.2 b.1 b.2.1 b.2.2.1 b.2.2.2.1 b.2.2.2.2.1 b.2.2.2.2.2.1 b.2.2.2.2.2.2.1 b.2.2.2.2.2.2.2.1 b.2.2.2.2.2.2.2.2.1 b.2.2.2.2.2.2.2.2.2.1 b.2.2.2.2.2.2.2.2.2.2.1 b.2.2.2.2.2.2.2.2.2.2.2.1 b.2.2.2.2.2.2.2.2.2.2.2.2.1 b.2.2.2.2.2.2.2.2.2.2.2.2.2.1 b.2.2.2.2.2.2.2.2.2.2.2.2.2.2.1 b.2.2.2.2.2.2.2.2.2.2.2.2.2.2.2.1 b.2.2.2.2.2.2.2.2.2.2.2.2.2.2.2.2.1 b.2.2.2.2.2.2.2.2.2.2.2.2.2.2.2.2.2.1 b.2.2.2.2.2.2.2.2.2.2.2.2.2.2.2.2.2.2 := by
    intro z
    rw [if_neg z] at h
    have pl : (x9 = 3 ∨ x9 = 6) → wL_law_177_2 post L xs J48 J99 x2 x5 x6 x7 x9 x10 x11 kc ks a.1 a.2.1 a.2.2.1 a.2.2.2.1 a.2.2.2.2.1 a.2.2.2.2.2.1 a.2.2.2.2.2.2.1 a.2.2.2.2.2.2.2.1 a.2.2.2.2.2.2.2.2.1 a.2.2.2.2.2.2.2.2.2.1 a.2.2.2.2.2.2.2.2.2.2.1 a.2.2.2.2.2.2.2.2.2.2.2.1 a.2.2.2.2.2.2.2.2.2.2.2.2.1 a.2.2.2.2.2.2.2.2.2.2.2.2.2.1 a.2.2.2.2.2.2.2.2.2.2.2.2.2.2.1 a.2.2.2.2.2.2.2.2.2.2.2.2.2.2.2.1 a.2.2.2.2.2.2.2.2.2.2.2.2.2.2.2.2.1 a.2.2.2.2.2.2.2.2.2.2.2.2.2.2.2.2.2.1 a.2.2.2.2.2.2.2.2.2.2.2.2.2.2.2.2.2.2 b.1 b.2.1 b.2.2.1 b.2.2.2.1 b.2.2.2.2.1 b.2.2.2.2.2.1 b.2.2.2.2.2.2.1 b.2.2.2.2.2.2.2.1 b.2.2.2.2.2.2.2.2.1 b.2.2.2.2.2.2.2.2.2.1 b.2.2.2.2.2.2.2.2.2.2.1 b.2.2.2.2.2.2.2.2.2.2.2.1 b.2.2.2.2.2.2.2.2.2.2.2.2.1 b.2.2.2.2.2.2.2.2.2.2.2.2.2.1 b.2.2.2.2.2.2.2.2.2.2.2.2.2.2.1 b.2.2.2.2.2.2.2.2.2.2.2.2.2.2.2.1 b.2.2.2.2.2.2.2.2.2.2.2.2.2.2.2.2.1 b.2.2.2.2.2.2.2.2.2.2.2.2.2.2.2.2.2.1 b.2.2.2.2.2.2.2.2.2.2.2.2.2.2.2.2.2.2 := by
      intro y
      rw [if_pos y] at h
      exact ⟨by decide, by decide, by decide, ex_place hX fun r u' hu' => nm_e (h u' hu')⟩
    refine br_c (fun y => pl (Or.inl y)) (fun y3 => br_c (fun y => pl (Or.inr y)) (fun y6 => br_c (fun y4 => ?_) (fun y4 => ⟨by decide, ex_side hX fun r u' hu' => nm_e (h u' ?_)⟩)))
    · have n36 : ¬ (x9 = 3 ∨ x9 = 6) := by rintro (w | w); exact y3 w; exact y6 w
      rw [if_neg n36, if_pos y4] at h
      refine br_c (fun w => ?_) (fun w => ?_)
      · unfold wL_law_224_2
        rw [if_pos w] at h
        exact ex_reset hX fun u' hu' => nm_e (h u' hu')
      · unfold wL_law_224_2
        rw [if_neg w] at h
        exact ex_reset hX fun u' hu' => nm_e (h u' hu')
    · have n36 : ¬ (x9 = 3 ∨ x9 = 6) := by rintro (w | w); exact y3 w; exact y6 w
      rw [if_neg n36, if_neg y4]; exact hu'
  refine br_c (fun y => play (Or.inl y)) (fun y => br_c (fun y4 => br_c (fun w => rest ?_) (fun w => play (Or.inr ⟨y4, w⟩))) (fun y4 => rest ?_))
  · rintro (v | v)
    · exact y v
    · exact v.2 w
  · rintro (v | v)
    · exact y v
    · exact y4 v.1

noncomputable def eg_cell (lim w : Int32) (G : eg_G) : eg_G := if (w &&& 2147483647) - (w &&& 2147483647) / 8 * 8 = 7 then G else eg_op lim ((w &&& 2147483647) - (w &&& 2147483647) / 8 * 8) ((w &&& 2147483647) / 8) G
def eg_start : eg_G := ((eg_B0 0, 0, 0), (fun _ => 0), 0)
/-- the game after k operations -/
noncomputable def eg_S (lim : Int32) (xs : Nat → Int32) : Nat → eg_G
  | 0 => eg_start
  | k + 1 => eg_cell lim (xs (k + 1)) (eg_S lim xs k)
def eg_okc (k : Nat) (G : eg_G) : Prop := lo_ok G.1.1 ∧ ∃ c, c ≤ k ∧ G.1.2.2 = nI c
theorem eg_okc_up {k : Nat} {G : eg_G} (h : eg_okc k G) : eg_okc (k + 1) G := ⟨h.1, h.2.choose, by have := h.2.choose_spec.1; omega, h.2.choose_spec.2⟩
theorem eg_okc_op {lim x9 x10 : Int32} {k : Nat} {G : eg_G} (h : eg_okc k G) : eg_okc (k + 1) (eg_op lim x9 x10 G) := by
  have h' := eg_okc_up h
  obtain ⟨hok, c, hc, ec⟩ := h
  unfold eg_op
  split
  · split
    · exact h'
    · unfold eg_play
      split
      · rename_i z
        have hlt : (x10 - x10 / nI (eg_M lim G.1) * nI (eg_M lim G.1)).toNatClampNeg < (pp_ls G.1).length := by
          have := z.2
          have hM : eg_M lim G.1 ≤ (pp_ls G.1).length := by unfold eg_M; split <;> omega
          omega
        have hE := (pp_mv_E hlt).1
        refine ⟨lo_ap hok hE, ?_⟩
        show ∃ c, c ≤ k + 1 ∧ (if 0 < dg_C2 (pp_mv G.1 _).2 (pp_mv G.1 _).1 ∨ G.1.1 ((pp_mv G.1 _).2 0) = 1 ∨ G.1.1 ((pp_mv G.1 _).2 0) = 3 then 0 else G.1.2.2 + 1) = nI c
        split
        · exact ⟨0, by omega, rfl⟩
        · exact ⟨c + 1, by omega, by rw [ec]; exact nI_1 c⟩
      · exact h'
  · split
    · unfold eg_place
      split
      · rename_i z
        exact ⟨lo_place hok z.2.1 z.2.2.2.1 z.2.2.2.2, 0, by omega, rfl⟩
      · exact h'
    · split
      · refine ⟨?_, 0, by omega, rfl⟩
        show lo_ok (eg_B0 (if (x10 &&& 1) = 1 then 1 else 0))
        split
        · exact lo_ok1
        · exact lo_ok0
      · unfold eg_side
        split
        · exact ⟨hok, 0, by omega, rfl⟩
        · exact h'
theorem eg_okc_S {lim : Int32} {xs : Nat → Int32} : ∀ k, eg_okc k (eg_S lim xs k) := by
  intro k
  induction k with
  | zero => exact ⟨lo_ok0, 0, Nat.le_refl 0, rfl⟩
  | succ k ih =>
    show eg_okc (k + 1) (eg_cell lim (xs (k + 1)) (eg_S lim xs k))
    unfold eg_cell
    split
    · exact eg_okc_up ih
    · exact eg_okc_op ih
theorem eg_log0 {lim sv : Int32} {P : pp_Pos} {lg lg' : Nat → Int32} {u : St2} (h : eg_R lim (P, lg, 0) sv u) : eg_R lim (P, lg', 0) sv u := by
  obtain ⟨a_neighbours, a_board, a_sides, a_counters, a_mc, a_moveLengths, a_moveSquares, a_path, a_jumped, a_nextDirection, a_wentOn, a_nextMove, a_bestMove, a_bestValue, a_log, e, hN, hB, hS, hat, hl, hn⟩ := h
  exact ⟨a_neighbours, a_board, a_sides, a_counters, a_mc, a_moveLengths, a_moveSquares, a_path, a_jumped, a_nextDirection, a_wentOn, a_nextMove, a_bestMove, a_bestValue, a_log, e, hN, hB, hS, hat, fun i hi => absurd hi (Nat.not_lt_zero i), hn⟩
theorem pp_a_lt {f : Nat → Int} : ∀ n, 0 < n → pp_a f n < n := by
  intro n
  induction n with
  | zero => intro h; exact absurd h (Nat.lt_irrefl 0)
  | succ n ih =>
    intro _
    show (if pp_f f n < f n then n else pp_a f n) < n + 1
    split
    · omega
    · by_cases e : n = 0
      · subst e; exact Nat.succ_pos 0
      · have := ih (by omega); omega
theorem ls_nm1 {i : Nat} (h : i < 2 ^ 31) : ¬ nI i = -1 := by
  intro z
  have := nI_pos h
  rw [z] at this
  exact this (by decide)
/-- one search of the law -/
theorem ls_321 {L kc ks : Nat} {xs : Nat → Int32} {post : Int32 → Prop} {J48 : _} {x5 x6 x7 x11 sv svb : Int32} {G : eg_G} {a b : St2} {l0 D : Nat} (hA : eg_R (nI l0) G sv a) (hB : eg_R (nI l0) G svb b) (hok : eg_okc 900 G) (hl0 : 4 ≤ l0) (hl1 : l0 ≤ 80) (hD1 : 1 ≤ D) (hD3 : D ≤ 3) (hd : ∀ post : Int32 → Prop, post (nI D) → wpX_clamp post () x11 1 3)
    (hno : J48 x5 x6 x7 a.1 a.2.1 a.2.2.1 a.2.2.2.1 a.2.2.2.2.1 a.2.2.2.2.2.1 a.2.2.2.2.2.2.1 a.2.2.2.2.2.2.2.1 a.2.2.2.2.2.2.2.2.1 a.2.2.2.2.2.2.2.2.2.1 a.2.2.2.2.2.2.2.2.2.2.1 a.2.2.2.2.2.2.2.2.2.2.2.1 a.2.2.2.2.2.2.2.2.2.2.2.2.1 a.2.2.2.2.2.2.2.2.2.2.2.2.2.1 a.2.2.2.2.2.2.2.2.2.2.2.2.2.2.1 a.2.2.2.2.2.2.2.2.2.2.2.2.2.2.2.1 a.2.2.2.2.2.2.2.2.2.2.2.2.2.2.2.2.1 a.2.2.2.2.2.2.2.2.2.2.2.2.2.2.2.2.2.1 a.2.2.2.2.2.2.2.2.2.2.2.2.2.2.2.2.2.2 b.1 b.2.1 b.2.2.1 b.2.2.2.1 b.2.2.2.2.1 b.2.2.2.2.2.1 b.2.2.2.2.2.2.1 b.2.2.2.2.2.2.2.1 b.2.2.2.2.2.2.2.2.1 b.2.2.2.2.2.2.2.2.2.1 b.2.2.2.2.2.2.2.2.2.2.1 b.2.2.2.2.2.2.2.2.2.2.2.1 b.2.2.2.2.2.2.2.2.2.2.2.2.1 b.2.2.2.2.2.2.2.2.2.2.2.2.2.1 b.2.2.2.2.2.2.2.2.2.2.2.2.2.2.1 b.2.2.2.2.2.2.2.2.2.2.2.2.2.2.2.1 b.2.2.2.2.2.2.2.2.2.2.2.2.2.2.2.2.1 b.2.2.2.2.2.2.2.2.2.2.2.2.2.2.2.2.2.1 b.2.2.2.2.2.2.2.2.2.2.2.2.2.2.2.2.2.2)
    (hyes : ∀ a' b' sv' GB' svb', eg_R (nI l0) G sv' a' → eg_R (nI l0) (eg_reset 0 GB') svb' b' → J48 x5 1 (x7 + 1) a'.1 a'.2.1 a'.2.2.1 a'.2.2.2.1 a'.2.2.2.2.1 a'.2.2.2.2.2.1 a'.2.2.2.2.2.2.1 a'.2.2.2.2.2.2.2.1 a'.2.2.2.2.2.2.2.2.1 a'.2.2.2.2.2.2.2.2.2.1 a'.2.2.2.2.2.2.2.2.2.2.1 a'.2.2.2.2.2.2.2.2.2.2.2.1 a'.2.2.2.2.2.2.2.2.2.2.2.2.1 a'.2.2.2.2.2.2.2.2.2.2.2.2.2.1 a'.2.2.2.2.2.2.2.2.2.2.2.2.2.2.1 a'.2.2.2.2.2.2.2.2.2.2.2.2.2.2.2.1 a'.2.2.2.2.2.2.2.2.2.2.2.2.2.2.2.2.1 a'.2.2.2.2.2.2.2.2.2.2.2.2.2.2.2.2.2.1 a'.2.2.2.2.2.2.2.2.2.2.2.2.2.2.2.2.2.2 b'.1 b'.2.1 b'.2.2.1 b'.2.2.2.1 b'.2.2.2.2.1 b'.2.2.2.2.2.1 b'.2.2.2.2.2.2.1 b'.2.2.2.2.2.2.2.1 b'.2.2.2.2.2.2.2.2.1 b'.2.2.2.2.2.2.2.2.2.1 b'.2.2.2.2.2.2.2.2.2.2.1 b'.2.2.2.2.2.2.2.2.2.2.2.1 b'.2.2.2.2.2.2.2.2.2.2.2.2.1 b'.2.2.2.2.2.2.2.2.2.2.2.2.2.1 b'.2.2.2.2.2.2.2.2.2.2.2.2.2.2.1 b'.2.2.2.2.2.2.2.2.2.2.2.2.2.2.2.1 b'.2.2.2.2.2.2.2.2.2.2.2.2.2.2.2.2.1 b'.2.2.2.2.2.2.2.2.2.2.2.2.2.2.2.2.2.1 b'.2.2.2.2.2.2.2.2.2.2.2.2.2.2.2.2.2.2) :
    wL_law_321 post L xs J48 (nI l0) x5 x6 x7 x11 (nI D) kc ks a.1 a.2.1 a.2.2.1 a.2.2.2.1 a.2.2.2.2.1 a.2.2.2.2.2.1 a.2.2.2.2.2.2.1 a.2.2.2.2.2.2.2.1 a.2.2.2.2.2.2.2.2.1 a.2.2.2.2.2.2.2.2.2.1 a.2.2.2.2.2.2.2.2.2.2.1 a.2.2.2.2.2.2.2.2.2.2.2.1 a.2.2.2.2.2.2.2.2.2.2.2.2.1 a.2.2.2.2.2.2.2.2.2.2.2.2.2.1 a.2.2.2.2.2.2.2.2.2.2.2.2.2.2.1 a.2.2.2.2.2.2.2.2.2.2.2.2.2.2.2.1 a.2.2.2.2.2.2.2.2.2.2.2.2.2.2.2.2.1 a.2.2.2.2.2.2.2.2.2.2.2.2.2.2.2.2.2.1 a.2.2.2.2.2.2.2.2.2.2.2.2.2.2.2.2.2.2 b.1 b.2.1 b.2.2.1 b.2.2.2.1 b.2.2.2.2.1 b.2.2.2.2.2.1 b.2.2.2.2.2.2.1 b.2.2.2.2.2.2.2.1 b.2.2.2.2.2.2.2.2.1 b.2.2.2.2.2.2.2.2.2.1 b.2.2.2.2.2.2.2.2.2.2.1 b.2.2.2.2.2.2.2.2.2.2.2.1 b.2.2.2.2.2.2.2.2.2.2.2.2.1 b.2.2.2.2.2.2.2.2.2.2.2.2.2.1 b.2.2.2.2.2.2.2.2.2.2.2.2.2.2.1 b.2.2.2.2.2.2.2.2.2.2.2.2.2.2.2.1 b.2.2.2.2.2.2.2.2.2.2.2.2.2.2.2.2.1 b.2.2.2.2.2.2.2.2.2.2.2.2.2.2.2.2.2.1 b.2.2.2.2.2.2.2.2.2.2.2.2.2.2.2.2.2.2 := by
  obtain ⟨ok1, c0, hc0, ec0⟩ := hok
  have h48 := lb_len G.1
  unfold wL_law_321
  refine ex_search hA hD1 hD3 hd (fun _ => br_t rfl hno) (fun hst a' hA' => ?_)
  have hM : eg_M (nI l0) G.1 = (pp_ls G.1).length := if_pos hst
  have hne : ¬ nI (pp_ls G.1).length = 0 := (dg_st_0 hst).1
  have hpos : 0 < (pp_ls G.1).length := by
    apply Classical.byContradiction
    intro z
    have e : (pp_ls G.1).length = 0 := by omega
    rw [e] at hne
    exact hne rfl
  have hi := pp_a_lt (f := pp_ch (nI l0) D 0 G.1) (pp_ls G.1).length hpos
  have hi' : pp_a (pp_ch (nI l0) D 0 G.1) (pp_ls G.1).length < eg_M (nI l0) G.1 := by rw [hM]; exact hi
  refine br_f (ls_nm1 (by omega)) (nm_e (ex_count hA' (ex_sidem hA' (ex_sidem hB (br_t rfl (ex_status hA' (ex_status hB (br_t rfl (ex_draw hA' (ex_draw hB (br_t rfl (ex_count hB (br_t rfl (ex_logn hA' (ex_logn hB (br_t rfl ⟨65, ?_⟩))))))))))))))))
  refine la_412 hA' hB ⟨eg_M (nI l0) G.1 + 1, ?_⟩ 64 0 65 (by omega) (by omega)
  refine la_469 hA' hB hi' (la_574 hA' hi' ?_) _ 0 _ (Nat.zero_add _) (by omega)
  rw [hM]
  refine ex_draw hA' ⟨1000000, ?_⟩
  rw [ec0]
  have m := (lb_main (post := post) (L := L) (xs := xs) (kc := kc) (ks := ks) (x5 := x5) (x7 := x7 + 1) (J48 := J48) (c0 := c0) (D := D) hA' ok1 ec0 (by omega) hl0 hl1 hD1 hD3 hpos rfl (fun b' GB' svb' hb' => hyes a' b' _ GB' svb' hA' hb') 1000000 1000000 (Nat.le_refl _)).1 0 (-1000000) (-1000000) 0 0 0 0 svb b G (Nat.zero_le _) (by omega) hB
  exact m
theorem ls_clamp (x : Int32) : ∃ D, 1 ≤ D ∧ D ≤ 3 ∧ (∀ post : Int32 → Prop, post (nI D) → wpX_clamp post () x 1 3) ∧ ((1 ≤ x → x ≤ 3 → x = nI D) ∧ (1 ≤ x → ¬ x ≤ 3 → D = 3) ∧ (¬ 1 ≤ x → D = 1)) := by
  by_cases a : 1 ≤ x
  · by_cases b : x ≤ 3
    · have hx : ¬ x < 0 := by
        intro z
        rw [Int32.le_iff_toInt_le] at a
        rw [Int32.lt_iff_toInt_lt] at z
        have e1 : (1 : Int32).toInt = 1 := by decide
        have e0 : (0 : Int32).toInt = 0 := by decide
        omega
      obtain ⟨j, hj, rfl⟩ := nI_of hx
      have a' : 1 ≤ j := (nI_leI (a := 1) (by omega) hj).mp a
      have b' : j ≤ 3 := (nI_leI (b := 3) hj (by omega)).mp b
      exact ⟨j, a', b', fun post h => br_t a (br_t b h), fun _ _ => rfl, fun _ z => absurd b z, fun z => absurd a z⟩
    · exact ⟨3, by omega, by omega, fun post h => br_t a (br_f b h), fun _ z => absurd z b, fun _ _ => rfl, fun z => absurd a z⟩
  · exact ⟨1, by omega, by omega, fun post h => br_f a h, fun z _ => absurd z a, fun z _ => absurd z a, fun _ => rfl⟩
theorem ls_m0 {K d m : Nat} (hd : d < 1000) (hm : K + 1000 < m + 1) : K + d < m := by omega
theorem ls_mk {L u m : Nat} (h : ¬ L ≤ u + 1) (hm : (L - (u + 1)) * 1000 + (u - u) < m + 1) : (L - (u + 1 + 1)) * 1000 + 1000 < m + 1 := by
  obtain ⟨k, rfl⟩ : ∃ k, L = u + 1 + 1 + k := ⟨L - (u + 1 + 1), by omega⟩
  have e1 : u + 1 + 1 + k - (u + 1) = k + 1 := by omega
  have e2 : u + 1 + 1 + k - (u + 1 + 1) = k := by omega
  rw [e1, Nat.sub_self, Nat.add_mul, Nat.one_mul, Nat.add_zero] at hm
  rw [e2]
  exact hm
theorem ls_m1 {L u m : Nat} (h : ¬ L ≤ u + 1) (hu : L ≤ 260) (hm : (L - (u + 1)) * 1000 + (u - u) < m + 1) : (L - (u + 1 + 1)) * 1000 + (u + 1 - (u + 1)) < m := by
  rw [Nat.sub_self]
  exact ls_m0 (by decide) (ls_mk h hm)
theorem ls_m2 {L u m : Nat} (h : ¬ L ≤ u + 1) (hu : L ≤ 260) (hm : (L - (u + 1)) * 1000 + (u - u) < m + 1) : (L - (u + 1 + 1)) * 1000 + (u + 1 - 0) < m := by
  rw [Nat.sub_zero]
  exact ls_m0 (by omega) (ls_mk h hm)
theorem ls_m3 {L t u m : Nat} (h : u + 1 < t + 1) (hm : (L - (t + 1)) * 1000 + (t - u) < m + 1) : (L - (t + 1)) * 1000 + (t - (u + 1)) < m := by omega
theorem ls_m4 {L u : Nat} (h : ¬ L ≤ u + 1) (hu : L ≤ 260) : u + 1 ≤ 260 := by omega
/-- the law's loop -/
theorem ls_48 {L kc ks : Nat} {xs : Nat → Int32} {post : Int32 → Prop} {l0 : Nat} (hL : L ≤ 260) (hl0 : 4 ≤ l0) (hl1 : l0 ≤ 80) (hp : post 1) :
    ∀ (m n t u : Nat) (x7 sv svb : Int32) (a b : St2), m ≤ n → u ≤ t → t ≤ 260 → (L - (t + 1)) * 1000 + (t - u) < m → eg_R (nI l0) (eg_S (nI l0) xs t) sv a → eg_R (nI l0) (eg_S (nI l0) xs u) svb b →
      wL_law_48 post L xs (nI l0) kc ks n (nI (t + 1)) (nI (u + 1)) x7 a.1 a.2.1 a.2.2.1 a.2.2.2.1 a.2.2.2.2.1 a.2.2.2.2.2.1 a.2.2.2.2.2.2.1 a.2.2.2.2.2.2.2.1 a.2.2.2.2.2.2.2.2.1 a.2.2.2.2.2.2.2.2.2.1 a.2.2.2.2.2.2.2.2.2.2.1 a.2.2.2.2.2.2.2.2.2.2.2.1 a.2.2.2.2.2.2.2.2.2.2.2.2.1 a.2.2.2.2.2.2.2.2.2.2.2.2.2.1 a.2.2.2.2.2.2.2.2.2.2.2.2.2.2.1 a.2.2.2.2.2.2.2.2.2.2.2.2.2.2.2.1 a.2.2.2.2.2.2.2.2.2.2.2.2.2.2.2.2.1 a.2.2.2.2.2.2.2.2.2.2.2.2.2.2.2.2.2.1 a.2.2.2.2.2.2.2.2.2.2.2.2.2.2.2.2.2.2 b.1 b.2.1 b.2.2.1 b.2.2.2.1 b.2.2.2.2.1 b.2.2.2.2.2.1 b.2.2.2.2.2.2.1 b.2.2.2.2.2.2.2.1 b.2.2.2.2.2.2.2.2.1 b.2.2.2.2.2.2.2.2.2.1 b.2.2.2.2.2.2.2.2.2.2.1 b.2.2.2.2.2.2.2.2.2.2.2.1 b.2.2.2.2.2.2.2.2.2.2.2.2.1 b.2.2.2.2.2.2.2.2.2.2.2.2.2.1 b.2.2.2.2.2.2.2.2.2.2.2.2.2.2.1 b.2.2.2.2.2.2.2.2.2.2.2.2.2.2.2.1 b.2.2.2.2.2.2.2.2.2.2.2.2.2.2.2.2.1 b.2.2.2.2.2.2.2.2.2.2.2.2.2.2.2.2.2.1 b.2.2.2.2.2.2.2.2.2.2.2.2.2.2.2.2.2.2 := by
  intro m
  induction m with
  | zero => intro n t u x7 sv svb a b _ _ _ h; exact absurd h (Nat.not_lt_zero _)
  | succ m ih =>
    intro n t u x7 sv svb a b hmn hut ht hm hA hB
    obtain ⟨n, rfl⟩ : ∃ g, n = g + 1 := ⟨n - 1, by omega⟩
    by_cases hend : L ≤ t + 1
    · exact br_t (nI_le hend (by omega)) hp
    · have eS : eg_S (nI l0) xs (u + 1) = eg_cell (nI l0) (xs (u + 1)) (eg_S (nI l0) xs u) := rfl
      refine br_f (nI_ge (by omega) (by omega)) ⟨vp_in_nI (by omega) (by omega), ?_⟩
      rw [nI_clamp (n := u + 1) (by omega)]
      refine nm_e ⟨by decide, nm_e ⟨by decide, nm_e ?_⟩⟩
      unfold eg_cell at eS
      refine br_c (fun h7 => ?_) (fun h7 => ?_)
      · refine pk_le (t + 1) (u + 1) (fun hle => ?_) (fun hlt => ?_)
        · obtain rfl : u = t := by omega
          rw [if_pos h7] at eS
          have hA1 : eg_R (nI l0) (eg_S (nI l0) xs (u + 1)) sv a := by rw [eS]; exact hA
          have hB1 : eg_R (nI l0) (eg_S (nI l0) xs (u + 1)) svb b := by rw [eS]; exact hB
          refine nm_r (nI_1 (u + 1)) (nm_r (nI_1 (u + 1)) (br_c (fun _ => ⟨by decide, nm_e ?_⟩) (fun _ => ?_)))
          · have okc : eg_okc 900 (eg_S (nI l0) xs (u + 1)) := by
              obtain ⟨o1, c, o2, o3⟩ := eg_okc_S (lim := nI l0) (xs := xs) (u + 1)
              exact ⟨o1, c, by omega, o3⟩
            have hno := ih n (u + 1) (u + 1) x7 sv svb a b (Nat.le_of_succ_le_succ hmn) (Nat.le_refl _) (ls_m4 hend hL) (ls_m1 hend hL hm) hA1 hB1
            have hyes : ∀ (a' b' : St2) (sv' : Int32) (GB' : eg_G) (svb' : Int32), eg_R (nI l0) (eg_S (nI l0) xs (u + 1)) sv' a' → eg_R (nI l0) (eg_reset 0 GB') svb' b' → wL_law_48 post L xs (nI l0) kc ks n (nI (u + 1 + 1)) 1 (x7 + 1) a'.1 a'.2.1 a'.2.2.1 a'.2.2.2.1 a'.2.2.2.2.1 a'.2.2.2.2.2.1 a'.2.2.2.2.2.2.1 a'.2.2.2.2.2.2.2.1 a'.2.2.2.2.2.2.2.2.1 a'.2.2.2.2.2.2.2.2.2.1 a'.2.2.2.2.2.2.2.2.2.2.1 a'.2.2.2.2.2.2.2.2.2.2.2.1 a'.2.2.2.2.2.2.2.2.2.2.2.2.1 a'.2.2.2.2.2.2.2.2.2.2.2.2.2.1 a'.2.2.2.2.2.2.2.2.2.2.2.2.2.2.1 a'.2.2.2.2.2.2.2.2.2.2.2.2.2.2.2.1 a'.2.2.2.2.2.2.2.2.2.2.2.2.2.2.2.2.1 a'.2.2.2.2.2.2.2.2.2.2.2.2.2.2.2.2.2.1 a'.2.2.2.2.2.2.2.2.2.2.2.2.2.2.2.2.2.2 b'.1 b'.2.1 b'.2.2.1 b'.2.2.2.1 b'.2.2.2.2.1 b'.2.2.2.2.2.1 b'.2.2.2.2.2.2.1 b'.2.2.2.2.2.2.2.1 b'.2.2.2.2.2.2.2.2.1 b'.2.2.2.2.2.2.2.2.2.1 b'.2.2.2.2.2.2.2.2.2.2.1 b'.2.2.2.2.2.2.2.2.2.2.2.1 b'.2.2.2.2.2.2.2.2.2.2.2.2.1 b'.2.2.2.2.2.2.2.2.2.2.2.2.2.1 b'.2.2.2.2.2.2.2.2.2.2.2.2.2.2.1 b'.2.2.2.2.2.2.2.2.2.2.2.2.2.2.2.1 b'.2.2.2.2.2.2.2.2.2.2.2.2.2.2.2.2.1 b'.2.2.2.2.2.2.2.2.2.2.2.2.2.2.2.2.2.1 b'.2.2.2.2.2.2.2.2.2.2.2.2.2.2.2.2.2.2 := by
              intro a' b' sv' GB' svb' hA' hB'
              have hB2 : eg_R (nI l0) (eg_S (nI l0) xs 0) svb' b' := eg_log0 (P := (eg_B0 0, 0, 0)) (lg := GB'.2.1) (lg' := fun _ => 0) hB'
              have r := ih n (u + 1) 0 (x7 + 1) sv' svb' a' b' (Nat.le_of_succ_le_succ hmn) (Nat.zero_le _) (ls_m4 hend hL) (ls_m2 hend hL hm) hA' hB2
              exact r
            obtain ⟨D, d1, d3, hd, q1, q2, q3⟩ := ls_clamp ((((xs (u + 1)) &&& 2147483647) / 8) - (((xs (u + 1)) &&& 2147483647) / 8) / 6 * 6 - 1)
            have go := ls_321 (post := post) (L := L) (xs := xs) (kc := kc) (ks := ks) (x5 := nI (u + 1 + 1)) (x6 := nI (u + 1 + 1)) (x7 := x7) (x11 := (((xs (u + 1)) &&& 2147483647) / 8) - (((xs (u + 1)) &&& 2147483647) / 8) / 6 * 6 - 1) (D := D) (J48 := wL_law_48 post L xs (nI l0) kc ks n) hA1 hB1 okc hl0 hl1 d1 d3 hd hno hyes
            refine br_c (fun y1 => br_c (fun y3 => ?_) (fun y3 => ?_)) (fun y1 => ?_)
            · have e := q1 y1 y3
              rw [← e] at go
              exact go
            · obtain rfl := q2 y1 y3
              exact go
            · obtain rfl := q3 y1
              exact go
          · have r := ih n (u + 1) (u + 1) x7 sv svb a b (Nat.le_of_succ_le_succ hmn) (Nat.le_refl _) (ls_m4 hend hL) (ls_m1 hend hL hm) hA1 hB1
            exact r
        · rw [if_pos h7] at eS
          have hB1 : eg_R (nI l0) (eg_S (nI l0) xs (u + 1)) svb b := by rw [eS]; exact hB
          have r := ih n t (u + 1) x7 sv svb a b (Nat.le_of_succ_le_succ hmn) (Nat.le_of_lt_succ hlt) ht (ls_m3 hlt hm) hA hB1
          exact nm_r (nI_1 (u + 1)) r
      · rw [if_neg h7] at eS
        refine pk_le (t + 1) (u + 1) (fun hle => ⟨3, ?_⟩) (fun hlt => ⟨2, ?_⟩)
        · obtain rfl : u = t := by omega
          refine br_f (by decide) (br_t rfl (ls_116_2 hA fun a' hA' => ?_))
          refine br_f (by decide) (br_f (by decide) (ls_116 hB fun b' hB' => ?_))
          rw [← eS] at hA' hB'
          have r := ih n (u + 1) (u + 1) x7 sv svb a' b' (Nat.le_of_succ_le_succ hmn) (Nat.le_refl _) (ls_m4 hend hL) (ls_m1 hend hL hm) hA' hB'
          exact br_t (by decide) (br_t rfl (nm_r (nI_1 (u + 1)) (nm_r (nI_1 (u + 1)) r)))
        · refine br_f (by decide) (br_f (by decide) (ls_116 hB fun b' hB' => ?_))
          rw [← eS] at hB'
          have hne : ¬ nI (u + 1) = nI (t + 1) := fun z => absurd ((nI_eq (by omega) (by omega)).mp z) (Nat.ne_of_lt hlt)
          have r := ih n t (u + 1) x7 sv svb a b' (Nat.le_of_succ_le_succ hmn) (Nat.le_of_lt_succ hlt) ht (ls_m3 hlt hm) hA hB'
          exact br_t (by decide) (br_f hne (nm_r (nI_1 (u + 1)) r))
end
section
/-! what is owed -/
theorem ls_19 {L : Nat} {xs : Nat → Int32} {x1 : Int32} {l0 : Nat} (hL : L ≤ 260) (hl0 : 4 ≤ l0) (hl1 : l0 ≤ 80) (hc : ∀ post : Int32 → Prop, post (nI l0) → wpX_clamp post () x1 4 80) : wL_law_19 (fun r => r = 1) L xs x1 (nI l0) 0 0 := by
  refine ⟨by omega, by omega, 15, 3084, by omega, by omega, ex_init (by omega) (by omega) hc fun a hA => ?_⟩
  refine ⟨by omega, by omega, 15, 3084, by omega, by omega, ex_init (by omega) (by omega) hc fun b hB => ⟨300000, ?_⟩⟩
  have r := ls_48 (post := fun r => r = 1) (xs := xs) (kc := 0 + 1 + 15 + 1 + 15) (ks := 0 + 19 + 3084 + 19 + 3084) hL hl0 hl1 rfl 300000 300000 0 0 0 0 0 a b (Nat.le_refl _) (Nat.le_refl _) (Nat.zero_le _) (by omega) hA hB
  exact r
theorem ls_raw {x : Int32} : ∃ l0, 4 ≤ l0 ∧ l0 ≤ 80 ∧ (∀ post : Int32 → Prop, post (nI l0) → wpX_clamp post () (x - x / 24 * 24) 4 80) ∧ (4 ≤ x - x / 24 * 24 → x - x / 24 * 24 = nI l0) ∧ (¬ 4 ≤ x - x / 24 * 24 → l0 = 4) := by
  have hr := rem_toInt x 24
  have e24 : (24 : Int32).toInt = 24 := by decide
  rw [e24] at hr
  have hb := tmod_bounds (a := x.toInt) (M := 24) (by decide)
  rw [← hr] at hb
  generalize x - x / 24 * 24 = y at hb
  clear hr e24
  by_cases a : 4 ≤ y
  · have a2 := a
    rw [Int32.le_iff_toInt_le] at a2
    have e4 : (4 : Int32).toInt = 4 := by decide
    have e0 : (0 : Int32).toInt = 0 := by decide
    have hx : ¬ y < 0 := by
      intro z
      rw [Int32.lt_iff_toInt_lt] at z
      omega
    obtain ⟨j, hj, rfl⟩ := nI_of hx
    rw [nI_toInt hj] at hb a2
    have b : nI j ≤ 80 := nI_le (b := 80) (by omega) (by omega)
    exact ⟨j, by omega, by omega, fun post h => br_t a (br_t b h), fun _ => rfl, fun z => absurd a z⟩
  · exact ⟨4, by omega, by omega, fun post h => br_f a h, fun z => absurd z a, fun _ => rfl⟩
theorem ls_go {L : Nat} {xs : Nat → Int32} (hL : L ≤ 260) (x : Int32) : ¬ (24 : Int32) = 0 ∧ ∀ x1_3 : Int32, x1_3 = x - x / 24 * 24 → ((4 ≤ x1_3 → wL_law_19 (fun r => r = 1) L xs x1_3 x1_3 0 0) ∧ (¬ 4 ≤ x1_3 → wL_law_19 (fun r => r = 1) L xs x1_3 4 0 0)) := by
  obtain ⟨l0, h4, h80, hc, h1, h2⟩ := ls_raw (x := x)
  refine ⟨by decide, nm_e (br_c (fun a => ?_) (fun a => ?_))⟩
  · have r := ls_19 (xs := xs) hL h4 h80 hc
    have e := h1 a
    rw [← e] at r
    exact r
  · obtain rfl := h2 a
    exact ls_19 hL h4 h80 hc
theorem i_vc (xs : Nat → Int32) (L : Nat) (hL : L ≤ 260) : wpL_law (fun r => r = 1) L xs := by
  unfold wpL_law
  refine br_c (fun a => ls_go hL 0) (fun a => ⟨?_, ls_go hL _⟩)
  have h0 : 0 < L := by
    apply Classical.byContradiction
    intro z
    obtain rfl : L = 0 := by omega
    exact a (by decide)
  exact vp_in_nI (n := 0) h0 (by omega)
end
