def dg_T (s d : Nat) : Nat :=
  if (d < 2 ∧ s / 4 = 0) ∨ (¬ d < 2 ∧ s / 4 = 7) then 32
  else if d % 2 = 0 then (if 2 * (s % 4) + (if s / 4 % 2 = 0 then 1 else 0) = 0 then 32 else (if d < 2 then s / 4 - 1 else s / 4 + 1) * 4 + (2 * (s % 4) + (if s / 4 % 2 = 0 then 1 else 0) - 1) / 2)
  else (if 2 * (s % 4) + (if s / 4 % 2 = 0 then 1 else 0) = 7 then 32 else (if d < 2 then s / 4 - 1 else s / 4 + 1) * 4 + (2 * (s % 4) + (if s / 4 % 2 = 0 then 1 else 0) + 1) / 2)
def dg_enc (n : Nat) : Int32 := if n < 32 then nI n else -1
def dg_D2 (a b : Nat) : Prop := a / 4 + 2 = b / 4 ∨ b / 4 + 2 = a / 4
def dg_C (p : Nat) : List Nat := if p = 0 then [5, 6, 7, 13, 14, 15, 21, 22, 23] else [8, 9, 10, 16, 17, 18, 24, 25, 26]
def dg_ok (c d : Nat) : Prop := (c = 1 → 2 ≤ d) ∧ (c = 3 → d < 2)
def dg_cr (c s : Nat) : Prop := (c = 1 ∧ 28 ≤ s) ∨ (c = 3 ∧ s < 4)
def dg_fst (c : Nat) : Nat := if c = 1 then 2 else 0
def dg_end (c : Nat) : Nat := if c = 3 then 2 else 4
theorem dg_enc_lt {n : Nat} (h : n < 32) : dg_enc n = nI n := if_pos h
theorem dg_enc_ge {n : Nat} (h : ¬ n < 32) : dg_enc n = -1 := if_neg h
theorem dg_enc_n : ∀ n, n < 32 → ¬ nI n = -1 ∧ ¬ nI n < 0 := by decide +kernel
theorem dg_jump1 : ∀ s, s < 32 → ∀ d, d < 4 → dg_T s d < 32 → dg_T (dg_T s d) d < 32 → (dg_C (s / 4 % 2)).contains (dg_T s d) = true := by decide +kernel
theorem dg_jump2 : ∀ s, s < 32 → ∀ d, d < 4 → dg_T s d < 32 → dg_T (dg_T s d) d < 32 → dg_T (dg_T s d) d / 4 % 2 = s / 4 % 2 := by decide +kernel
theorem dg_jump3 : ∀ s, s < 32 → ∀ d, d < 4 → dg_T s d < 32 → dg_T (dg_T s d) d < 32 → (s / 4 + 2 = dg_T (dg_T s d) d / 4 ∨ dg_T (dg_T s d) d / 4 + 2 = s / 4) := by decide +kernel
theorem dg_jump (s : Nat) (hs : s < 32) (d : Nat) (hd : d < 4) (h1 : dg_T s d < 32) (h2 : dg_T (dg_T s d) d < 32) : dg_T s d ∈ dg_C (s / 4 % 2) ∧ dg_T (dg_T s d) d / 4 % 2 = s / 4 % 2 ∧ (s / 4 + 2 = dg_T (dg_T s d) d / 4 ∨ dg_T (dg_T s d) d / 4 + 2 = s / 4) :=
  ⟨List.contains_iff_mem.mp (dg_jump1 s hs d hd h1 h2), dg_jump2 s hs d hd h1 h2, dg_jump3 s hs d hd h1 h2⟩
theorem dg_step1 : ∀ s, s < 32 → ∀ d, d < 4 → dg_T s d < 32 → ¬ (s / 4 + 2 = dg_T s d / 4 ∨ dg_T s d / 4 + 2 = s / 4) := by decide +kernel
theorem dg_crB : ∀ s, s < 32 → ∀ d, d < 4 → 28 ≤ s → 2 ≤ d → ¬ dg_T s d < 32 := by decide +kernel
theorem dg_crW : ∀ s, s < 32 → ∀ d, d < 4 → s < 4 → d < 2 → ¬ dg_T s d < 32 := by decide +kernel
theorem dg_cr_none {c s d : Nat} (hs : s < 32) (hd : d < 4) (h : dg_cr c s) (ho : dg_ok c d) : ¬ dg_T s d < 32 := by
  rcases h with ⟨rfl, h⟩ | ⟨rfl, h⟩
  · exact dg_crB s hs d hd h (ho.1 rfl)
  · exact dg_crW s hs d hd h (ho.2 rfl)
theorem dg_C_nd (p : Nat) : (dg_C p).Nodup := by
  unfold dg_C; split <;> decide
theorem dg_C_len (p : Nat) : (dg_C p).length = 9 := by
  unfold dg_C; split <;> rfl
theorem dg_C_lt (p n : Nat) (h : n ∈ dg_C p) : n < 32 := by
  unfold dg_C at h; split at h <;> simp only [List.mem_cons, List.not_mem_nil, or_false] at h <;> omega
def dg_cnt (J : Nat → Int32) : List Nat → Nat
  | [] => 0
  | n :: t => (if J n = 0 then 0 else 1) + dg_cnt J t
theorem dg_cnt_le (J : Nat → Int32) (l : List Nat) : dg_cnt J l ≤ l.length := by
  induction l with
  | nil => exact Nat.le_refl _
  | cons n t ih =>
    show (if J n = 0 then 0 else 1) + dg_cnt J t ≤ t.length + 1
    split <;> omega
theorem dg_cnt_un (J : Nat → Int32) (n : Nat) (x : Int32) (l : List Nat) (h : n ∉ l) : dg_cnt (upd J n x) l = dg_cnt J l := by
  induction l with
  | nil => rfl
  | cons a t ih =>
    have ha : a ≠ n := fun e => h (e ▸ List.mem_cons_self)
    have ht : n ∉ t := fun e => h (List.mem_cons_of_mem a e)
    show (if upd J n x a = 0 then 0 else 1) + dg_cnt (upd J n x) t = (if J a = 0 then 0 else 1) + dg_cnt J t
    rw [pk_un ha, ih ht]
theorem dg_cnt_up (J : Nat → Int32) (n : Nat) (l : List Nat) (h : n ∈ l) (hd : l.Nodup) (hJ : J n = 0) : dg_cnt (upd J n 1) l = dg_cnt J l + 1 := by
  induction l with
  | nil => exact absurd h List.not_mem_nil
  | cons a t ih =>
    have hn := List.nodup_cons.mp hd
    show (if upd J n 1 a = 0 then 0 else 1) + dg_cnt (upd J n 1) t = (if J a = 0 then 0 else 1) + dg_cnt J t + 1
    by_cases e : a = n
    · subst e
      rw [pk_us, dg_cnt_un J a 1 t hn.1, if_pos hJ, if_neg (by decide)]
      omega
    · rw [pk_un e, ih (by
        rcases List.mem_cons.mp h with h1 | h1
        · exact absurd h1.symm e
        · exact h1) hn.2]
      omega
theorem dg_cnt_dn (J : Nat → Int32) (n : Nat) (l : List Nat) (h : n ∈ l) (hd : l.Nodup) (hJ : ¬ J n = 0) : dg_cnt (upd J n 0) l + 1 = dg_cnt J l := by
  induction l with
  | nil => exact absurd h List.not_mem_nil
  | cons a t ih =>
    have hn := List.nodup_cons.mp hd
    show (if upd J n 0 a = 0 then 0 else 1) + dg_cnt (upd J n 0) t + 1 = (if J a = 0 then 0 else 1) + dg_cnt J t
    by_cases e : a = n
    · subst e
      rw [pk_us, dg_cnt_un J a 0 t hn.1, if_neg hJ, if_pos rfl]
      omega
    · rw [pk_un e]
      have := ih (by
        rcases List.mem_cons.mp h with h1 | h1
        · exact absurd h1.symm e
        · exact h1) hn.2
      omega
noncomputable def dg_sc (P : Nat → Prop) : Nat → Nat → Nat
  | 0, d => d
  | n + 1, d => @ite _ (P d) (Classical.propDecidable _) d (dg_sc P n (d + 1))
theorem dg_sc_y {P : Nat → Prop} {n d : Nat} (h : P d) : dg_sc P (n + 1) d = d := by
  unfold dg_sc; rw [if_pos h]
theorem dg_sc_n {P : Nat → Prop} {n d : Nat} (h : ¬ P d) : dg_sc P (n + 1) d = dg_sc P n (d + 1) := by
  rw [dg_sc]; rw [if_neg h]
theorem dg_sc_ge (P : Nat → Prop) (n : Nat) : ∀ d, d ≤ dg_sc P n d ∧ dg_sc P n d ≤ d + n := by
  induction n with
  | zero => intro d; exact ⟨Nat.le_refl _, Nat.le_refl _⟩
  | succ n ih =>
    intro d
    by_cases h : P d
    · rw [dg_sc_y h]; omega
    · rw [dg_sc_n h]; have := ih (d + 1); omega
theorem dg_sc_hit (P : Nat → Prop) (n : Nat) : ∀ d, dg_sc P n d < d + n → P (dg_sc P n d) := by
  induction n with
  | zero => intro d h; exact absurd h (Nat.lt_irrefl _)
  | succ n ih =>
    intro d h
    by_cases hd : P d
    · rw [dg_sc_y hd]; exact hd
    · rw [dg_sc_n hd] at h ⊢; exact ih (d + 1) (by omega)
theorem dg_sc_none (P : Nat → Prop) (n : Nat) : ∀ d, (∀ e, d ≤ e → e < d + n → ¬ P e) → dg_sc P n d = d + n := by
  induction n with
  | zero => intro d _; rfl
  | succ n ih =>
    intro d h
    rw [dg_sc_n (h d (Nat.le_refl _) (by omega)), ih (d + 1) (fun e h1 h2 => h e (by omega) (by omega))]
    omega
def dg_r (d : Nat) : Int32 := if d < 4 then nI d else -1
theorem dg_r_lt {d : Nat} (h : d < 4) : dg_r d = nI d := if_pos h
theorem dg_r_ge {d : Nat} (h : ¬ d < 4) : dg_r d = -1 := if_neg h
theorem dg_sc_two {P : Nat → Prop} {a b : Nat} (ha : a ≤ b) (hb : b ≤ 4) (h : ∀ e, a ≤ e → e < b → ¬ P e) : dg_sc P (4 - a) a = dg_sc P (4 - b) b := by
  obtain ⟨k, rfl⟩ : ∃ k, b = a + k := ⟨b - a, by omega⟩
  clear ha
  induction k generalizing a with
  | zero => rfl
  | succ k ih =>
    have e : 4 - a = (4 - (a + 1)) + 1 := by omega
    rw [e, dg_sc_n (h a (Nat.le_refl _) (by omega)), ih (a := a + 1) (by omega) (fun e h1 h2 => h e (by omega) (by omega))]
    have e2 : a + 1 + k = a + (k + 1) := by omega
    rw [e2]
