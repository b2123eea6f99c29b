section
theorem pk_us {f : Nat → Int32} {k : Nat} {x : Int32} : upd f k x k = x := if_pos rfl
theorem pk_un {f : Nat → Int32} {k j : Nat} {x : Int32} (h : j ≠ k) : upd f k x j = f j := if_neg h
theorem pk_sub {a b : Nat} (h : b ≤ a) : nI a - nI b = nI (a - b) := by
  obtain ⟨c, rfl⟩ : ∃ c, a = c + b := ⟨a - b, by omega⟩
  rw [← nI_add, Int32.add_sub_cancel, Nat.add_sub_cancel]
theorem pk_m1 (n : Nat) : nI (n + 1) + (-1) = nI n := by
  rw [← nI_1, Int32.add_assoc, show (1 : Int32) + (-1) = 0 from rfl, Int32.add_zero]
theorem pk_mul (a b : Nat) : nI a * nI b = nI (a * b) := (Int32.ofNat_mul a b).symm
theorem pk_div {a d : Nat} (ha : a < 2 ^ 31) (h0 : 0 < d) (hd : d < 2 ^ 31) : nI a / nI d = nI (a / d) := by
  apply Int32.toInt_inj.mp
  rw [lg_idiv_nonneg (by rw [nI_toInt ha]; omega) (by rw [nI_toInt hd]; omega), nI_toInt ha, nI_toInt hd, nI_toInt (Nat.lt_of_le_of_lt (Nat.div_le_self a d) ha)]
  first | rfl | exact (Int.natCast_ediv _ _).symm
theorem pk_rem {a d : Nat} (ha : a < 2 ^ 31) (h0 : 0 < d) (hd : d < 2 ^ 31) : nI a - nI a / nI d * nI d = nI (a % d) := by
  rw [pk_div ha h0 hd, pk_mul, pk_sub (Nat.div_mul_le_self a d)]
  exact congrArg nI (by have := Nat.div_add_mod' a d; omega)
theorem pk_sub_toInt {a b : Nat} (ha : a < 2 ^ 30) (hb : b < 2 ^ 30) : (nI a - nI b).toInt = (a : Int) - b := by
  rw [Int32.toInt_sub, nI_toInt (by omega), nI_toInt (by omega)]
  exact Int.bmod_eq_of_le (by omega) (by omega)
theorem pk_sneg {a b : Nat} (hb : b < 2 ^ 30) (h : a < b) : nI a - nI b < 0 := by
  rw [Int32.lt_iff_toInt_lt, pk_sub_toInt (by omega) hb, show (0 : Int32).toInt = 0 from by decide]
  omega
theorem pk_ix (x : Int32) {n : Nat} (hn : n < 2 ^ 31) : x < 0 ∨ nI n ≤ x ∨ ∃ j : Nat, j < n ∧ x = nI j := by
  by_cases h : x < 0
  · exact Or.inl h
  · obtain ⟨j, hj, rfl⟩ := nI_of h
    by_cases h2 : j < n
    · exact Or.inr (Or.inr ⟨j, h2, rfl⟩)
    · exact Or.inr (Or.inl (nI_le (by omega) hj))
theorem pk_le {x y : Int32} {A B : Prop} (a b : Nat) (f : a ≤ b → A) (g : b < a → B) (hx : x = nI a := by rfl) (hy : y = nI b := by rfl) (ha : a < 2 ^ 31 := by omega) (hb : b < 2 ^ 31 := by omega) : (x ≤ y → A) ∧ (¬ x ≤ y → B) := by
  subst hx hy
  rw [nI_leI ha hb]
  exact ⟨f, fun z => g (by omega)⟩
theorem pk_lt {x y : Int32} {A B : Prop} (a b : Nat) (f : a < b → A) (g : b ≤ a → B) (hx : x = nI a := by rfl) (hy : y = nI b := by rfl) (ha : a < 2 ^ 31 := by omega) (hb : b < 2 ^ 31 := by omega) : (x < y → A) ∧ (¬ x < y → B) := by
  subst hx hy
  rw [nI_ltI ha hb]
  exact ⟨f, fun z => g (by omega)⟩
theorem pk_eq {x y : Int32} {A B : Prop} (a b : Nat) (f : a = b → A) (g : a ≠ b → B) (hx : x = nI a := by rfl) (hy : y = nI b := by rfl) (ha : a < 2 ^ 31 := by omega) (hb : b < 2 ^ 31 := by omega) : (x = y → A) ∧ (¬ x = y → B) := by
  subst hx hy
  rw [nI_eq ha hb]
  exact ⟨f, g⟩
theorem pk_in {x : Int32} (n N : Nat) (h : n < N) (hx : x = nI n := by rfl) (hN : N < 2 ^ 31 := by omega) : vp_in x N := by
  subst hx
  exact vp_in_nI h hN
theorem pk_cl {x : Int32} (n : Nat) (hx : x = nI n := by rfl) (h : n < 2 ^ 31 := by omega) : x.toNatClampNeg = n := by
  subst hx
  exact nI_clamp h
end
section
/-! the board's geometry over naturals: squares 0..31, directions 0..3; 32 stands for no square -/
def dg_T (s d : Nat) : Nat :=
  if (d < 2 ∧ s / 4 = 0) ∨ (¬ d < 2 ∧ s / 4 = 7) then 32
  else if d % 2 = 0 then (if 2 * (s % 4) + (if s / 4 % 2 = 0 then 1 else 0) = 0 then 32 else (if d < 2 then s / 4 - 1 else s / 4 + 1) * 4 + (2 * (s % 4) + (if s / 4 % 2 = 0 then 1 else 0) - 1) / 2)
  else (if 2 * (s % 4) + (if s / 4 % 2 = 0 then 1 else 0) = 7 then 32 else (if d < 2 then s / 4 - 1 else s / 4 + 1) * 4 + (2 * (s % 4) + (if s / 4 % 2 = 0 then 1 else 0) + 1) / 2)
def dg_enc (n : Nat) : Int32 := if n < 32 then nI n else -1
/-- two squares are two rows apart -/
def dg_D2 (a b : Nat) : Prop := a / 4 + 2 = b / 4 ∨ b / 4 + 2 = a / 4
/-- the squares that a walk from a row of parity p can jump over -/
def dg_C (p : Nat) : List Nat := if p = 0 then [5, 6, 7, 13, 14, 15, 21, 22, 23] else [8, 9, 10, 16, 17, 18, 24, 25, 26]
/-- the piece may move in this direction -/
def dg_ok (c d : Nat) : Prop := (c = 1 → 2 ≤ d) ∧ (c = 3 → d < 2)
/-- the piece is a man and stands on its crowning row -/
def dg_cr (c s : Nat) : Prop := (c = 1 ∧ 28 ≤ s) ∨ (c = 3 ∧ s < 4)
def dg_fst (c : Nat) : Nat := if c = 1 then 2 else 0
def dg_end (c : Nat) : Nat := if c = 3 then 2 else 4
theorem dg_enc_lt {n : Nat} (h : n < 32) : dg_enc n = nI n := if_pos h
theorem dg_enc_ge {n : Nat} (h : ¬ n < 32) : dg_enc n = -1 := if_neg h
theorem dg_enc_n : ∀ n, n < 32 → ¬ nI n = -1 ∧ ¬ nI n < 0 := by decide +kernel
theorem dg_jump1 : ∀ s, s < 32 → ∀ d, d < 4 → dg_T s d < 32 → dg_T (dg_T s d) d < 32 → (dg_C (s / 4 % 2)).contains (dg_T s d) = true := by decide +kernel
theorem dg_jump2 : ∀ s, s < 32 → ∀ d, d < 4 → dg_T s d < 32 → dg_T (dg_T s d) d < 32 → dg_T (dg_T s d) d / 4 % 2 = s / 4 % 2 := by decide +kernel
theorem dg_jump3 : ∀ s, s < 32 → ∀ d, d < 4 → dg_T s d < 32 → dg_T (dg_T s d) d < 32 → (s / 4 + 2 = dg_T (dg_T s d) d / 4 ∨ dg_T (dg_T s d) d / 4 + 2 = s / 4) := by decide +kernel
theorem dg_jump (s : Nat) (hs : s < 32) (d : Nat) (hd : d < 4) (h1 : dg_T s d < 32) (h2 : dg_T (dg_T s d) d < 32) : dg_T s d ∈ dg_C (s / 4 % 2) ∧ dg_T (dg_T s d) d / 4 % 2 = s / 4 % 2 ∧ (s / 4 + 2 = dg_T (dg_T s d) d / 4 ∨ dg_T (dg_T s d) d / 4 + 2 = s / 4) :=
  ⟨List.contains_iff_mem.mp (dg_jump1 s hs d hd h1 h2), dg_jump2 s hs d hd h1 h2, dg_jump3 s hs d hd h1 h2⟩
theorem dg_step1 : ∀ s, s < 32 → ∀ d, d < 4 → dg_T s d < 32 → ¬ (s / 4 + 2 = dg_T s d / 4 ∨ dg_T s d / 4 + 2 = s / 4) := by decide +kernel
theorem dg_crB : ∀ s, s < 32 → ∀ d, d < 4 → 28 ≤ s → 2 ≤ d → ¬ dg_T s d < 32 := by decide +kernel
theorem dg_crW : ∀ s, s < 32 → ∀ d, d < 4 → s < 4 → d < 2 → ¬ dg_T s d < 32 := by decide +kernel
theorem dg_cr_none {c s d : Nat} (hs : s < 32) (hd : d < 4) (h : dg_cr c s) (ho : dg_ok c d) : ¬ dg_T s d < 32 := by
  rcases h with ⟨rfl, h⟩ | ⟨rfl, h⟩
  · exact dg_crB s hs d hd h (ho.1 rfl)
  · exact dg_crW s hs d hd h (ho.2 rfl)
theorem dg_C_nd (p : Nat) : (dg_C p).Nodup := by
  unfold dg_C; split <;> decide
theorem dg_C_len (p : Nat) : (dg_C p).length = 9 := by
  unfold dg_C; split <;> rfl
theorem dg_C_lt (p n : Nat) (h : n ∈ dg_C p) : n < 32 := by
  unfold dg_C at h; split at h <;> simp only [List.mem_cons, List.not_mem_nil, or_false] at h <;> omega
/-! how many of a list's squares are marked -/
def dg_cnt (J : Nat → Int32) : List Nat → Nat
  | [] => 0
  | n :: t => (if J n = 0 then 0 else 1) + dg_cnt J t
theorem dg_cnt_le (J : Nat → Int32) (l : List Nat) : dg_cnt J l ≤ l.length := by
  induction l with
  | nil => exact Nat.le_refl _
  | cons n t ih =>
    show (if J n = 0 then 0 else 1) + dg_cnt J t ≤ t.length + 1
    split <;> omega
theorem dg_cnt_un (J : Nat → Int32) (n : Nat) (x : Int32) (l : List Nat) (h : n ∉ l) : dg_cnt (upd J n x) l = dg_cnt J l := by
  induction l with
  | nil => rfl
  | cons a t ih =>
    have ha : a ≠ n := fun e => h (e ▸ List.mem_cons_self)
    have ht : n ∉ t := fun e => h (List.mem_cons_of_mem a e)
    show (if upd J n x a = 0 then 0 else 1) + dg_cnt (upd J n x) t = (if J a = 0 then 0 else 1) + dg_cnt J t
    rw [pk_un ha, ih ht]
theorem dg_cnt_up (J : Nat → Int32) (n : Nat) (l : List Nat) (h : n ∈ l) (hd : l.Nodup) (hJ : J n = 0) : dg_cnt (upd J n 1) l = dg_cnt J l + 1 := by
  induction l with
  | nil => exact absurd h List.not_mem_nil
  | cons a t ih =>
    have hn := List.nodup_cons.mp hd
    show (if upd J n 1 a = 0 then 0 else 1) + dg_cnt (upd J n 1) t = (if J a = 0 then 0 else 1) + dg_cnt J t + 1
    by_cases e : a = n
    · subst e
      rw [pk_us, dg_cnt_un J a 1 t hn.1, if_pos hJ, if_neg (by decide)]
      omega
    · rw [pk_un e, ih (by
        rcases List.mem_cons.mp h with h1 | h1
        · exact absurd h1.symm e
        · exact h1) hn.2]
      omega
theorem dg_cnt_dn (J : Nat → Int32) (n : Nat) (l : List Nat) (h : n ∈ l) (hd : l.Nodup) (hJ : ¬ J n = 0) : dg_cnt (upd J n 0) l + 1 = dg_cnt J l := by
  induction l with
  | nil => exact absurd h List.not_mem_nil
  | cons a t ih =>
    have hn := List.nodup_cons.mp hd
    show (if upd J n 0 a = 0 then 0 else 1) + dg_cnt (upd J n 0) t + 1 = (if J a = 0 then 0 else 1) + dg_cnt J t
    by_cases e : a = n
    · subst e
      rw [pk_us, dg_cnt_un J a 0 t hn.1, if_neg hJ, if_pos rfl]
      omega
    · rw [pk_un e]
      have := ih (by
        rcases List.mem_cons.mp h with h1 | h1
        · exact absurd h1.symm e
        · exact h1) hn.2
      omega
/-! the first direction from d on (n of them) that satisfies P; d + n if there is none -/
noncomputable def dg_sc (P : Nat → Prop) : Nat → Nat → Nat
  | 0, d => d
  | n + 1, d => @ite _ (P d) (Classical.propDecidable _) d (dg_sc P n (d + 1))
theorem dg_sc_y {P : Nat → Prop} {n d : Nat} (h : P d) : dg_sc P (n + 1) d = d := by
  unfold dg_sc; rw [if_pos h]
theorem dg_sc_n {P : Nat → Prop} {n d : Nat} (h : ¬ P d) : dg_sc P (n + 1) d = dg_sc P n (d + 1) := by
  rw [dg_sc]; rw [if_neg h]
theorem dg_sc_ge (P : Nat → Prop) (n : Nat) : ∀ d, d ≤ dg_sc P n d ∧ dg_sc P n d ≤ d + n := by
  induction n with
  | zero => intro d; exact ⟨Nat.le_refl _, Nat.le_refl _⟩
  | succ n ih =>
    intro d
    by_cases h : P d
    · rw [dg_sc_y h]; omega
    · rw [dg_sc_n h]; have := ih (d + 1); omega
theorem dg_sc_hit (P : Nat → Prop) (n : Nat) : ∀ d, dg_sc P n d < d + n → P (dg_sc P n d) := by
  induction n with
  | zero => intro d h; exact absurd h (Nat.lt_irrefl _)
  | succ n ih =>
    intro d h
    by_cases hd : P d
    · rw [dg_sc_y hd]; exact hd
    · rw [dg_sc_n hd] at h ⊢; exact ih (d + 1) (by omega)
theorem dg_sc_none (P : Nat → Prop) (n : Nat) : ∀ d, (∀ e, d ≤ e → e < d + n → ¬ P e) → dg_sc P n d = d + n := by
  induction n with
  | zero => intro d _; rfl
  | succ n ih =>
    intro d h
    rw [dg_sc_n (h d (Nat.le_refl _) (by omega)), ih (d + 1) (fun e h1 h2 => h e (by omega) (by omega))]
    omega
/-- what both searches for a jump answer -/
def dg_r (d : Nat) : Int32 := if d < 4 then nI d else -1
theorem dg_r_lt {d : Nat} (h : d < 4) : dg_r d = nI d := if_pos h
theorem dg_r_ge {d : Nat} (h : ¬ d < 4) : dg_r d = -1 := if_neg h
/-- two searches that start at direction cells which mean the same find the same -/
theorem dg_sc_two {P : Nat → Prop} {a b : Nat} (ha : a ≤ b) (hb : b ≤ 4) (h : ∀ e, a ≤ e → e < b → ¬ P e) : dg_sc P (4 - a) a = dg_sc P (4 - b) b := by
  obtain ⟨k, rfl⟩ : ∃ k, b = a + k := ⟨b - a, by omega⟩
  clear ha
  induction k generalizing a with
  | zero => rfl
  | succ k ih =>
    have e : 4 - a = (4 - (a + 1)) + 1 := by omega
    rw [e, dg_sc_n (h a (Nat.le_refl _) (by omega)), ih (a := a + 1) (by omega) (fun e h1 h2 => h e (by omega) (by omega))]
    have e2 : a + 1 + k = a + (k + 1) := by omega
    rw [e2]
end
section
/-! the walk of the captures, over naturals: k jumps made, q the path, j the jumped squares, x and y the two sides' direction cells, J the marks -/
def dg_u (f : Nat → Nat) (k x : Nat) : Nat → Nat := fun i => if i = k then x else f i
theorem dg_us {f : Nat → Nat} {k x : Nat} : dg_u f k x k = x := if_pos rfl
theorem dg_un {f : Nat → Nat} {k x i : Nat} (h : i ≠ k) : dg_u f k x i = f i := if_neg h
/-- the piece c, that began on s0 and stands on q, can jump in direction d -/
def dg_P (b : Nat → Nat) (J : Nat → Int32) (c s0 q d : Nat) : Prop :=
  dg_ok c d ∧ dg_T q d < 32 ∧ dg_T (dg_T q d) d < 32 ∧ J (dg_T q d) = 0 ∧ (¬ b (dg_T q d) = 0 ∧ ¬ (b (dg_T q d) ≤ 2 ↔ c ≤ 2)) ∧ (b (dg_T (dg_T q d) d) = 0 ∨ dg_T (dg_T q d) d = s0)
/-- two direction cells that mean the same -/
def dg_DR (c q x y : Nat) : Prop := dg_fst c ≤ x ∧ x ≤ 4 ∧ y ≤ 4 ∧ (x = y ∨ (y = 0 ∧ x = dg_fst c) ∨ (y = 0 ∧ x = 4 ∧ dg_cr c q))
theorem dg_DR_sc {b : Nat → Nat} {J : Nat → Int32} {c s0 q x y : Nat} (hq : q < 32) (h : dg_DR c q x y) : dg_sc (dg_P b J c s0 q) (4 - x) x = dg_sc (dg_P b J c s0 q) (4 - y) y := by
  obtain ⟨h0, h4, hy, h⟩ := h
  rcases h with rfl | ⟨rfl, rfl⟩ | ⟨rfl, rfl, h⟩
  · rfl
  · refine (dg_sc_two (Nat.zero_le _) h4 fun e _ he hP => ?_).symm
    have ho := hP.1.1
    unfold dg_fst at he
    split at he
    · have := ho ‹_›; omega
    · omega
  · refine (dg_sc_two (Nat.zero_le _) h4 fun e _ he hP => ?_).symm
    exact dg_cr_none hq he h hP.1 hP.2.1
def dg_I (c s0 k : Nat) (q j x y : Nat → Nat) (J : Nat → Int32) : Prop :=
  q 0 = s0 ∧ (∀ i, i ≤ k → q i < 32 ∧ q i / 4 % 2 = s0 / 4 % 2 ∧ dg_DR c (q i) (x i) (y i)) ∧
  (∀ i, i < k → j i ∈ dg_C (s0 / 4 % 2) ∧ dg_D2 (q i) (q (i + 1)) ∧ ¬ J (j i) = 0 ∧ ∀ i', i' < i → j i' ≠ j i) ∧
  (∀ n, n < 32 → ¬ J n = 0 → ∃ i, i < k ∧ j i = n) ∧ dg_cnt J (dg_C (s0 / 4 % 2)) = k
theorem dg_I_k {c s0 k : Nat} {q j x y : Nat → Nat} {J : Nat → Int32} (h : dg_I c s0 k q j x y J) : k ≤ 9 := by
  obtain ⟨_, _, _, _, h⟩ := h
  have := dg_cnt_le J (dg_C (s0 / 4 % 2))
  rw [dg_C_len] at this
  omega
theorem dg_fst_ok {c d : Nat} (h : dg_ok c d) : dg_fst c ≤ d := by
  unfold dg_fst
  split
  · exact h.1 ‹_›
  · exact Nat.zero_le _
theorem dg_fst_le (c : Nat) : dg_fst c ≤ 2 := by unfold dg_fst; split <;> omega
theorem dg_I_push {b : Nat → Nat} {c s0 k D x' : Nat} {q j x y : Nat → Nat} {J : Nat → Int32} (h : dg_I c s0 k q j x y J) (hD : D < 4) (hP : dg_P b J c s0 (q k) D)
    (hx' : (dg_cr c (dg_T (dg_T (q k) D) D) ∧ x' = 4) ∨ (¬ dg_cr c (dg_T (dg_T (q k) D) D) ∧ x' = dg_fst c)) :
    k ≤ 8 ∧ dg_I c s0 (k + 1) (dg_u q (k + 1) (dg_T (dg_T (q k) D) D)) (dg_u j k (dg_T (q k) D)) (dg_u (dg_u x k (D + 1)) (k + 1) x') (dg_u (dg_u y k (D + 1)) (k + 1) 0) (upd J (dg_T (q k) D) 1) := by
  obtain ⟨h1, h2, h3, h4, h5⟩ := h
  obtain ⟨p1, p2, p3, p4, p5, p6⟩ := hP
  obtain ⟨hq, hpar, hdr⟩ := h2 k (Nat.le_refl k)
  obtain ⟨g1, g2, g3⟩ := dg_jump (q k) hq D hD p2 p3
  rw [hpar] at g1 g2
  have hc := dg_cnt_up J (dg_T (q k) D) _ g1 (dg_C_nd _) p4
  have hl := dg_cnt_le (upd J (dg_T (q k) D) 1) (dg_C (s0 / 4 % 2))
  rw [dg_C_len] at hl
  have hf := dg_fst_ok p1
  have hf2 := dg_fst_le c
  refine ⟨by omega, ?_, ?_, ?_, ?_, by omega⟩
  · rw [dg_un (by omega)]; exact h1
  · intro i hi
    by_cases e : i = k + 1
    · subst e
      rw [dg_us, dg_us, dg_us]
      refine ⟨p3, g2, ?_, ?_, by omega, ?_⟩
      · rcases hx' with ⟨_, r⟩ | ⟨_, r⟩ <;> omega
      · rcases hx' with ⟨_, r⟩ | ⟨_, r⟩ <;> omega
      · rcases hx' with ⟨r1, r⟩ | ⟨_, r⟩
        · exact Or.inr (Or.inr ⟨rfl, r, r1⟩)
        · exact Or.inr (Or.inl ⟨rfl, r⟩)
    · rw [dg_un e, dg_un e, dg_un e]
      by_cases e2 : i = k
      · subst e2
        rw [dg_us, dg_us]
        exact ⟨hq, hpar, by omega, by omega, by omega, Or.inl rfl⟩
      · rw [dg_un e2, dg_un e2]
        exact h2 i (by omega)
  · intro i hi
    by_cases e : i = k
    · subst e
      rw [dg_us, dg_us, dg_un (by omega), pk_us]
      refine ⟨g1, g3, by decide, fun i' hi' => ?_⟩
      rw [dg_un (by omega)]
      intro e
      have := (h3 i' hi').2.2.1
      rw [e] at this
      exact this p4
    · have hik : i < k := by omega
      obtain ⟨a1, a2, a3, a4⟩ := h3 i hik
      rw [dg_un e, dg_un (k := k + 1) (i := i) (by omega), dg_un (k := k + 1) (i := i + 1) (by omega)]
      refine ⟨a1, a2, ?_, fun i' hi' => ?_⟩
      · by_cases e2 : j i = dg_T (q k) D
        · rw [e2] at a3; exact absurd p4 a3
        · rw [pk_un e2]; exact a3
      · rw [dg_un (by omega)]; exact a4 i' hi'
  · intro n hn hJ
    by_cases e : n = dg_T (q k) D
    · exact ⟨k, by omega, by rw [dg_us]; exact e.symm⟩
    · rw [pk_un e] at hJ
      obtain ⟨i, hi, e2⟩ := h4 n hn hJ
      exact ⟨i, by omega, by rw [dg_un (by omega)]; exact e2⟩
theorem dg_I_pop {c s0 k : Nat} {q j x y : Nat → Nat} {J : Nat → Int32} (h : dg_I c s0 (k + 1) q j x y J) : dg_I c s0 k q j x y (upd J (j k) 0) := by
  obtain ⟨h1, h2, h3, h4, h5⟩ := h
  obtain ⟨b1, b2, b3, b4⟩ := h3 k (by omega)
  have hc := dg_cnt_dn J (j k) _ b1 (dg_C_nd _) b3
  refine ⟨h1, fun i hi => h2 i (by omega), fun i hi => ?_, fun n hn hJ => ?_, by omega⟩
  · obtain ⟨a1, a2, a3, a4⟩ := h3 i (by omega)
    refine ⟨a1, a2, ?_, a4⟩
    rw [pk_un (b4 i hi)]; exact a3
  · by_cases e : n = j k
    · subst e; rw [pk_us] at hJ; exact absurd rfl hJ
    · rw [pk_un e] at hJ
      obtain ⟨i, hi, e2⟩ := h4 n hn hJ
      by_cases e3 : i = k
      · subst e3; exact absurd e2.symm e
      · exact ⟨i, by omega, e2⟩
/-! the potential that bounds the steps of a walk -/
def dg_W : Nat → Nat
  | 0 => 0
  | n + 1 => 2 + 4 * dg_W n
def dg_ps (x : Nat → Nat) : Nat → Nat
  | 0 => 0
  | k + 1 => dg_ps x k + (dg_W (9 - k) * (4 - x k) + 1)
theorem dg_ps_congr {x x' : Nat → Nat} (k : Nat) (h : ∀ i, i < k → x i = x' i) : dg_ps x k = dg_ps x' k := by
  induction k with
  | zero => rfl
  | succ k ih =>
    show dg_ps x k + (dg_W (9 - k) * (4 - x k) + 1) = dg_ps x' k + (dg_W (9 - k) * (4 - x' k) + 1)
    rw [ih (fun i hi => h i (by omega)), h k (by omega)]
theorem dg_ps_pos (x : Nat → Nat) (k : Nat) : dg_ps x k + 1 ≤ dg_ps x (k + 1) := by
  show dg_ps x k + 1 ≤ dg_ps x k + (dg_W (9 - k) * (4 - x k) + 1)
  omega
theorem dg_ps_0 (x : Nat → Nat) : dg_ps x 1 ≤ 699049 := by
  have e : dg_W 9 = 174762 := rfl
  show 0 + (dg_W 9 * (4 - x 0) + 1) ≤ 699049
  rw [e]
  omega
theorem dg_ps_push {x : Nat → Nat} {k D x' : Nat} (hk : k ≤ 8) (hx : x k ≤ D) (hD : D < 4) : dg_ps (dg_u (dg_u x k (D + 1)) (k + 1) x') (k + 2) + 1 ≤ dg_ps x (k + 1) := by
  have e1 : dg_ps (dg_u (dg_u x k (D + 1)) (k + 1) x') k = dg_ps x k := dg_ps_congr k (fun i hi => by rw [dg_un (by omega), dg_un (by omega)])
  have e2 : dg_W (9 - k) = 2 + 4 * dg_W (9 - (k + 1)) := by
    have : 9 - k = (9 - (k + 1)) + 1 := by omega
    rw [this]; rfl
  show dg_ps (dg_u (dg_u x k (D + 1)) (k + 1) x') k + (dg_W (9 - k) * (4 - dg_u (dg_u x k (D + 1)) (k + 1) x' k) + 1) + (dg_W (9 - (k + 1)) * (4 - dg_u (dg_u x k (D + 1)) (k + 1) x' (k + 1)) + 1) + 1 ≤ dg_ps x k + (dg_W (9 - k) * (4 - x k) + 1)
  rw [e1, dg_us, dg_un (by omega), dg_us, e2]
  generalize dg_W (9 - (k + 1)) = w
  have m1 : w * (4 - x') ≤ w * 4 := Nat.mul_le_mul_left w (by omega)
  have m2 : (2 + 4 * w) * ((4 - (D + 1)) + 1) ≤ (2 + 4 * w) * (4 - x k) := Nat.mul_le_mul_left _ (by omega)
  rw [Nat.mul_add] at m2
  omega
/-! the arrays of each side hold the walk -/
def dg_AX (k : Nat) (q j x : Nat → Nat) (w p jx nd wo : Nat → Int32) : Prop :=
  (∀ i, i ≤ k → p i = nI (q i) ∧ nd i = nI (x i) ∧ wo i = w i) ∧ (∀ i, i < k → jx (i + 1) = nI (j i))
def dg_AY (k : Nat) (q j y : Nat → Nat) (w ps dr cp ex : Nat → Int32) : Prop :=
  (∀ i, i ≤ k → ps i = nI (q i) ∧ dr i = nI (y i) ∧ (1 ≤ i → ex i = w i)) ∧ (∀ i, i < k → cp i = nI (j i))
theorem dg_AX_push {k D n l x' : Nat} {q j x : Nat → Nat} {w p jx nd wo : Nat → Int32} (h : dg_AX k q j x w p jx nd wo) :
    dg_AX (k + 1) (dg_u q (k + 1) l) (dg_u j k n) (dg_u (dg_u x k (D + 1)) (k + 1) x') (upd (upd w k 1) (k + 1) 0)
      (upd p (k + 1) (nI l)) (upd jx (k + 1) (nI n)) (upd (upd nd k (nI (D + 1))) (k + 1) (nI x')) (upd (upd wo k 1) (k + 1) 0) := by
  obtain ⟨h1, h2⟩ := h
  refine ⟨fun i hi => ?_, fun i hi => ?_⟩
  · by_cases e : i = k + 1
    · subst e
      rw [dg_us, dg_us, pk_us, pk_us, pk_us, pk_us]
      exact ⟨rfl, rfl, rfl⟩
    · rw [dg_un e, dg_un e, pk_un e, pk_un e, pk_un e, pk_un e]
      by_cases e2 : i = k
      · subst e2
        rw [dg_us, pk_us, pk_us, pk_us]
        exact ⟨(h1 i (Nat.le_refl i)).1, rfl, rfl⟩
      · rw [dg_un e2, pk_un e2, pk_un e2, pk_un e2]
        exact h1 i (by omega)
  · by_cases e : i = k
    · subst e
      rw [dg_us, pk_us]
    · rw [dg_un e, pk_un (by omega)]
      exact h2 i (by omega)
theorem dg_AY_push {k D n l : Nat} {q j y : Nat → Nat} {w ps dr cp ex : Nat → Int32} (h : dg_AY k q j y w ps dr cp ex) :
    dg_AY (k + 1) (dg_u q (k + 1) l) (dg_u j k n) (dg_u (dg_u y k (D + 1)) (k + 1) 0) (upd (upd w k 1) (k + 1) 0)
      (upd ps (k + 1) (nI l)) (upd (upd dr k (nI (D + 1))) (k + 1) 0) (upd cp k (nI n)) (upd (upd ex k 1) (k + 1) 0) := by
  obtain ⟨h1, h2⟩ := h
  refine ⟨fun i hi => ?_, fun i hi => ?_⟩
  · by_cases e : i = k + 1
    · subst e
      rw [dg_us, dg_us, pk_us, pk_us, pk_us, pk_us]
      exact ⟨rfl, nI_0.symm, fun _ => rfl⟩
    · rw [dg_un e, dg_un e, pk_un e, pk_un e, pk_un e, pk_un e]
      by_cases e2 : i = k
      · subst e2
        rw [dg_us, pk_us, pk_us, pk_us]
        exact ⟨(h1 i (Nat.le_refl i)).1, rfl, fun _ => rfl⟩
      · rw [dg_un e2, pk_un e2, pk_un e2, pk_un e2]
        exact h1 i (by omega)
  · by_cases e : i = k
    · subst e
      rw [dg_us, pk_us]
    · rw [dg_un e, pk_un e]
      exact h2 i (by omega)
theorem dg_AX_pop {k : Nat} {q j x : Nat → Nat} {w p jx nd wo : Nat → Int32} (h : dg_AX (k + 1) q j x w p jx nd wo) : dg_AX k q j x w p jx nd wo :=
  ⟨fun i hi => h.1 i (by omega), fun i hi => h.2 i (by omega)⟩
theorem dg_AY_pop {k : Nat} {q j y : Nat → Nat} {w ps dr cp ex : Nat → Int32} (h : dg_AY (k + 1) q j y w ps dr cp ex) : dg_AY k q j y w ps dr cp ex :=
  ⟨fun i hi => h.1 i (by omega), fun i hi => h.2 i (by omega)⟩
theorem dg_w0 {w : Nat → Int32} {k : Nat} (h : ¬ w 0 = 0) : ¬ upd (upd w k 1) (k + 1) 0 0 = 0 := by
  rw [pk_un (by omega)]
  by_cases e : 0 = k
  · subst e; rw [pk_us]; decide
  · rw [pk_un e]; exact h
/-! the walk as a pure machine: k1 cells on the stack; the paths that it keeps, in order -/
def dg_x0 (c l : Nat) : Nat := if (c = 1 ∧ 28 ≤ l) ∨ (c = 3 ∧ l < 4) then 4 else dg_fst c
theorem dg_x0_c (c l : Nat) : (dg_cr c l ∧ dg_x0 c l = 4) ∨ (¬ dg_cr c l ∧ dg_x0 c l = dg_fst c) := by
  unfold dg_x0
  split
  · exact Or.inl ⟨‹_›, rfl⟩
  · exact Or.inr ⟨‹_›, rfl⟩
theorem dg_x0_le (c l : Nat) : dg_x0 c l ≤ 4 := by
  have := dg_fst_le c
  unfold dg_x0
  split <;> omega
noncomputable def dg_D (b : Nat → Nat) (c s0 : Nat) (J : Nat → Int32) (q x : Nat) : Nat := dg_sc (dg_P b J c s0 q) (4 - x) x
noncomputable def dg_run (b : Nat → Nat) (c s0 : Nat) : Nat → Nat → (Nat → Nat) → (Nat → Nat) → (Nat → Nat) → (Nat → Int32) → (Nat → Int32) → List (Nat × (Nat → Nat))
  | 0, _, _, _, _, _, _ => []
  | _ + 1, 0, _, _, _, _, _ => []
  | n + 1, k + 1, q, j, x, w, J =>
    if dg_D b c s0 J (q k) (x k) < 4 then
      dg_run b c s0 n (k + 2) (dg_u q (k + 1) (dg_T (dg_T (q k) (dg_D b c s0 J (q k) (x k))) (dg_D b c s0 J (q k) (x k)))) (dg_u j k (dg_T (q k) (dg_D b c s0 J (q k) (x k))))
        (dg_u (dg_u x k (dg_D b c s0 J (q k) (x k) + 1)) (k + 1) (dg_x0 c (dg_T (dg_T (q k) (dg_D b c s0 J (q k) (x k))) (dg_D b c s0 J (q k) (x k)))))
        (upd (upd w k 1) (k + 1) 0) (upd J (dg_T (q k) (dg_D b c s0 J (q k) (x k))) 1)
    else (if w k = 0 then [(k + 1, q)] else []) ++ dg_run b c s0 n k q j x w (if k = 0 then J else upd J (j (k - 1)) 0)
theorem dg_run_0 {b : Nat → Nat} {c s0 n : Nat} {q j x : Nat → Nat} {w J : Nat → Int32} : dg_run b c s0 n 0 q j x w J = [] := by
  cases n <;> rw [dg_run]
theorem dg_run_push {b : Nat → Nat} {c s0 n k D : Nat} {q j x : Nat → Nat} {w J : Nat → Int32} (e : dg_D b c s0 J (q k) (x k) = D) (h : D < 4) : dg_run b c s0 (n + 1) (k + 1) q j x w J =
    dg_run b c s0 n (k + 2) (dg_u q (k + 1) (dg_T (dg_T (q k) D) D)) (dg_u j k (dg_T (q k) D)) (dg_u (dg_u x k (D + 1)) (k + 1) (dg_x0 c (dg_T (dg_T (q k) D) D))) (upd (upd w k 1) (k + 1) 0) (upd J (dg_T (q k) D) 1) := by
  subst e
  rw [dg_run, if_pos h]
theorem dg_run_pop {b : Nat → Nat} {c s0 n k : Nat} {q j x : Nat → Nat} {w J : Nat → Int32} (h : ¬ dg_D b c s0 J (q k) (x k) < 4) : dg_run b c s0 (n + 1) (k + 1) q j x w J =
    (if w k = 0 then [(k + 1, q)] else []) ++ dg_run b c s0 n k q j x w (if k = 0 then J else upd J (j (k - 1)) 0) := by
  rw [dg_run, if_neg h]
/-- what holds while the walk goes -/
def dg_K (c s0 k1 : Nat) (q j x y : Nat → Nat) (w J : Nat → Int32) : Prop := ∀ k, k1 = k + 1 → dg_I c s0 k q j x y J ∧ ¬ w 0 = 0
theorem dg_K_push {b : Nat → Nat} {c s0 k D : Nat} {q j x y : Nat → Nat} {w J : Nat → Int32} (h : dg_K c s0 (k + 1) q j x y w J) (e : dg_D b c s0 J (q k) (x k) = D) (hD : D < 4) :
    dg_P b J c s0 (q k) D ∧ x k ≤ D ∧ k ≤ 8 ∧ dg_K c s0 (k + 2) (dg_u q (k + 1) (dg_T (dg_T (q k) D) D)) (dg_u j k (dg_T (q k) D)) (dg_u (dg_u x k (D + 1)) (k + 1) (dg_x0 c (dg_T (dg_T (q k) D) D))) (dg_u (dg_u y k (D + 1)) (k + 1) 0) (upd (upd w k 1) (k + 1) 0) (upd J (dg_T (q k) D) 1) := by
  obtain ⟨hI, hw⟩ := h k rfl
  have hx := (hI.2.1 k (Nat.le_refl k)).2.2
  have g1 := dg_sc_ge (dg_P b J c s0 (q k)) (4 - x k) (x k)
  have g2 := dg_sc_hit (dg_P b J c s0 (q k)) (4 - x k) (x k)
  have e' : dg_sc (dg_P b J c s0 (q k)) (4 - x k) (x k) = D := e
  rw [e'] at g1 g2
  have hP := g2 (by have := hx.2.1; omega)
  obtain ⟨hk, hI'⟩ := dg_I_push hI hD hP (dg_x0_c c _)
  refine ⟨hP, g1.1, hk, fun k' hk' => ?_⟩
  obtain rfl : k' = k + 1 := by omega
  exact ⟨hI', dg_w0 hw⟩
theorem dg_K_pop {c s0 k : Nat} {q j x y : Nat → Nat} {w J : Nat → Int32} (h : dg_K c s0 (k + 1) q j x y w J) : dg_K c s0 k q j x y w (if k = 0 then J else upd J (j (k - 1)) 0) := by
  intro k' e
  subst e
  obtain ⟨hI, hw⟩ := h _ rfl
  rw [if_neg (by omega)]
  exact ⟨dg_I_pop hI, hw⟩
/-- a path worth keeping -/
def dg_E (e : Nat × (Nat → Nat)) : Prop := 2 ≤ e.1 ∧ e.1 ≤ 13 ∧ (∀ k, k < e.1 → e.2 k < 32) ∧ ((∀ k, k + 1 < e.1 → dg_D2 (e.2 k) (e.2 (k + 1))) ∨ (e.1 = 2 ∧ ¬ dg_D2 (e.2 0) (e.2 1)))
theorem dg_run_E (b : Nat → Nat) (c s0 : Nat) : ∀ (n k1 : Nat) (q j x y : Nat → Nat) (w J : Nat → Int32), dg_K c s0 k1 q j x y w J → ∀ e, e ∈ dg_run b c s0 n k1 q j x w J → dg_E e := by
  intro n
  induction n with
  | zero => intro k1 q j x y w J _ e he; rw [dg_run] at he; exact absurd he List.not_mem_nil
  | succ n ih =>
    intro k1 q j x y w J h e he
    cases k1 with
    | zero => rw [dg_run_0] at he; exact absurd he List.not_mem_nil
    | succ k =>
      by_cases hD : dg_D b c s0 J (q k) (x k) < 4
      · rw [dg_run_push rfl hD] at he
        exact ih _ _ _ _ _ _ _ (dg_K_push h rfl hD).2.2.2 e he
      · rw [dg_run_pop hD] at he
        rcases List.mem_append.mp he with he | he
        · obtain ⟨hI, hw⟩ := h k rfl
          by_cases hk : w k = 0
          · rw [if_pos hk] at he
            obtain rfl := List.mem_singleton.mp he
            have h9 := dg_I_k hI
            have hk0 : k ≠ 0 := fun z => hw (z ▸ hk)
            refine ⟨by show 2 ≤ k + 1; omega, by show k + 1 ≤ 13; omega, fun i hi => (hI.2.1 i ?_).1, Or.inl fun i hi => (hI.2.2.1 i ?_).2.1⟩
            · have : i < k + 1 := hi
              omega
            · have : i + 1 < k + 1 := hi
              omega
          · rw [if_neg hk] at he; exact absurd he List.not_mem_nil
        · exact ih _ _ _ _ _ _ _ (dg_K_pop h) e he
end
section
/-! the move list of a level: cells that both sides hold alike -/
def dg_M (ml mv : Nat → Int32) (s : Nat) : Prop := ∃ (L : Nat) (q : Nat → Nat), 2 ≤ L ∧ L ≤ 13 ∧ ml s = nI L ∧ (∀ k, k < L → q k < 32 ∧ mv (s * 13 + k) = nI (q k)) ∧ ((∀ k, k + 1 < L → dg_D2 (q k) (q (k + 1))) ∨ (L = 2 ∧ ¬ dg_D2 (q 0) (q 1)))
def dg_L (mt ml mv : Nat → Int32) (lv : Nat) : Prop := ∃ M, M ≤ 48 ∧ mt lv = nI M ∧ ∀ i, i < M → dg_M ml mv (lv * 48 + i)
/-- a level's list may have changed, no other's -/
def dg_F (lv : Nat) (mt ml mv mt' ml' mv' : Nat → Int32) : Prop := (∀ i, i ≠ lv → mt' i = mt i) ∧ (∀ i, i < lv * 48 ∨ lv * 48 + 48 ≤ i → ml' i = ml i) ∧ (∀ i, i < lv * 624 ∨ lv * 624 + 624 ≤ i → mv' i = mv i)
theorem dg_F_rfl {lv : Nat} {mt ml mv : Nat → Int32} : dg_F lv mt ml mv mt ml mv := ⟨fun _ _ => rfl, fun _ _ => rfl, fun _ _ => rfl⟩
theorem dg_F_tr {lv : Nat} {a b c a1 b1 c1 a2 b2 c2 : Nat → Int32} (h : dg_F lv a b c a1 b1 c1) (g : dg_F lv a1 b1 c1 a2 b2 c2) : dg_F lv a b c a2 b2 c2 :=
  ⟨fun i hi => (g.1 i hi).trans (h.1 i hi), fun i hi => (g.2.1 i hi).trans (h.2.1 i hi), fun i hi => (g.2.2 i hi).trans (h.2.2 i hi)⟩
theorem dg_M_congr {ml mv ml' mv' : Nat → Int32} {s : Nat} (h : dg_M ml mv s) (h1 : ml' s = ml s) (h2 : ∀ k, k < 13 → mv' (s * 13 + k) = mv (s * 13 + k)) : dg_M ml' mv' s := by
  obtain ⟨L, q, a1, a2, a3, a4, a5⟩ := h
  exact ⟨L, q, a1, a2, h1.trans a3, fun k hk => ⟨(a4 k hk).1, (h2 k (by omega)).trans (a4 k hk).2⟩, a5⟩
/-- another level's list stands -/
theorem dg_L_F {lv l : Nat} {mt ml mv mt' ml' mv' : Nat → Int32} (h : dg_L mt ml mv l) (hl : l ≠ lv) (hf : dg_F lv mt ml mv mt' ml' mv') : dg_L mt' ml' mv' l := by
  obtain ⟨M, h1, h2, h3⟩ := h
  refine ⟨M, h1, (hf.1 l hl).trans h2, fun i hi => dg_M_congr (h3 i hi) (hf.2.1 _ (by omega)) fun k hk => hf.2.2 _ (by omega)⟩
def dg_wr (mv : Nat → Int32) (o : Nat) (q : Nat → Nat) : Nat → (Nat → Int32)
  | 0 => mv
  | n + 1 => upd (dg_wr mv o q n) (o + n) (nI (q n))
theorem dg_wr_in (mv : Nat → Int32) (o : Nat) (q : Nat → Nat) (n k : Nat) (h : k < n) : dg_wr mv o q n (o + k) = nI (q k) := by
  induction n with
  | zero => exact absurd h (Nat.not_lt_zero k)
  | succ n ih =>
    show upd (dg_wr mv o q n) (o + n) (nI (q n)) (o + k) = nI (q k)
    by_cases e : k = n
    · subst e; rw [pk_us]
    · rw [pk_un (by omega)]; exact ih (by omega)
theorem dg_wr_out (mv : Nat → Int32) (o : Nat) (q : Nat → Nat) (n i : Nat) (h : i < o ∨ o + n ≤ i) : dg_wr mv o q n i = mv i := by
  induction n with
  | zero => rfl
  | succ n ih =>
    show upd (dg_wr mv o q n) (o + n) (nI (q n)) i = mv i
    rw [pk_un (by omega)]; exact ih (by omega)
/-- a path is kept -/
theorem dg_L_rec {lv M L : Nat} {mt ml mv : Nat → Int32} {q : Nat → Nat} (hM : M < 48) (h : ∀ i, i < M → dg_M ml mv (lv * 48 + i)) (hL : 2 ≤ L) (hL2 : L ≤ 13) (hq : ∀ k, k < L → q k < 32)
    (hk : (∀ k, k + 1 < L → dg_D2 (q k) (q (k + 1))) ∨ (L = 2 ∧ ¬ dg_D2 (q 0) (q 1))) :
    dg_L (upd mt lv (nI (M + 1))) (upd ml (lv * 48 + M) (nI L)) (dg_wr mv ((lv * 48 + M) * 13) q L) lv ∧
    dg_F lv mt ml mv (upd mt lv (nI (M + 1))) (upd ml (lv * 48 + M) (nI L)) (dg_wr mv ((lv * 48 + M) * 13) q L) := by
  refine ⟨⟨M + 1, by omega, pk_us, fun i hi => ?_⟩, fun i hi => pk_un hi, fun i hi => pk_un (by omega), fun i hi => dg_wr_out _ _ _ _ _ (by omega)⟩
  by_cases e : i = M
  · subst e
    exact ⟨L, q, hL, hL2, pk_us, fun k hk => ⟨hq k hk, dg_wr_in _ _ _ _ _ hk⟩, hk⟩
  · exact dg_M_congr (h i (by omega)) (pk_un (by omega)) fun k hk => dg_wr_out _ _ _ _ _ (by omega)
/-- one path more, if there is room -/
def dg_rec (lv : Nat) (T : (Nat → Int32) × (Nat → Int32) × (Nat → Int32)) (e : Nat × (Nat → Nat)) : (Nat → Int32) × (Nat → Int32) × (Nat → Int32) :=
  if (T.1 lv).toNatClampNeg < 48 then (upd T.1 lv (nI ((T.1 lv).toNatClampNeg + 1)), upd T.2.1 (lv * 48 + (T.1 lv).toNatClampNeg) (nI e.1), dg_wr T.2.2 ((lv * 48 + (T.1 lv).toNatClampNeg) * 13) e.2 e.1) else T
def dg_Q (T : (Nat → Int32) × (Nat → Int32) × (Nat → Int32)) (lv : Nat) : Prop := ∃ M, M ≤ 48 ∧ T.1 lv = nI M
theorem dg_rec_lt {lv M : Nat} {T : (Nat → Int32) × (Nat → Int32) × (Nat → Int32)} {e : Nat × (Nat → Nat)} (h : T.1 lv = nI M) (hM : M < 48) :
    dg_rec lv T e = (upd T.1 lv (nI (M + 1)), upd T.2.1 (lv * 48 + M) (nI e.1), dg_wr T.2.2 ((lv * 48 + M) * 13) e.2 e.1) := by
  have e1 : (T.1 lv).toNatClampNeg = M := by rw [h]; exact nI_clamp (by omega)
  unfold dg_rec
  rw [e1, if_pos hM]
theorem dg_rec_ge {lv M : Nat} {T : (Nat → Int32) × (Nat → Int32) × (Nat → Int32)} {e : Nat × (Nat → Nat)} (h : T.1 lv = nI M) (hM : 48 ≤ M) (hM2 : M ≤ 48) : dg_rec lv T e = T := by
  have e1 : (T.1 lv).toNatClampNeg = M := by rw [h]; exact nI_clamp (by omega)
  unfold dg_rec
  rw [e1, if_neg (by omega)]
theorem dg_rec_Q {lv : Nat} {T : (Nat → Int32) × (Nat → Int32) × (Nat → Int32)} (e : Nat × (Nat → Nat)) (h : dg_Q T lv) : dg_Q (dg_rec lv T e) lv := by
  obtain ⟨M, h1, h2⟩ := h
  by_cases hM : M < 48
  · rw [dg_rec_lt h2 hM]; exact ⟨M + 1, hM, pk_us⟩
  · rw [dg_rec_ge h2 (by omega) h1]; exact ⟨M, h1, h2⟩
theorem dg_fold_Q {lv : Nat} (l : List (Nat × (Nat → Nat))) : ∀ {T : (Nat → Int32) × (Nat → Int32) × (Nat → Int32)}, dg_Q T lv → dg_Q (l.foldl (dg_rec lv) T) lv := by
  induction l with
  | nil => intro T h; exact h
  | cons e t ih => intro T h; exact ih (dg_rec_Q e h)
theorem dg_rec_L {lv : Nat} {T : (Nat → Int32) × (Nat → Int32) × (Nat → Int32)} {e : Nat × (Nat → Nat)} (h : dg_L T.1 T.2.1 T.2.2 lv) (he : dg_E e) :
    dg_L (dg_rec lv T e).1 (dg_rec lv T e).2.1 (dg_rec lv T e).2.2 lv ∧ dg_F lv T.1 T.2.1 T.2.2 (dg_rec lv T e).1 (dg_rec lv T e).2.1 (dg_rec lv T e).2.2 := by
  obtain ⟨M, h1, h2, h3⟩ := h
  by_cases hM : M < 48
  · rw [dg_rec_lt h2 hM]
    exact dg_L_rec hM h3 he.1 he.2.1 he.2.2.1 he.2.2.2
  · rw [dg_rec_ge h2 (by omega) h1]
    exact ⟨⟨M, h1, h2, h3⟩, dg_F_rfl⟩
theorem dg_fold_L {lv : Nat} (l : List (Nat × (Nat → Nat))) : ∀ {T : (Nat → Int32) × (Nat → Int32) × (Nat → Int32)}, dg_L T.1 T.2.1 T.2.2 lv → (∀ e, e ∈ l → dg_E e) →
    dg_L (l.foldl (dg_rec lv) T).1 (l.foldl (dg_rec lv) T).2.1 (l.foldl (dg_rec lv) T).2.2 lv ∧ dg_F lv T.1 T.2.1 T.2.2 (l.foldl (dg_rec lv) T).1 (l.foldl (dg_rec lv) T).2.1 (l.foldl (dg_rec lv) T).2.2 := by
  induction l with
  | nil => intro T h _; exact ⟨h, dg_F_rfl⟩
  | cons e t ih =>
    intro T h he
    have g := dg_rec_L h (he e List.mem_cons_self)
    have g2 := ih (T := dg_rec lv T e) g.1 (fun e' h' => he e' (List.mem_cons_of_mem e h'))
    exact ⟨g2.1, dg_F_tr g.2 g2.2⟩
/-! all moves of a level -/
/-- the captures of one piece: the walk from its first cell -/
noncomputable def dg_cap (N : Nat) (b : Nat → Nat) (c s0 : Nat) : List (Nat × (Nat → Nat)) := dg_run b c s0 N 1 (fun _ => s0) (fun _ => 0) (fun _ => dg_fst c) (fun _ => 1) (fun _ => 0)
theorem dg_cnt_0 (l : List Nat) : dg_cnt (fun _ => 0) l = 0 := by
  induction l with
  | nil => rfl
  | cons n t ih => show (if (0 : Int32) = 0 then 0 else 1) + dg_cnt (fun _ => 0) t = 0; rw [ih, if_pos rfl]
theorem dg_K_0 {c s0 : Nat} (h : s0 < 32) : dg_K c s0 1 (fun _ => s0) (fun _ => 0) (fun _ => dg_fst c) (fun _ => 0) (fun _ => 1) (fun _ => 0) := by
  intro k hk
  obtain rfl : k = 0 := by omega
  have hf := dg_fst_le c
  refine ⟨⟨rfl, fun i hi => ⟨h, rfl, Nat.le_refl _, ?_, Nat.zero_le _, Or.inr (Or.inl ⟨rfl, rfl⟩)⟩, fun i hi => absurd hi (Nat.not_lt_zero i), fun n hn hJ => absurd rfl hJ, dg_cnt_0 _⟩, ?_⟩
  · show dg_fst c ≤ 4; omega
  · show ¬ (1 : Int32) = 0; decide
theorem dg_cap_E (N : Nat) (b : Nat → Nat) (c s0 : Nat) (h : s0 < 32) : ∀ e, e ∈ dg_cap N b c s0 → dg_E e := dg_run_E b c s0 N 1 _ _ _ _ _ _ (dg_K_0 h)
/-- the piece is of the side's colour -/
def dg_own (c : Nat) (sd : Int32) : Prop := (¬ c = 0 ∧ c ≤ 2 ∧ sd = 0) ∨ (2 < c ∧ sd = 1)
noncomputable def dg_caps (N : Nat) (b : Nat → Nat) (sd : Int32) : Nat → Nat → List (Nat × (Nat → Nat))
  | 0, _ => []
  | n + 1, s => (@ite _ (dg_own (b s) sd) (Classical.propDecidable _) (dg_cap N b (b s) s) []) ++ dg_caps N b sd n (s + 1)
theorem dg_caps_y {N : Nat} {b : Nat → Nat} {sd : Int32} {n s : Nat} (h : dg_own (b s) sd) : dg_caps N b sd (n + 1) s = dg_cap N b (b s) s ++ dg_caps N b sd n (s + 1) := by
  rw [dg_caps, if_pos h]
theorem dg_caps_n {N : Nat} {b : Nat → Nat} {sd : Int32} {n s : Nat} (h : ¬ dg_own (b s) sd) : dg_caps N b sd (n + 1) s = dg_caps N b sd n (s + 1) := by
  rw [dg_caps, if_neg h]; rfl
theorem dg_caps_E (N : Nat) (b : Nat → Nat) (sd : Int32) : ∀ n s, s + n ≤ 32 → ∀ e, e ∈ dg_caps N b sd n s → dg_E e := by
  intro n
  induction n with
  | zero => intro s _ e he; rw [dg_caps] at he; exact absurd he List.not_mem_nil
  | succ n ih =>
    intro s hs e he
    by_cases h : dg_own (b s) sd
    · rw [dg_caps_y h] at he
      rcases List.mem_append.mp he with he | he
      · exact dg_cap_E N b _ s (by omega) e he
      · exact ih (s + 1) (by omega) e he
    · rw [dg_caps_n h] at he
      exact ih (s + 1) (by omega) e he
/-- the piece can step in direction d -/
def dg_R (b : Nat → Nat) (c s d : Nat) : Prop := dg_ok c d ∧ dg_T s d < 32 ∧ b (dg_T s d) = 0
def dg_two (s t : Nat) : Nat → Nat := fun i => if i = 0 then s else t
noncomputable def dg_sm (b : Nat → Nat) (c s : Nat) : Nat → Nat → List (Nat × (Nat → Nat))
  | 0, _ => []
  | n + 1, d => (@ite _ (dg_R b c s d) (Classical.propDecidable _) [(2, dg_two s (dg_T s d))] []) ++ dg_sm b c s n (d + 1)
theorem dg_sm_y {b : Nat → Nat} {c s n d : Nat} (h : dg_R b c s d) : dg_sm b c s (n + 1) d = (2, dg_two s (dg_T s d)) :: dg_sm b c s n (d + 1) := by
  rw [dg_sm, if_pos h]; rfl
theorem dg_sm_n {b : Nat → Nat} {c s n d : Nat} (h : ¬ dg_R b c s d) : dg_sm b c s (n + 1) d = dg_sm b c s n (d + 1) := by
  rw [dg_sm, if_neg h]; rfl
theorem dg_sm_none {b : Nat → Nat} {c s : Nat} : ∀ n d, (∀ e, d ≤ e → e < d + n → ¬ dg_R b c s e) → dg_sm b c s n d = [] := by
  intro n
  induction n with
  | zero => intro d _; rw [dg_sm]
  | succ n ih => intro d h; rw [dg_sm_n (h d (Nat.le_refl d) (by omega))]; exact ih (d + 1) (fun e h1 h2 => h e (by omega) (by omega))
theorem dg_sm_skip {b : Nat → Nat} {c s : Nat} : ∀ k d, d + k ≤ 4 → (∀ e, d ≤ e → e < d + k → ¬ dg_R b c s e) → dg_sm b c s (4 - d) d = dg_sm b c s (4 - (d + k)) (d + k) := by
  intro k
  induction k with
  | zero => intro d _ _; rfl
  | succ k ih =>
    intro d hd h
    have e1 : 4 - d = (4 - (d + 1)) + 1 := by omega
    rw [e1, dg_sm_n (h d (Nat.le_refl d) (by omega)), ih (d + 1) (by omega) (fun e h1 h2 => h e (by omega) (by omega))]
    have e2 : d + 1 + k = d + (k + 1) := by omega
    rw [e2]
theorem dg_sm_E {b : Nat → Nat} {c s : Nat} (hs : s < 32) : ∀ n d, d + n ≤ 4 → ∀ e, e ∈ dg_sm b c s n d → dg_E e := by
  intro n
  induction n with
  | zero => intro d _ e he; rw [dg_sm] at he; exact absurd he List.not_mem_nil
  | succ n ih =>
    intro d hd e he
    by_cases h : dg_R b c s d
    · rw [dg_sm_y h] at he
      rcases List.mem_cons.mp he with he | he
      · subst he
        refine ⟨Nat.le_refl 2, by show 2 ≤ 13; omega, fun k hk => ?_, Or.inr ⟨rfl, dg_step1 s hs d (by omega) h.2.1⟩⟩
        show (if k = 0 then s else dg_T s d) < 32
        split
        · exact hs
        · exact h.2.1
      · exact ih (d + 1) (by omega) e he
    · rw [dg_sm_n h] at he
      exact ih (d + 1) (by omega) e he
noncomputable def dg_sms (b : Nat → Nat) (sd : Int32) : Nat → Nat → List (Nat × (Nat → Nat))
  | 0, _ => []
  | n + 1, s => (@ite _ (dg_own (b s) sd) (Classical.propDecidable _) (dg_sm b (b s) s 4 0) []) ++ dg_sms b sd n (s + 1)
theorem dg_sms_y {b : Nat → Nat} {sd : Int32} {n s : Nat} (h : dg_own (b s) sd) : dg_sms b sd (n + 1) s = dg_sm b (b s) s 4 0 ++ dg_sms b sd n (s + 1) := by
  rw [dg_sms, if_pos h]
theorem dg_sms_n {b : Nat → Nat} {sd : Int32} {n s : Nat} (h : ¬ dg_own (b s) sd) : dg_sms b sd (n + 1) s = dg_sms b sd n (s + 1) := by
  rw [dg_sms, if_neg h]; rfl
theorem dg_sms_E (b : Nat → Nat) (sd : Int32) : ∀ n s, s + n ≤ 32 → ∀ e, e ∈ dg_sms b sd n s → dg_E e := by
  intro n
  induction n with
  | zero => intro s _ e he; rw [dg_sms] at he; exact absurd he List.not_mem_nil
  | succ n ih =>
    intro s hs e he
    by_cases h : dg_own (b s) sd
    · rw [dg_sms_y h] at he
      rcases List.mem_append.mp he with he | he
      · exact dg_sm_E (by omega) 4 0 (by omega) e he
      · exact ih (s + 1) (by omega) e he
    · rw [dg_sms_n h] at he
      exact ih (s + 1) (by omega) e he
/-- the lists after all moves of level lv were listed -/
noncomputable def dg_gen (lv : Nat) (b : Nat → Nat) (sd : Int32) (mt ml mv : Nat → Int32) : (Nat → Int32) × (Nat → Int32) × (Nat → Int32) :=
  if ((dg_caps 700000 b sd 32 0).foldl (dg_rec lv) (upd mt lv 0, ml, mv)).1 lv = 0 then (dg_sms b sd 32 0).foldl (dg_rec lv) ((dg_caps 700000 b sd 32 0).foldl (dg_rec lv) (upd mt lv 0, ml, mv))
  else (dg_caps 700000 b sd 32 0).foldl (dg_rec lv) (upd mt lv 0, ml, mv)
theorem dg_gen_L (lv : Nat) (b : Nat → Nat) (sd : Int32) (mt ml mv : Nat → Int32) :
    dg_L (dg_gen lv b sd mt ml mv).1 (dg_gen lv b sd mt ml mv).2.1 (dg_gen lv b sd mt ml mv).2.2 lv ∧ dg_F lv mt ml mv (dg_gen lv b sd mt ml mv).1 (dg_gen lv b sd mt ml mv).2.1 (dg_gen lv b sd mt ml mv).2.2 := by
  have h0 : dg_L (upd mt lv 0) ml mv lv := ⟨0, by omega, pk_us, fun i hi => absurd hi (Nat.not_lt_zero i)⟩
  have f0 : dg_F lv mt ml mv (upd mt lv 0) ml mv := ⟨fun i hi => pk_un hi, fun _ _ => rfl, fun _ _ => rfl⟩
  have h1 := dg_fold_L (lv := lv) (dg_caps 700000 b sd 32 0) (T := (upd mt lv 0, ml, mv)) h0 (dg_caps_E 700000 b sd 32 0 (by omega))
  unfold dg_gen
  generalize (dg_caps 700000 b sd 32 0).foldl (dg_rec lv) (upd mt lv 0, ml, mv) = T1 at h1 ⊢
  split
  · have h2 := dg_fold_L (lv := lv) (dg_sms b sd 32 0) (T := T1) h1.1 (dg_sms_E b sd 32 0 (by omega))
    exact ⟨h2.1, dg_F_tr f0 (dg_F_tr h1.2 h2.2)⟩
  · exact ⟨h1.1, dg_F_tr f0 h1.2⟩
/-! boards -/
def dg_B (bd : Nat → Int32) : Prop := ∀ i, i < 128 → ∃ c, c ≤ 4 ∧ bd i = nI c
def dg_b (bd : Nat → Int32) (i : Nat) : Nat := (bd i).toNatClampNeg
theorem dg_B_b {bd : Nat → Int32} (h : dg_B bd) {i : Nat} (hi : i < 128) : bd i = nI (dg_b bd i) ∧ dg_b bd i ≤ 4 := by
  obtain ⟨c, hc, e⟩ := h i hi
  unfold dg_b
  rw [e, nI_clamp (by omega)]
  exact ⟨rfl, hc⟩
theorem dg_B_upd {bd : Nat → Int32} (h : dg_B bd) (k c : Nat) (hc : c ≤ 4) : dg_B (upd bd k (nI c)) := by
  intro i hi
  by_cases e : i = k
  · subst e; exact ⟨c, hc, pk_us⟩
  · rw [pk_un e]; exact h i hi
/-- the sides to move -/
def dg_S (sd : Nat → Int32) : Prop := ∀ i, i < 4 → sd i = 0 ∨ sd i = 1
theorem dg_S_upd {sd : Nat → Int32} (h : dg_S sd) (k : Nat) (x : Int32) (hx : x = 0 ∨ x = 1) : dg_S (upd sd k x) := by
  intro i hi
  by_cases e : i = k
  · subst e; rw [pk_us]; exact hx
  · rw [pk_un e]; exact h i hi
/-- the component's table of neighbours -/
def dg_N (nb : Nat → Int32) : Prop := ∀ s, s < 32 → ∀ d, d < 4 → nb (s * 4 + d) = dg_enc (dg_T s d)
/-! copying a level's board, n cells -/
def dg_cb (bd : Nat → Int32) (s t : Nat) : Nat → (Nat → Int32)
  | 0 => bd
  | n + 1 => upd (dg_cb bd s t n) (t * 32 + n) (dg_cb bd s t n (s * 32 + n))
theorem dg_cb_src (bd : Nat → Int32) (s t n i : Nat) (h : s ≠ t) (hn : n ≤ 32) (hi : i < 32) : dg_cb bd s t n (s * 32 + i) = bd (s * 32 + i) := by
  induction n with
  | zero => rfl
  | succ n ih =>
    show upd (dg_cb bd s t n) (t * 32 + n) (dg_cb bd s t n (s * 32 + n)) (s * 32 + i) = bd (s * 32 + i)
    rw [pk_un (by omega)]; exact ih (by omega)
theorem dg_cb_in (bd : Nat → Int32) (s t n i : Nat) (h : s ≠ t) (hn : n ≤ 32) (hi : i < n) : dg_cb bd s t n (t * 32 + i) = bd (s * 32 + i) := by
  induction n with
  | zero => exact absurd hi (Nat.not_lt_zero i)
  | succ n ih =>
    show upd (dg_cb bd s t n) (t * 32 + n) (dg_cb bd s t n (s * 32 + n)) (t * 32 + i) = bd (s * 32 + i)
    by_cases e : i = n
    · subst e; rw [pk_us]; exact dg_cb_src bd s t i i h (by omega) (by omega)
    · rw [pk_un (by omega)]; exact ih (by omega) (by omega)
theorem dg_cb_out (bd : Nat → Int32) (s t n i : Nat) (h : i < t * 32 ∨ t * 32 + n ≤ i) : dg_cb bd s t n i = bd i := by
  induction n with
  | zero => rfl
  | succ n ih =>
    show upd (dg_cb bd s t n) (t * 32 + n) (dg_cb bd s t n (s * 32 + n)) i = bd i
    rw [pk_un (by omega)]; exact ih (by omega)
theorem dg_upd_same (f : Nat → Int32) (k : Nat) : upd f k (f k) = f := by
  funext i
  by_cases e : i = k
  · subst e; rw [pk_us]
  · rw [pk_un e]
theorem dg_cb_same (bd : Nat → Int32) (s n : Nat) : dg_cb bd s s n = bd := by
  induction n with
  | zero => rfl
  | succ n ih =>
    show upd (dg_cb bd s s n) (s * 32 + n) (dg_cb bd s s n (s * 32 + n)) = bd
    rw [ih]; exact dg_upd_same bd _
theorem dg_cb_B {bd : Nat → Int32} (h : dg_B bd) (s t n : Nat) (hs : s < 4) (hn : n ≤ 32) : dg_B (dg_cb bd s t n) := by
  induction n with
  | zero => exact h
  | succ n ih =>
    intro i hi
    have g := ih (by omega)
    show ∃ c, c ≤ 4 ∧ upd (dg_cb bd s t n) (t * 32 + n) (dg_cb bd s t n (s * 32 + n)) i = nI c
    by_cases e : i = t * 32 + n
    · rw [e, pk_us]; exact g _ (by omega)
    · rw [pk_un e]; exact g i hi
/-! the squares that the steps of a path jump over are emptied, n steps -/
def dg_co (s : Nat) : Nat := 2 * (s % 4) + (if s / 4 % 2 = 0 then 1 else 0)
def dg_mid (a z : Nat) : Nat := (a / 4 + z / 4) / 2 * 4 + (dg_co a + dg_co z) / 2 / 2
theorem dg_co_lt (s : Nat) : dg_co s ≤ 7 := by unfold dg_co; split <;> omega
theorem dg_mid_lt {a z : Nat} (ha : a < 32) (hz : z < 32) : dg_mid a z < 32 := by
  have h1 := dg_co_lt a
  have h2 := dg_co_lt z
  unfold dg_mid
  omega
def dg_tk (bd : Nat → Int32) (t : Nat) (q : Nat → Nat) : Nat → (Nat → Int32)
  | 0 => bd
  | n + 1 => upd (dg_tk bd t q n) (t * 32 + dg_mid (q n) (q (n + 1))) 0
theorem dg_tk_B {bd : Nat → Int32} (h : dg_B bd) (t : Nat) (q : Nat → Nat) (n : Nat) : dg_B (dg_tk bd t q n) := by
  induction n with
  | zero => exact h
  | succ n ih => exact dg_B_upd ih _ 0 (by omega)
/-! values -/
def dg_i (z : Int) : Int32 := Int32.ofInt z
theorem dg_i_add (a b : Int) : dg_i a + dg_i b = dg_i (a + b) := (Int32.ofInt_add a b).symm
theorem dg_i_sub (a b : Int) : dg_i a - dg_i b = dg_i (a - b) := (Int32.ofInt_sub a b).symm
theorem dg_i_neg (a : Int) : - dg_i a = dg_i (- a) := (Int32.ofInt_neg a).symm
theorem dg_i_nI (n : Nat) : nI n = dg_i (n : Int) := Int32.ofInt_eq_ofNat.symm
theorem dg_i_t {a : Int} (h : -2000000000 ≤ a) (h2 : a ≤ 2000000000) : (dg_i a).toInt = a := Int32.toInt_ofInt_of_le (by omega) (by omega)
theorem dg_i_lt {a b : Int} (h : -2000000000 ≤ a) (h2 : a ≤ 2000000000) (g : -2000000000 ≤ b) (g2 : b ≤ 2000000000) : dg_i a < dg_i b ↔ a < b := by
  rw [Int32.lt_iff_toInt_lt, dg_i_t h h2, dg_i_t g g2]
theorem dg_i_le {a b : Int} (h : -2000000000 ≤ a) (h2 : a ≤ 2000000000) (g : -2000000000 ≤ b) (g2 : b ≤ 2000000000) : dg_i a ≤ dg_i b ↔ a ≤ b := by
  rw [Int32.le_iff_toInt_le, dg_i_t h h2, dg_i_t g g2]
theorem dg_i_eq {a b : Int} (h : -2000000000 ≤ a) (h2 : a ≤ 2000000000) (g : -2000000000 ≤ b) (g2 : b ≤ 2000000000) : dg_i a = dg_i b ↔ a = b := by
  rw [← Int32.toInt_inj, dg_i_t h h2, dg_i_t g g2]
/-! the worth of a position, and its status -/
def dg_wo (c s : Nat) : Int := if c = 1 then 100 + 4 * ((s / 4 : Nat) : Int) else if c = 3 then 100 + 4 * ((7 - s / 4 : Nat) : Int) else if c = 0 then 0 else 250
theorem dg_wo_r {c s : Nat} (hs : s < 32) : 0 ≤ dg_wo c s ∧ dg_wo c s ≤ 250 := by
  unfold dg_wo
  split
  · omega
  · split
    · omega
    · split <;> omega
noncomputable def dg_ev (b : Nat → Nat) (sd : Int32) : Nat → Nat → Int
  | 0, _ => 0
  | n + 1, s => (@ite _ (dg_own (b s) sd) (Classical.propDecidable _) (dg_wo (b s) s) (- dg_wo (b s) s)) + dg_ev b sd n (s + 1)
theorem dg_ev_y {b : Nat → Nat} {sd : Int32} {n s : Nat} (h : dg_own (b s) sd) : dg_ev b sd (n + 1) s = dg_wo (b s) s + dg_ev b sd n (s + 1) := by
  rw [dg_ev, if_pos h]
theorem dg_ev_n {b : Nat → Nat} {sd : Int32} {n s : Nat} (h : ¬ dg_own (b s) sd) : dg_ev b sd (n + 1) s = - dg_wo (b s) s + dg_ev b sd n (s + 1) := by
  rw [dg_ev, if_neg h]
theorem dg_ev_r (b : Nat → Nat) (sd : Int32) : ∀ (n s : Nat), s + n ≤ 32 → - (250 * (n : Int)) ≤ dg_ev b sd n s ∧ dg_ev b sd n s ≤ 250 * (n : Int) := by
  intro n
  induction n with
  | zero => intro s _; rw [dg_ev]; omega
  | succ n ih =>
    intro s hs
    have h1 := ih (s + 1) (by omega)
    have h2 := dg_wo_r (c := b s) (s := s) (by omega)
    by_cases h : dg_own (b s) sd
    · rw [dg_ev_y h]; omega
    · rw [dg_ev_n h]; omega
def dg_st (lim sd0 dc0 mc0 : Int32) : Int32 := if mc0 = 0 then (if sd0 = 0 then 2 else 1) else if lim ≤ dc0 then 3 else 0
theorem dg_st_w {lim sd0 dc0 mc0 : Int32} (h : mc0 = 0) : dg_st lim sd0 dc0 mc0 = if sd0 = 0 then 2 else 1 := if_pos h
theorem dg_st_d {lim sd0 dc0 mc0 : Int32} (h : ¬ mc0 = 0) (h2 : lim ≤ dc0) : dg_st lim sd0 dc0 mc0 = 3 := by unfold dg_st; rw [if_neg h, if_pos h2]
theorem dg_st_o {lim sd0 dc0 mc0 : Int32} (h : ¬ mc0 = 0) (h2 : ¬ lim ≤ dc0) : dg_st lim sd0 dc0 mc0 = 0 := by unfold dg_st; rw [if_neg h, if_neg h2]
theorem dg_st_0 {lim sd0 dc0 mc0 : Int32} (h : dg_st lim sd0 dc0 mc0 = 0) : ¬ mc0 = 0 ∧ ¬ lim ≤ dc0 := by
  unfold dg_st at h
  split at h
  · split at h <;> exact absurd h (by decide)
  · split at h
    · exact absurd h (by decide)
    · exact ⟨‹_›, ‹_›⟩
end
section
/-! the cells that both sides hold alike: board, sides, counters, totals, lengths, squares -/
abbrev dg_Sh : Type := (Nat → Int32) × (Nat → Int32) × (Nat → Int32) × (Nat → Int32) × (Nat → Int32) × (Nat → Int32)
/-- the move of a slot: its length and its squares, as the cells say -/
def dg_l (ml : Nat → Int32) (s : Nat) : Nat := (ml s).toNatClampNeg
def dg_q (mv : Nat → Int32) (s : Nat) : Nat → Nat := fun k => (mv (s * 13 + k)).toNatClampNeg
theorem dg_M_c {ml mv : Nat → Int32} {s : Nat} (h : dg_M ml mv s) : 2 ≤ dg_l ml s ∧ dg_l ml s ≤ 13 ∧ ml s = nI (dg_l ml s) ∧ (∀ k, k < dg_l ml s → dg_q mv s k < 32 ∧ mv (s * 13 + k) = nI (dg_q mv s k)) ∧ ((∀ k, k + 1 < dg_l ml s → dg_D2 (dg_q mv s k) (dg_q mv s (k + 1))) ∨ (dg_l ml s = 2 ∧ ¬ dg_D2 (dg_q mv s 0) (dg_q mv s 1))) := by
  obtain ⟨L, q, h1, h2, h3, h4, h5⟩ := h
  have eL : dg_l ml s = L := by unfold dg_l; rw [h3]; exact nI_clamp (by omega)
  have eq : ∀ k, k < L → dg_q mv s k = q k := fun k hk => by
    unfold dg_q
    rw [(h4 k hk).2]
    exact nI_clamp (by have := (h4 k hk).1; omega)
  rw [eL]
  refine ⟨h1, h2, h3, fun k hk => ?_, ?_⟩
  · rw [eq k hk]; exact h4 k hk
  · rcases h5 with h5 | ⟨h5, h6⟩
    · refine Or.inl fun k hk => ?_
      rw [eq k (by omega), eq (k + 1) hk]; exact h5 k hk
    · refine Or.inr ⟨h5, ?_⟩
      rw [eq 0 (by omega), eq 1 (by omega)]; exact h6
/-- how many pieces the move takes -/
def dg_C2 (q : Nat → Nat) (L : Nat) : Nat := if q 0 / 4 + 2 = q 1 / 4 ∨ q 1 / 4 + 2 = q 0 / 4 then L - 1 else 0
def dg_cro (c s : Nat) : Nat := if (c = 1 ∧ 28 ≤ s) ∨ (c = 3 ∧ s < 4) then 1 else 0
theorem dg_cro_le {c s : Nat} (h : c ≤ 4) : c + dg_cro c s ≤ 4 := by
  unfold dg_cro
  split <;> omega
def dg_ab (bd : Nat → Int32) (s t L : Nat) (q : Nat → Nat) : Nat → Int32 :=
  upd (dg_tk (upd (dg_cb bd s t 32) (t * 32 + q 0) 0) t q (dg_C2 q L)) (t * 32 + q (L - 1)) (nI (dg_b bd (s * 32 + q 0) + dg_cro (dg_b bd (s * 32 + q 0)) (q (L - 1))))
def dg_ad (dc : Nat → Int32) (bd : Nat → Int32) (s t L : Nat) (q : Nat → Nat) : Nat → Int32 :=
  upd dc t (if 0 < dg_C2 q L ∨ dg_b bd (s * 32 + q 0) = 1 ∨ dg_b bd (s * 32 + q 0) = 3 then 0 else dc s + 1)
def dg_as (sd : Nat → Int32) (s t : Nat) : Nat → Int32 := upd sd t (if sd s = 0 then 1 else 0)
def dg_en (bd : Nat → Int32) (s L : Nat) (q : Nat → Nat) : Int32 :=
  nI (q 0 + 32 * q (L - 1) + 1024 * dg_C2 q L + 16384 * dg_cro (dg_b bd (s * 32 + q 0)) (q (L - 1)))
theorem dg_ab_B {bd : Nat → Int32} {s t L : Nat} {q : Nat → Nat} (h : dg_B bd) (hs : s < 4) (hq : q 0 < 32) : dg_B (dg_ab bd s t L q) := by
  refine dg_B_upd (dg_tk_B (dg_B_upd (dg_cb_B h s t 32 hs (by omega)) _ 0 (by omega)) t q _) _ _ (dg_cro_le ?_)
  exact (dg_B_b h (by omega)).2
theorem dg_as_S {sd : Nat → Int32} {s t : Nat} (h : dg_S sd) : dg_S (dg_as sd s t) := by
  refine dg_S_upd h _ _ ?_
  split
  · exact Or.inr rfl
  · exact Or.inl rfl
/-- applying move i of level s into level t -/
def dg_ap (s i t : Nat) (S : dg_Sh) : dg_Sh :=
  (dg_ab S.1 s t (dg_l S.2.2.2.2.1 (s * 48 + i)) (dg_q S.2.2.2.2.2 (s * 48 + i)), dg_as S.2.1 s t, dg_ad S.2.2.1 S.1 s t (dg_l S.2.2.2.2.1 (s * 48 + i)) (dg_q S.2.2.2.2.2 (s * 48 + i)), S.2.2.2.1, S.2.2.2.2.1, S.2.2.2.2.2)
/-- the board of a level -/
def dg_bl (bd : Nat → Int32) (lv : Nat) : Nat → Nat := fun n => dg_b bd (lv * 32 + n)
/-- listing the moves of level lv -/
noncomputable def dg_gn (lv : Nat) (S : dg_Sh) : dg_Sh :=
  (S.1, S.2.1, S.2.2.1, (dg_gen lv (dg_bl S.1 lv) (S.2.1 lv) S.2.2.2.1 S.2.2.2.2.1 S.2.2.2.2.2).1, (dg_gen lv (dg_bl S.1 lv) (S.2.1 lv) S.2.2.2.1 S.2.2.2.2.1 S.2.2.2.2.2).2.1, (dg_gen lv (dg_bl S.1 lv) (S.2.1 lv) S.2.2.2.1 S.2.2.2.2.1 S.2.2.2.2.2).2.2)
/-- what holds of the cells while level lv is at work -/
def dg_Ok (lv : Nat) (S : dg_Sh) : Prop := dg_B S.1 ∧ dg_S S.2.1 ∧ ∀ l, l ≤ lv → dg_L S.2.2.2.1 S.2.2.2.2.1 S.2.2.2.2.2 l
theorem dg_L_M {mt ml mv : Nat → Int32} {lv i : Nat} (h : dg_L mt ml mv lv) (hi : i < (mt lv).toNatClampNeg) : i < 48 ∧ dg_M ml mv (lv * 48 + i) := by
  obtain ⟨M, h1, h2, h3⟩ := h
  rw [h2, nI_clamp (by omega)] at hi
  exact ⟨by omega, h3 i hi⟩
theorem dg_Ok_ap {lv i : Nat} {S : dg_Sh} (h : dg_Ok lv S) (hl : lv < 3) (hi : i < (S.2.2.2.1 lv).toNatClampNeg) : dg_Ok lv (dg_ap lv i (lv + 1) S) := by
  obtain ⟨h1, h2, h3⟩ := h
  have hm := dg_M_c (dg_L_M (h3 lv (Nat.le_refl lv)) hi).2
  exact ⟨dg_ab_B h1 (by omega) (hm.2.2.2.1 0 (by omega)).1, dg_as_S h2, h3⟩
theorem dg_Ok_gn {lv : Nat} {S : dg_Sh} (h : dg_Ok lv S) : dg_Ok (lv + 1) (dg_gn (lv + 1) S) := by
  obtain ⟨h1, h2, h3⟩ := h
  have g := dg_gen_L (lv + 1) (dg_bl S.1 (lv + 1)) (S.2.1 (lv + 1)) S.2.2.2.1 S.2.2.2.2.1 S.2.2.2.2.2
  refine ⟨h1, h2, fun l hl => ?_⟩
  by_cases e : l = lv + 1
  · subst e; exact g.1
  · exact dg_L_F (h3 l (by omega)) e g.2
/-- the leaves of the search, and their values -/
def dg_lf (lim : Int32) (pl lv : Nat) (S : dg_Sh) : Prop := S.2.2.2.1 lv = 0 ∨ lim ≤ S.2.2.1 lv ∨ lv = pl
noncomputable def dg_lv (lim : Int32) (lv : Nat) (S : dg_Sh) : Int :=
  @ite _ (S.2.2.2.1 lv = 0) (Classical.propDecidable _) (-10000 + (lv : Int)) (@ite _ (lim ≤ S.2.2.1 lv) (Classical.propDecidable _) 0 (dg_ev (dg_bl S.1 lv) (S.2.1 lv) 32 0))
theorem dg_lv_r {lim : Int32} {lv : Nat} {S : dg_Sh} (h : lv < 4) : -10000 ≤ dg_lv lim lv S ∧ dg_lv lim lv S ≤ 10000 := by
  have g := dg_ev_r (dg_bl S.1 lv) (S.2.1 lv) 32 0 (by omega)
  unfold dg_lv
  split
  · omega
  · split <;> omega
/-! the search as a pure machine: l1 levels are at work; ix the next moves, vb the best values, g the game's best move -/
def dg_uI (f : Nat → Int) (k : Nat) (x : Int) : Nat → Int := fun i => if i = k then x else f i
theorem dg_uIs {f : Nat → Int} {k : Nat} {x : Int} : dg_uI f k x k = x := if_pos rfl
theorem dg_uIn {f : Nat → Int} {k i : Nat} {x : Int} (h : i ≠ k) : dg_uI f k x i = f i := if_neg h
def dg_tv (l : Nat) (v : Int) (vb : Nat → Int) : Nat → Int := if vb l < v then dg_uI vb l v else vb
def dg_tg (l : Nat) (v : Int) (vb : Nat → Int) (ix : Nat → Nat) (g : Nat) : Nat := if vb l < v then (if l = 0 then ix 0 else g) else g
noncomputable def dg_se (lim : Int32) (pl : Nat) : Nat → Nat → dg_Sh → (Nat → Nat) → (Nat → Int) → Nat → dg_Sh × Int × Nat
  | 0, _, S, _, vb, g => (S, vb 0, g)
  | _ + 1, 0, S, _, vb, g => (S, vb 0, g)
  | n + 1, l + 1, S, ix, vb, g =>
    if ix l < (S.2.2.2.1 l).toNatClampNeg then
      @ite _ (dg_lf lim pl (l + 1) (dg_gn (l + 1) (dg_ap l (ix l) (l + 1) S))) (Classical.propDecidable _)
        (dg_se lim pl n (l + 1) (dg_gn (l + 1) (dg_ap l (ix l) (l + 1) S)) (dg_u ix l (ix l + 1))
          (dg_tv l (- dg_lv lim (l + 1) (dg_gn (l + 1) (dg_ap l (ix l) (l + 1) S))) vb) (dg_tg l (- dg_lv lim (l + 1) (dg_gn (l + 1) (dg_ap l (ix l) (l + 1) S))) vb ix g))
        (dg_se lim pl n (l + 2) (dg_gn (l + 1) (dg_ap l (ix l) (l + 1) S)) (dg_u ix (l + 1) 0) (dg_uI vb (l + 1) (-20000)) g)
    else if l = 0 then (S, vb 0, g)
    else dg_se lim pl n l S (dg_u ix (l - 1) (ix (l - 1) + 1)) (dg_tv (l - 1) (- vb l) vb) (dg_tg (l - 1) (- vb l) vb ix g)
theorem dg_se_leaf {lim : Int32} {pl n l g : Nat} {S S' : dg_Sh} {ix : Nat → Nat} {vb : Nat → Int} (h : ix l < (S.2.2.2.1 l).toNatClampNeg) (e : dg_gn (l + 1) (dg_ap l (ix l) (l + 1) S) = S') (hl : dg_lf lim pl (l + 1) S') :
    dg_se lim pl (n + 1) (l + 1) S ix vb g = dg_se lim pl n (l + 1) S' (dg_u ix l (ix l + 1)) (dg_tv l (- dg_lv lim (l + 1) S') vb) (dg_tg l (- dg_lv lim (l + 1) S') vb ix g) := by
  subst e
  rw [dg_se, if_pos h, if_pos hl]
theorem dg_se_in {lim : Int32} {pl n l g : Nat} {S S' : dg_Sh} {ix : Nat → Nat} {vb : Nat → Int} (h : ix l < (S.2.2.2.1 l).toNatClampNeg) (e : dg_gn (l + 1) (dg_ap l (ix l) (l + 1) S) = S') (hl : ¬ dg_lf lim pl (l + 1) S') :
    dg_se lim pl (n + 1) (l + 1) S ix vb g = dg_se lim pl n (l + 2) S' (dg_u ix (l + 1) 0) (dg_uI vb (l + 1) (-20000)) g := by
  subst e
  rw [dg_se, if_pos h, if_neg hl]
theorem dg_se_end {lim : Int32} {pl n g : Nat} {S : dg_Sh} {ix : Nat → Nat} {vb : Nat → Int} (h : ¬ ix 0 < (S.2.2.2.1 0).toNatClampNeg) :
    dg_se lim pl (n + 1) 1 S ix vb g = (S, vb 0, g) := by
  rw [dg_se, if_neg h, if_pos rfl]
theorem dg_se_out {lim : Int32} {pl n l g : Nat} {S : dg_Sh} {ix : Nat → Nat} {vb : Nat → Int} (h : ¬ ix (l + 1) < (S.2.2.2.1 (l + 1)).toNatClampNeg) :
    dg_se lim pl (n + 1) (l + 2) S ix vb g = dg_se lim pl n (l + 1) S (dg_u ix l (ix l + 1)) (dg_tv l (- vb (l + 1)) vb) (dg_tg l (- vb (l + 1)) vb ix g) := by
  rw [dg_se, if_neg h, if_neg (by omega)]; rfl
/-- what a child of level l costs at most -/
def dg_c (l : Nat) : Nat := if l = 0 then 4706 else if l = 1 then 98 else 2
/-- the cost of the levels below l1 that wait for a reply, then of the top -/
def dg_sp (M ix : Nat → Nat) : Nat → Nat
  | 0 => 0
  | l + 1 => dg_sp M ix l + ((M l - ix l - 1) * dg_c l + 1)
def dg_pt (M ix : Nat → Nat) : Nat → Nat
  | 0 => 0
  | l + 1 => dg_sp M ix l + ((M l - ix l) * dg_c l + 1)
theorem dg_sp_congr {M ix M' ix' : Nat → Nat} (l : Nat) (h : ∀ i, i < l → M i = M' i ∧ ix i = ix' i) : dg_sp M ix l = dg_sp M' ix' l := by
  induction l with
  | zero => rfl
  | succ l ih =>
    show dg_sp M ix l + ((M l - ix l - 1) * dg_c l + 1) = dg_sp M' ix' l + ((M' l - ix' l - 1) * dg_c l + 1)
    rw [ih (fun i hi => h i (by omega)), (h l (by omega)).1, (h l (by omega)).2]
theorem dg_c_2 (l : Nat) : 2 ≤ dg_c l := by unfold dg_c; split <;> (try split) <;> omega
theorem dg_c_48 {l : Nat} (h : l < 2) : dg_c l = 48 * dg_c (l + 1) + 2 := by
  have : l = 0 ∨ l = 1 := by omega
  rcases this with rfl | rfl <;> rfl
theorem dg_pt_leaf {M M' ix : Nat → Nat} {l : Nat} (hM : ∀ i, i ≤ l → M' i = M i) (h : ix l < M l) : dg_pt M' (dg_u ix l (ix l + 1)) (l + 1) + 2 ≤ dg_pt M ix (l + 1) := by
  have e := dg_sp_congr (M := M') (ix := dg_u ix l (ix l + 1)) (M' := M) (ix' := ix) l (fun i hi => ⟨hM i (by omega), dg_un (by omega)⟩)
  show dg_sp M' (dg_u ix l (ix l + 1)) l + ((M' l - dg_u ix l (ix l + 1) l) * dg_c l + 1) + 2 ≤ dg_sp M ix l + ((M l - ix l) * dg_c l + 1)
  rw [e, dg_us, hM l (Nat.le_refl l)]
  have h2 := dg_c_2 l
  have h3 : (M l - (ix l + 1) + 1) * dg_c l = (M l - ix l) * dg_c l := congrArg (· * dg_c l) (by omega)
  rw [Nat.add_mul] at h3
  omega
theorem dg_pt_in {M M' ix : Nat → Nat} {l : Nat} (hl : l < 2) (hM : ∀ i, i ≤ l → M' i = M i) (h : ix l < M l) (h48 : M' (l + 1) ≤ 48) : dg_pt M' (dg_u ix (l + 1) 0) (l + 2) + 1 ≤ dg_pt M ix (l + 1) := by
  have e := dg_sp_congr (M := M') (ix := dg_u ix (l + 1) 0) (M' := M) (ix' := ix) l (fun i hi => ⟨hM i (by omega), dg_un (by omega)⟩)
  show dg_sp M' (dg_u ix (l + 1) 0) l + ((M' l - dg_u ix (l + 1) 0 l - 1) * dg_c l + 1) + ((M' (l + 1) - dg_u ix (l + 1) 0 (l + 1)) * dg_c (l + 1) + 1) + 1 ≤ dg_sp M ix l + ((M l - ix l) * dg_c l + 1)
  rw [e, dg_us, dg_un (by omega), hM l (Nat.le_refl l)]
  have h3 : (M l - ix l - 1 + 1) * dg_c l = (M l - ix l) * dg_c l := congrArg (· * dg_c l) (by omega)
  rw [Nat.add_mul] at h3
  have h4 : (M' (l + 1) - 0) * dg_c (l + 1) ≤ 48 * dg_c (l + 1) := Nat.mul_le_mul_right _ (by omega)
  have h5 := dg_c_48 hl
  omega
theorem dg_pt_out {M ix : Nat → Nat} {l : Nat} : dg_pt M (dg_u ix l (ix l + 1)) (l + 1) + 1 ≤ dg_pt M ix (l + 2) := by
  have e := dg_sp_congr (M := M) (ix := dg_u ix l (ix l + 1)) (M' := M) (ix' := ix) l (fun i hi => ⟨rfl, dg_un (by omega)⟩)
  show dg_sp M (dg_u ix l (ix l + 1)) l + ((M l - dg_u ix l (ix l + 1) l) * dg_c l + 1) + 1 ≤ dg_sp M ix l + ((M l - ix l - 1) * dg_c l + 1) + ((M (l + 1) - ix (l + 1)) * dg_c (l + 1) + 1)
  rw [e, dg_us]
  have h3 : M l - (ix l + 1) = M l - ix l - 1 := by omega
  rw [h3]
  omega
theorem dg_pt_0 {M ix : Nat → Nat} (h : M 0 ≤ 48) : dg_pt M ix 1 ≤ 225889 := by
  show 0 + ((M 0 - ix 0) * 4706 + 1) ≤ 225889
  have : (M 0 - ix 0) * 4706 ≤ 48 * 4706 := Nat.mul_le_mul_right _ (by omega)
  omega
/-- what holds while the search is at level l -/
def dg_m (S : dg_Sh) : Nat → Nat := fun i => (S.2.2.2.1 i).toNatClampNeg
def dg_H (l : Nat) (S : dg_Sh) (ix : Nat → Nat) (vb : Nat → Int) : Prop := dg_Ok l S ∧ (∀ i, i < l → ix i < dg_m S i) ∧ ∀ i, i ≤ l → 1 ≤ dg_m S i ∧ ix i ≤ dg_m S i ∧ ((ix i = 0 ∧ vb i = -20000) ∨ (1 ≤ ix i ∧ -10000 ≤ vb i ∧ vb i ≤ 10000))
theorem dg_L_m {S : dg_Sh} {l : Nat} (h : dg_L S.2.2.2.1 S.2.2.2.2.1 S.2.2.2.2.2 l) : dg_m S l ≤ 48 ∧ S.2.2.2.1 l = nI (dg_m S l) := by
  obtain ⟨M, h1, h2, _⟩ := h
  unfold dg_m
  rw [h2, nI_clamp (by omega)]
  exact ⟨h1, rfl⟩
theorem dg_m_next {l i : Nat} {S : dg_Sh} (h : i ≤ l) (k : Nat) : (dg_gn (l + 1) (dg_ap l k (l + 1) S)).2.2.2.1 i = S.2.2.2.1 i := by
  have g := dg_gen_L (l + 1) (dg_bl (dg_ap l k (l + 1) S).1 (l + 1)) ((dg_ap l k (l + 1) S).2.1 (l + 1)) S.2.2.2.1 S.2.2.2.2.1 S.2.2.2.2.2
  exact g.2.1 i (by omega)
theorem dg_Ok_le {l l' : Nat} {S : dg_Sh} (h : dg_Ok l S) (hl : l' ≤ l) : dg_Ok l' S := ⟨h.1, h.2.1, fun i hi => h.2.2 i (by omega)⟩
theorem dg_H_take {l : Nat} {S S' : dg_Sh} {ix : Nat → Nat} {vb : Nat → Int} {v : Int} (h : dg_H l S ix vb) (hO : dg_Ok l S') (hm : ∀ i, i ≤ l → dg_m S' i = dg_m S i) (hi : ix l < dg_m S l) (h1 : -10000 ≤ v) (h2 : v ≤ 10000) : dg_H l S' (dg_u ix l (ix l + 1)) (dg_tv l v vb) := by
  obtain ⟨g0, g1, g2⟩ := h
  refine ⟨hO, fun i hil => ?_, fun i hil => ?_⟩
  · rw [dg_un (by omega), hm i (by omega)]; exact g1 i hil
  · rw [hm i hil]
    have k := g2 i hil
    unfold dg_tv
    by_cases e : i = l
    · subst e
      rw [dg_us]
      refine ⟨k.1, by omega, Or.inr ⟨by omega, ?_⟩⟩
      by_cases c : vb i < v
      · rw [if_pos c, dg_uIs]; exact ⟨h1, h2⟩
      · rw [if_neg c]
        rcases k.2.2 with k | k
        · omega
        · exact k.2
    · rw [dg_un e]
      refine ⟨k.1, k.2.1, ?_⟩
      split
      · rw [dg_uIn e]; exact k.2.2
      · exact k.2.2
theorem dg_H_next {l : Nat} {S S' : dg_Sh} {ix : Nat → Nat} {vb : Nat → Int} (h : dg_H l S ix vb) (hl : l < 3) (hi : ix l < dg_m S l) (e : dg_gn (l + 1) (dg_ap l (ix l) (l + 1) S) = S') : dg_Ok (l + 1) S' ∧ ∀ i, i ≤ l → dg_m S' i = dg_m S i := by
  subst e
  refine ⟨dg_Ok_gn (dg_Ok_ap h.1 hl hi), fun i hil => ?_⟩
  unfold dg_m
  rw [dg_m_next hil]
theorem dg_H_in {l : Nat} {S S' : dg_Sh} {ix : Nat → Nat} {vb : Nat → Int} (h : dg_H l S ix vb) (hi : ix l < dg_m S l) (hO : dg_Ok (l + 1) S') (hm : ∀ i, i ≤ l → dg_m S' i = dg_m S i) (h0 : ¬ S'.2.2.2.1 (l + 1) = 0) : dg_H (l + 1) S' (dg_u ix (l + 1) 0) (dg_uI vb (l + 1) (-20000)) := by
  obtain ⟨g0, g1, g2⟩ := h
  refine ⟨hO, fun i hil => ?_, fun i hil => ?_⟩
  · rw [dg_un (by omega), hm i (by omega)]
    by_cases e : i = l
    · subst e; exact hi
    · exact g1 i (by omega)
  · by_cases e : i = l + 1
    · subst e
      rw [dg_us, dg_uIs]
      have k := dg_L_m (hO.2.2 (l + 1) (Nat.le_refl _))
      refine ⟨?_, Nat.zero_le _, Or.inl ⟨rfl, rfl⟩⟩
      by_cases z : dg_m S' (l + 1) = 0
      · rw [z] at k; exact absurd k.2 h0
      · omega
    · rw [dg_un e, dg_uIn e, hm i (by omega)]
      exact g2 i (by omega)
theorem dg_H_out {l : Nat} {S : dg_Sh} {ix : Nat → Nat} {vb : Nat → Int} (h : dg_H (l + 1) S ix vb) (hi : ¬ ix (l + 1) < dg_m S (l + 1)) : (1 ≤ ix (l + 1) ∧ -10000 ≤ vb (l + 1) ∧ vb (l + 1) ≤ 10000) ∧ dg_H l S ix vb := by
  obtain ⟨g0, g1, g2⟩ := h
  have k := g2 (l + 1) (Nat.le_refl _)
  refine ⟨?_, dg_Ok_le g0 (by omega), fun i hil => g1 i (by omega), fun i hil => g2 i (by omega)⟩
  rcases k.2.2 with k2 | k2
  · omega
  · exact k2
end
section
/-! the component's listing of moves -/
theorem wx_4 : (4 : Int32) = nI 4 := rfl
/-- the colour of a piece -/
def dg_col (c : Nat) : Int32 := if c = 0 then -1 else if c ≤ 2 then 0 else 1
def dg_fo (c : Nat) : Int32 := if c ≤ 2 then 1 else 0
theorem dg_foe : ∀ c, c < 5 → ¬ c = 0 → ∀ v, v < 5 → (dg_col v = dg_fo c ↔ (¬ v = 0 ∧ ¬ (v ≤ 2 ↔ c ≤ 2))) := by decide +kernel
theorem dg_own0 : ∀ c, c < 5 → (dg_col c = 0 ↔ (¬ c = 0 ∧ c ≤ 2)) := by decide +kernel
theorem dg_own1 : ∀ c, c < 5 → (dg_col c = 1 ↔ 2 < c) := by decide +kernel
theorem dg_own_col {c : Nat} {sd : Int32} (hc : c ≤ 4) (hs : sd = 0 ∨ sd = 1) : dg_col c = sd ↔ dg_own c sd := by
  rcases hs with rfl | rfl
  · rw [dg_own0 c (by omega)]
    unfold dg_own
    have h : ¬ (0 : Int32) = 1 := by decide
    constructor
    · intro h; exact Or.inl ⟨h.1, h.2, rfl⟩
    · rintro (h1 | h1)
      · exact ⟨h1.1, h1.2.1⟩
      · exact absurd h1.2 h
  · rw [dg_own1 c (by omega)]
    unfold dg_own
    have h : ¬ (1 : Int32) = 0 := by decide
    constructor
    · intro h; exact Or.inr ⟨h, rfl⟩
    · rintro (h1 | h1)
      · exact absurd h1.2.2 h
      · exact h1.1
theorem wx_col {post : Int32 → Prop} {c : Nat} (hc : c ≤ 4) (h : post (dg_col c)) : wpX_colourOf post (nI c) := by
  refine pk_eq c 0 (fun e => ?_) (fun e => pk_lt 2 c (fun l => ?_) (fun l => ?_))
  · subst e; exact h
  · have e1 : dg_col c = 1 := by unfold dg_col; rw [if_neg e, if_neg (by omega)]
    rw [e1] at h; exact h
  · have e1 : dg_col c = 0 := by unfold dg_col; rw [if_neg e, if_pos (by omega)]
    rw [e1] at h; exact h
theorem wx_fst {post : Int32 → Prop} {c : Nat} (hc : c ≤ 4) (h : post (nI (dg_fst c))) : wpX_firstDirection post (nI c) := by
  refine pk_eq c 1 (fun e => ?_) (fun e => ?_)
  · have e1 : dg_fst c = 2 := if_pos e
    rw [e1] at h; exact h
  · have e1 : dg_fst c = 0 := if_neg e
    rw [e1] at h; exact h
theorem wx_end {post : Int32 → Prop} {c : Nat} (hc : c ≤ 4) (h : post (nI (dg_end c))) : wpX_directionEnd post (nI c) := by
  refine pk_eq c 3 (fun e => ?_) (fun e => ?_)
  · have e1 : dg_end c = 2 := if_pos e
    rw [e1] at h; exact h
  · have e1 : dg_end c = 4 := if_neg e
    rw [e1] at h; exact h
theorem wx_cro {post : Int32 → Prop} {c s : Nat} (hc : c ≤ 4) (hs : s < 32) (h : post (nI (dg_cro c s))) : wpX_isCrowningSquare post (nI c) (nI s) := by
  refine pk_eq c 1 (fun e => pk_lt s 28 (fun l => ?_) (fun l => ?_)) (fun e => pk_eq c 3 (fun e3 => pk_le 4 s (fun l => ?_) (fun l => ?_)) (fun e3 => ?_))
  · have e1 : dg_cro c s = 0 := if_neg (by omega)
    rw [e1] at h; exact h
  · have e1 : dg_cro c s = 1 := if_pos (by omega)
    rw [e1] at h; exact h
  · have e1 : dg_cro c s = 0 := if_neg (by omega)
    rw [e1] at h; exact h
  · have e1 : dg_cro c s = 1 := if_pos (by omega)
    rw [e1] at h; exact h
  · have e1 : dg_cro c s = 0 := if_neg (by omega)
    rw [e1] at h; exact h
theorem dg_fo_1 {post : Int32 → Prop} {c : Nat} (h0 : ¬ c = 0) (h1 : dg_col c = 0 → post 1) (h2 : ¬ dg_col c = 0 → post 0) : post (dg_fo c) := by
  unfold dg_fo
  split
  · refine h1 ?_
    unfold dg_col; rw [if_neg h0, if_pos ‹_›]
  · refine h2 ?_
    unfold dg_col; rw [if_neg h0, if_neg ‹_›]; decide
/-- has the walk jumped over n? -/
theorem wx_isJ_l {f_drawLimit f_logTotal f_gameStatus f_searchValue : Int32} {a_neighbours a_board a_sides a_counters a_moveTotals a_moveLengths a_moveSquares a_path a_jumped a_nextDirection a_wentOn a_nextMove a_bestMove a_bestValue a_log : Nat → Int32} {P : Int32 → Prop} {J : Nat → Int32} {n k : Nat} {j : Nat → Nat} (hk : k ≤ 12) (hn : n < 32) (hj : ∀ i, i < k → a_jumped (i + 1) = nI (j i) ∧ j i < 32 ∧ ¬ J (j i) = 0) (hJ : ¬ J n = 0 → ∃ i, i < k ∧ j i = n)
    (h0 : J n = 0 → P 0) (h1 : ¬ J n = 0 → P 1) : ∀ m i f, i + m = k → m < f → (∀ e, e < i → j e ≠ n) → wX_isJumped_2 P (nI n) (nI k) f_drawLimit f_logTotal f_gameStatus f_searchValue a_neighbours a_board a_sides a_counters a_moveTotals a_moveLengths a_moveSquares a_path a_jumped a_nextDirection a_wentOn a_nextMove a_bestMove a_bestValue a_log f (nI (i + 1)) := by
  intro m
  induction m with
  | zero =>
    intro i f hi hf hno
    obtain ⟨f, rfl⟩ : ∃ g, f = g + 1 := ⟨f - 1, by omega⟩
    refine br_t (nI_lt (by omega) (by omega)) (h0 ?_)
    apply Classical.byContradiction
    intro z
    obtain ⟨e, he, e2⟩ := hJ z
    exact hno e (by omega) e2
  | succ m ih =>
    intro i f hi hf hno
    obtain ⟨f, rfl⟩ : ∃ g, f = g + 1 := ⟨f - 1, by omega⟩
    have hcl : (nI (i + 1)).toNatClampNeg = i + 1 := nI_clamp (by omega)
    obtain ⟨a1, a2, a3⟩ := hj i (by omega)
    refine br_f (nI_nlt (by omega) (by omega)) ⟨vp_in_nI (by omega) (by omega), ?_⟩
    rw [hcl, a1]
    refine pk_eq (j i) n (fun e => h1 (e ▸ a3)) (fun e => nm_r (nI_1 (i + 1)) (ih (i + 1) f (by omega) (by omega) fun e' he' => ?_))
    by_cases z : e' = i
    · subst z; exact e
    · exact hno e' (by omega)
theorem wx_isJ {f_drawLimit f_logTotal f_gameStatus f_searchValue : Int32} {a_neighbours a_board a_sides a_counters a_moveTotals a_moveLengths a_moveSquares a_path a_jumped a_nextDirection a_wentOn a_nextMove a_bestMove a_bestValue a_log : Nat → Int32} {P : Int32 → Prop} {J : Nat → Int32} {n k : Nat} {j : Nat → Nat} (hk : k ≤ 12) (hn : n < 32) (hj : ∀ i, i < k → a_jumped (i + 1) = nI (j i) ∧ j i < 32 ∧ ¬ J (j i) = 0) (hJ : ¬ J n = 0 → ∃ i, i < k ∧ j i = n)
    (h0 : J n = 0 → P 0) (h1 : ¬ J n = 0 → P 1) : wpX_isJumped P (f_drawLimit, f_logTotal, f_gameStatus, f_searchValue, a_neighbours, a_board, a_sides, a_counters, a_moveTotals, a_moveLengths, a_moveSquares, a_path, a_jumped, a_nextDirection, a_wentOn, a_nextMove, a_bestMove, a_bestValue, a_log) (nI n) (nI k) :=
  ⟨k + 1, wx_isJ_l hk hn hj hJ h0 h1 k 0 (k + 1) (by omega) (by omega) (fun e he => absurd he (Nat.not_lt_zero e))⟩
/-- the search for a jump -/
theorem wx_fj_l {f_drawLimit f_logTotal f_gameStatus f_searchValue : Int32} {a_neighbours a_board a_sides a_counters a_moveTotals a_moveLengths a_moveSquares a_path a_jumped a_nextDirection a_wentOn a_nextMove a_bestMove a_bestValue a_log : Nat → Int32} {post : Int32 → Prop} {lv c k s0 q : Nat} {J : Nat → Int32} (hN : dg_N a_neighbours) (hB : dg_B a_board) (hlv : lv < 4) (hc : c ≤ 4) (hc0 : ¬ c = 0) (hk : k < 13) (hq : q < 32) (hpk : a_path k = nI q) (hp0 : a_path 0 = nI s0) (hs0 : s0 < 32)
    (hJ : ∀ n, n < 32 → ∀ P : Int32 → Prop, (J n = 0 → P 0) → (¬ J n = 0 → P 1) → wpX_isJumped P (f_drawLimit, f_logTotal, f_gameStatus, f_searchValue, a_neighbours, a_board, a_sides, a_counters, a_moveTotals, a_moveLengths, a_moveSquares, a_path, a_jumped, a_nextDirection, a_wentOn, a_nextMove, a_bestMove, a_bestValue, a_log) (nI n) (nI k)) :
    ∀ m d n, d + m = 4 → dg_fst c ≤ d → m < n → post (dg_r (dg_sc (dg_P (dg_bl a_board lv) J c s0 q) m d)) → wX_findJump_34 post (nI k) (nI (lv * 32)) (dg_fo c) (nI (dg_end c)) f_drawLimit f_logTotal f_gameStatus f_searchValue a_neighbours a_board a_sides a_counters a_moveTotals a_moveLengths a_moveSquares a_path a_jumped a_nextDirection a_wentOn a_nextMove a_bestMove a_bestValue a_log n (nI d) := by
  have he : dg_end c ≤ 4 := by unfold dg_end; split <;> omega
  intro m
  induction m with
  | zero =>
    intro d n hd hf hn hp
    obtain ⟨n, rfl⟩ : ∃ g, n = g + 1 := ⟨n - 1, by omega⟩
    obtain rfl : d = 4 := by omega
    exact br_t (nI_le he (by omega)) hp
  | succ m ih =>
    intro d n hd hf hn hp
    obtain ⟨n, rfl⟩ : ∃ g, n = g + 1 := ⟨n - 1, by omega⟩
    by_cases hde : dg_end c ≤ d
    · have hno : ∀ e, d ≤ e → e < d + (m + 1) → ¬ dg_P (dg_bl a_board lv) J c s0 q e := by
        intro e h1 h2 hP
        have ho := hP.1.2
        unfold dg_end at hde
        split at hde
        · have := ho ‹_›; omega
        · omega
      rw [dg_sc_none _ _ _ hno, hd] at hp
      exact br_t (nI_le hde (by omega)) hp
    · have hok : dg_ok c d := by
        refine ⟨fun e => ?_, fun e => ?_⟩
        · have : dg_fst c = 2 := if_pos e
          omega
        · have : dg_end c = 2 := if_pos e
          omega
      have nxt : ¬ dg_P (dg_bl a_board lv) J c s0 q d → ∀ y, y = nI d + 1 → wX_findJump_34 post (nI k) (nI (lv * 32)) (dg_fo c) (nI (dg_end c)) f_drawLimit f_logTotal f_gameStatus f_searchValue a_neighbours a_board a_sides a_counters a_moveTotals a_moveLengths a_moveSquares a_path a_jumped a_nextDirection a_wentOn a_nextMove a_bestMove a_bestValue a_log n y := by
        intro hP
        rw [dg_sc_n hP] at hp
        exact nm_r (nI_1 d) (ih (d + 1) n (by omega) (by omega) (by omega) hp)
      have hit : dg_P (dg_bl a_board lv) J c s0 q d → post (nI d) := by
        intro hP
        rw [dg_sc_y hP, dg_r_lt (by omega)] at hp
        exact hp
      have ec : (nI k).toNatClampNeg = k := nI_clamp (by omega)
      have e1 : a_path (nI k).toNatClampNeg * 4 + nI d = nI (q * 4 + d) := by
        rw [ec, hpk, wx_4, pk_mul, nI_add]
      refine br_f (nI_ge (by omega) (by omega)) ⟨vp_in_nI hk (by omega), ?_⟩
      rw [e1]
      refine ⟨vp_in_nI (by omega) (by omega), ?_⟩
      rw [nI_clamp (by omega), hN q hq d (by omega)]
      by_cases hT : dg_T q d < 32
      · rw [dg_enc_lt hT]
        refine nm_e (br_f (dg_enc_n _ hT).1 ?_)
        have e2 : nI (lv * 32) + nI (dg_T q d) = nI (lv * 32 + dg_T q d) := nI_add _ _
        rw [e2]
        refine ⟨vp_in_nI (by omega) (by omega), ?_⟩
        have hv := dg_B_b hB (i := lv * 32 + dg_T q d) (by omega)
        rw [nI_clamp (by omega), hv.1]
        refine wx_col hv.2 ?_
        by_cases hfo : dg_col (dg_b a_board (lv * 32 + dg_T q d)) = dg_fo c
        · have hfoe := (dg_foe c (by omega) hc0 _ (by omega)).mp hfo
          refine br_t hfo ?_
          have e3 : nI (dg_T q d) * 4 + nI d = nI (dg_T q d * 4 + d) := by rw [wx_4, pk_mul, nI_add]
          rw [e3]
          refine ⟨vp_in_nI (by omega) (by omega), ?_⟩
          rw [nI_clamp (by omega), hN _ hT d (by omega)]
          by_cases hL : dg_T (dg_T q d) d < 32
          · rw [dg_enc_lt hL]
            refine nm_e (br_f (dg_enc_n _ hL).1 ?_)
            have e4 : nI (lv * 32) + nI (dg_T (dg_T q d) d) = nI (lv * 32 + dg_T (dg_T q d) d) := nI_add _ _
            rw [e4]
            refine ⟨vp_in_nI (by omega) (by omega), ?_⟩
            have hw := dg_B_b hB (i := lv * 32 + dg_T (dg_T q d) d) (by omega)
            rw [nI_clamp (by omega), hw.1, hp0]
            have go : (dg_bl a_board lv (dg_T (dg_T q d) d) = 0 ∨ dg_T (dg_T q d) d = s0) → wX_findJump_130 post (wX_findJump_34 post (nI k) (nI (lv * 32)) (dg_fo c) (nI (dg_end c)) f_drawLimit f_logTotal f_gameStatus f_searchValue a_neighbours a_board a_sides a_counters a_moveTotals a_moveLengths a_moveSquares a_path a_jumped a_nextDirection a_wentOn a_nextMove a_bestMove a_bestValue a_log n) (nI k) (nI (lv * 32)) (dg_fo c) (nI (dg_end c)) (nI d) (nI (dg_T q d)) f_drawLimit f_logTotal f_gameStatus f_searchValue a_neighbours a_board a_sides a_counters a_moveTotals a_moveLengths a_moveSquares a_path a_jumped a_nextDirection a_wentOn a_nextMove a_bestMove a_bestValue a_log := by
              intro hfree
              refine br_f (by decide) (hJ _ hT _ (fun j0 => br_t rfl (hit ⟨hok, hT, hL, j0, hfoe, hfree⟩)) (fun j1 => br_f (by decide) (nxt fun hP => j1 hP.2.2.2.1)))
            refine pk_eq (dg_b a_board (lv * 32 + dg_T (dg_T q d) d)) 0 (fun z => go (Or.inl z)) (fun z => pk_eq (dg_T (dg_T q d) d) s0 (fun z2 => go (Or.inr z2)) (fun z2 => br_t rfl (nxt fun hP => ?_)))
            rcases hP.2.2.2.2.2 with h | h
            · exact z h
            · exact z2 h
          · rw [dg_enc_ge hL]
            exact nm_e (br_t rfl (br_t rfl (nxt fun hP => hL hP.2.2.1)))
        · exact br_f hfo (nxt fun hP => hfo ((dg_foe c (by omega) hc0 _ (by omega)).mpr hP.2.2.2.2.1))
      · rw [dg_enc_ge hT]
        exact nm_e (br_t rfl (nxt fun hP => hT hP.2.1))
theorem wx_fj {f_drawLimit f_logTotal f_gameStatus f_searchValue : Int32} {a_neighbours a_board a_sides a_counters a_moveTotals a_moveLengths a_moveSquares a_path a_jumped a_nextDirection a_wentOn a_nextMove a_bestMove a_bestValue a_log : Nat → Int32} {post : Int32 → Prop} {lv c k s0 q x : Nat} {J : Nat → Int32} (hN : dg_N a_neighbours) (hB : dg_B a_board) (hlv : lv < 4) (hc : c ≤ 4) (hc0 : ¬ c = 0) (hk : k < 13) (hq : q < 32) (hpk : a_path k = nI q) (hp0 : a_path 0 = nI s0) (hs0 : s0 < 32)
    (hJ : ∀ n, n < 32 → ∀ P : Int32 → Prop, (J n = 0 → P 0) → (¬ J n = 0 → P 1) → wpX_isJumped P (f_drawLimit, f_logTotal, f_gameStatus, f_searchValue, a_neighbours, a_board, a_sides, a_counters, a_moveTotals, a_moveLengths, a_moveSquares, a_path, a_jumped, a_nextDirection, a_wentOn, a_nextMove, a_bestMove, a_bestValue, a_log) (nI n) (nI k)) (hx : a_nextDirection k = nI x) (hx1 : dg_fst c ≤ x) (hx4 : x ≤ 4)
    (hp : post (dg_r (dg_D (dg_bl a_board lv) c s0 J q x))) : wpX_findJump post (f_drawLimit, f_logTotal, f_gameStatus, f_searchValue, a_neighbours, a_board, a_sides, a_counters, a_moveTotals, a_moveLengths, a_moveSquares, a_path, a_jumped, a_nextDirection, a_wentOn, a_nextMove, a_bestMove, a_bestValue, a_log) (nI lv) (nI c) (nI k) := by
  have go : ∀ z, z = dg_fo c → wX_findJump_18 post (nI c) (nI k) (nI (lv * 32)) z f_drawLimit f_logTotal f_gameStatus f_searchValue a_neighbours a_board a_sides a_counters a_moveTotals a_moveLengths a_moveSquares a_path a_jumped a_nextDirection a_wentOn a_nextMove a_bestMove a_bestValue a_log := by
    intro z hz
    subst hz
    refine wx_end hc ⟨vp_in_nI hk (by omega), nm_r (e' := nI x) (by rw [nI_clamp (by omega), hx]) ⟨5, ?_⟩⟩
    exact wx_fj_l hN hB hlv hc hc0 hk hq hpk hp0 hs0 hJ (4 - x) x 5 (by omega) hx1 (by omega) hp
  refine nm_r (e' := nI (lv * 32)) (pk_mul lv 32) (wx_col hc ?_)
  refine br_c (fun h => go 1 ?_) (fun h => go 0 ?_)
  · unfold dg_fo
    unfold dg_col at h
    rw [if_neg hc0] at h
    split at h
    · rw [if_pos ‹_›]
    · exact absurd h (by decide)
  · unfold dg_fo
    unfold dg_col at h
    rw [if_neg hc0] at h
    split at h
    · exact absurd rfl h
    · rw [if_neg ‹_›]
/-- a path is kept -/
theorem wx_keep_l {f_drawLimit f_logTotal f_gameStatus f_searchValue : Int32} {a_neighbours a_board a_sides a_counters a_moveTotals a_moveLengths a_moveSquares a_path a_jumped a_nextDirection a_wentOn a_nextMove a_bestMove a_bestValue a_log : Nat → Int32} {post : SX → Prop} {lv L s M : Nat} {q : Nat → Nat} (hlv : lv < 4) (hs : s < 192) (hL : L ≤ 13) (hp : ∀ i, i < L → a_path i = nI (q i)) (hM : a_moveTotals lv = nI M)
    (h : post (f_drawLimit, f_logTotal, f_gameStatus, f_searchValue, a_neighbours, a_board, a_sides, a_counters, upd a_moveTotals lv (nI (M + 1)), a_moveLengths, dg_wr a_moveSquares (s * 13) q L, a_path, a_jumped, a_nextDirection, a_wentOn, a_nextMove, a_bestMove, a_bestValue, a_log)) :
    ∀ m i n, i + m = L → m < n → wX_keepPath_34 post (nI lv) (nI L) (nI s) f_drawLimit f_logTotal f_gameStatus f_searchValue n (nI i) a_neighbours a_board a_sides a_counters a_moveTotals a_moveLengths (dg_wr a_moveSquares (s * 13) q i) a_path a_jumped a_nextDirection a_wentOn a_nextMove a_bestMove a_bestValue a_log := by
  intro m
  induction m with
  | zero =>
    intro i n hi hn
    obtain ⟨n, rfl⟩ : ∃ g, n = g + 1 := ⟨n - 1, by omega⟩
    obtain rfl : i = L := by omega
    refine br_t (nI_le (Nat.le_refl i) (by omega)) ⟨vp_in_nI hlv (by omega), vp_in_nI hlv (by omega), nm_r ?_ h⟩
    rw [nI_clamp (by omega), hM, nI_1]
  | succ m ih =>
    intro i n hi hn
    obtain ⟨n, rfl⟩ : ∃ g, n = g + 1 := ⟨n - 1, by omega⟩
    have e1 : nI s * 13 + nI i = nI (s * 13 + i) := by rw [show (13 : Int32) = nI 13 from rfl, pk_mul, nI_add]
    refine br_f (nI_ge (by omega) (by omega)) ⟨vp_in_nI (by omega) (by omega), ?_⟩
    rw [e1]
    refine ⟨vp_in_nI (by omega) (by omega), nm_r (e' := dg_wr a_moveSquares (s * 13) q (i + 1)) ?_ (nm_r (nI_1 i) (ih (i + 1) n (by omega) (by omega)))⟩
    rw [nI_clamp (by omega), nI_clamp (by omega), hp i (by omega)]
    rfl
theorem wx_keep {f_drawLimit f_logTotal f_gameStatus f_searchValue : Int32} {a_neighbours a_board a_sides a_counters a_path a_jumped a_nextDirection a_wentOn a_nextMove a_bestMove a_bestValue a_log : Nat → Int32} {post : SX → Prop} {lv L : Nat} {q : Nat → Nat} {T : (Nat → Int32) × (Nat → Int32) × (Nat → Int32)} (hlv : lv < 4) (hQ : dg_Q T lv) (hL : L ≤ 13) (hp : ∀ i, i < L → a_path i = nI (q i))
    (h : post (f_drawLimit, f_logTotal, f_gameStatus, f_searchValue, a_neighbours, a_board, a_sides, a_counters, (dg_rec lv T (L, q)).1, (dg_rec lv T (L, q)).2.1, (dg_rec lv T (L, q)).2.2, a_path, a_jumped, a_nextDirection, a_wentOn, a_nextMove, a_bestMove, a_bestValue, a_log)) : wpX_keepPath post (f_drawLimit, f_logTotal, f_gameStatus, f_searchValue, a_neighbours, a_board, a_sides, a_counters, T.1, T.2.1, T.2.2, a_path, a_jumped, a_nextDirection, a_wentOn, a_nextMove, a_bestMove, a_bestValue, a_log) (nI lv) (nI L) := by
  obtain ⟨M, hM, eM⟩ := hQ
  have ec : (nI lv).toNatClampNeg = lv := nI_clamp (by omega)
  refine ⟨vp_in_nI hlv (by omega), ?_⟩
  rw [ec, eM]
  refine pk_lt M 48 (fun hlt => ⟨vp_in_nI hlv (by omega), ?_⟩) (fun hge => ?_)
  · rw [dg_rec_lt eM hlt] at h
    refine nm_r (e' := nI (lv * 48 + M)) (by rw [show (48 : Int32) = nI 48 from rfl, pk_mul, nI_add]) ⟨vp_in_nI (by omega) (by omega), nm_r (e' := upd T.2.1 (lv * 48 + M) (nI L)) (by rw [nI_clamp (by omega)]) ⟨L + 1, ?_⟩⟩
    exact wx_keep_l hlv (by omega) hL hp eM h L 0 (L + 1) (by omega) (by omega)
  · rw [dg_rec_ge eM hge hM] at h
    exact h
/-- a jump is made -/
theorem wx_jump {f_drawLimit f_logTotal f_gameStatus f_searchValue : Int32} {a_neighbours a_board a_sides a_counters a_moveTotals a_moveLengths a_moveSquares a_path a_jumped a_nextDirection a_wentOn a_nextMove a_bestMove a_bestValue a_log : Nat → Int32} {post : SX → Prop} {c k D q : Nat} (hN : dg_N a_neighbours) (hc : c ≤ 4) (hk : k < 12) (hD : D < 4) (hq : q < 32) (hpk : a_path k = nI q) (hT : dg_T q D < 32) (hL : dg_T (dg_T q D) D < 32)
    (h : post (f_drawLimit, f_logTotal, f_gameStatus, f_searchValue, a_neighbours, a_board, a_sides, a_counters, a_moveTotals, a_moveLengths, a_moveSquares, upd a_path (k + 1) (nI (dg_T (dg_T q D) D)), upd a_jumped (k + 1) (nI (dg_T q D)), upd (upd a_nextDirection k (nI (D + 1))) (k + 1) (nI (dg_x0 c (dg_T (dg_T q D) D))), upd (upd a_wentOn k 1) (k + 1) 0, a_nextMove, a_bestMove, a_bestValue, a_log)) : wpX_jump post (f_drawLimit, f_logTotal, f_gameStatus, f_searchValue, a_neighbours, a_board, a_sides, a_counters, a_moveTotals, a_moveLengths, a_moveSquares, a_path, a_jumped, a_nextDirection, a_wentOn, a_nextMove, a_bestMove, a_bestValue, a_log) (nI c) (nI k) (nI D) := by
  have ec : (nI k).toNatClampNeg = k := nI_clamp (by omega)
  have ec1 : (nI k + 1).toNatClampNeg = k + 1 := by rw [nI_1]; exact nI_clamp (by omega)
  have hin : vp_in (nI k) 13 := vp_in_nI (by omega) (by omega)
  have hin1 : vp_in (nI k + 1) 13 := by rw [nI_1]; exact vp_in_nI (by omega) (by omega)
  have b1 : vp_nar .boolean 1 = 1 := by decide
  have b0 : vp_nar .boolean 0 = 0 := by decide
  have e1 : a_path (nI k).toNatClampNeg * 4 + nI D = nI (q * 4 + D) := by rw [ec, hpk, wx_4, pk_mul, nI_add]
  have e2 : nI (dg_T q D) * 4 + nI D = nI (dg_T q D * 4 + D) := by rw [wx_4, pk_mul, nI_add]
  refine ⟨hin, ?_⟩
  rw [e1]
  refine ⟨vp_in_nI (by omega) (by omega), nm_r (e' := nI (dg_T q D)) (by rw [nI_clamp (by omega), hN q hq D hD, dg_enc_lt hT]) ?_⟩
  rw [e2]
  refine ⟨vp_in_nI (by omega) (by omega), nm_r (e' := nI (dg_T (dg_T q D) D)) (by rw [nI_clamp (by omega), hN _ hT D hD, dg_enc_lt hL]) ?_⟩
  refine ⟨hin, nm_r (e' := upd a_nextDirection k (nI (D + 1))) (by rw [ec, nI_1]) ⟨hin, nm_r (e' := upd a_wentOn k 1) (by rw [ec, b1]) ⟨hin1, nm_r (e' := upd a_jumped (k + 1) (nI (dg_T q D))) (by rw [ec1]) ⟨hin1, nm_r (e' := upd a_path (k + 1) (nI (dg_T (dg_T q D) D))) (by rw [ec1]) ⟨hin1, nm_r (e' := upd (upd a_wentOn k 1) (k + 1) 0) (by rw [ec1, b0]) ?_⟩⟩⟩⟩⟩
  refine wx_cro hc hL ?_
  refine pk_eq (dg_cro c (dg_T (dg_T q D) D)) 0 (fun z => ?_) (fun z => ⟨hin1, nm_r ?_ h⟩) (ha := by unfold dg_cro; split <;> omega)
  · refine wx_fst hc ⟨hin1, nm_r ?_ h⟩
    have e : dg_x0 c (dg_T (dg_T q D) D) = dg_fst c := by
      unfold dg_cro at z
      unfold dg_x0
      split at z
      · exact absurd z (by omega)
      · rw [if_neg ‹_›]
    rw [ec1, e]
  · have e : dg_x0 c (dg_T (dg_T q D) D) = 4 := by
      unfold dg_cro at z
      unfold dg_x0
      split at z
      · rw [if_pos ‹_›]
      · exact absurd rfl z
    rw [ec1, e]
    rfl
end
section
def dg_la : Nat → Int32
  | 0 => -1
  | k + 1 => nI k
theorem dg_la_m (k : Nat) : nI k + (-1) = dg_la k := by
  cases k with
  | zero => rfl
  | succ k => exact pk_m1 k
/-- the component's walk of the captures is the pure machine -/
theorem wx_walk {f_drawLimit f_logTotal f_gameStatus f_searchValue : Int32} {a_neighbours a_board a_sides a_counters a_nextMove a_bestMove a_bestValue a_log : Nat → Int32} {post : SX → Prop} {lv c s0 : Nat} (hN : dg_N a_neighbours) (hB : dg_B a_board) (hlv : lv < 4) (hc : c ≤ 4) (hc0 : ¬ c = 0) (hs0 : s0 < 32) :
    ∀ (n k1 : Nat) (q j x y : Nat → Nat) (w J : Nat → Int32) (T : (Nat → Int32) × (Nat → Int32) × (Nat → Int32)) (p jx nd wo : Nat → Int32) (step m : Nat), dg_K c s0 k1 q j x y w J → (∀ k, k1 = k + 1 → dg_AX k q j x w p jx nd wo) → dg_Q T lv →
      dg_ps x k1 ≤ n → step + dg_ps x k1 ≤ 1000000 → dg_ps x k1 < m →
      (∀ p' jx' nd' wo', post (f_drawLimit, f_logTotal, f_gameStatus, f_searchValue, a_neighbours, a_board, a_sides, a_counters, ((dg_run (dg_bl a_board lv) c s0 n k1 q j x w J).foldl (dg_rec lv) T).1, ((dg_run (dg_bl a_board lv) c s0 n k1 q j x w J).foldl (dg_rec lv) T).2.1, ((dg_run (dg_bl a_board lv) c s0 n k1 q j x w J).foldl (dg_rec lv) T).2.2, p', jx', nd', wo', a_nextMove, a_bestMove, a_bestValue, a_log)) →
      wX_listCapturesFrom_42 post (nI lv) (nI c) m (dg_la k1) (nI step) f_drawLimit f_logTotal f_gameStatus f_searchValue a_neighbours a_board a_sides a_counters T.1 T.2.1 T.2.2 p jx nd wo a_nextMove a_bestMove a_bestValue a_log := by
  have hend : ∀ (n : Nat) (q j x : Nat → Nat) (w J : Nat → Int32) (T : (Nat → Int32) × (Nat → Int32) × (Nat → Int32)) (p jx nd wo : Nat → Int32) (step m : Nat), 0 < m →
      (∀ p' jx' nd' wo', post (f_drawLimit, f_logTotal, f_gameStatus, f_searchValue, a_neighbours, a_board, a_sides, a_counters, ((dg_run (dg_bl a_board lv) c s0 n 0 q j x w J).foldl (dg_rec lv) T).1, ((dg_run (dg_bl a_board lv) c s0 n 0 q j x w J).foldl (dg_rec lv) T).2.1, ((dg_run (dg_bl a_board lv) c s0 n 0 q j x w J).foldl (dg_rec lv) T).2.2, p', jx', nd', wo', a_nextMove, a_bestMove, a_bestValue, a_log)) →
      wX_listCapturesFrom_42 post (nI lv) (nI c) m (dg_la 0) (nI step) f_drawLimit f_logTotal f_gameStatus f_searchValue a_neighbours a_board a_sides a_counters T.1 T.2.1 T.2.2 p jx nd wo a_nextMove a_bestMove a_bestValue a_log := by
    intro n q j x w J T p jx nd wo step m hm hp
    obtain ⟨m, rfl⟩ : ∃ g, m = g + 1 := ⟨m - 1, by omega⟩
    rw [dg_run_0] at hp
    exact br_c (fun _ => hp p jx nd wo) (fun _ => br_t (show (-1 : Int32) < 0 by decide) (hp p jx nd wo))
  intro n
  induction n with
  | zero =>
    intro k1 q j x y w J T p jx nd wo step m hK hA hQ hn hstep hm hp
    cases k1 with
    | zero => exact hend 0 q j x w J T p jx nd wo step m (by omega) hp
    | succ k => have := dg_ps_pos x k; omega
  | succ n ih =>
    intro k1 q j x y w J T p jx nd wo step m hK hA hQ hn hstep hm hp
    cases k1 with
    | zero => exact hend (n + 1) q j x w J T p jx nd wo step m (by omega) hp
    | succ k =>
      have hpos := dg_ps_pos x k
      obtain ⟨m, rfl⟩ : ∃ g, m = g + 1 := ⟨m - 1, by omega⟩
      obtain ⟨hI, hw⟩ := hK k rfl
      have hAk := hA k rfl
      have hk9 := dg_I_k hI
      obtain ⟨hq, hpar, hdr⟩ := hI.2.1 k (Nat.le_refl k)
      have hq0 := hI.1
      have hA0 := (hAk.1 0 (Nat.zero_le k)).1
      rw [hq0] at hA0
      have hAkk := hAk.1 k (Nat.le_refl k)
      rw [show dg_la (k + 1) = nI k from rfl]
      refine br_f (nI_ge (b := 1000000) (by omega) (by decide)) (br_f (nI_pos (by omega)) ?_)
      refine wx_fj (J := J) (s0 := s0) (q := q k) (x := x k) hN hB hlv hc hc0 (by omega) hq hAkk.1 hA0 hs0 ?_ hAkk.2.1 hdr.1 hdr.2.1 ?_
      · intro n' hn' P h0 h1
        refine wx_isJ (j := j) (J := J) (by omega) hn' (fun i hi => ⟨hAk.2 i hi, dg_C_lt _ _ (hI.2.2.1 i hi).1, (hI.2.2.1 i hi).2.2.1⟩) (fun z => hI.2.2.2.1 n' hn' z) h0 h1
      · by_cases hD : dg_D (dg_bl a_board lv) c s0 J (q k) (x k) < 4
        · generalize eD : dg_D (dg_bl a_board lv) c s0 J (q k) (x k) = D at hD
          rw [dg_r_lt hD]
          obtain ⟨hP, hxD, hk8, hK'⟩ := dg_K_push hK eD hD
          refine br_f (dg_enc_n D (by omega)).1 (wx_jump hN hc (by omega) hD hq hAkk.1 hP.2.1 hP.2.2.1 ?_)
          refine nm_r (nI_1 k) (nm_r (nI_1 step) ?_)
          have hps := dg_ps_push (x := x) (k := k) (D := D) (x' := dg_x0 c (dg_T (dg_T (q k) D) D)) hk8 hxD hD
          rw [dg_run_push eD hD] at hp
          refine ih (k + 2) _ _ _ _ _ _ T _ _ _ _ (step + 1) m hK' (fun k' e => ?_) hQ (by omega) (by omega) (by omega) hp
          obtain rfl : k' = k + 1 := by omega
          exact dg_AX_push hAk
        · rw [dg_r_ge hD]
          rw [dg_run_pop hD, List.foldl_append] at hp
          refine br_t rfl ⟨vp_in_nI (by omega) (by omega), ?_⟩
          rw [nI_clamp (by omega), hAkk.2.2]
          by_cases hwk : w k = 0
          · rw [if_pos hwk] at hp
            refine br_t hwk ?_
            rw [nI_1 k]
            refine wx_keep (q := q) hlv hQ (by omega) (fun i hi => (hAk.1 i (by omega)).1) ?_
            refine nm_r (dg_la_m k) (nm_r (nI_1 step) ?_)
            refine ih k q j x y w _ (dg_rec lv T (k + 1, q)) p jx nd wo (step + 1) m (dg_K_pop hK) (fun k' e => ?_) (dg_rec_Q _ hQ) (by omega) (by omega) (by omega) hp
            subst e
            exact dg_AX_pop hAk
          · rw [if_neg hwk] at hp
            refine br_f hwk (nm_r (dg_la_m k) (nm_r (nI_1 step) ?_))
            refine ih k q j x y w _ T p jx nd wo (step + 1) m (dg_K_pop hK) (fun k' e => ?_) hQ (by omega) (by omega) (by omega) hp
            subst e
            exact dg_AX_pop hAk
theorem wx_caps {f_drawLimit f_logTotal f_gameStatus f_searchValue : Int32} {a_neighbours a_board a_sides a_counters a_path a_jumped a_nextDirection a_wentOn a_nextMove a_bestMove a_bestValue a_log : Nat → Int32} {post : SX → Prop} {lv s : Nat} {T : (Nat → Int32) × (Nat → Int32) × (Nat → Int32)} (hN : dg_N a_neighbours) (hB : dg_B a_board) (hlv : lv < 4) (hs : s < 32) (hc0 : ¬ dg_bl a_board lv s = 0) (hQ : dg_Q T lv)
    (h : ∀ p' jx' nd' wo', post (f_drawLimit, f_logTotal, f_gameStatus, f_searchValue, a_neighbours, a_board, a_sides, a_counters, ((dg_cap 700000 (dg_bl a_board lv) (dg_bl a_board lv s) s).foldl (dg_rec lv) T).1, ((dg_cap 700000 (dg_bl a_board lv) (dg_bl a_board lv s) s).foldl (dg_rec lv) T).2.1, ((dg_cap 700000 (dg_bl a_board lv) (dg_bl a_board lv s) s).foldl (dg_rec lv) T).2.2, p', jx', nd', wo', a_nextMove, a_bestMove, a_bestValue, a_log)) :
    wpX_listCapturesFrom post (f_drawLimit, f_logTotal, f_gameStatus, f_searchValue, a_neighbours, a_board, a_sides, a_counters, T.1, T.2.1, T.2.2, a_path, a_jumped, a_nextDirection, a_wentOn, a_nextMove, a_bestMove, a_bestValue, a_log) (nI lv) (nI s) := by
  have hv := dg_B_b hB (i := lv * 32 + s) (by omega)
  have e1 : nI lv * 32 + nI s = nI (lv * 32 + s) := by rw [show (32 : Int32) = nI 32 from rfl, pk_mul, nI_add]
  have b1 : vp_nar .boolean 1 = 1 := by decide
  refine ⟨by rw [e1]; exact vp_in_nI (by omega) (by omega), nm_r (e' := nI (dg_bl a_board lv s)) (by rw [e1, nI_clamp (by omega)]; exact hv.1) (nm_e (wx_fst hv.2 (nm_e (nm_r (e' := upd a_wentOn 0 1) (by rw [b1]) ⟨700000, ?_⟩))))⟩
  refine wx_walk hN hB hlv hv.2 hc0 hs 700000 1 (fun _ => s) (fun _ => 0) (fun _ => dg_fst (dg_bl a_board lv s)) (fun _ => 0) (fun _ => 1) (fun _ => 0) T _ _ _ _ 0 700000 (dg_K_0 hs) (fun k e => ?_) hQ ?_ ?_ ?_ h
  · obtain rfl : k = 0 := by omega
    refine ⟨fun i hi => ?_, fun i hi => absurd hi (Nat.not_lt_zero i)⟩
    obtain rfl : i = 0 := by omega
    exact ⟨pk_us, pk_us, pk_us⟩
  · have := dg_ps_0 (fun _ => dg_fst (dg_bl a_board lv s)); omega
  · have := dg_ps_0 (fun _ => dg_fst (dg_bl a_board lv s)); omega
  · have := dg_ps_0 (fun _ => dg_fst (dg_bl a_board lv s)); omega
/-- the steps of one piece -/
theorem wx_sim_l {f_drawLimit f_logTotal f_gameStatus f_searchValue : Int32} {a_neighbours a_board a_sides a_counters a_jumped a_nextDirection a_wentOn a_nextMove a_bestMove a_bestValue a_log : Nat → Int32} {post : SX → Prop} {lv c s : Nat} (hN : dg_N a_neighbours) (hB : dg_B a_board) (hlv : lv < 4) (hs : s < 32) :
    ∀ (m d n : Nat) (T : (Nat → Int32) × (Nat → Int32) × (Nat → Int32)) (p : Nat → Int32), d + m = 4 → dg_fst c ≤ d → m < n → p 0 = nI s → dg_Q T lv →
      (∀ p', post (f_drawLimit, f_logTotal, f_gameStatus, f_searchValue, a_neighbours, a_board, a_sides, a_counters, ((dg_sm (dg_bl a_board lv) c s m d).foldl (dg_rec lv) T).1, ((dg_sm (dg_bl a_board lv) c s m d).foldl (dg_rec lv) T).2.1, ((dg_sm (dg_bl a_board lv) c s m d).foldl (dg_rec lv) T).2.2, p', a_jumped, a_nextDirection, a_wentOn, a_nextMove, a_bestMove, a_bestValue, a_log)) →
      wX_listSimpleMovesFrom_31 post (nI lv) (nI s) (nI (dg_end c)) n (nI d) f_drawLimit f_logTotal f_gameStatus f_searchValue a_neighbours a_board a_sides a_counters T.1 T.2.1 T.2.2 p a_jumped a_nextDirection a_wentOn a_nextMove a_bestMove a_bestValue a_log := by
  have he : dg_end c ≤ 4 := by unfold dg_end; split <;> omega
  intro m
  induction m with
  | zero =>
    intro d n T p hd hf hn h0 hQ h
    obtain ⟨n, rfl⟩ : ∃ g, n = g + 1 := ⟨n - 1, by omega⟩
    obtain rfl : d = 4 := by omega
    exact br_t (nI_le he (by omega)) (h p)
  | succ m ih =>
    intro d n T p hd hf hn h0 hQ h
    obtain ⟨n, rfl⟩ : ∃ g, n = g + 1 := ⟨n - 1, by omega⟩
    by_cases hde : dg_end c ≤ d
    · have hno : ∀ e, d ≤ e → e < d + (m + 1) → ¬ dg_R (dg_bl a_board lv) c s e := by
        intro e h1 h2 hP
        have ho := hP.1.2
        unfold dg_end at hde
        split at hde
        · have := ho ‹_›; omega
        · omega
      rw [dg_sm_none _ _ hno] at h
      exact br_t (nI_le hde (by omega)) (h p)
    · have hok : dg_ok c d := by
        refine ⟨fun e => ?_, fun e => ?_⟩
        · have : dg_fst c = 2 := if_pos e
          omega
        · have : dg_end c = 2 := if_pos e
          omega
      have nxt : ¬ dg_R (dg_bl a_board lv) c s d → ∀ y, y = nI d + 1 → wX_listSimpleMovesFrom_31 post (nI lv) (nI s) (nI (dg_end c)) n y f_drawLimit f_logTotal f_gameStatus f_searchValue a_neighbours a_board a_sides a_counters T.1 T.2.1 T.2.2 p a_jumped a_nextDirection a_wentOn a_nextMove a_bestMove a_bestValue a_log := by
        intro hP
        rw [dg_sm_n hP] at h
        exact nm_r (nI_1 d) (ih (d + 1) n T p (by omega) (by omega) (by omega) h0 hQ h)
      have e1 : nI s * 4 + nI d = nI (s * 4 + d) := by rw [wx_4, pk_mul, nI_add]
      refine br_f (nI_ge (by omega) (by omega)) ?_
      rw [e1]
      refine ⟨vp_in_nI (by omega) (by omega), ?_⟩
      rw [nI_clamp (by omega), hN s hs d (by omega)]
      by_cases hT : dg_T s d < 32
      · rw [dg_enc_lt hT]
        refine nm_e (br_f (dg_enc_n _ hT).1 ?_)
        have e2 : nI lv * 32 + nI (dg_T s d) = nI (lv * 32 + dg_T s d) := by rw [show (32 : Int32) = nI 32 from rfl, pk_mul, nI_add]
        rw [e2]
        refine ⟨vp_in_nI (by omega) (by omega), ?_⟩
        have hv := dg_B_b hB (i := lv * 32 + dg_T s d) (by omega)
        rw [nI_clamp (by omega), hv.1]
        refine pk_eq (dg_b a_board (lv * 32 + dg_T s d)) 0 (fun z => ?_) (fun z => nxt fun hP => z hP.2.2)
        rw [dg_sm_y ⟨hok, hT, z⟩] at h
        refine nm_e ?_
        refine wx_keep (L := 2) (q := dg_two s (dg_T s d)) hlv hQ (by omega) (fun i hi => ?_) ?_
        · have : i = 0 ∨ i = 1 := by omega
          rcases this with rfl | rfl
          · rw [pk_un (by omega)]; exact h0
          · exact pk_us
        · exact nm_r (nI_1 d) (ih (d + 1) n (dg_rec lv T (2, dg_two s (dg_T s d))) _ (by omega) (by omega) (by omega) (by rw [pk_un (by omega)]; exact h0) (dg_rec_Q _ hQ) h)
      · rw [dg_enc_ge hT]
        exact nm_e (br_t rfl (nxt fun hP => hT hP.2.1))
theorem wx_sim {f_drawLimit f_logTotal f_gameStatus f_searchValue : Int32} {a_neighbours a_board a_sides a_counters a_path a_jumped a_nextDirection a_wentOn a_nextMove a_bestMove a_bestValue a_log : Nat → Int32} {post : SX → Prop} {lv s : Nat} {T : (Nat → Int32) × (Nat → Int32) × (Nat → Int32)} (hN : dg_N a_neighbours) (hB : dg_B a_board) (hlv : lv < 4) (hs : s < 32) (hQ : dg_Q T lv)
    (h : ∀ p', post (f_drawLimit, f_logTotal, f_gameStatus, f_searchValue, a_neighbours, a_board, a_sides, a_counters, ((dg_sm (dg_bl a_board lv) (dg_bl a_board lv s) s 4 0).foldl (dg_rec lv) T).1, ((dg_sm (dg_bl a_board lv) (dg_bl a_board lv s) s 4 0).foldl (dg_rec lv) T).2.1, ((dg_sm (dg_bl a_board lv) (dg_bl a_board lv s) s 4 0).foldl (dg_rec lv) T).2.2, p', a_jumped, a_nextDirection, a_wentOn, a_nextMove, a_bestMove, a_bestValue, a_log)) :
    wpX_listSimpleMovesFrom post (f_drawLimit, f_logTotal, f_gameStatus, f_searchValue, a_neighbours, a_board, a_sides, a_counters, T.1, T.2.1, T.2.2, a_path, a_jumped, a_nextDirection, a_wentOn, a_nextMove, a_bestMove, a_bestValue, a_log) (nI lv) (nI s) := by
  have hv := dg_B_b hB (i := lv * 32 + s) (by omega)
  have e1 : nI lv * 32 + nI s = nI (lv * 32 + s) := by rw [show (32 : Int32) = nI 32 from rfl, pk_mul, nI_add]
  have hf := dg_fst_le (dg_bl a_board lv s)
  have hskip := dg_sm_skip (b := dg_bl a_board lv) (c := dg_bl a_board lv s) (s := s) (dg_fst (dg_bl a_board lv s)) 0 (by omega) (fun e _ he hP => by
    have := dg_fst_ok hP.1
    omega)
  rw [Nat.zero_add] at hskip
  have e40 : dg_sm (dg_bl a_board lv) (dg_bl a_board lv s) s 4 0 = dg_sm (dg_bl a_board lv) (dg_bl a_board lv s) s (4 - 0) 0 := rfl
  rw [e40, hskip] at h
  refine ⟨by rw [e1]; exact vp_in_nI (by omega) (by omega), nm_r (e' := nI (dg_bl a_board lv s)) (by rw [e1, nI_clamp (by omega)]; exact hv.1) (wx_end hv.2 (nm_e (wx_fst hv.2 ⟨5, ?_⟩)))⟩
  exact wx_sim_l hN hB hlv hs _ _ 5 T _ (by omega) (Nat.le_refl _) (by omega) pk_us hQ h
theorem wx_own {a_board a_sides : Nat → Int32} {lv s : Nat} (hB : dg_B a_board) (hS : dg_S a_sides) (hlv : lv < 4) (hs : s < 32) : (dg_col (dg_b a_board (lv * 32 + s)) = a_sides lv ↔ dg_own (dg_bl a_board lv s) (a_sides lv)) ∧ (dg_own (dg_bl a_board lv s) (a_sides lv) → ¬ dg_bl a_board lv s = 0) := by
  have hv := dg_B_b hB (i := lv * 32 + s) (by omega)
  refine ⟨dg_own_col hv.2 (hS lv hlv), fun h => ?_⟩
  rcases h with h | h
  · exact h.1
  · have := h.1; omega
theorem wx_lm2 {f_drawLimit f_logTotal f_gameStatus f_searchValue : Int32} {a_neighbours a_board a_sides a_counters a_jumped a_nextDirection a_wentOn a_nextMove a_bestMove a_bestValue a_log : Nat → Int32} {post : SX → Prop} {lv : Nat} (hN : dg_N a_neighbours) (hB : dg_B a_board) (hS : dg_S a_sides) (hlv : lv < 4) :
    ∀ (m s n : Nat) (T : (Nat → Int32) × (Nat → Int32) × (Nat → Int32)) (p : Nat → Int32), s + m = 32 → m < n → dg_Q T lv →
      (∀ p', post (f_drawLimit, f_logTotal, f_gameStatus, f_searchValue, a_neighbours, a_board, a_sides, a_counters, ((dg_sms (dg_bl a_board lv) (a_sides lv) m s).foldl (dg_rec lv) T).1, ((dg_sms (dg_bl a_board lv) (a_sides lv) m s).foldl (dg_rec lv) T).2.1, ((dg_sms (dg_bl a_board lv) (a_sides lv) m s).foldl (dg_rec lv) T).2.2, p', a_jumped, a_nextDirection, a_wentOn, a_nextMove, a_bestMove, a_bestValue, a_log)) →
      wX_listMoves_62 post (nI lv) n (nI s) f_drawLimit f_logTotal f_gameStatus f_searchValue a_neighbours a_board a_sides a_counters T.1 T.2.1 T.2.2 p a_jumped a_nextDirection a_wentOn a_nextMove a_bestMove a_bestValue a_log := by
  intro m
  induction m with
  | zero =>
    intro s n T p hs hn hQ h
    obtain ⟨n, rfl⟩ : ∃ g, n = g + 1 := ⟨n - 1, by omega⟩
    obtain rfl : s = 32 := by omega
    exact br_t (nI_le (a := 32) (Nat.le_refl 32) (by omega)) (h p)
  | succ m ih =>
    intro s n T p hs hn hQ h
    obtain ⟨n, rfl⟩ : ∃ g, n = g + 1 := ⟨n - 1, by omega⟩
    have hv := dg_B_b hB (i := lv * 32 + s) (by omega)
    have ho := wx_own (a_sides := a_sides) hB hS hlv (s := s) (by omega)
    have e1 : nI lv * 32 + nI s = nI (lv * 32 + s) := by rw [show (32 : Int32) = nI 32 from rfl, pk_mul, nI_add]
    refine br_f (nI_ge (b := 32) (by omega) (by omega)) ?_
    rw [e1, nI_clamp (n := lv * 32 + s) (by omega), hv.1, nI_clamp (n := lv) (by omega)]
    refine ⟨vp_in_nI (by omega) (by omega), wx_col hv.2 ⟨vp_in_nI hlv (by omega), ?_⟩⟩
    by_cases hw : dg_own (dg_bl a_board lv s) (a_sides lv)
    · rw [dg_sms_y hw, List.foldl_append] at h
      refine br_t (ho.1.mpr hw) (wx_sim hN hB hlv (by omega) hQ fun p' => nm_r (nI_1 s) ?_)
      exact ih (s + 1) n _ p' (by omega) (by omega) (dg_fold_Q _ hQ) h
    · rw [dg_sms_n hw] at h
      exact br_f (fun z => hw (ho.1.mp z)) (nm_r (nI_1 s) (ih (s + 1) n T p (by omega) (by omega) hQ h))
theorem wx_lm1 {f_drawLimit f_logTotal f_gameStatus f_searchValue : Int32} {a_neighbours a_board a_sides a_counters a_nextMove a_bestMove a_bestValue a_log : Nat → Int32} {post : SX → Prop} {lv : Nat} (hN : dg_N a_neighbours) (hB : dg_B a_board) (hS : dg_S a_sides) (hlv : lv < 4) :
    ∀ (m s n : Nat) (T : (Nat → Int32) × (Nat → Int32) × (Nat → Int32)) (p jx nd wo : Nat → Int32), s + m = 32 → m < n → dg_Q T lv →
      (∀ (p' jx' nd' wo' : Nat → Int32) (T' : (Nat → Int32) × (Nat → Int32) × (Nat → Int32)), T' = (dg_caps 700000 (dg_bl a_board lv) (a_sides lv) m s).foldl (dg_rec lv) T → ((T'.1 lv ≤ 0 → ∃ n62 : Nat, wX_listMoves_62 post (nI lv) n62 0 f_drawLimit f_logTotal f_gameStatus f_searchValue a_neighbours a_board a_sides a_counters T'.1 T'.2.1 T'.2.2 p' jx' nd' wo' a_nextMove a_bestMove a_bestValue a_log) ∧ (¬ T'.1 lv ≤ 0 → post (f_drawLimit, f_logTotal, f_gameStatus, f_searchValue, a_neighbours, a_board, a_sides, a_counters, T'.1, T'.2.1, T'.2.2, p', jx', nd', wo', a_nextMove, a_bestMove, a_bestValue, a_log)))) →
      wX_listMoves_9 post (nI lv) n (nI s) f_drawLimit f_logTotal f_gameStatus f_searchValue a_neighbours a_board a_sides a_counters T.1 T.2.1 T.2.2 p jx nd wo a_nextMove a_bestMove a_bestValue a_log := by
  intro m
  induction m with
  | zero =>
    intro s n T p jx nd wo hs hn hQ h
    obtain ⟨n, rfl⟩ : ∃ g, n = g + 1 := ⟨n - 1, by omega⟩
    obtain rfl : s = 32 := by omega
    refine br_t (nI_le (a := 32) (Nat.le_refl 32) (by omega)) ⟨vp_in_nI hlv (by omega), ?_⟩
    rw [nI_clamp (n := lv) (by omega)]
    exact h p jx nd wo T rfl
  | succ m ih =>
    intro s n T p jx nd wo hs hn hQ h
    obtain ⟨n, rfl⟩ : ∃ g, n = g + 1 := ⟨n - 1, by omega⟩
    have hv := dg_B_b hB (i := lv * 32 + s) (by omega)
    have ho := wx_own (a_sides := a_sides) hB hS hlv (s := s) (by omega)
    have e1 : nI lv * 32 + nI s = nI (lv * 32 + s) := by rw [show (32 : Int32) = nI 32 from rfl, pk_mul, nI_add]
    refine br_f (nI_ge (b := 32) (by omega) (by omega)) ?_
    rw [e1, nI_clamp (n := lv * 32 + s) (by omega), hv.1, nI_clamp (n := lv) (by omega)]
    refine ⟨vp_in_nI (by omega) (by omega), wx_col hv.2 ⟨vp_in_nI hlv (by omega), ?_⟩⟩
    by_cases hw : dg_own (dg_bl a_board lv s) (a_sides lv)
    · rw [dg_caps_y hw, List.foldl_append] at h
      refine br_t (ho.1.mpr hw) (wx_caps hN hB hlv (by omega) (ho.2 hw) hQ fun p' jx' nd' wo' => nm_r (nI_1 s) ?_)
      exact ih (s + 1) n _ p' jx' nd' wo' (by omega) (by omega) (dg_fold_Q _ hQ) h
    · rw [dg_caps_n hw] at h
      exact br_f (fun z => hw (ho.1.mp z)) (nm_r (nI_1 s) (ih (s + 1) n T p jx nd wo (by omega) (by omega) hQ h))
theorem dg_le0 {M : Nat} (h : M ≤ 48) : nI M ≤ 0 ↔ nI M = 0 := by
  rw [← nI_0, nI_leI (by omega) (by omega), nI_eq (by omega) (by omega)]
  omega
/-- all moves of a level -/
theorem wx_gen {f_drawLimit f_logTotal f_gameStatus f_searchValue : Int32} {a_neighbours a_board a_sides a_counters a_moveTotals a_moveLengths a_moveSquares a_path a_jumped a_nextDirection a_wentOn a_nextMove a_bestMove a_bestValue a_log : Nat → Int32} {post : SX → Prop} {lv : Nat} (hN : dg_N a_neighbours) (hB : dg_B a_board) (hS : dg_S a_sides) (hlv : lv < 4)
    (h : ∀ p' jx' nd' wo', post (f_drawLimit, f_logTotal, f_gameStatus, f_searchValue, a_neighbours, a_board, a_sides, a_counters, (dg_gen lv (dg_bl a_board lv) (a_sides lv) a_moveTotals a_moveLengths a_moveSquares).1, (dg_gen lv (dg_bl a_board lv) (a_sides lv) a_moveTotals a_moveLengths a_moveSquares).2.1, (dg_gen lv (dg_bl a_board lv) (a_sides lv) a_moveTotals a_moveLengths a_moveSquares).2.2, p', jx', nd', wo', a_nextMove, a_bestMove, a_bestValue, a_log)) :
    wpX_listMoves post (f_drawLimit, f_logTotal, f_gameStatus, f_searchValue, a_neighbours, a_board, a_sides, a_counters, a_moveTotals, a_moveLengths, a_moveSquares, a_path, a_jumped, a_nextDirection, a_wentOn, a_nextMove, a_bestMove, a_bestValue, a_log) (nI lv) := by
  have hQ0 : dg_Q (upd a_moveTotals lv 0, a_moveLengths, a_moveSquares) lv := ⟨0, by omega, pk_us⟩
  refine ⟨vp_in_nI hlv (by omega), nm_r (e' := upd a_moveTotals lv 0) (by rw [nI_clamp (by omega)]) ⟨33, ?_⟩⟩
  refine wx_lm1 hN hB hS hlv 32 0 33 (upd a_moveTotals lv 0, a_moveLengths, a_moveSquares) _ _ _ _ (by omega) (by omega) hQ0 ?_
  intro p' jx' nd' wo' T' eT
  have hQ' : dg_Q T' lv := by rw [eT]; exact dg_fold_Q _ hQ0
  obtain ⟨M, hM, eM⟩ := hQ'
  unfold dg_gen at h
  rw [← eT, eM] at h
  rw [eM]
  refine br_c (fun z => ⟨33, ?_⟩) (fun z => ?_)
  · rw [if_pos ((dg_le0 hM).mp z)] at h
    exact wx_lm2 hN hB hS hlv 32 0 33 T' p' (by omega) (by omega) ⟨M, hM, eM⟩ fun p'' => h p'' jx' nd' wo'
  · rw [if_neg (fun e => z ((dg_le0 hM).mpr e))] at h
    exact h p' jx' nd' wo'
end
section
/-! the reference's listing of moves -/
def dg_colE (s : Int32) : Int32 := if s / 4 - s / 4 / 2 * 2 = 0 then 2 * (s - s / 4 * 4) + 1 else 2 * (s - s / 4 * 4)
def dg_f34 (r z c : Int32) : Int32 := if r < 0 then -1 else if 7 < r then -1 else if c + z < 0 then -1 else if c + z ≤ 7 then r * 4 + (c + z) / 2 else -1
def dg_nbE (s d : Int32) : Int32 := dg_f34 (s / 4 + (if 2 ≤ d then 1 else -1)) (if d - d / 2 * 2 = 0 then -1 else 1) (dg_colE s)
theorem dg_nbE_T : ∀ s, s < 32 → ∀ d, d < 4 → dg_nbE (nI s) (nI d) = dg_enc (dg_T s d) := by decide +kernel
theorem yn_h4 : ¬ (4 : Int32) = 0 := by decide
theorem yn_h2 : ¬ (2 : Int32) = 0 := by decide
theorem yn_34 {f_lim f_last f_logN f_bestIdx : Int32} {a_bd a_sd a_dc a_mc a_ml a_mv a_ps a_dr a_cp a_ex a_jp a_log a_idx a_best : Nat → Int32} {post : Int32 → Prop} {r z c : Int32} (h : post (dg_f34 r z c)) : wY_nb_34 post r z c f_lim f_last f_logN f_bestIdx a_bd a_sd a_dc a_mc a_ml a_mv a_ps a_dr a_cp a_ex a_jp a_log a_idx a_best := by
  unfold dg_f34 at h
  refine nm_e (br_c (fun a => ?_) (fun a => br_c (fun b => ?_) (fun b => br_c (fun d => ?_) (fun d => br_c (fun e => ⟨yn_h2, ?_⟩) (fun e => ?_)))))
  · rw [if_pos a] at h; exact h
  · rw [if_neg a, if_pos b] at h; exact h
  · rw [if_neg a, if_neg b, if_pos d] at h; exact h
  · rw [if_neg a, if_neg b, if_neg d, if_pos e] at h; exact h
  · rw [if_neg a, if_neg b, if_neg d, if_neg e] at h; exact h
theorem yn_19 {f_lim f_last f_logN f_bestIdx : Int32} {a_bd a_sd a_dc a_mc a_ml a_mv a_ps a_dr a_cp a_ex a_jp a_log a_idx a_best : Nat → Int32} {post : Int32 → Prop} {d c z r : Int32} (h : post (dg_f34 (r + z) (if d - d / 2 * 2 = 0 then -1 else 1) c)) : wY_nb_19 post d c z r f_lim f_last f_logN f_bestIdx a_bd a_sd a_dc a_mc a_ml a_mv a_ps a_dr a_cp a_ex a_jp a_log a_idx a_best := by
  refine nm_e ⟨yn_h2, br_c (fun a => yn_34 ?_) (fun a => yn_34 ?_)⟩
  · rw [if_pos a] at h; exact h
  · rw [if_neg a] at h; exact h
theorem yn_col {f_lim f_last f_logN f_bestIdx : Int32} {a_bd a_sd a_dc a_mc a_ml a_mv a_ps a_dr a_cp a_ex a_jp a_log a_idx a_best : Nat → Int32} {post : Int32 → Prop} {s : Int32} (h : post (dg_colE s)) : wpY_col post (f_lim, f_last, f_logN, f_bestIdx, a_bd, a_sd, a_dc, a_mc, a_ml, a_mv, a_ps, a_dr, a_cp, a_ex, a_jp, a_log, a_idx, a_best) s := by
  unfold dg_colE at h
  refine ⟨yn_h4, nm_e ⟨yn_h2, br_c (fun a => ⟨yn_h4, ?_⟩) (fun a => ⟨yn_h4, ?_⟩)⟩⟩
  · rw [if_pos a] at h; exact h
  · rw [if_neg a] at h; exact h
theorem yn_nbE {f_lim f_last f_logN f_bestIdx : Int32} {a_bd a_sd a_dc a_mc a_ml a_mv a_ps a_dr a_cp a_ex a_jp a_log a_idx a_best : Nat → Int32} {post : Int32 → Prop} {s d : Int32} (h : post (dg_nbE s d)) : wpY_nb post (f_lim, f_last, f_logN, f_bestIdx, a_bd, a_sd, a_dc, a_mc, a_ml, a_mv, a_ps, a_dr, a_cp, a_ex, a_jp, a_log, a_idx, a_best) s d := by
  unfold dg_nbE at h
  unfold wpY_nb
  refine yn_col ?_
  refine ⟨yn_h4, br_c (fun a => yn_19 ?_) (fun a => yn_19 ?_)⟩
  · rw [if_pos a] at h; exact h
  · rw [if_neg a] at h; exact h
theorem yn_nb {f_lim f_last f_logN f_bestIdx : Int32} {a_bd a_sd a_dc a_mc a_ml a_mv a_ps a_dr a_cp a_ex a_jp a_log a_idx a_best : Nat → Int32} {post : Int32 → Prop} {s d : Nat} (hs : s < 32) (hd : d < 4) (h : post (dg_enc (dg_T s d))) : wpY_nb post (f_lim, f_last, f_logN, f_bestIdx, a_bd, a_sd, a_dc, a_mc, a_ml, a_mv, a_ps, a_dr, a_cp, a_ex, a_jp, a_log, a_idx, a_best) (nI s) (nI d) :=
  yn_nbE (by rw [dg_nbE_T s hs d hd]; exact h)
theorem yn_ok {f_lim f_last f_logN f_bestIdx : Int32} {a_bd a_sd a_dc a_mc a_ml a_mv a_ps a_dr a_cp a_ex a_jp a_log a_idx a_best : Nat → Int32} {post : Int32 → Prop} {c d : Nat} (hc : c ≤ 4) (hd : d ≤ 4) (h1 : dg_ok c d → post 1) (h0 : ¬ dg_ok c d → post 0) : wpY_dirOk post (f_lim, f_last, f_logN, f_bestIdx, a_bd, a_sd, a_dc, a_mc, a_ml, a_mv, a_ps, a_dr, a_cp, a_ex, a_jp, a_log, a_idx, a_best) (nI c) (nI d) := by
  unfold dg_ok at h1 h0
  refine pk_eq c 1 (fun e => pk_lt d 2 (fun l => h0 ?_) (fun l => h1 ?_)) (fun e => pk_eq c 3 (fun e3 => pk_le 2 d (fun l => h0 ?_) (fun l => h1 ?_)) (fun e3 => h1 ?_))
  · intro z; have := z.1 e; omega
  · exact ⟨fun _ => l, fun z => by omega⟩
  · intro z; have := z.2 e3; omega
  · exact ⟨fun z => by omega, fun _ => l⟩
  · exact ⟨fun z => absurd z e, fun z => absurd z e3⟩
theorem yn_own {f_lim f_last f_logN f_bestIdx : Int32} {a_bd a_sd a_dc a_mc a_ml a_mv a_ps a_dr a_cp a_ex a_jp a_log a_idx a_best : Nat → Int32} {post : Int32 → Prop} {c : Nat} {sd : Int32} (hc : c ≤ 4) (hs : sd = 0 ∨ sd = 1) (h1 : dg_own c sd → post 1) (h0 : ¬ dg_own c sd → post 0) : wpY_own post (f_lim, f_last, f_logN, f_bestIdx, a_bd, a_sd, a_dc, a_mc, a_ml, a_mv, a_ps, a_dr, a_cp, a_ex, a_jp, a_log, a_idx, a_best) (nI c) sd := by
  unfold dg_own at h1 h0
  have n01 : ¬ (0 : Int32) = 1 := by decide
  have n10 : ¬ (1 : Int32) = 0 := by decide
  refine pk_eq c 0 (fun e => h0 ?_) (fun e => pk_lt 2 c (fun l => ?_) (fun l => ?_))
  · rintro (z | z)
    · exact z.1 e
    · have := z.1; omega
  · rcases hs with rfl | rfl
    · refine br_t rfl (br_f n01 (h0 ?_))
      rintro (z | z)
      · have := z.2.1; omega
      · exact n01 z.2
    · exact br_f n10 (br_t rfl (h1 (Or.inr ⟨l, rfl⟩)))
  · rcases hs with rfl | rfl
    · exact br_t rfl (br_t rfl (h1 (Or.inl ⟨e, by omega, rfl⟩)))
    · refine br_f n10 (br_f n10 (h0 ?_))
      rintro (z | z)
      · exact n10 z.2.2
      · have := z.1; omega
theorem yn_le0 : ∀ n, n < 32 → (0 : Int32) ≤ nI n := by decide +kernel
/-- the search for a jump -/
theorem yn_fj_l {f_lim f_last f_logN f_bestIdx : Int32} {a_bd a_sd a_dc a_mc a_ml a_mv a_ps a_dr a_cp a_ex a_jp a_log a_idx a_best : Nat → Int32} {post : Int32 → Prop} {lv c s0 q : Nat} {J : Nat → Int32} (hB : dg_B a_bd) (hlv : lv < 4) (hc : c ≤ 4) (hq : q < 32) (hs0 : s0 < 32) (hJ : ∀ n, n < 32 → a_jp n = J n) :
    ∀ m d n, d + m = 4 → m < n → post (dg_r (dg_sc (dg_P (dg_bl a_bd lv) J c s0 q) m d)) → wY_findJump_30 post (nI c) (nI q) (nI s0) (nI (lv * 32)) f_lim f_last f_logN f_bestIdx a_bd a_sd a_dc a_mc a_ml a_mv a_ps a_dr a_cp a_ex a_jp a_log a_idx a_best n (nI d) := by
  intro m
  induction m with
  | zero =>
    intro d n hd hn hp
    obtain ⟨n, rfl⟩ : ∃ g, n = g + 1 := ⟨n - 1, by omega⟩
    obtain rfl : d = 4 := by omega
    exact br_t (nI_le (a := 4) (Nat.le_refl 4) (by omega)) hp
  | succ m ih =>
    intro d n hd hn hp
    obtain ⟨n, rfl⟩ : ∃ g, n = g + 1 := ⟨n - 1, by omega⟩
    have nxt : ¬ dg_P (dg_bl a_bd lv) J c s0 q d → ∀ y, y = nI d + 1 → wY_findJump_30 post (nI c) (nI q) (nI s0) (nI (lv * 32)) f_lim f_last f_logN f_bestIdx a_bd a_sd a_dc a_mc a_ml a_mv a_ps a_dr a_cp a_ex a_jp a_log a_idx a_best n y := by
      intro hP
      rw [dg_sc_n hP] at hp
      exact nm_r (nI_1 d) (ih (d + 1) n (by omega) (by omega) hp)
    have hit : dg_P (dg_bl a_bd lv) J c s0 q d → post (nI d) := by
      intro hP
      rw [dg_sc_y hP, dg_r_lt (by omega)] at hp
      exact hp
    refine br_f (nI_ge (b := 4) (by omega) (by omega)) (yn_ok hc (by omega) (fun hok => ?_) (fun hok => br_t rfl (nxt fun hP => hok hP.1)))
    refine br_f (by decide) (yn_nb hq (by omega) ?_)
    by_cases hT : dg_T q d < 32
    · rw [dg_enc_lt hT]
      refine br_t (yn_le0 _ hT) (yn_nb hT (by omega) ?_)
      by_cases hL : dg_T (dg_T q d) d < 32
      · rw [dg_enc_lt hL]
        refine br_f (dg_enc_n _ hL).2 ⟨vp_in_nI hT (by omega), ?_⟩
        rw [nI_clamp (by omega), hJ _ hT]
        refine br_c (fun j0 => ?_) (fun j1 => nxt fun hP => j1 hP.2.2.2.1)
        have e2 : nI (lv * 32) + nI (dg_T q d) = nI (lv * 32 + dg_T q d) := nI_add _ _
        have e4 : nI (lv * 32) + nI (dg_T (dg_T q d) d) = nI (lv * 32 + dg_T (dg_T q d) d) := nI_add _ _
        have hv := dg_B_b hB (i := lv * 32 + dg_T q d) (by omega)
        have hw := dg_B_b hB (i := lv * 32 + dg_T (dg_T q d) d) (by omega)
        rw [e2]
        refine ⟨vp_in_nI (by omega) (by omega), nm_r (e' := nI (dg_b a_bd (lv * 32 + dg_T q d))) (by rw [nI_clamp (by omega)]; exact hv.1) ?_⟩
        have go : ∀ z0 z1 : Int32, (¬ dg_b a_bd (lv * 32 + dg_T q d) = 0) → (z1 = z0 ↔ (dg_b a_bd (lv * 32 + dg_T q d) ≤ 2 ↔ c ≤ 2)) → wY_findJump_133 post (wY_findJump_30 post (nI c) (nI q) (nI s0) (nI (lv * 32)) f_lim f_last f_logN f_bestIdx a_bd a_sd a_dc a_mc a_ml a_mv a_ps a_dr a_cp a_ex a_jp a_log a_idx a_best n) (nI c) (nI q) (nI s0) (nI (lv * 32)) (nI d) (nI (dg_T (dg_T q d) d)) z0 z1 f_lim f_last f_logN f_bestIdx a_bd a_sd a_dc a_mc a_ml a_mv a_ps a_dr a_cp a_ex a_jp a_log a_idx a_best := by
          intro z0 z1 hv0 hz
          refine br_c (fun z => nxt fun hP => hP.2.2.2.2.1.2 (hz.mp z)) (fun z => ?_)
          rw [e4]
          refine ⟨vp_in_nI (by omega) (by omega), ?_⟩
          rw [nI_clamp (by omega), hw.1]
          refine pk_eq (dg_b a_bd (lv * 32 + dg_T (dg_T q d) d)) 0 (fun a => hit ⟨hok, hT, hL, j0, ⟨hv0, fun b => z (hz.mpr b)⟩, Or.inl a⟩) (fun a => pk_eq (dg_T (dg_T q d) d) s0 (fun b => hit ⟨hok, hT, hL, j0, ⟨hv0, fun b => z (hz.mpr b)⟩, Or.inr b⟩) (fun b => nxt fun hP => ?_))
          rcases hP.2.2.2.2.2 with h | h
          · exact a h
          · exact b h
        have n01 : ¬ (0 : Int32) = 1 := by decide
        have n10 : ¬ (1 : Int32) = 0 := by decide
        have hv4 := hv.2
        refine pk_eq (dg_b a_bd (lv * 32 + dg_T q d)) 0 (fun a => nxt fun hP => hP.2.2.2.2.1.1 a) (fun a => pk_lt 2 (dg_b a_bd (lv * 32 + dg_T q d)) (fun l => ?_) (fun l => ?_))
        · refine pk_lt 2 c (fun l2 => go 0 0 a ⟨fun _ => ⟨fun _ => by omega, fun _ => by omega⟩, fun _ => rfl⟩) (fun l2 => go 1 0 a ⟨fun z => absurd z n01, fun z => ?_⟩)
          have := z.mpr l2; omega
        · refine pk_lt 2 c (fun l2 => go 0 1 a ⟨fun z => absurd z n10, fun z => ?_⟩) (fun l2 => go 1 1 a ⟨fun _ => ⟨fun _ => l2, fun _ => l⟩, fun _ => rfl⟩)
          have := z.mp l; omega
      · rw [dg_enc_ge hL]
        exact br_t (by decide) (nxt fun hP => hL hP.2.2.1)
    · rw [dg_enc_ge hT]
      exact br_f (by decide) (nxt fun hP => hT hP.2.1)
theorem yn_fj {f_lim f_last f_logN f_bestIdx : Int32} {a_bd a_sd a_dc a_mc a_ml a_mv a_ps a_dr a_cp a_ex a_jp a_log a_idx a_best : Nat → Int32} {post : Int32 → Prop} {lv c k s0 q y : Nat} {J : Nat → Int32} (hB : dg_B a_bd) (hlv : lv < 4) (hc : c ≤ 4) (hk : k < 13) (hq : q < 32) (hs0 : s0 < 32) (hJ : ∀ n, n < 32 → a_jp n = J n) (hpk : a_ps k = nI q) (hp0 : a_ps 0 = nI s0) (hy : a_dr k = nI y) (hy4 : y ≤ 4)
    (hp : post (dg_r (dg_sc (dg_P (dg_bl a_bd lv) J c s0 q) (4 - y) y))) : wpY_findJump post (f_lim, f_last, f_logN, f_bestIdx, a_bd, a_sd, a_dc, a_mc, a_ml, a_mv, a_ps, a_dr, a_cp, a_ex, a_jp, a_log, a_idx, a_best) (nI lv) (nI c) (nI k) := by
  have ec : (nI k).toNatClampNeg = k := nI_clamp (by omega)
  refine ⟨vp_in_nI hk (by omega), nm_r (e' := nI q) (by rw [ec, hpk]) (nm_r hp0 (nm_r (e' := nI (lv * 32)) (pk_mul lv 32) ⟨vp_in_nI hk (by omega), nm_r (e' := nI y) (by rw [ec, hy]) ⟨5, ?_⟩⟩))⟩
  exact yn_fj_l hB hlv hc hq hs0 hJ (4 - y) y 5 (by omega) (by omega) hp
/-- a path is kept -/
theorem yn_rec_l {f_lim f_last f_logN f_bestIdx : Int32} {a_bd a_sd a_dc a_mc a_ml a_mv a_ps a_dr a_cp a_ex a_jp a_log a_idx a_best : Nat → Int32} {post : SY → Prop} {lv L s M : Nat} {q : Nat → Nat} (hlv : lv < 4) (hs : s < 192) (hL : L < 13) (hp : ∀ i, i ≤ L → a_ps i = nI (q i)) (hM : a_mc lv = nI M) (hsM : s = lv * 48 + M) (hM48 : M < 48)
    (h : post (f_lim, f_last, f_logN, f_bestIdx, a_bd, a_sd, a_dc, upd a_mc lv (nI (M + 1)), upd a_ml s (nI (L + 1)), dg_wr a_mv (s * 13) q (L + 1), a_ps, a_dr, a_cp, a_ex, a_jp, a_log, a_idx, a_best)) :
    ∀ m i n, i + m = L + 1 → m < n → wY_rec_30 post (nI lv) (nI L) (nI (s * 13)) f_lim f_last f_logN f_bestIdx n (nI i) a_bd a_sd a_dc a_mc a_ml (dg_wr a_mv (s * 13) q i) a_ps a_dr a_cp a_ex a_jp a_log a_idx a_best := by
  have ec : (nI lv).toNatClampNeg = lv := nI_clamp (by omega)
  intro m
  induction m with
  | zero =>
    intro i n hi hn
    obtain ⟨n, rfl⟩ : ∃ g, n = g + 1 := ⟨n - 1, by omega⟩
    obtain rfl : i = L + 1 := by omega
    have e1 : nI lv * 48 + a_mc (nI lv).toNatClampNeg = nI s := by rw [ec, hM, show (48 : Int32) = nI 48 from rfl, pk_mul, nI_add, hsM]
    refine br_t (nI_lt (by omega) (by omega)) ⟨vp_in_nI hlv (by omega), ?_⟩
    rw [e1]
    refine ⟨vp_in_nI hs (by omega), nm_r (e' := upd a_ml s (nI (L + 1))) (by rw [nI_clamp (by omega), nI_1]) ⟨vp_in_nI hlv (by omega), vp_in_nI hlv (by omega), nm_r (e' := upd a_mc lv (nI (M + 1))) (by rw [ec, hM, nI_1]) h⟩⟩
  | succ m ih =>
    intro i n hi hn
    obtain ⟨n, rfl⟩ : ∃ g, n = g + 1 := ⟨n - 1, by omega⟩
    have e1 : nI (s * 13) + nI i = nI (s * 13 + i) := nI_add _ _
    refine br_f (nI_nlt (by omega) (by omega)) ⟨vp_in_nI (by omega) (by omega), ?_⟩
    rw [e1]
    refine ⟨vp_in_nI (by omega) (by omega), nm_r (e' := dg_wr a_mv (s * 13) q (i + 1)) ?_ (nm_r (nI_1 i) (ih (i + 1) n (by omega) (by omega)))⟩
    rw [nI_clamp (by omega), nI_clamp (by omega), hp i (by omega)]
    rfl
theorem yn_rec {f_lim f_last f_logN f_bestIdx : Int32} {a_bd a_sd a_dc a_ps a_dr a_cp a_ex a_jp a_log a_idx a_best : Nat → Int32} {post : SY → Prop} {lv L : Nat} {q : Nat → Nat} {T : (Nat → Int32) × (Nat → Int32) × (Nat → Int32)} (hlv : lv < 4) (hQ : dg_Q T lv) (hL : L < 13) (hp : ∀ i, i ≤ L → a_ps i = nI (q i))
    (h : post (f_lim, f_last, f_logN, f_bestIdx, a_bd, a_sd, a_dc, (dg_rec lv T (L + 1, q)).1, (dg_rec lv T (L + 1, q)).2.1, (dg_rec lv T (L + 1, q)).2.2, a_ps, a_dr, a_cp, a_ex, a_jp, a_log, a_idx, a_best)) : wpY_rec post (f_lim, f_last, f_logN, f_bestIdx, a_bd, a_sd, a_dc, T.1, T.2.1, T.2.2, a_ps, a_dr, a_cp, a_ex, a_jp, a_log, a_idx, a_best) (nI lv) (nI L) := by
  obtain ⟨M, hM, eM⟩ := hQ
  have ec : (nI lv).toNatClampNeg = lv := nI_clamp (by omega)
  refine ⟨vp_in_nI hlv (by omega), ?_⟩
  rw [ec, eM]
  refine pk_lt M 48 (fun hlt => ⟨vp_in_nI hlv (by omega), ?_⟩) (fun hge => ?_)
  · rw [dg_rec_lt eM hlt] at h
    refine nm_r (e' := nI ((lv * 48 + M) * 13)) (by rw [show (48 : Int32) = nI 48 from rfl, show (13 : Int32) = nI 13 from rfl, pk_mul, nI_add, pk_mul]) ⟨L + 2, ?_⟩
    exact yn_rec_l hlv (by omega) hL hp eM rfl hlt h (L + 1) 0 (L + 2) (by omega) (by omega)
  · rw [dg_rec_ge eM hge hM] at h
    exact h
/-- the reference's walk of the captures is the pure machine -/
theorem yn_walk {f_lim f_last f_logN f_bestIdx : Int32} {a_bd a_sd a_dc a_log a_idx a_best : Nat → Int32} {post : SY → Prop} {lv c s0 : Nat} (hB : dg_B a_bd) (hlv : lv < 4) (hc : c ≤ 4) (hs0 : s0 < 32) :
    ∀ (n k1 : Nat) (q j x y : Nat → Nat) (w J : Nat → Int32) (T : (Nat → Int32) × (Nat → Int32) × (Nat → Int32)) (ps dr cp ex jp : Nat → Int32) (step m : Nat), dg_K c s0 k1 q j x y w J → (∀ k, k1 = k + 1 → dg_AY k q j y w ps dr cp ex) → (∀ n, n < 32 → jp n = J n) → dg_Q T lv →
      dg_ps x k1 ≤ n → step + dg_ps x k1 ≤ 1000000 → dg_ps x k1 < m →
      (∀ ps' dr' cp' ex' jp', post (f_lim, f_last, f_logN, f_bestIdx, a_bd, a_sd, a_dc, ((dg_run (dg_bl a_bd lv) c s0 n k1 q j x w J).foldl (dg_rec lv) T).1, ((dg_run (dg_bl a_bd lv) c s0 n k1 q j x w J).foldl (dg_rec lv) T).2.1, ((dg_run (dg_bl a_bd lv) c s0 n k1 q j x w J).foldl (dg_rec lv) T).2.2, ps', dr', cp', ex', jp', a_log, a_idx, a_best)) →
      wY_capFrom_63 post (nI lv) (nI c) m (dg_la k1) (nI step) f_lim f_last f_logN f_bestIdx a_bd a_sd a_dc T.1 T.2.1 T.2.2 ps dr cp ex jp a_log a_idx a_best := by
  have hend : ∀ (n : Nat) (q j x : Nat → Nat) (w J : Nat → Int32) (T : (Nat → Int32) × (Nat → Int32) × (Nat → Int32)) (ps dr cp ex jp : Nat → Int32) (step m : Nat), 0 < m →
      (∀ ps' dr' cp' ex' jp', post (f_lim, f_last, f_logN, f_bestIdx, a_bd, a_sd, a_dc, ((dg_run (dg_bl a_bd lv) c s0 n 0 q j x w J).foldl (dg_rec lv) T).1, ((dg_run (dg_bl a_bd lv) c s0 n 0 q j x w J).foldl (dg_rec lv) T).2.1, ((dg_run (dg_bl a_bd lv) c s0 n 0 q j x w J).foldl (dg_rec lv) T).2.2, ps', dr', cp', ex', jp', a_log, a_idx, a_best)) →
      wY_capFrom_63 post (nI lv) (nI c) m (dg_la 0) (nI step) f_lim f_last f_logN f_bestIdx a_bd a_sd a_dc T.1 T.2.1 T.2.2 ps dr cp ex jp a_log a_idx a_best := by
    intro n q j x w J T ps dr cp ex jp step m hm hp
    obtain ⟨m, rfl⟩ : ∃ g, m = g + 1 := ⟨m - 1, by omega⟩
    rw [dg_run_0] at hp
    exact br_c (fun _ => hp ps dr cp ex jp) (fun _ => br_t (show (-1 : Int32) < 0 by decide) (hp ps dr cp ex jp))
  have b1 : vp_nar .boolean 1 = 1 := by decide
  have b0 : vp_nar .boolean 0 = 0 := by decide
  intro n
  induction n with
  | zero =>
    intro k1 q j x y w J T ps dr cp ex jp step m hK hA hJ hQ hn hstep hm hp
    cases k1 with
    | zero => exact hend 0 q j x w J T ps dr cp ex jp step m (by omega) hp
    | succ k => have := dg_ps_pos x k; omega
  | succ n ih =>
    intro k1 q j x y w J T ps dr cp ex jp step m hK hA hJ hQ hn hstep hm hp
    cases k1 with
    | zero => exact hend (n + 1) q j x w J T ps dr cp ex jp step m (by omega) hp
    | succ k =>
      have hpos := dg_ps_pos x k
      obtain ⟨m, rfl⟩ : ∃ g, m = g + 1 := ⟨m - 1, by omega⟩
      obtain ⟨hI, hw⟩ := hK k rfl
      have hAk := hA k rfl
      have hk9 := dg_I_k hI
      obtain ⟨hq, hpar, hdr⟩ := hI.2.1 k (Nat.le_refl k)
      have hq0 := hI.1
      have hA0 := (hAk.1 0 (Nat.zero_le k)).1
      rw [hq0] at hA0
      have hAkk := hAk.1 k (Nat.le_refl k)
      rw [show dg_la (k + 1) = nI k from rfl]
      have ec : (nI k).toNatClampNeg = k := nI_clamp (by omega)
      have hin : vp_in (nI k) 13 := vp_in_nI (by omega) (by omega)
      refine br_f (nI_ge (b := 4194304) (by omega) (by decide)) (br_f (nI_pos (by omega)) (br_f (nI_ge (b := 12) (by omega) (by decide)) ?_))
      refine yn_fj (J := J) (s0 := s0) (q := q k) (y := y k) hB hlv hc (by omega) hq hs0 hJ hAkk.1 hA0 hAkk.2.1 hdr.2.2.1 ?_
      rw [← dg_DR_sc hq hdr]
      show wY_capFrom_94 post (wY_capFrom_63 post (nI lv) (nI c) m) (nI lv) (nI c) (nI k) (nI step) (dg_r (dg_D (dg_bl a_bd lv) c s0 J (q k) (x k))) f_lim f_last f_logN f_bestIdx a_bd a_sd a_dc T.1 T.2.1 T.2.2 ps dr cp ex jp a_log a_idx a_best
      by_cases hD : dg_D (dg_bl a_bd lv) c s0 J (q k) (x k) < 4
      · generalize eD : dg_D (dg_bl a_bd lv) c s0 J (q k) (x k) = D at hD
        rw [dg_r_lt hD]
        obtain ⟨hP, hxD, hk8, hK'⟩ := dg_K_push hK eD hD
        have hT := hP.2.1
        have hL := hP.2.2.1
        have ec1 : (nI (k + 1)).toNatClampNeg = k + 1 := nI_clamp (by omega)
        have hin1 : vp_in (nI (k + 1)) 13 := vp_in_nI (by omega) (by omega)
        refine br_f (dg_enc_n D (by omega)).2 ⟨hin, ?_⟩
        rw [ec, hAkk.1, nI_1 k, ec1]
        refine yn_nb hq hD ?_
        rw [dg_enc_lt hT]
        refine ⟨hin, nm_r (e' := upd dr k (nI (D + 1))) (by rw [nI_1]) ⟨hin, nm_r (e' := upd ex k 1) (by rw [b1]) ⟨hin, nm_e ⟨vp_in_nI hT (by omega), nm_r (e' := upd jp (dg_T (q k) D) 1) (by rw [nI_clamp (by omega), b1]) (yn_nb hT hD ?_)⟩⟩⟩⟩
        rw [dg_enc_lt hL]
        refine ⟨hin1, nm_e (nm_e ⟨hin1, nm_r (e' := upd (upd dr k (nI (D + 1))) (k + 1) 0) (by rw [ec1]) ⟨hin1, nm_r (e' := upd (upd ex k 1) (k + 1) 0) (by rw [ec1, b0]) (nm_r (nI_1 step) ?_)⟩⟩)⟩
        have hps := dg_ps_push (x := x) (k := k) (D := D) (x' := dg_x0 c (dg_T (dg_T (q k) D) D)) hk8 hxD hD
        rw [dg_run_push eD hD] at hp
        refine ih (k + 2) _ _ _ _ _ _ T _ _ _ _ _ (step + 1) m hK' (fun k' e => ?_) (fun i hi => ?_) hQ (by omega) (by omega) (by omega) hp
        · obtain rfl : k' = k + 1 := by omega
          exact dg_AY_push hAk
        · by_cases z : i = dg_T (q k) D
          · subst z; rw [pk_us, pk_us]
          · rw [pk_un z, pk_un z]; exact hJ i hi
      · rw [dg_r_ge hD]
        rw [dg_run_pop hD, List.foldl_append] at hp
        have pop : ∀ (T : (Nat → Int32) × (Nat → Int32) × (Nat → Int32)), dg_Q T lv → (∀ ps' dr' cp' ex' jp', post (f_lim, f_last, f_logN, f_bestIdx, a_bd, a_sd, a_dc, ((dg_run (dg_bl a_bd lv) c s0 n k q j x w (if k = 0 then J else upd J (j (k - 1)) 0)).foldl (dg_rec lv) T).1, ((dg_run (dg_bl a_bd lv) c s0 n k q j x w (if k = 0 then J else upd J (j (k - 1)) 0)).foldl (dg_rec lv) T).2.1, ((dg_run (dg_bl a_bd lv) c s0 n k q j x w (if k = 0 then J else upd J (j (k - 1)) 0)).foldl (dg_rec lv) T).2.2, ps', dr', cp', ex', jp', a_log, a_idx, a_best)) →
            wY_capFrom_213 post (wY_capFrom_63 post (nI lv) (nI c) m) (nI lv) (nI c) (nI k) (nI step) f_lim f_last f_logN f_bestIdx a_bd a_sd a_dc T.1 T.2.1 T.2.2 ps dr cp ex jp a_log a_idx a_best := by
          intro T hQ hp
          have hKp := dg_K_pop hK
          refine nm_r (dg_la_m k) ?_
          cases k with
          | zero =>
            refine br_t (show (-1 : Int32) < 0 by decide) (nm_r (nI_1 step) ?_)
            exact ih 0 q j x y w _ T ps dr cp ex jp (step + 1) m hKp (fun k' e => absurd e (by omega)) hJ hQ (by omega) (by omega) (by omega) hp
          | succ k =>
            have hcp := hAk.2 k (by omega)
            have hj32 := dg_C_lt _ _ (hI.2.2.1 k (by omega)).1
            have e5 : (dg_la (k + 1)).toNatClampNeg = k := nI_clamp (by omega)
            refine br_f (nI_pos (n := k) (by omega)) ⟨vp_in_nI (n := k) (by omega) (by omega), ?_⟩
            rw [e5, hcp]
            refine ⟨vp_in_nI hj32 (by omega), nm_r (e' := upd jp (j k) 0) (by rw [nI_clamp (by omega), b0]) (nm_r (nI_1 step) ?_)⟩
            refine ih (k + 1) q j x y w _ T ps dr cp ex _ (step + 1) m hKp (fun k' e => ?_) (fun i hi => ?_) hQ (by omega) (by omega) (by omega) hp
            · obtain rfl : k' = k := by omega
              exact dg_AY_pop hAk
            · rw [if_neg (by omega)]
              show upd jp (j k) 0 i = upd J (j k) 0 i
              by_cases z : i = j k
              · subst z; rw [pk_us, pk_us]
              · rw [pk_un z, pk_un z]; exact hJ i hi
        refine br_t (by decide) ?_
        by_cases hwk : w k = 0
        · rw [if_pos hwk] at hp
          have hk0 : ¬ k = 0 := fun z => hw (z ▸ hwk)
          refine br_f (nI_nle (by omega) (by omega)) ⟨hin, ?_⟩
          rw [ec, hAkk.2.2 (by omega)]
          refine br_t hwk (yn_rec (q := q) hlv hQ (by omega) (fun i hi => (hAk.1 i hi).1) ?_)
          exact pop (dg_rec lv T (k + 1, q)) (dg_rec_Q _ hQ) hp
        · rw [if_neg hwk] at hp
          refine br_c (fun _ => pop T hQ hp) (fun z => ⟨hin, ?_⟩)
          have hk1 : 1 ≤ k := by
            apply Classical.byContradiction
            intro h0
            obtain rfl : k = 0 := by omega
            exact z (by decide)
          rw [ec, hAkk.2.2 hk1]
          exact br_f hwk (pop T hQ hp)
end
section
theorem yn_caps_l {f_lim f_last f_logN f_bestIdx : Int32} {a_bd a_sd a_dc a_mc a_ml a_mv a_ps a_dr a_cp a_ex a_log a_idx a_best : Nat → Int32} {post : SY → Prop} {x1 x2 x3 : Int32} 
    (h : ∀ jp', (∀ i, i < 32 → jp' i = 0) → ∃ n63 : Nat, wY_capFrom_63 post x1 x3 n63 0 0 f_lim f_last f_logN f_bestIdx a_bd a_sd a_dc a_mc a_ml a_mv (upd a_ps 0 x2) (upd a_dr 0 0) a_cp (upd a_ex 0 0) jp' a_log a_idx a_best) :
    ∀ (m i n : Nat) (jp : Nat → Int32), i + m = 32 → m < n → (∀ e, e < i → jp e = 0) → wY_capFrom_15 post x1 x2 x3 f_lim f_last f_logN f_bestIdx n (nI i) a_bd a_sd a_dc a_mc a_ml a_mv a_ps a_dr a_cp a_ex jp a_log a_idx a_best := by
  have b0 : vp_nar .boolean 0 = 0 := by decide
  intro m
  induction m with
  | zero =>
    intro i n jp hi hn hz
    obtain ⟨n, rfl⟩ : ∃ g, n = g + 1 := ⟨n - 1, by omega⟩
    obtain rfl : i = 32 := by omega
    exact br_t (nI_le (a := 32) (Nat.le_refl 32) (by omega)) (nm_e (nm_e (nm_r (e' := upd a_ex 0 0) (by rw [b0]) (h jp hz))))
  | succ m ih =>
    intro i n jp hi hn hz
    obtain ⟨n, rfl⟩ : ∃ g, n = g + 1 := ⟨n - 1, by omega⟩
    refine br_f (nI_ge (b := 32) (by omega) (by omega)) ⟨vp_in_nI (by omega) (by omega), nm_r (e' := upd jp i 0) (by rw [nI_clamp (by omega), b0]) (nm_r (nI_1 i) (ih (i + 1) n _ (by omega) (by omega) fun e he => ?_))⟩
    by_cases z : e = i
    · subst z; exact pk_us
    · rw [pk_un z]; exact hz e (by omega)
theorem yn_caps {f_lim f_last f_logN f_bestIdx : Int32} {a_bd a_sd a_dc a_ps a_dr a_cp a_ex a_jp a_log a_idx a_best : Nat → Int32} {post : SY → Prop} {lv s : Nat} {T : (Nat → Int32) × (Nat → Int32) × (Nat → Int32)} (hB : dg_B a_bd) (hlv : lv < 4) (hs : s < 32) (hQ : dg_Q T lv)
    (h : ∀ ps' dr' cp' ex' jp', post (f_lim, f_last, f_logN, f_bestIdx, a_bd, a_sd, a_dc, ((dg_cap 700000 (dg_bl a_bd lv) (dg_bl a_bd lv s) s).foldl (dg_rec lv) T).1, ((dg_cap 700000 (dg_bl a_bd lv) (dg_bl a_bd lv s) s).foldl (dg_rec lv) T).2.1, ((dg_cap 700000 (dg_bl a_bd lv) (dg_bl a_bd lv s) s).foldl (dg_rec lv) T).2.2, ps', dr', cp', ex', jp', a_log, a_idx, a_best)) :
    wpY_capFrom post (f_lim, f_last, f_logN, f_bestIdx, a_bd, a_sd, a_dc, T.1, T.2.1, T.2.2, a_ps, a_dr, a_cp, a_ex, a_jp, a_log, a_idx, a_best) (nI lv) (nI s) := by
  have hv := dg_B_b hB (i := lv * 32 + s) (by omega)
  have e1 : nI lv * 32 + nI s = nI (lv * 32 + s) := by rw [show (32 : Int32) = nI 32 from rfl, pk_mul, nI_add]
  refine ⟨by rw [e1]; exact vp_in_nI (by omega) (by omega), nm_r (e' := nI (dg_bl a_bd lv s)) (by rw [e1, nI_clamp (by omega)]; exact hv.1) ⟨33, ?_⟩⟩
  refine yn_caps_l (fun jp' hz => ⟨700000, ?_⟩) 32 0 33 _ (by omega) (by omega) (fun e he => absurd he (Nat.not_lt_zero e))
  refine yn_walk hB hlv hv.2 hs 700000 1 (fun _ => s) (fun _ => 0) (fun _ => dg_fst (dg_bl a_bd lv s)) (fun _ => 0) (fun _ => 1) (fun _ => 0) T _ _ _ _ _ 0 700000 (dg_K_0 hs) (fun k e => ?_) hz hQ ?_ ?_ ?_ h
  · obtain rfl : k = 0 := by omega
    refine ⟨fun i hi => ?_, fun i hi => absurd hi (Nat.not_lt_zero i)⟩
    obtain rfl : i = 0 := by omega
    exact ⟨pk_us, pk_us, fun z => absurd z (by omega)⟩
  · have := dg_ps_0 (fun _ => dg_fst (dg_bl a_bd lv s)); omega
  · have := dg_ps_0 (fun _ => dg_fst (dg_bl a_bd lv s)); omega
  · have := dg_ps_0 (fun _ => dg_fst (dg_bl a_bd lv s)); omega
/-- the steps of one piece -/
theorem yn_sim_l {f_lim f_last f_logN f_bestIdx : Int32} {a_bd a_sd a_dc a_dr a_cp a_ex a_jp a_log a_idx a_best : Nat → Int32} {post : SY → Prop} {J63 : Int32 → Int32 → Int32 → Int32 → Int32 → (Nat → Int32) → (Nat → Int32) → (Nat → Int32) → (Nat → Int32) → (Nat → Int32) → (Nat → Int32) → (Nat → Int32) → (Nat → Int32) → (Nat → Int32) → (Nat → Int32) → (Nat → Int32) → (Nat → Int32) → (Nat → Int32) → (Nat → Int32) → Prop} {lv c s : Nat} (hB : dg_B a_bd) (hlv : lv < 4) (hs : s < 32) (hc : c ≤ 4) :
    ∀ (m d n : Nat) (T : (Nat → Int32) × (Nat → Int32) × (Nat → Int32)) (ps : Nat → Int32), d + m = 4 → m < n → dg_Q T lv →
      (∀ ps', J63 (nI (s + 1)) f_lim f_last f_logN f_bestIdx a_bd a_sd a_dc (((dg_sm (dg_bl a_bd lv) c s m d).foldl (dg_rec lv) T).1) (((dg_sm (dg_bl a_bd lv) c s m d).foldl (dg_rec lv) T).2.1) (((dg_sm (dg_bl a_bd lv) c s m d).foldl (dg_rec lv) T).2.2) ps' a_dr a_cp a_ex a_jp a_log a_idx a_best) →
      wY_gen_101 post J63 (nI lv) (nI s) (nI c) n (nI d) f_lim f_last f_logN f_bestIdx a_bd a_sd a_dc T.1 T.2.1 T.2.2 ps a_dr a_cp a_ex a_jp a_log a_idx a_best := by
  intro m
  induction m with
  | zero =>
    intro d n T ps hd hn hQ h
    obtain ⟨n, rfl⟩ : ∃ g, n = g + 1 := ⟨n - 1, by omega⟩
    obtain rfl : d = 4 := by omega
    exact br_t (nI_le (a := 4) (Nat.le_refl 4) (by omega)) (nm_r (nI_1 s) (h ps))
  | succ m ih =>
    intro d n T ps hd hn hQ h
    obtain ⟨n, rfl⟩ : ∃ g, n = g + 1 := ⟨n - 1, by omega⟩
    have nxt : ¬ dg_R (dg_bl a_bd lv) c s d → ∀ y, y = nI d + 1 → wY_gen_101 post J63 (nI lv) (nI s) (nI c) n y f_lim f_last f_logN f_bestIdx a_bd a_sd a_dc T.1 T.2.1 T.2.2 ps a_dr a_cp a_ex a_jp a_log a_idx a_best := by
      intro hP
      rw [dg_sm_n hP] at h
      exact nm_r (nI_1 d) (ih (d + 1) n T ps (by omega) (by omega) hQ h)
    refine br_f (nI_ge (b := 4) (by omega) (by omega)) (yn_nb hs (by omega) ?_)
    by_cases hT : dg_T s d < 32
    · rw [dg_enc_lt hT]
      refine br_f (dg_enc_n _ hT).2 (yn_ok hc (by omega) (fun hok => br_f (by decide) ?_) (fun hok => br_t rfl (nxt fun hP => hok hP.1)))
      have e2 : nI lv * 32 + nI (dg_T s d) = nI (lv * 32 + dg_T s d) := by rw [show (32 : Int32) = nI 32 from rfl, pk_mul, nI_add]
      rw [e2]
      refine ⟨vp_in_nI (by omega) (by omega), ?_⟩
      have hv := dg_B_b hB (i := lv * 32 + dg_T s d) (by omega)
      rw [nI_clamp (by omega), hv.1]
      refine pk_eq (dg_b a_bd (lv * 32 + dg_T s d)) 0 (fun z => ?_) (fun z => nxt fun hP => z hP.2.2) (ha := by have := hv.2; omega)
      rw [dg_sm_y ⟨hok, hT, z⟩] at h
      refine nm_e (nm_e ?_)
      refine yn_rec (L := 1) (q := dg_two s (dg_T s d)) hlv hQ (by omega) (fun i hi => ?_) ?_
      · have : i = 0 ∨ i = 1 := by omega
        rcases this with rfl | rfl
        · rw [pk_un (by omega)]; exact pk_us
        · exact pk_us
      · exact nm_r (nI_1 d) (ih (d + 1) n (dg_rec lv T (2, dg_two s (dg_T s d))) _ (by omega) (by omega) (dg_rec_Q _ hQ) h)
    · rw [dg_enc_ge hT]
      exact br_t (by decide) (nxt fun hP => hT hP.2.1)
theorem yn_lm2 {f_lim f_last f_logN f_bestIdx : Int32} {a_bd a_sd a_dc a_dr a_cp a_ex a_jp a_log a_idx a_best : Nat → Int32} {post : SY → Prop} {lv : Nat} (hB : dg_B a_bd) (hS : dg_S a_sd) (hlv : lv < 4) :
    ∀ (m s n : Nat) (T : (Nat → Int32) × (Nat → Int32) × (Nat → Int32)) (ps : Nat → Int32), s + m = 32 → m < n → dg_Q T lv →
      (∀ ps', post (f_lim, f_last, f_logN, f_bestIdx, a_bd, a_sd, a_dc, ((dg_sms (dg_bl a_bd lv) (a_sd lv) m s).foldl (dg_rec lv) T).1, ((dg_sms (dg_bl a_bd lv) (a_sd lv) m s).foldl (dg_rec lv) T).2.1, ((dg_sms (dg_bl a_bd lv) (a_sd lv) m s).foldl (dg_rec lv) T).2.2, ps', a_dr, a_cp, a_ex, a_jp, a_log, a_idx, a_best)) →
      wY_gen_63 post (nI lv) n (nI s) f_lim f_last f_logN f_bestIdx a_bd a_sd a_dc T.1 T.2.1 T.2.2 ps a_dr a_cp a_ex a_jp a_log a_idx a_best := by
  intro m
  induction m with
  | zero =>
    intro s n T ps hs hn hQ h
    obtain ⟨n, rfl⟩ : ∃ g, n = g + 1 := ⟨n - 1, by omega⟩
    obtain rfl : s = 32 := by omega
    exact br_t (nI_le (a := 32) (Nat.le_refl 32) (by omega)) (h ps)
  | succ m ih =>
    intro s n T ps hs hn hQ h
    obtain ⟨n, rfl⟩ : ∃ g, n = g + 1 := ⟨n - 1, by omega⟩
    have hv := dg_B_b hB (i := lv * 32 + s) (by omega)
    have e1 : nI lv * 32 + nI s = nI (lv * 32 + s) := by rw [show (32 : Int32) = nI 32 from rfl, pk_mul, nI_add]
    refine br_f (nI_ge (b := 32) (by omega) (by omega)) ?_
    rw [e1, nI_clamp (n := lv * 32 + s) (by omega), hv.1, nI_clamp (n := lv) (by omega)]
    refine ⟨vp_in_nI (by omega) (by omega), nm_e ⟨vp_in_nI hlv (by omega), yn_own hv.2 (hS lv hlv) (fun hw => br_f (by decide) ⟨5, ?_⟩) (fun hw => br_t rfl (nm_r (nI_1 s) ?_))⟩⟩
    · have hw' : dg_own (dg_bl a_bd lv s) (a_sd lv) := hw
      rw [dg_sms_y hw', List.foldl_append] at h
      refine yn_sim_l hB hlv (by omega) hv.2 4 0 5 T ps (by omega) (by omega) hQ fun ps' => ?_
      exact ih (s + 1) n _ ps' (by omega) (by omega) (dg_fold_Q _ hQ) h
    · have hw' : ¬ dg_own (dg_bl a_bd lv s) (a_sd lv) := hw
      rw [dg_sms_n hw'] at h
      exact ih (s + 1) n T ps (by omega) (by omega) hQ h
theorem yn_lm1 {f_lim f_last f_logN f_bestIdx : Int32} {a_bd a_sd a_dc a_log a_idx a_best : Nat → Int32} {post : SY → Prop} {lv : Nat} (hB : dg_B a_bd) (hS : dg_S a_sd) (hlv : lv < 4) :
    ∀ (m s n : Nat) (T : (Nat → Int32) × (Nat → Int32) × (Nat → Int32)) (ps dr cp ex jp : Nat → Int32), s + m = 32 → m < n → dg_Q T lv →
      (∀ (ps' dr' cp' ex' jp' : Nat → Int32) (T' : (Nat → Int32) × (Nat → Int32) × (Nat → Int32)), T' = (dg_caps 700000 (dg_bl a_bd lv) (a_sd lv) m s).foldl (dg_rec lv) T → ((T'.1 lv ≤ 0 → ∃ n63 : Nat, wY_gen_63 post (nI lv) n63 0 f_lim f_last f_logN f_bestIdx a_bd a_sd a_dc T'.1 T'.2.1 T'.2.2 ps' dr' cp' ex' jp' a_log a_idx a_best) ∧ (¬ T'.1 lv ≤ 0 → post (f_lim, f_last, f_logN, f_bestIdx, a_bd, a_sd, a_dc, T'.1, T'.2.1, T'.2.2, ps', dr', cp', ex', jp', a_log, a_idx, a_best)))) →
      wY_gen_9 post (nI lv) n (nI s) f_lim f_last f_logN f_bestIdx a_bd a_sd a_dc T.1 T.2.1 T.2.2 ps dr cp ex jp a_log a_idx a_best := by
  intro m
  induction m with
  | zero =>
    intro s n T ps dr cp ex jp hs hn hQ h
    obtain ⟨n, rfl⟩ : ∃ g, n = g + 1 := ⟨n - 1, by omega⟩
    obtain rfl : s = 32 := by omega
    refine br_t (nI_le (a := 32) (Nat.le_refl 32) (by omega)) ⟨vp_in_nI hlv (by omega), ?_⟩
    rw [nI_clamp (n := lv) (by omega)]
    exact h ps dr cp ex jp T rfl
  | succ m ih =>
    intro s n T ps dr cp ex jp hs hn hQ h
    obtain ⟨n, rfl⟩ : ∃ g, n = g + 1 := ⟨n - 1, by omega⟩
    have hv := dg_B_b hB (i := lv * 32 + s) (by omega)
    have e1 : nI lv * 32 + nI s = nI (lv * 32 + s) := by rw [show (32 : Int32) = nI 32 from rfl, pk_mul, nI_add]
    refine br_f (nI_ge (b := 32) (by omega) (by omega)) ?_
    rw [e1, nI_clamp (n := lv * 32 + s) (by omega), hv.1, nI_clamp (n := lv) (by omega)]
    refine ⟨vp_in_nI (by omega) (by omega), vp_in_nI hlv (by omega), yn_own hv.2 (hS lv hlv) (fun hw => br_f (by decide) ?_) (fun hw => br_t rfl (nm_r (nI_1 s) ?_))⟩
    · have hw' : dg_own (dg_bl a_bd lv s) (a_sd lv) := hw
      rw [dg_caps_y hw', List.foldl_append] at h
      refine yn_caps hB hlv (by omega) hQ fun ps' dr' cp' ex' jp' => nm_r (nI_1 s) ?_
      exact ih (s + 1) n _ ps' dr' cp' ex' jp' (by omega) (by omega) (dg_fold_Q _ hQ) h
    · have hw' : ¬ dg_own (dg_bl a_bd lv s) (a_sd lv) := hw
      rw [dg_caps_n hw'] at h
      exact ih (s + 1) n T ps dr cp ex jp (by omega) (by omega) hQ h
/-- all moves of a level -/
theorem yn_gen {f_lim f_last f_logN f_bestIdx : Int32} {a_bd a_sd a_dc a_mc a_ml a_mv a_ps a_dr a_cp a_ex a_jp a_log a_idx a_best : Nat → Int32} {post : SY → Prop} {lv : Nat} (hB : dg_B a_bd) (hS : dg_S a_sd) (hlv : lv < 4)
    (h : ∀ ps' dr' cp' ex' jp', post (f_lim, f_last, f_logN, f_bestIdx, a_bd, a_sd, a_dc, (dg_gen lv (dg_bl a_bd lv) (a_sd lv) a_mc a_ml a_mv).1, (dg_gen lv (dg_bl a_bd lv) (a_sd lv) a_mc a_ml a_mv).2.1, (dg_gen lv (dg_bl a_bd lv) (a_sd lv) a_mc a_ml a_mv).2.2, ps', dr', cp', ex', jp', a_log, a_idx, a_best)) :
    wpY_gen post (f_lim, f_last, f_logN, f_bestIdx, a_bd, a_sd, a_dc, a_mc, a_ml, a_mv, a_ps, a_dr, a_cp, a_ex, a_jp, a_log, a_idx, a_best) (nI lv) := by
  have hQ0 : dg_Q (upd a_mc lv 0, a_ml, a_mv) lv := ⟨0, by omega, pk_us⟩
  refine ⟨vp_in_nI hlv (by omega), nm_r (e' := upd a_mc lv 0) (by rw [nI_clamp (by omega)]) ⟨33, ?_⟩⟩
  refine yn_lm1 hB hS hlv 32 0 33 (upd a_mc lv 0, a_ml, a_mv) _ _ _ _ _ (by omega) (by omega) hQ0 ?_
  intro ps' dr' cp' ex' jp' T' eT
  have hQ' : dg_Q T' lv := by rw [eT]; exact dg_fold_Q _ hQ0
  obtain ⟨M, hM, eM⟩ := hQ'
  unfold dg_gen at h
  rw [← eT, eM] at h
  rw [eM]
  refine br_c (fun z => ⟨33, ?_⟩) (fun z => ?_)
  · rw [if_pos ((dg_le0 hM).mp z)] at h
    exact yn_lm2 hB hS hlv 32 0 33 T' ps' (by omega) (by omega) ⟨M, hM, eM⟩ fun ps'' => h ps'' dr' cp' ex' jp'
  · rw [if_neg (fun e => z ((dg_le0 hM).mpr e))] at h
    exact h ps' dr' cp' ex' jp'
end
section
/-! the component applies a move -/
theorem xa_row {post : Int32 → Prop} {a : Nat} (ha : a < 32) (h : post (nI (a / 4))) : wpX_rowOf post (nI a) := by
  refine ⟨yn_h4, ?_⟩
  rw [wx_4, pk_div (by omega) (by omega) (by omega)]
  exact h
def dg_colX (s : Int32) : Int32 := 2 * (s - s / 4 * 4) + (if s / 4 - s / 4 / 2 * 2 = 0 then 1 else 0)
theorem dg_colX_t : ∀ s, s < 32 → dg_colX (nI s) = nI (dg_co s) := by decide +kernel
theorem dg_colE_t : ∀ s, s < 32 → dg_colE (nI s) = nI (dg_co s) := by decide +kernel
theorem xa_colE {post : Int32 → Prop} {s : Int32} (h : post (dg_colX s)) : wpX_columnOf post s := by
  unfold wpX_columnOf
  unfold dg_colX at h
  refine ⟨yn_h4, yn_h2, br_c (fun a => ⟨yn_h4, ?_⟩) (fun a => ⟨yn_h4, ?_⟩)⟩
  · rw [if_pos a] at h; exact h
  · rw [if_neg a] at h; exact h
theorem xa_col {post : Int32 → Prop} {s : Nat} (hs : s < 32) (h : post (nI (dg_co s))) : wpX_columnOf post (nI s) :=
  xa_colE (by rw [dg_colX_t s hs]; exact h)
theorem xa_mid {post : Int32 → Prop} {a z : Nat} (ha : a < 32) (hz : z < 32) (h : post (nI (dg_mid a z))) : wpX_squareBetween post (nI a) (nI z) := by
  have h1 := dg_co_lt a
  have h2 := dg_co_lt z
  unfold wpX_squareBetween
  refine xa_row ha (xa_row hz ⟨yn_h2, nm_r (e' := nI ((a / 4 + z / 4) / 2)) ?_ (xa_col ha (xa_col hz ⟨yn_h2, nm_r (e' := nI ((dg_co a + dg_co z) / 2)) ?_ ⟨yn_h2, ?_⟩⟩))⟩)
  · rw [nI_add, show (2 : Int32) = nI 2 from rfl, pk_div (by omega) (by omega) (by omega)]
  · rw [nI_add, show (2 : Int32) = nI 2 from rfl, pk_div (by omega) (by omega) (by omega)]
  · rw [show (2 : Int32) = nI 2 from rfl, pk_div (by omega) (by omega) (by omega), wx_4, pk_mul, nI_add]
    exact h
theorem dg_rows2 : ∀ a, a < 8 → ∀ b, b < 8 → (nI b - nI a = 2 ↔ a + 2 = b) := by decide +kernel
theorem dg_rowsm2 : ∀ a, a < 8 → ∀ b, b < 8 → (nI b - nI a = -2 ↔ b + 2 = a) := by decide +kernel
theorem xa_cap {f_drawLimit f_logTotal f_gameStatus f_searchValue : Int32} {a_neighbours a_board a_sides a_counters a_moveTotals a_moveLengths a_moveSquares a_path a_jumped a_nextDirection a_wentOn a_nextMove a_bestMove a_bestValue a_log : Nat → Int32} {post : Int32 → Prop} {s L : Nat} {q : Nat → Nat} (hs : s < 192) (hL : 2 ≤ L) (hL2 : L ≤ 13) (hml : a_moveLengths s = nI L) (hq : ∀ k, k < L → q k < 32 ∧ a_moveSquares (s * 13 + k) = nI (q k))
    (h : post (nI (dg_C2 q L))) : wpX_countCaptures post (f_drawLimit, f_logTotal, f_gameStatus, f_searchValue, a_neighbours, a_board, a_sides, a_counters, a_moveTotals, a_moveLengths, a_moveSquares, a_path, a_jumped, a_nextDirection, a_wentOn, a_nextMove, a_bestMove, a_bestValue, a_log) (nI s) := by
  have h0 := hq 0 (by omega)
  have h1 := hq 1 (by omega)
  have e13 : nI s * 13 = nI (s * 13) := pk_mul s 13
  have join : (q 0 / 4 + 2 = q 1 / 4 ∨ q 1 / 4 + 2 = q 0 / 4) → wX_countCaptures_38 post (nI s) f_drawLimit f_logTotal f_gameStatus f_searchValue a_neighbours a_board a_sides a_counters a_moveTotals a_moveLengths a_moveSquares a_path a_jumped a_nextDirection a_wentOn a_nextMove a_bestMove a_bestValue a_log := by
    intro hz
    refine ⟨vp_in_nI hs (by omega), ?_⟩
    rw [nI_clamp (by omega), hml]
    have e : nI L - 1 = nI (dg_C2 q L) := by
      unfold dg_C2
      rw [if_pos hz]
      exact pk_sub (b := 1) (by omega)
    rw [e]
    exact h
  refine nm_r e13 ?_
  rw [nI_1 (s * 13), nI_clamp (n := s * 13 + 1) (by omega), nI_clamp (n := s * 13) (by omega), h1.2]
  refine ⟨vp_in_nI (by omega) (by omega), xa_row h1.1 ⟨vp_in_nI (by omega) (by omega), ?_⟩⟩
  have h0' : a_moveSquares (s * 13) = nI (q 0) := h0.2
  rw [h0']
  refine xa_row h0.1 (nm_e (br_c (fun z => join (Or.inl ?_)) (fun z => br_c (fun z2 => join (Or.inr ?_)) (fun z2 => ?_))))
  · exact (dg_rows2 _ (by have := h0.1; omega) _ (by have := h1.1; omega)).mp z
  · exact (dg_rowsm2 _ (by have := h0.1; omega) _ (by have := h1.1; omega)).mp z2
  · have e : dg_C2 q L = 0 := by
      unfold dg_C2
      rw [if_neg]
      rintro (y | y)
      · exact z ((dg_rows2 _ (by have := h0.1; omega) _ (by have := h1.1; omega)).mpr y)
      · exact z2 ((dg_rowsm2 _ (by have := h0.1; omega) _ (by have := h1.1; omega)).mpr y)
    rw [e] at h
    exact h
theorem xa_copy_l {f_drawLimit f_logTotal f_gameStatus f_searchValue : Int32} {a_neighbours a_sides a_counters a_moveTotals a_moveLengths a_moveSquares a_path a_jumped a_nextDirection a_wentOn a_nextMove a_bestMove a_bestValue a_log : Nat → Int32} {post : SX → Prop} {bd : Nat → Int32} {s t : Nat} (hs : s < 4) (ht : t < 4) (h : post (f_drawLimit, f_logTotal, f_gameStatus, f_searchValue, a_neighbours, dg_cb bd s t 32, a_sides, a_counters, a_moveTotals, a_moveLengths, a_moveSquares, a_path, a_jumped, a_nextDirection, a_wentOn, a_nextMove, a_bestMove, a_bestValue, a_log)) :
    ∀ m i n, i + m = 32 → m < n → wX_copyBoard_2 post (nI s) (nI t) f_drawLimit f_logTotal f_gameStatus f_searchValue n (nI i) a_neighbours (dg_cb bd s t i) a_sides a_counters a_moveTotals a_moveLengths a_moveSquares a_path a_jumped a_nextDirection a_wentOn a_nextMove a_bestMove a_bestValue a_log := by
  intro m
  induction m with
  | zero =>
    intro i n hi hn
    obtain ⟨n, rfl⟩ : ∃ g, n = g + 1 := ⟨n - 1, by omega⟩
    obtain rfl : i = 32 := by omega
    exact br_t (nI_le (a := 32) (Nat.le_refl 32) (by omega)) h
  | succ m ih =>
    intro i n hi hn
    obtain ⟨n, rfl⟩ : ∃ g, n = g + 1 := ⟨n - 1, by omega⟩
    have e1 : nI s * 32 + nI i = nI (s * 32 + i) := by rw [show (32 : Int32) = nI 32 from rfl, pk_mul, nI_add]
    have e2 : nI t * 32 + nI i = nI (t * 32 + i) := by rw [show (32 : Int32) = nI 32 from rfl, pk_mul, nI_add]
    refine br_f (nI_ge (b := 32) (by omega) (by omega)) ?_
    rw [e1, e2]
    refine ⟨vp_in_nI (by omega) (by omega), vp_in_nI (by omega) (by omega), nm_r (e' := dg_cb bd s t (i + 1)) ?_ (nm_r (nI_1 i) (ih (i + 1) n (by omega) (by omega)))⟩
    rw [nI_clamp (by omega), nI_clamp (by omega)]
    rfl
theorem xa_copy {f_drawLimit f_logTotal f_gameStatus f_searchValue : Int32} {a_neighbours a_board a_sides a_counters a_moveTotals a_moveLengths a_moveSquares a_path a_jumped a_nextDirection a_wentOn a_nextMove a_bestMove a_bestValue a_log : Nat → Int32} {post : SX → Prop} {s t : Nat} (hs : s < 4) (ht : t < 4) (h : post (f_drawLimit, f_logTotal, f_gameStatus, f_searchValue, a_neighbours, dg_cb a_board s t 32, a_sides, a_counters, a_moveTotals, a_moveLengths, a_moveSquares, a_path, a_jumped, a_nextDirection, a_wentOn, a_nextMove, a_bestMove, a_bestValue, a_log)) : wpX_copyBoard post (f_drawLimit, f_logTotal, f_gameStatus, f_searchValue, a_neighbours, a_board, a_sides, a_counters, a_moveTotals, a_moveLengths, a_moveSquares, a_path, a_jumped, a_nextDirection, a_wentOn, a_nextMove, a_bestMove, a_bestValue, a_log) (nI s) (nI t) :=
  ⟨33, xa_copy_l (bd := a_board) hs ht h 32 0 33 (by omega) (by omega)⟩
theorem xa_201 {f_drawLimit f_logTotal f_gameStatus f_searchValue : Int32} {a_neighbours a_board a_sides a_counters a_moveTotals a_moveLengths a_moveSquares a_path a_jumped a_nextDirection a_wentOn a_nextMove a_bestMove a_bestValue a_log : Nat → Int32} {post : SX → Prop} {s t : Nat} {z : Int32} (hs : s < 4) (ht : t < 4) (h : post (f_drawLimit, f_logTotal, f_gameStatus, f_searchValue, a_neighbours, a_board, dg_as a_sides s t, upd a_counters t z, a_moveTotals, a_moveLengths, a_moveSquares, a_path, a_jumped, a_nextDirection, a_wentOn, a_nextMove, a_bestMove, a_bestValue, a_log)) : wX_applyMove_201 post (nI s) (nI t) z (nI t) f_drawLimit f_logTotal f_gameStatus f_searchValue a_neighbours a_board a_sides a_counters a_moveTotals a_moveLengths a_moveSquares a_path a_jumped a_nextDirection a_wentOn a_nextMove a_bestMove a_bestValue a_log := by
  have es : (nI s).toNatClampNeg = s := nI_clamp (by omega)
  have et : (nI t).toNatClampNeg = t := nI_clamp (by omega)
  unfold dg_as at h
  refine ⟨vp_in_nI ht (by omega), nm_r (e' := upd a_counters t z) (by rw [et]) ⟨vp_in_nI hs (by omega), ?_⟩⟩
  rw [es]
  refine br_c (fun a => ⟨vp_in_nI ht (by omega), nm_r ?_ h⟩) (fun a => ⟨vp_in_nI ht (by omega), nm_r ?_ h⟩)
  · rw [et, if_pos a]
  · rw [et, if_neg a]
theorem xa_170 {f_drawLimit f_logTotal f_gameStatus f_searchValue : Int32} {a_neighbours a_board a_sides a_counters a_moveTotals a_moveLengths a_moveSquares a_path a_jumped a_nextDirection a_wentOn a_nextMove a_bestMove a_bestValue a_log : Nat → Int32} {post : SX → Prop} {s t C c o : Nat} {z0 : Int32} (hs : s < 4) (ht : t < 4) (hC : C < 100) (hc : c ≤ 4) (ho : o < 32)
    (h : post (f_drawLimit, f_logTotal, f_gameStatus, f_searchValue, a_neighbours, upd a_board (t * 32 + o) z0, dg_as a_sides s t, upd a_counters t (if 0 < C ∨ c = 1 ∨ c = 3 then 0 else a_counters s + 1), a_moveTotals, a_moveLengths, a_moveSquares, a_path, a_jumped, a_nextDirection, a_wentOn, a_nextMove, a_bestMove, a_bestValue, a_log)) : wX_applyMove_170 post (nI s) (nI t) (nI C) (nI c) z0 (nI (t * 32 + o)) f_drawLimit f_logTotal f_gameStatus f_searchValue a_neighbours a_board a_sides a_counters a_moveTotals a_moveLengths a_moveSquares a_path a_jumped a_nextDirection a_wentOn a_nextMove a_bestMove a_bestValue a_log := by
  have es : (nI s).toNatClampNeg = s := nI_clamp (by omega)
  refine ⟨vp_in_nI (by omega) (by omega), nm_r (e' := upd a_board (t * 32 + o) z0) (by rw [nI_clamp (by omega)]) (pk_lt 0 C (fun a => ?_) (fun a => ?_))⟩
  · rw [if_pos (Or.inl a)] at h
    exact xa_201 hs ht h
  · refine pk_eq c 1 (fun e => br_f (by decide) ?_) (fun e => pk_eq c 3 (fun e3 => br_f (by decide) ?_) (fun e3 => br_t rfl ⟨vp_in_nI hs (by omega), ?_⟩))
    · rw [if_pos (Or.inr (Or.inl e))] at h
      exact xa_201 hs ht h
    · rw [if_pos (Or.inr (Or.inr e3))] at h
      exact xa_201 hs ht h
    · rw [if_neg (by omega)] at h
      rw [es]
      exact xa_201 hs ht h
theorem xa_87 {f_drawLimit f_logTotal f_gameStatus f_searchValue : Int32} {a_neighbours a_sides a_counters a_moveTotals a_moveLengths a_moveSquares a_path a_jumped a_nextDirection a_wentOn a_nextMove a_bestMove a_bestValue a_log : Nat → Int32} {post : SX → Prop} {bd : Nat → Int32} {s t o C c sl L : Nat} {q : Nat → Nat} (hs : s < 4) (ht : t < 4) (hC : C < 13) (hC2 : C = 0 ∨ C + 1 = L) (hsl : sl < 192) (hc : c ≤ 4) (ho : o < 32) (hL : L ≤ 13) (hq : ∀ k, k < L → q k < 32 ∧ a_moveSquares (sl * 13 + k) = nI (q k))
    (h : post (f_drawLimit, f_logTotal, f_gameStatus, f_searchValue, a_neighbours, upd (dg_tk bd t q C) (t * 32 + o) (nI (c + dg_cro c o)), dg_as a_sides s t, upd a_counters t (if 0 < C ∨ c = 1 ∨ c = 3 then 0 else a_counters s + 1), a_moveTotals, a_moveLengths, a_moveSquares, a_path, a_jumped, a_nextDirection, a_wentOn, a_nextMove, a_bestMove, a_bestValue, a_log)) :
    ∀ m i n, i + m = C → m < n → wX_applyMove_87 post (nI s) (nI t) (nI (sl * 13)) (nI o) (nI C) (nI c) f_drawLimit f_logTotal f_gameStatus f_searchValue n (nI i) a_neighbours (dg_tk bd t q i) a_sides a_counters a_moveTotals a_moveLengths a_moveSquares a_path a_jumped a_nextDirection a_wentOn a_nextMove a_bestMove a_bestValue a_log := by
  have e2 : nI t * 32 + nI o = nI (t * 32 + o) := by rw [show (32 : Int32) = nI 32 from rfl, pk_mul, nI_add]
  intro m
  induction m with
  | zero =>
    intro i n hi hn
    obtain ⟨n, rfl⟩ : ∃ g, n = g + 1 := ⟨n - 1, by omega⟩
    obtain rfl : i = C := by omega
    refine br_t (nI_le (Nat.le_refl i) (by omega)) (wx_cro hc ho ?_)
    rw [e2]
    refine pk_eq (dg_cro c o) 0 (fun z => ?_) (fun z => ?_) (ha := by unfold dg_cro; split <;> omega)
    · rw [z] at h
      exact xa_170 hs ht (by omega) hc ho h
    · have e1 : dg_cro c o = 1 := by
        unfold dg_cro at z ⊢
        split at z
        · rw [if_pos ‹_›]
        · exact absurd rfl z
      rw [e1] at h
      rw [nI_1]
      exact xa_170 hs ht (by omega) hc ho h
  | succ m ih =>
    intro i n hi hn
    obtain ⟨n, rfl⟩ : ∃ g, n = g + 1 := ⟨n - 1, by omega⟩
    have e1 : nI (sl * 13) + nI i = nI (sl * 13 + i) := nI_add _ _
    have a1 := hq i (by omega)
    have a2 := hq (i + 1) (by omega)
    have hm := dg_mid_lt a1.1 a2.1
    have e3 : nI t * 32 + nI (dg_mid (q i) (q (i + 1))) = nI (t * 32 + dg_mid (q i) (q (i + 1))) := by rw [show (32 : Int32) = nI 32 from rfl, pk_mul, nI_add]
    have a2' : a_moveSquares (sl * 13 + i + 1) = nI (q (i + 1)) := a2.2
    refine br_f (nI_ge (by omega) (by omega)) ?_
    rw [e1, nI_1 (sl * 13 + i), nI_clamp (n := sl * 13 + i) (by omega), nI_clamp (n := sl * 13 + i + 1) (by omega), a1.2, a2']
    refine ⟨vp_in_nI (by omega) (by omega), vp_in_nI (by omega) (by omega), xa_mid a1.1 a2.1 ?_⟩
    rw [e3]
    refine ⟨vp_in_nI (by omega) (by omega), nm_r (e' := dg_tk bd t q (i + 1)) ?_ (nm_r (nI_1 i) (ih (i + 1) n (by omega) (by omega)))⟩
    rw [nI_clamp (by omega)]
    rfl
theorem dg_C2_c {q : Nat → Nat} {L : Nat} (hL : 2 ≤ L) : dg_C2 q L = 0 ∨ dg_C2 q L + 1 = L := by
  unfold dg_C2
  split
  · right; omega
  · left; rfl
theorem xa_apply {f_drawLimit f_logTotal f_gameStatus f_searchValue : Int32} {a_neighbours a_board a_sides a_counters a_moveTotals a_moveLengths a_moveSquares a_path a_jumped a_nextDirection a_wentOn a_nextMove a_bestMove a_bestValue a_log : Nat → Int32} {post : SX → Prop} {s i t : Nat} (hB : dg_B a_board) (hs : s < 4) (ht : t < 4) (hi : i < 48) (hM : dg_M a_moveLengths a_moveSquares (s * 48 + i))
    (h : post (f_drawLimit, f_logTotal, f_gameStatus, f_searchValue, a_neighbours, dg_ab a_board s t (dg_l a_moveLengths (s * 48 + i)) (dg_q a_moveSquares (s * 48 + i)), dg_as a_sides s t, dg_ad a_counters a_board s t (dg_l a_moveLengths (s * 48 + i)) (dg_q a_moveSquares (s * 48 + i)), a_moveTotals, a_moveLengths, a_moveSquares, a_path, a_jumped, a_nextDirection, a_wentOn, a_nextMove, a_bestMove, a_bestValue, a_log)) : wpX_applyMove post (f_drawLimit, f_logTotal, f_gameStatus, f_searchValue, a_neighbours, a_board, a_sides, a_counters, a_moveTotals, a_moveLengths, a_moveSquares, a_path, a_jumped, a_nextDirection, a_wentOn, a_nextMove, a_bestMove, a_bestValue, a_log) (nI s) (nI i) (nI t) := by
  obtain ⟨hL, hL2, hml, hq, hk⟩ := dg_M_c hM
  generalize dg_l a_moveLengths (s * 48 + i) = L at *
  generalize dg_q a_moveSquares (s * 48 + i) = q at *
  have hC := dg_C2_c (q := q) hL
  have hq0 := hq 0 (by omega)
  have hqL := hq (L - 1) (by omega)
  have hq0' : a_moveSquares ((s * 48 + i) * 13) = nI (q 0) := hq0.2
  have e1 : nI s * 48 + nI i = nI (s * 48 + i) := by rw [show (48 : Int32) = nI 48 from rfl, pk_mul, nI_add]
  have e2 : nI ((s * 48 + i) * 13) + nI L - 1 = nI ((s * 48 + i) * 13 + (L - 1)) := by
    rw [nI_add]
    have : nI ((s * 48 + i) * 13 + L) - 1 = nI ((s * 48 + i) * 13 + L - 1) := pk_sub (b := 1) (by omega)
    rw [this]
    exact congrArg nI (by omega)
  have hv := dg_B_b hB (i := s * 32 + q 0) (by omega)
  have e3 : nI s * 32 + nI (q 0) = nI (s * 32 + q 0) := by rw [show (32 : Int32) = nI 32 from rfl, pk_mul, nI_add]
  have e4 : nI t * 32 + nI (q 0) = nI (t * 32 + q 0) := by rw [show (32 : Int32) = nI 32 from rfl, pk_mul, nI_add]
  refine nm_r e1 (nm_r (pk_mul (s * 48 + i) 13) ⟨vp_in_nI (by omega) (by omega), nm_r (e' := nI (q 0)) (by rw [nI_clamp (by omega), hq0']) ⟨vp_in_nI (by omega) (by omega), ?_⟩⟩)
  rw [nI_clamp (n := s * 48 + i) (by omega), hml, e2]
  refine ⟨vp_in_nI (by omega) (by omega), nm_r (e' := nI (q (L - 1))) (by rw [nI_clamp (by omega), hqL.2]) (xa_cap (by omega) hL hL2 hml hq ?_)⟩
  rw [e3]
  refine ⟨vp_in_nI (by omega) (by omega), nm_r (e' := nI (dg_b a_board (s * 32 + q 0))) (by rw [nI_clamp (by omega)]; exact hv.1) (xa_copy hs ht ?_)⟩
  rw [e4]
  refine ⟨vp_in_nI (by omega) (by omega), nm_r (e' := upd (dg_cb a_board s t 32) (t * 32 + q 0) 0) (by rw [nI_clamp (by omega)]) ⟨14, ?_⟩⟩
  exact xa_87 (bd := upd (dg_cb a_board s t 32) (t * 32 + q 0) 0) hs ht (by omega) hC (by omega) hv.2 hqL.1 hL2 hq h (dg_C2 q L) 0 14 (by omega) (by omega)
theorem xa_desc {f_drawLimit f_logTotal f_gameStatus f_searchValue : Int32} {a_neighbours a_board a_sides a_counters a_moveTotals a_moveLengths a_moveSquares a_path a_jumped a_nextDirection a_wentOn a_nextMove a_bestMove a_bestValue a_log : Nat → Int32} {post : Int32 → Prop} {i : Nat} (hB : dg_B a_board) (hi : i < 48) (hM : dg_M a_moveLengths a_moveSquares (0 * 48 + i))
    (h : post (dg_en a_board 0 (dg_l a_moveLengths (0 * 48 + i)) (dg_q a_moveSquares (0 * 48 + i)))) : wpX_describeMove post (f_drawLimit, f_logTotal, f_gameStatus, f_searchValue, a_neighbours, a_board, a_sides, a_counters, a_moveTotals, a_moveLengths, a_moveSquares, a_path, a_jumped, a_nextDirection, a_wentOn, a_nextMove, a_bestMove, a_bestValue, a_log) (nI i) := by
  obtain ⟨hL, hL2, hml, hq, hk⟩ := dg_M_c hM
  rw [show 0 * 48 + i = i by omega] at *
  generalize dg_l a_moveLengths i = L at *
  generalize dg_q a_moveSquares i = q at *
  have hC := dg_C2_c (q := q) hL
  have hq0 := hq 0 (by omega)
  have hqL := hq (L - 1) (by omega)
  have hq0' : a_moveSquares (i * 13) = nI (q 0) := hq0.2
  have e2 : nI (i * 13) + nI L - 1 = nI (i * 13 + (L - 1)) := by
    rw [nI_add]
    have : nI (i * 13 + L) - 1 = nI (i * 13 + L - 1) := pk_sub (b := 1) (by omega)
    rw [this]
    exact congrArg nI (by omega)
  have hv := dg_B_b hB (i := 0 * 32 + q 0) (by omega)
  have hv1 : a_board (q 0) = nI (dg_b a_board (0 * 32 + q 0)) := by
    have := hv.1
    rw [show 0 * 32 + q 0 = q 0 by omega] at this ⊢
    exact this
  refine nm_r (pk_mul i 13) ⟨vp_in_nI (by omega) (by omega), nm_r (e' := nI (q 0)) (by rw [nI_clamp (by omega), hq0']) ⟨vp_in_nI (by omega) (by omega), ?_⟩⟩
  rw [nI_clamp (n := i) (by omega), hml, e2]
  refine ⟨vp_in_nI (by omega) (by omega), nm_r (e' := nI (q (L - 1))) (by rw [nI_clamp (by omega), hqL.2]) ⟨vp_in_nI (by omega) (by omega), ?_⟩⟩
  rw [nI_clamp (n := q 0) (by omega), hv1]
  have go : ∀ z : Nat, z = dg_cro (dg_b a_board (0 * 32 + q 0)) (q (L - 1)) → wX_describeMove_48 post (nI i) (nI (q 0)) (nI (q (L - 1))) (nI z) f_drawLimit f_logTotal f_gameStatus f_searchValue a_neighbours a_board a_sides a_counters a_moveTotals a_moveLengths a_moveSquares a_path a_jumped a_nextDirection a_wentOn a_nextMove a_bestMove a_bestValue a_log := by
    intro z hz
    unfold wX_describeMove_48
    refine xa_cap (by omega) hL hL2 hml hq ?_
    unfold dg_en at h
    rw [← hz] at h
    rw [show (32 : Int32) = nI 32 from rfl, show (1024 : Int32) = nI 1024 from rfl, show (16384 : Int32) = nI 16384 from rfl, pk_mul, pk_mul, pk_mul, nI_add, nI_add, nI_add]
    exact h
  refine wx_cro hv.2 hqL.1 (pk_eq (dg_cro (dg_b a_board (0 * 32 + q 0)) (q (L - 1))) 0 (fun z => go 0 z.symm) (fun z => go 1 ?_) (ha := by unfold dg_cro; split <;> omega))
  unfold dg_cro at z ⊢
  split at z
  · rw [if_pos ‹_›]
  · exact absurd rfl z
end
section
/-! the reference applies a move -/
theorem ya_col {f_lim f_last f_logN f_bestIdx : Int32} {a_bd a_sd a_dc a_mc a_ml a_mv a_ps a_dr a_cp a_ex a_jp a_log a_idx a_best : Nat → Int32} {post : Int32 → Prop} {s : Nat} (hs : s < 32) (h : post (nI (dg_co s))) : wpY_col post (f_lim, f_last, f_logN, f_bestIdx, a_bd, a_sd, a_dc, a_mc, a_ml, a_mv, a_ps, a_dr, a_cp, a_ex, a_jp, a_log, a_idx, a_best) (nI s) :=
  yn_col (by rw [dg_colE_t s hs]; exact h)
theorem dg_as_1 {x : Int32} (h : x = 0 ∨ x = 1) : 1 - x = if x = 0 then 1 else 0 := by
  rcases h with rfl | rfl <;> decide
theorem ya_339 {f_lim f_last f_logN f_bestIdx : Int32} {a_bd a_sd a_dc a_mc a_ml a_mv a_ps a_dr a_cp a_ex a_jp a_log a_idx a_best : Nat → Int32} {post : Int32 → SY → Prop} {s t q0 o C cr : Nat} {z : Int32} (hS : dg_S a_sd) (hs : s < 4) (ht : t < 4)
    (h : post (nI (q0 + 32 * o + 1024 * C + 16384 * cr)) (f_lim, f_last, f_logN, f_bestIdx, a_bd, dg_as a_sd s t, upd a_dc t z, a_mc, a_ml, a_mv, a_ps, a_dr, a_cp, a_ex, a_jp, a_log, a_idx, a_best)) : wY_apply_339 post (nI s) (nI t) (nI q0) (nI o) (nI C) (nI cr) z (nI t) f_lim f_last f_logN f_bestIdx a_bd a_sd a_dc a_mc a_ml a_mv a_ps a_dr a_cp a_ex a_jp a_log a_idx a_best := by
  have es : (nI s).toNatClampNeg = s := nI_clamp (by omega)
  have et : (nI t).toNatClampNeg = t := nI_clamp (by omega)
  unfold dg_as at h
  refine ⟨vp_in_nI ht (by omega), nm_r (e' := upd a_dc t z) (by rw [et]) ⟨vp_in_nI hs (by omega), vp_in_nI ht (by omega), nm_r (e' := upd a_sd t (if a_sd s = 0 then 1 else 0)) (by rw [es, et, dg_as_1 (hS s hs)]) ?_⟩⟩
  rw [show (32 : Int32) = nI 32 from rfl, show (1024 : Int32) = nI 1024 from rfl, show (16384 : Int32) = nI 16384 from rfl, pk_mul, pk_mul, pk_mul, nI_add, nI_add, nI_add]
  exact h
theorem ya_300 {f_lim f_last f_logN f_bestIdx : Int32} {a_bd a_sd a_dc a_mc a_ml a_mv a_ps a_dr a_cp a_ex a_jp a_log a_idx a_best : Nat → Int32} {post : Int32 → SY → Prop} {s t q0 o C cr c : Nat} {x12 : Int32} (hS : dg_S a_sd) (hs : s < 4) (ht : t < 4) (hC : C < 100) (ho : o < 32)
    (h : post (nI (q0 + 32 * o + 1024 * C + 16384 * cr)) (f_lim, f_last, f_logN, f_bestIdx, upd a_bd (t * 32 + o) (nI c), dg_as a_sd s t, upd a_dc t (if 0 < C ∨ ¬ x12 = 0 then 0 else a_dc s + 1), a_mc, a_ml, a_mv, a_ps, a_dr, a_cp, a_ex, a_jp, a_log, a_idx, a_best)) : wY_apply_300 post (nI s) (nI t) (nI (t * 32)) (nI q0) (nI o) (nI c) (nI C) x12 (nI cr) f_lim f_last f_logN f_bestIdx a_bd a_sd a_dc a_mc a_ml a_mv a_ps a_dr a_cp a_ex a_jp a_log a_idx a_best := by
  have es : (nI s).toNatClampNeg = s := nI_clamp (by omega)
  have e1 : nI (t * 32) + nI o = nI (t * 32 + o) := nI_add _ _
  unfold wY_apply_300
  rw [e1]
  refine ⟨vp_in_nI (by omega) (by omega), nm_r (e' := upd a_bd (t * 32 + o) (nI c)) (by rw [nI_clamp (by omega)]) (pk_lt 0 C (fun a => ?_) (fun a => br_c (fun b => ⟨vp_in_nI hs (by omega), ?_⟩) (fun b => ?_)))⟩
  · rw [if_pos (Or.inl a)] at h
    exact ya_339 hS hs ht h
  · rw [if_neg (by
      rintro (z | z)
      · omega
      · exact z b)] at h
    rw [es]
    exact ya_339 hS hs ht h
  · rw [if_pos (Or.inr b)] at h
    exact ya_339 hS hs ht h
theorem ya_264 {f_lim f_last f_logN f_bestIdx : Int32} {a_bd a_sd a_dc a_mc a_ml a_mv a_ps a_dr a_cp a_ex a_jp a_log a_idx a_best : Nat → Int32} {post : Int32 → SY → Prop} {s t q0 o C c : Nat} {x12 : Int32} (hS : dg_S a_sd) (hs : s < 4) (ht : t < 4) (hC : C < 100) (ho : o < 32) (hc : c ≤ 4)
    (h : post (nI (q0 + 32 * o + 1024 * C + 16384 * dg_cro c o)) (f_lim, f_last, f_logN, f_bestIdx, upd a_bd (t * 32 + o) (nI (c + dg_cro c o)), dg_as a_sd s t, upd a_dc t (if 0 < C ∨ ¬ x12 = 0 then 0 else a_dc s + 1), a_mc, a_ml, a_mv, a_ps, a_dr, a_cp, a_ex, a_jp, a_log, a_idx, a_best)) : wY_apply_264 post (nI s) (nI t) (nI (t * 32)) (nI q0) (nI o) (nI c) (nI C) x12 f_lim f_last f_logN f_bestIdx a_bd a_sd a_dc a_mc a_ml a_mv a_ps a_dr a_cp a_ex a_jp a_log a_idx a_best := by
  have y : dg_cro c o = 1 → wY_apply_294 post (nI s) (nI t) (nI (t * 32)) (nI q0) (nI o) (nI c) (nI C) x12 f_lim f_last f_logN f_bestIdx a_bd a_sd a_dc a_mc a_ml a_mv a_ps a_dr a_cp a_ex a_jp a_log a_idx a_best := by
    intro e
    rw [e] at h
    exact nm_r (nI_1 c) (ya_300 (cr := 1) hS hs ht hC ho h)
  have n : dg_cro c o = 0 → wY_apply_300 post (nI s) (nI t) (nI (t * 32)) (nI q0) (nI o) (nI c) (nI C) x12 0 f_lim f_last f_logN f_bestIdx a_bd a_sd a_dc a_mc a_ml a_mv a_ps a_dr a_cp a_ex a_jp a_log a_idx a_best := by
    intro e
    rw [e] at h
    exact ya_300 (cr := 0) hS hs ht hC ho h
  have n2 : ¬ (c = 1 ∧ 28 ≤ o) → wY_apply_282 post (nI s) (nI t) (nI (t * 32)) (nI q0) (nI o) (nI c) (nI C) x12 0 f_lim f_last f_logN f_bestIdx a_bd a_sd a_dc a_mc a_ml a_mv a_ps a_dr a_cp a_ex a_jp a_log a_idx a_best := by
    intro e1
    refine pk_eq c 3 (fun e3 => pk_lt 3 o (fun l => n (if_neg (by omega))) (fun l => y (if_pos (by omega)))) (fun e3 => n (if_neg (by omega)))
  exact pk_eq c 1 (fun e => pk_le 28 o (fun l => y (if_pos (Or.inl ⟨e, l⟩))) (fun l => n2 (by omega))) (fun e => n2 (by omega))
/-- behind the loop of the takes -/
theorem ya_end {f_lim f_last f_logN f_bestIdx : Int32} {a_bd a_sd a_dc a_mc a_ml a_mv a_ps a_dr a_cp a_ex a_jp a_log a_idx a_best : Nat → Int32} {post : Int32 → SY → Prop} {s t q0 o C c : Nat} (hS : dg_S a_sd) (hs : s < 4) (ht : t < 4) (hC : C < 100) (ho : o < 32) (hc : c ≤ 4)
    (h : post (nI (q0 + 32 * o + 1024 * C + 16384 * dg_cro c o)) (f_lim, f_last, f_logN, f_bestIdx, upd a_bd (t * 32 + o) (nI (c + dg_cro c o)), dg_as a_sd s t, upd a_dc t (if 0 < C ∨ c = 1 ∨ c = 3 then 0 else a_dc s + 1), a_mc, a_ml, a_mv, a_ps, a_dr, a_cp, a_ex, a_jp, a_log, a_idx, a_best)) :
    ((nI c = 1 → wY_apply_259 post (nI s) (nI t) (nI (t * 32)) (nI q0) (nI o) (nI c) (nI C) f_lim f_last f_logN f_bestIdx a_bd a_sd a_dc a_mc a_ml a_mv a_ps a_dr a_cp a_ex a_jp a_log a_idx a_best) ∧ (¬ nI c = 1 → ((nI c = 3 → wY_apply_259 post (nI s) (nI t) (nI (t * 32)) (nI q0) (nI o) (nI c) (nI C) f_lim f_last f_logN f_bestIdx a_bd a_sd a_dc a_mc a_ml a_mv a_ps a_dr a_cp a_ex a_jp a_log a_idx a_best) ∧ (¬ nI c = 3 → wY_apply_264 post (nI s) (nI t) (nI (t * 32)) (nI q0) (nI o) (nI c) (nI C) 0 f_lim f_last f_logN f_bestIdx a_bd a_sd a_dc a_mc a_ml a_mv a_ps a_dr a_cp a_ex a_jp a_log a_idx a_best)))) := by
  have n1 : ¬ (1 : Int32) = 0 := by decide
  refine pk_eq c 1 (fun e => ?_) (fun e => pk_eq c 3 (fun e3 => ?_) (fun e3 => ?_))
  · rw [if_pos (by omega)] at h
    refine ya_264 (x12 := 1) hS hs ht hC ho hc ?_
    rw [if_pos (Or.inr n1)]
    exact h
  · rw [if_pos (by omega)] at h
    refine ya_264 (x12 := 1) hS hs ht hC ho hc ?_
    rw [if_pos (Or.inr n1)]
    exact h
  · refine ya_264 (x12 := 0) hS hs ht hC ho hc ?_
    have e : (if 0 < C ∨ c = 1 ∨ c = 3 then (0 : Int32) else a_dc s + 1) = (if 0 < C ∨ ¬ (0 : Int32) = 0 then 0 else a_dc s + 1) := by
      by_cases z : 0 < C
      · rw [if_pos (Or.inl z), if_pos (Or.inl z)]
      · rw [if_neg (by omega), if_neg (by
          rintro (a | a)
          · exact z a
          · exact a rfl)]
    rw [← e]
    exact h
theorem ya_129 {f_lim f_last f_logN f_bestIdx : Int32} {a_sd a_dc a_mc a_ml a_mv a_ps a_dr a_cp a_ex a_jp a_log a_idx a_best : Nat → Int32} {post : Int32 → SY → Prop} {bd : Nat → Int32} {s t q0 o c sl L : Nat} {q : Nat → Nat} (hS : dg_S a_sd) (hs : s < 4) (ht : t < 4) (hL : 2 ≤ L) (hL2 : L ≤ 13) (hsl : sl < 192) (hc : c ≤ 4) (ho : o < 32) (hq : ∀ k, k < L → q k < 32 ∧ a_mv (sl * 13 + k) = nI (q k)) (hD : ∀ k, k + 1 < L → dg_D2 (q k) (q (k + 1)))
    (h : post (nI (q0 + 32 * o + 1024 * (L - 1) + 16384 * dg_cro c o)) (f_lim, f_last, f_logN, f_bestIdx, upd (dg_tk bd t q (L - 1)) (t * 32 + o) (nI (c + dg_cro c o)), dg_as a_sd s t, upd a_dc t (if 0 < L - 1 ∨ c = 1 ∨ c = 3 then 0 else a_dc s + 1), a_mc, a_ml, a_mv, a_ps, a_dr, a_cp, a_ex, a_jp, a_log, a_idx, a_best)) :
    ∀ m i n, i + m = L - 1 → m < n → wY_apply_129 post (nI s) (nI t) (nI (sl * 13)) (nI L) (nI (t * 32)) (nI q0) (nI o) (nI c) f_lim f_last f_logN f_bestIdx n (nI i) (nI i) (dg_tk bd t q i) a_sd a_dc a_mc a_ml a_mv a_ps a_dr a_cp a_ex a_jp a_log a_idx a_best := by
  intro m
  induction m with
  | zero =>
    intro i n hi hn
    obtain ⟨n, rfl⟩ : ∃ g, n = g + 1 := ⟨n - 1, by omega⟩
    obtain rfl : i = L - 1 := by omega
    refine br_t ?_ (ya_end hS hs ht (by omega) ho hc h)
    rw [nI_1]
    exact nI_le (by omega) (by omega)
  | succ m ih =>
    intro i n hi hn
    obtain ⟨n, rfl⟩ : ∃ g, n = g + 1 := ⟨n - 1, by omega⟩
    have e1 : nI (sl * 13) + nI i = nI (sl * 13 + i) := nI_add _ _
    have a1 := hq i (by omega)
    have a2 := hq (i + 1) (by omega)
    have hm := dg_mid_lt a1.1 a2.1
    have a2' : a_mv (sl * 13 + i + 1) = nI (q (i + 1)) := a2.2
    have c1 := dg_co_lt (q i)
    have c2 := dg_co_lt (q (i + 1))
    have q1 := a1.1
    have q2 := a2.1
    have go : wY_apply_194 post (wY_apply_129 post (nI s) (nI t) (nI (sl * 13)) (nI L) (nI (t * 32)) (nI q0) (nI o) (nI c) f_lim f_last f_logN f_bestIdx n) (nI s) (nI t) (nI (sl * 13)) (nI L) (nI (t * 32)) (nI q0) (nI o) (nI c) (nI i) (nI i) (nI (q i)) (nI (q (i + 1))) (nI (q i / 4)) (nI (q (i + 1) / 4)) f_lim f_last f_logN f_bestIdx (dg_tk bd t q i) a_sd a_dc a_mc a_ml a_mv a_ps a_dr a_cp a_ex a_jp a_log a_idx a_best := by
      unfold wY_apply_194
      refine ya_col q1 (ya_col q2 ?_)
      have e5 : nI (t * 32) + (nI (q i / 4) + nI (q (i + 1) / 4)) / 2 * 4 + (nI (dg_co (q i)) + nI (dg_co (q (i + 1)))) / 2 / 2 = nI (t * 32 + dg_mid (q i) (q (i + 1))) := by
        unfold dg_mid
        rw [nI_add, nI_add, show (2 : Int32) = nI 2 from rfl, pk_div (by omega) (by omega) (by omega), pk_div (by omega) (by omega) (by omega), pk_div (by omega) (by omega) (by omega), wx_4, pk_mul, nI_add, nI_add]
        exact congrArg nI (by omega)
      rw [e5]
      refine ⟨yn_h2, yn_h2, yn_h2, vp_in_nI (by omega) (by omega), nm_r (e' := dg_tk bd t q (i + 1)) ?_ (nm_r (nI_1 i) (nm_r (nI_1 i) (ih (i + 1) n (by omega) (by omega))))⟩
      rw [nI_clamp (by omega)]
      rfl
    refine br_f ?_ ?_
    · rw [nI_1]
      exact nI_ge (by omega) (by omega)
    · rw [e1, nI_1 (sl * 13 + i), nI_clamp (n := sl * 13 + i) (by omega), nI_clamp (n := sl * 13 + i + 1) (by omega), a1.2, a2']
      refine ⟨vp_in_nI (by omega) (by omega), nm_e ⟨vp_in_nI (by omega) (by omega), nm_e ⟨yn_h4, nm_r (e' := nI (q i / 4)) (by rw [wx_4, pk_div (by omega) (by omega) (by omega)]) ⟨yn_h4, nm_r (e' := nI (q (i + 1) / 4)) (by rw [wx_4, pk_div (by omega) (by omega) (by omega)]) ?_⟩⟩⟩⟩
      refine br_c (fun _ => go) (fun z => br_t ?_ go)
      rcases hD i (by omega) with d | d
      · exact (dg_rows2 _ (by omega) _ (by omega)).mpr d
      · exact absurd ((dg_rows2 _ (by omega) _ (by omega)).mpr d) z
theorem ya_129s {f_lim f_last f_logN f_bestIdx : Int32} {a_bd a_sd a_dc a_mc a_ml a_mv a_ps a_dr a_cp a_ex a_jp a_log a_idx a_best : Nat → Int32} {post : Int32 → SY → Prop} {s t q0 o c sl : Nat} {q : Nat → Nat} (hS : dg_S a_sd) (hs : s < 4) (ht : t < 4) (hsl : sl < 192) (hc : c ≤ 4) (ho : o < 32) (hq : ∀ k, k < 2 → q k < 32 ∧ a_mv (sl * 13 + k) = nI (q k)) (hD : ¬ dg_D2 (q 0) (q 1))
    (h : post (nI (q0 + 32 * o + 1024 * 0 + 16384 * dg_cro c o)) (f_lim, f_last, f_logN, f_bestIdx, upd a_bd (t * 32 + o) (nI (c + dg_cro c o)), dg_as a_sd s t, upd a_dc t (if 0 < 0 ∨ c = 1 ∨ c = 3 then 0 else a_dc s + 1), a_mc, a_ml, a_mv, a_ps, a_dr, a_cp, a_ex, a_jp, a_log, a_idx, a_best)) :
    wY_apply_129 post (nI s) (nI t) (nI (sl * 13)) (nI 2) (nI (t * 32)) (nI q0) (nI o) (nI c) f_lim f_last f_logN f_bestIdx 2 (nI 0) (nI 0) a_bd a_sd a_dc a_mc a_ml a_mv a_ps a_dr a_cp a_ex a_jp a_log a_idx a_best := by
  have e1 : nI (sl * 13) + nI 0 = nI (sl * 13) := nI_add _ _
  have a1 := hq 0 (by omega)
  have a2 := hq 1 (by omega)
  have a1' : a_mv (sl * 13) = nI (q 0) := a1.2
  have q1 := a1.1
  have q2 := a2.1
  refine br_f (by decide) ?_
  rw [e1, nI_1 (sl * 13), nI_clamp (n := sl * 13) (by omega), nI_clamp (n := sl * 13 + 1) (by omega), a1', a2.2]
  refine ⟨vp_in_nI (by omega) (by omega), nm_e ⟨vp_in_nI (by omega) (by omega), nm_e ⟨yn_h4, nm_r (e' := nI (q 0 / 4)) (by rw [wx_4, pk_div (by omega) (by omega) (by omega)]) ⟨yn_h4, nm_r (e' := nI (q 1 / 4)) (by rw [wx_4, pk_div (by omega) (by omega) (by omega)]) ?_⟩⟩⟩⟩
  refine br_f (fun z => hD (Or.inr ((dg_rows2 _ (by omega) _ (by omega)).mp z))) (br_f (fun z => hD (Or.inl ((dg_rows2 _ (by omega) _ (by omega)).mp z))) (nm_r (nI_1 0) ?_))
  exact br_t (by decide) (ya_end (C := 0) hS hs ht (by omega) ho hc h)
theorem ya_77 {f_lim f_last f_logN f_bestIdx : Int32} {a_bd a_sd a_dc a_mc a_ml a_mv a_ps a_dr a_cp a_ex a_jp a_log a_idx a_best : Nat → Int32} {post : Int32 → SY → Prop} {bd0 : Nat → Int32} {s i t : Nat} (hB : dg_B bd0) (hS : dg_S a_sd) (hs : s < 4) (ht : t < 4) (hi : i < 48) (hM : dg_M a_ml a_mv (s * 48 + i)) (hbd : a_bd = dg_cb bd0 s t 32) (hpc : ∀ k, k < 32 → a_bd (t * 32 + k) = bd0 (s * 32 + k))
    (h : post (dg_en bd0 s (dg_l a_ml (s * 48 + i)) (dg_q a_mv (s * 48 + i))) (f_lim, f_last, f_logN, f_bestIdx, dg_ab bd0 s t (dg_l a_ml (s * 48 + i)) (dg_q a_mv (s * 48 + i)), dg_as a_sd s t, dg_ad a_dc bd0 s t (dg_l a_ml (s * 48 + i)) (dg_q a_mv (s * 48 + i)), a_mc, a_ml, a_mv, a_ps, a_dr, a_cp, a_ex, a_jp, a_log, a_idx, a_best)) :
    wY_apply_77 post (nI s) (nI t) (nI ((s * 48 + i) * 13)) (nI (dg_l a_ml (s * 48 + i))) (nI (t * 32)) f_lim f_last f_logN f_bestIdx a_bd a_sd a_dc a_mc a_ml a_mv a_ps a_dr a_cp a_ex a_jp a_log a_idx a_best := by
  obtain ⟨hL, hL2, hml, hq, hk⟩ := dg_M_c hM
  clear hM
  generalize dg_l a_ml (s * 48 + i) = L at *
  generalize dg_q a_mv (s * 48 + i) = q at *
  have hq0 := hq 0 (by omega)
  have hqL := hq (L - 1) (by omega)
  have hq0' : a_mv ((s * 48 + i) * 13) = nI (q 0) := hq0.2
  have e2 : nI ((s * 48 + i) * 13) + nI L - 1 = nI ((s * 48 + i) * 13 + (L - 1)) := by
    rw [nI_add]
    have : nI ((s * 48 + i) * 13 + L) - 1 = nI ((s * 48 + i) * 13 + L - 1) := pk_sub (b := 1) (by omega)
    rw [this]
    exact congrArg nI (by omega)
  have hv := dg_B_b hB (i := s * 32 + q 0) (by omega)
  have e4 : nI (t * 32) + nI (q 0) = nI (t * 32 + q 0) := nI_add _ _
  unfold wY_apply_77
  rw [e2]
  refine ⟨vp_in_nI (by omega) (by omega), nm_r (e' := nI (q 0)) (by rw [nI_clamp (by omega), hq0']) ⟨vp_in_nI (by omega) (by omega), nm_r (e' := nI (q (L - 1))) (by rw [nI_clamp (by omega), hqL.2]) ?_⟩⟩
  rw [e4]
  refine ⟨vp_in_nI (by omega) (by omega), nm_r (e' := nI (dg_b bd0 (s * 32 + q 0))) (by rw [nI_clamp (by omega), hpc _ hq0.1]; exact hv.1) ⟨vp_in_nI (by omega) (by omega), nm_r (e' := upd (dg_cb bd0 s t 32) (t * 32 + q 0) 0) (by rw [nI_clamp (by omega), hbd]) ?_⟩⟩
  unfold dg_en dg_ab dg_ad at h
  rcases hk with hD | ⟨rfl, hD⟩
  · have hC : dg_C2 q L = L - 1 := if_pos (hD 0 (by omega))
    rw [hC] at h
    exact ⟨L, ya_129 (bd := upd (dg_cb bd0 s t 32) (t * 32 + q 0) 0) hS hs ht hL hL2 (by omega) hv.2 hqL.1 hq hD h (L - 1) 0 L (by omega) (by omega)⟩
  · have hC : dg_C2 q 2 = 0 := if_neg hD
    rw [hC] at h
    exact ⟨2, ya_129s hS hs ht (by omega) hv.2 hqL.1 hq hD h⟩
theorem ya_44 {f_lim f_last f_logN f_bestIdx : Int32} {a_sd a_dc a_mc a_ml a_mv a_ps a_dr a_cp a_ex a_jp a_log a_idx a_best : Nat → Int32} {post : Int32 → SY → Prop} {bd : Nat → Int32} {s t : Nat} {x4 x5 : Int32} (hs : s < 4) (ht : t < 4) (h : wY_apply_77 post (nI s) (nI t) x4 x5 (nI (t * 32)) f_lim f_last f_logN f_bestIdx (dg_cb bd s t 32) a_sd a_dc a_mc a_ml a_mv a_ps a_dr a_cp a_ex a_jp a_log a_idx a_best) :
    ∀ m i n, i + m = 32 → m < n → wY_apply_44 post (nI s) (nI t) x4 x5 (nI (s * 32)) (nI (t * 32)) f_lim f_last f_logN f_bestIdx n (nI i) (dg_cb bd s t i) a_sd a_dc a_mc a_ml a_mv a_ps a_dr a_cp a_ex a_jp a_log a_idx a_best := by
  intro m
  induction m with
  | zero =>
    intro i n hi hn
    obtain ⟨n, rfl⟩ : ∃ g, n = g + 1 := ⟨n - 1, by omega⟩
    obtain rfl : i = 32 := by omega
    exact br_t (nI_le (a := 32) (Nat.le_refl 32) (by omega)) h
  | succ m ih =>
    intro i n hi hn
    obtain ⟨n, rfl⟩ : ∃ g, n = g + 1 := ⟨n - 1, by omega⟩
    have e1 : nI (s * 32) + nI i = nI (s * 32 + i) := nI_add _ _
    have e2 : nI (t * 32) + nI i = nI (t * 32 + i) := nI_add _ _
    refine br_f (nI_ge (b := 32) (by omega) (by omega)) ?_
    rw [e1, e2]
    refine ⟨vp_in_nI (by omega) (by omega), vp_in_nI (by omega) (by omega), nm_r (e' := dg_cb bd s t (i + 1)) ?_ (nm_r (nI_1 i) (ih (i + 1) n (by omega) (by omega)))⟩
    rw [nI_clamp (by omega), nI_clamp (by omega)]
    rfl
theorem ya_apply {f_lim f_last f_logN f_bestIdx : Int32} {a_bd a_sd a_dc a_mc a_ml a_mv a_ps a_dr a_cp a_ex a_jp a_log a_idx a_best : Nat → Int32} {post : Int32 → SY → Prop} {s i t : Nat} (hB : dg_B a_bd) (hS : dg_S a_sd) (hs : s < 4) (ht : t < 4) (hi : i < 48) (hM : dg_M a_ml a_mv (s * 48 + i))
    (h : post (dg_en a_bd s (dg_l a_ml (s * 48 + i)) (dg_q a_mv (s * 48 + i))) (f_lim, f_last, f_logN, f_bestIdx, dg_ab a_bd s t (dg_l a_ml (s * 48 + i)) (dg_q a_mv (s * 48 + i)), dg_as a_sd s t, dg_ad a_dc a_bd s t (dg_l a_ml (s * 48 + i)) (dg_q a_mv (s * 48 + i)), a_mc, a_ml, a_mv, a_ps, a_dr, a_cp, a_ex, a_jp, a_log, a_idx, a_best)) :
    wpY_apply post (f_lim, f_last, f_logN, f_bestIdx, a_bd, a_sd, a_dc, a_mc, a_ml, a_mv, a_ps, a_dr, a_cp, a_ex, a_jp, a_log, a_idx, a_best) (nI s) (nI i) (nI t) := by
  have hml := (dg_M_c hM).2.2.1
  have e1 : nI s * 48 + nI i = nI (s * 48 + i) := by rw [show (48 : Int32) = nI 48 from rfl, pk_mul, nI_add]
  unfold wpY_apply
  dsimp only
  rw [e1, nI_clamp (n := s * 48 + i) (by omega)]
  refine nm_r (pk_mul (s * 48 + i) 13) ⟨vp_in_nI (by omega) (by omega), nm_r hml (nm_r (pk_mul s 32) (nm_r (pk_mul t 32) (pk_eq s t (fun e => ?_) (fun e => ⟨33, ?_⟩))))⟩
  · subst e
    exact ya_77 hB hS hs ht hi hM (dg_cb_same a_bd s 32).symm (fun k hk => rfl) h
  · exact ya_44 (bd := a_bd) hs ht (ya_77 hB hS hs ht hi hM rfl (fun k hk => dg_cb_in a_bd s t 32 k e (by omega) hk) h) 32 0 33 (by omega) (by omega)
end
section
/-! the worth of a position on both sides -/
theorem xe_worth {post : Int32 → Prop} {c s : Nat} (hc : c ≤ 4) (hs : s < 32) (h : post (dg_i (dg_wo c s))) : wpX_worthOf post (nI c) (nI s) := by
  refine pk_eq c 1 (fun e => xa_row hs ?_) (fun e => pk_eq c 3 (fun e3 => xa_row hs ?_) (fun e3 => pk_eq c 0 (fun e0 => ?_) (fun e0 => ?_)))
  · have e1 : (100 : Int32) + 4 * nI (s / 4) = dg_i (dg_wo c s) := by
      rw [show (100 : Int32) = nI 100 from rfl, wx_4, pk_mul, nI_add, dg_i_nI]
      unfold dg_wo
      rw [if_pos e]
      exact congrArg dg_i (by omega)
    rw [e1]; exact h
  · have e1 : (100 : Int32) + 4 * (7 - nI (s / 4)) = dg_i (dg_wo c s) := by
      rw [show (100 : Int32) = nI 100 from rfl, show (7 : Int32) = nI 7 from rfl, pk_sub (by omega), wx_4, pk_mul, nI_add, dg_i_nI]
      unfold dg_wo
      rw [if_neg e, if_pos e3]
      exact congrArg dg_i (by omega)
    rw [e1]; exact h
  · have e1 : dg_wo c s = 0 := by unfold dg_wo; rw [if_neg e, if_neg e3, if_pos e0]
    rw [e1] at h; exact h
  · have e1 : dg_wo c s = 250 := by unfold dg_wo; rw [if_neg e, if_neg e3, if_neg e0]
    rw [e1] at h; exact h
theorem xe_ev_l {f_drawLimit f_logTotal f_gameStatus f_searchValue : Int32} {a_neighbours a_board a_sides a_counters a_moveTotals a_moveLengths a_moveSquares a_path a_jumped a_nextDirection a_wentOn a_nextMove a_bestMove a_bestValue a_log : Nat → Int32} {post : Int32 → Prop} {lv : Nat} (hB : dg_B a_board) (hS : dg_S a_sides) (hlv : lv < 4) :
    ∀ (m s n : Nat) (z : Int), s + m = 32 → m < n → post (dg_i (z + dg_ev (dg_bl a_board lv) (a_sides lv) m s)) → wX_evaluate_4 post (nI lv) f_drawLimit f_logTotal f_gameStatus f_searchValue a_neighbours a_board a_sides a_counters a_moveTotals a_moveLengths a_moveSquares a_path a_jumped a_nextDirection a_wentOn a_nextMove a_bestMove a_bestValue a_log n (dg_i z) (nI s) := by
  intro m
  induction m with
  | zero =>
    intro s n z hs hn h
    obtain ⟨n, rfl⟩ : ∃ g, n = g + 1 := ⟨n - 1, by omega⟩
    obtain rfl : s = 32 := by omega
    rw [dg_ev, Int.add_zero] at h
    exact br_t (nI_le (a := 32) (Nat.le_refl 32) (by omega)) h
  | succ m ih =>
    intro s n z hs hn h
    obtain ⟨n, rfl⟩ : ∃ g, n = g + 1 := ⟨n - 1, by omega⟩
    have hv := dg_B_b hB (i := lv * 32 + s) (by omega)
    have ho := wx_own (a_sides := a_sides) hB hS hlv (s := s) (by omega)
    have e1 : nI lv * 32 + nI s = nI (lv * 32 + s) := by rw [show (32 : Int32) = nI 32 from rfl, pk_mul, nI_add]
    refine br_f (nI_ge (b := 32) (by omega) (by omega)) ?_
    rw [e1, nI_clamp (n := lv * 32 + s) (by omega), hv.1, nI_clamp (n := lv) (by omega)]
    refine ⟨vp_in_nI (by omega) (by omega), nm_e (xe_worth hv.2 (by omega) (wx_col hv.2 ⟨vp_in_nI hlv (by omega), ?_⟩))⟩
    by_cases hw : dg_own (dg_bl a_board lv s) (a_sides lv)
    · rw [dg_ev_y hw, ← Int.add_assoc] at h
      exact br_t (ho.1.mpr hw) (nm_r (dg_i_add z _) (nm_r (nI_1 s) (ih (s + 1) n _ (by omega) (by omega) h)))
    · rw [dg_ev_n hw, ← Int.add_assoc] at h
      exact br_f (fun y => hw (ho.1.mp y)) (nm_r (by rw [dg_i_neg, dg_i_add]; rfl) (nm_r (nI_1 s) (ih (s + 1) n _ (by omega) (by omega) h)))
theorem xe_ev {f_drawLimit f_logTotal f_gameStatus f_searchValue : Int32} {a_neighbours a_board a_sides a_counters a_moveTotals a_moveLengths a_moveSquares a_path a_jumped a_nextDirection a_wentOn a_nextMove a_bestMove a_bestValue a_log : Nat → Int32} {post : Int32 → Prop} {lv : Nat} (hB : dg_B a_board) (hS : dg_S a_sides) (hlv : lv < 4) (h : post (dg_i (dg_ev (dg_bl a_board lv) (a_sides lv) 32 0))) : wpX_evaluate post (f_drawLimit, f_logTotal, f_gameStatus, f_searchValue, a_neighbours, a_board, a_sides, a_counters, a_moveTotals, a_moveLengths, a_moveSquares, a_path, a_jumped, a_nextDirection, a_wentOn, a_nextMove, a_bestMove, a_bestValue, a_log) (nI lv) := by
  refine ⟨33, xe_ev_l hB hS hlv 32 0 33 0 (by omega) (by omega) ?_⟩
  rw [Int.zero_add]
  exact h
theorem xe_loss (lv : Nat) : (-10000 : Int32) + nI lv = dg_i (-10000 + (lv : Int)) := by
  rw [dg_i_nI, show (-10000 : Int32) = dg_i (-10000) by decide, dg_i_add]
theorem xe_leafV {f_drawLimit f_logTotal f_gameStatus f_searchValue : Int32} {a_neighbours a_board a_sides a_counters a_moveTotals a_moveLengths a_moveSquares a_path a_jumped a_nextDirection a_wentOn a_nextMove a_bestMove a_bestValue a_log : Nat → Int32} {post : Int32 → Prop} {lv : Nat} (hB : dg_B a_board) (hS : dg_S a_sides) (hlv : lv < 4) (h : post (dg_i (dg_lv f_drawLimit lv (a_board, a_sides, a_counters, a_moveTotals, a_moveLengths, a_moveSquares)))) : wpX_leafValue post (f_drawLimit, f_logTotal, f_gameStatus, f_searchValue, a_neighbours, a_board, a_sides, a_counters, a_moveTotals, a_moveLengths, a_moveSquares, a_path, a_jumped, a_nextDirection, a_wentOn, a_nextMove, a_bestMove, a_bestValue, a_log) (nI lv) := by
  unfold dg_lv at h
  dsimp only at h
  refine ⟨vp_in_nI hlv (by omega), ?_⟩
  rw [nI_clamp (n := lv) (by omega), xe_loss]
  refine br_c (fun a => ?_) (fun a => ⟨vp_in_nI hlv (by omega), br_c (fun b => xe_ev hB hS hlv ?_) (fun b => ?_)⟩)
  · rw [if_pos a] at h; exact h
  · rw [if_neg a, if_neg (Int32.not_le.mpr b)] at h; exact h
  · rw [if_neg a, if_pos (Int32.not_lt.mp b)] at h; exact h
theorem xe_isLeaf {f_drawLimit f_logTotal f_gameStatus f_searchValue : Int32} {a_neighbours a_board a_sides a_counters a_moveTotals a_moveLengths a_moveSquares a_path a_jumped a_nextDirection a_wentOn a_nextMove a_bestMove a_bestValue a_log : Nat → Int32} {post : Int32 → Prop} {lv pl : Nat} (hlv : lv < 4) (hpl : pl < 4) (h1 : dg_lf f_drawLimit pl lv (a_board, a_sides, a_counters, a_moveTotals, a_moveLengths, a_moveSquares) → post 1)
    (h0 : ¬ dg_lf f_drawLimit pl lv (a_board, a_sides, a_counters, a_moveTotals, a_moveLengths, a_moveSquares) → post 0) : wpX_isLeaf post (f_drawLimit, f_logTotal, f_gameStatus, f_searchValue, a_neighbours, a_board, a_sides, a_counters, a_moveTotals, a_moveLengths, a_moveSquares, a_path, a_jumped, a_nextDirection, a_wentOn, a_nextMove, a_bestMove, a_bestValue, a_log) (nI lv) (nI pl) := by
  unfold dg_lf at h1 h0
  dsimp only at h1 h0
  refine pk_eq lv pl (fun e => h1 (Or.inr (Or.inr e))) (fun e => ⟨vp_in_nI hlv (by omega), ?_⟩)
  rw [nI_clamp (n := lv) (by omega)]
  refine br_c (fun a => h1 (Or.inl a)) (fun a => ⟨vp_in_nI hlv (by omega), br_c (fun b => h0 ?_) (fun b => h1 (Or.inr (Or.inl (Int32.not_lt.mp b))))⟩)
  rintro (z | z | z)
  · exact a z
  · exact Int32.not_le.mpr b z
  · exact e z
theorem ye_77 {f_lim f_last f_logN f_bestIdx : Int32} {a_bd a_sd a_dc a_mc a_ml a_mv a_ps a_dr a_cp a_ex a_jp a_log a_idx a_best : Nat → Int32} {post : Int32 → Prop} {J4 : Int32 → Int32 → Prop} {lv c s : Nat} {z w : Int} (hS : dg_S a_sd) (hlv : lv < 4) (hc : c ≤ 4) (h1 : dg_own c (a_sd lv) → J4 (dg_i (z + w)) (nI (s + 1))) (h0 : ¬ dg_own c (a_sd lv) → J4 (dg_i (z - w)) (nI (s + 1))) :
    wY_eval_77 post J4 (nI lv) (dg_i z) (nI s) (nI c) (dg_i w) f_lim f_last f_logN f_bestIdx a_bd a_sd a_dc a_mc a_ml a_mv a_ps a_dr a_cp a_ex a_jp a_log a_idx a_best := by
  have ec : (nI lv).toNatClampNeg = lv := nI_clamp (by omega)
  refine ⟨vp_in_nI hlv (by omega), ?_⟩
  rw [ec]
  exact yn_own hc (hS lv hlv) (fun a => br_f (by decide) (nm_r (dg_i_add z w) (nm_r (nI_1 s) (h1 a)))) (fun a => br_t rfl (nm_r (dg_i_sub z w) (nm_r (nI_1 s) (h0 a))))
theorem ye_ev_l {f_lim f_last f_logN f_bestIdx : Int32} {a_bd a_sd a_dc a_mc a_ml a_mv a_ps a_dr a_cp a_ex a_jp a_log a_idx a_best : Nat → Int32} {post : Int32 → Prop} {lv : Nat} (hB : dg_B a_bd) (hS : dg_S a_sd) (hlv : lv < 4) :
    ∀ (m s n : Nat) (z : Int), s + m = 32 → m < n → post (dg_i (z + dg_ev (dg_bl a_bd lv) (a_sd lv) m s)) → wY_eval_4 post (nI lv) f_lim f_last f_logN f_bestIdx a_bd a_sd a_dc a_mc a_ml a_mv a_ps a_dr a_cp a_ex a_jp a_log a_idx a_best n (dg_i z) (nI s) := by
  intro m
  induction m with
  | zero =>
    intro s n z hs hn h
    obtain ⟨n, rfl⟩ : ∃ g, n = g + 1 := ⟨n - 1, by omega⟩
    obtain rfl : s = 32 := by omega
    rw [dg_ev, Int.add_zero] at h
    exact br_t (nI_le (a := 32) (Nat.le_refl 32) (by omega)) h
  | succ m ih =>
    intro s n z hs hn h
    obtain ⟨n, rfl⟩ : ∃ g, n = g + 1 := ⟨n - 1, by omega⟩
    have hv := dg_B_b hB (i := lv * 32 + s) (by omega)
    have hv4 := hv.2
    have e1 : nI lv * 32 + nI s = nI (lv * 32 + s) := by rw [show (32 : Int32) = nI 32 from rfl, pk_mul, nI_add]
    have fin : ∀ w : Int, w = dg_wo (dg_b a_bd (lv * 32 + s)) s → wY_eval_77 post (wY_eval_4 post (nI lv) f_lim f_last f_logN f_bestIdx a_bd a_sd a_dc a_mc a_ml a_mv a_ps a_dr a_cp a_ex a_jp a_log a_idx a_best n) (nI lv) (dg_i z) (nI s) (nI (dg_b a_bd (lv * 32 + s))) (dg_i w) f_lim f_last f_logN f_bestIdx a_bd a_sd a_dc a_mc a_ml a_mv a_ps a_dr a_cp a_ex a_jp a_log a_idx a_best := by
      intro w hw
      refine ye_77 hS hlv hv.2 (fun a => ih (s + 1) n _ (by omega) (by omega) ?_) (fun a => ih (s + 1) n _ (by omega) (by omega) ?_)
      · have a' : dg_own (dg_bl a_bd lv s) (a_sd lv) := a
        rw [dg_ev_y a', ← Int.add_assoc] at h
        rw [hw]; exact h
      · have a' : ¬ dg_own (dg_bl a_bd lv s) (a_sd lv) := a
        rw [dg_ev_n a', ← Int.add_assoc] at h
        rw [hw]; exact h
    refine br_f (nI_ge (b := 32) (by omega) (by omega)) ?_
    rw [e1, nI_clamp (n := lv * 32 + s) (by omega), hv.1]
    refine ⟨vp_in_nI (by omega) (by omega), nm_e (pk_eq (dg_b a_bd (lv * 32 + s)) 0 (fun e0 => nm_r (nI_1 s) (ih (s + 1) n z (by omega) (by omega) ?_)) (fun e0 => pk_eq (dg_b a_bd (lv * 32 + s)) 2 (fun e2 => ?_) (fun e2 => pk_eq (dg_b a_bd (lv * 32 + s)) 4 (fun e4 => ?_) (fun e4 => pk_eq (dg_b a_bd (lv * 32 + s)) 1 (fun e5 => ⟨yn_h4, ?_⟩) (fun e5 => ⟨yn_h4, ?_⟩)))))⟩
    · have e0' : dg_bl a_bd lv s = 0 := e0
      have hno : ¬ dg_own (dg_bl a_bd lv s) (a_sd lv) := by
        rw [e0']
        rintro (y | y)
        · exact y.1 rfl
        · have := y.1; omega
      have hw0 : dg_wo (dg_bl a_bd lv s) s = 0 := by rw [e0']; rfl
      rw [dg_ev_n hno, hw0, Int.neg_zero, Int.zero_add] at h
      exact h
    · exact fin 250 (by rw [e2]; rfl)
    · exact fin 250 (by rw [e4]; rfl)
    · have e6 : (100 : Int32) + 4 * (nI s / 4) = dg_i (100 + 4 * ((s / 4 : Nat) : Int)) := by
        rw [show (100 : Int32) = nI 100 from rfl, wx_4, pk_div (by omega) (by omega) (by omega), pk_mul, nI_add, dg_i_nI]
        exact congrArg dg_i (by omega)
      rw [e6]
      exact fin _ (by unfold dg_wo; rw [if_pos e5])
    · have e7 : dg_b a_bd (lv * 32 + s) = 3 := by omega
      have e6 : (100 : Int32) + 4 * (7 - nI s / 4) = dg_i (100 + 4 * ((7 - s / 4 : Nat) : Int)) := by
        rw [show (100 : Int32) = nI 100 from rfl, show (7 : Int32) = nI 7 from rfl, wx_4, pk_div (by omega) (by omega) (by omega), pk_sub (by omega), pk_mul, nI_add, dg_i_nI]
        exact congrArg dg_i (by omega)
      rw [e6]
      exact fin _ (by unfold dg_wo; rw [if_neg e5, if_pos e7])
theorem ye_ev {f_lim f_last f_logN f_bestIdx : Int32} {a_bd a_sd a_dc a_mc a_ml a_mv a_ps a_dr a_cp a_ex a_jp a_log a_idx a_best : Nat → Int32} {post : Int32 → Prop} {lv : Nat} (hB : dg_B a_bd) (hS : dg_S a_sd) (hlv : lv < 4) (h : post (dg_i (dg_ev (dg_bl a_bd lv) (a_sd lv) 32 0))) : wpY_eval post (f_lim, f_last, f_logN, f_bestIdx, a_bd, a_sd, a_dc, a_mc, a_ml, a_mv, a_ps, a_dr, a_cp, a_ex, a_jp, a_log, a_idx, a_best) (nI lv) := by
  refine ⟨33, ye_ev_l hB hS hlv 32 0 33 0 (by omega) (by omega) ?_⟩
  rw [Int.zero_add]
  exact h
theorem ye_term {f_lim f_last f_logN f_bestIdx : Int32} {a_bd a_sd a_dc a_mc a_ml a_mv a_ps a_dr a_cp a_ex a_jp a_log a_idx a_best : Nat → Int32} {post : Int32 → Prop} {lv pl : Nat} (hB : dg_B a_bd) (hS : dg_S a_sd) (hlv : lv < 4) (hpl : pl < 4) (h1 : dg_lf f_lim pl lv (a_bd, a_sd, a_dc, a_mc, a_ml, a_mv) → post (dg_i (dg_lv f_lim lv (a_bd, a_sd, a_dc, a_mc, a_ml, a_mv))))
    (h0 : ¬ dg_lf f_lim pl lv (a_bd, a_sd, a_dc, a_mc, a_ml, a_mv) → post 2000000000) : wpY_term post (f_lim, f_last, f_logN, f_bestIdx, a_bd, a_sd, a_dc, a_mc, a_ml, a_mv, a_ps, a_dr, a_cp, a_ex, a_jp, a_log, a_idx, a_best) (nI lv) (nI pl) := by
  unfold dg_lf dg_lv at h1
  unfold dg_lf at h0
  dsimp only at h1 h0
  refine ⟨vp_in_nI hlv (by omega), ?_⟩
  rw [nI_clamp (n := lv) (by omega), xe_loss]
  refine br_c (fun a => ?_) (fun a => ⟨vp_in_nI hlv (by omega), br_c (fun b => pk_eq lv pl (fun e => ye_ev hB hS hlv ?_) (fun e => h0 ?_)) (fun b => ?_)⟩)
  · have := h1 (Or.inl a); rw [if_pos a] at this; exact this
  · have := h1 (Or.inr (Or.inr e)); rw [if_neg a, if_neg (Int32.not_le.mpr b)] at this; exact this
  · rintro (z | z | z)
    · exact a z
    · exact Int32.not_le.mpr b z
    · exact e z
  · have := h1 (Or.inr (Or.inl (Int32.not_lt.mp b))); rw [if_neg a, if_pos (Int32.not_lt.mp b)] at this; exact this
end
section
/-! the component's search is the pure machine -/
theorem xs_open {f_drawLimit f_logTotal f_gameStatus f_searchValue : Int32} {a_neighbours a_board a_sides a_counters a_moveTotals a_moveLengths a_moveSquares a_path a_jumped a_nextDirection a_wentOn a_nextMove a_bestMove a_bestValue a_log : Nat → Int32} {post : SX → Prop} {l : Nat} (hl : l < 4) (h : post (f_drawLimit, f_logTotal, f_gameStatus, f_searchValue, a_neighbours, a_board, a_sides, a_counters, a_moveTotals, a_moveLengths, a_moveSquares, a_path, a_jumped, a_nextDirection, a_wentOn, upd a_nextMove l 0, a_bestMove, upd a_bestValue l (dg_i (-20000)), a_log)) : wpX_openLevel post (f_drawLimit, f_logTotal, f_gameStatus, f_searchValue, a_neighbours, a_board, a_sides, a_counters, a_moveTotals, a_moveLengths, a_moveSquares, a_path, a_jumped, a_nextDirection, a_wentOn, a_nextMove, a_bestMove, a_bestValue, a_log) (nI l) := by
  have ec : (nI l).toNatClampNeg = l := nI_clamp (by omega)
  exact ⟨vp_in_nI hl (by omega), nm_r (e' := upd a_nextMove l 0) (by rw [ec]) ⟨vp_in_nI hl (by omega), nm_r (e' := upd a_bestValue l (dg_i (-20000))) (by rw [ec]; rfl) h⟩⟩
theorem xs_take {f_drawLimit f_logTotal f_gameStatus f_searchValue : Int32} {a_neighbours a_board a_sides a_counters a_moveTotals a_moveLengths a_moveSquares a_path a_jumped a_nextDirection a_wentOn a_nextMove a_bestMove a_bestValue a_log : Nat → Int32} {post : SX → Prop} {l i : Nat} {b v : Int} (hl : l < 4) (hn : a_nextMove l = nI i) (hb : a_bestValue l = dg_i b) (b1 : -30000 ≤ b) (b2 : b ≤ 30000) (v1 : -30000 ≤ v) (v2 : v ≤ 30000)
    (h : post (f_drawLimit, f_logTotal, f_gameStatus, f_searchValue, a_neighbours, a_board, a_sides, a_counters, a_moveTotals, a_moveLengths, a_moveSquares, a_path, a_jumped, a_nextDirection, a_wentOn, upd a_nextMove l (nI (i + 1)), (if b < v then upd a_bestMove l (nI i) else a_bestMove), (if b < v then upd a_bestValue l (dg_i v) else a_bestValue), a_log)) : wpX_takeReply post (f_drawLimit, f_logTotal, f_gameStatus, f_searchValue, a_neighbours, a_board, a_sides, a_counters, a_moveTotals, a_moveLengths, a_moveSquares, a_path, a_jumped, a_nextDirection, a_wentOn, a_nextMove, a_bestMove, a_bestValue, a_log) (nI l) (dg_i v) := by
  have ec : (nI l).toNatClampNeg = l := nI_clamp (by omega)
  have hin : vp_in (nI l) 4 := vp_in_nI hl (by omega)
  refine ⟨hin, ?_⟩
  rw [ec, hb]
  refine br_c (fun a => ?_) (fun a => ?_)
  · rw [dg_i_le (by omega) (by omega) (by omega) (by omega)] at a
    rw [if_neg (by omega), if_neg (by omega)] at h
    exact ⟨hin, hin, nm_r (by rw [ec, hn, nI_1]) h⟩
  · rw [dg_i_le (by omega) (by omega) (by omega) (by omega)] at a
    rw [if_pos (by omega), if_pos (by omega)] at h
    refine ⟨hin, nm_e ⟨hin, hin, nm_r (e' := upd a_bestMove l (nI i)) (by rw [hn]) ⟨hin, hin, nm_r (by rw [ec, hn, nI_1]) h⟩⟩⟩
/-- the component's cells hold the search -/
def dg_SX (l : Nat) (ix : Nat → Nat) (vb : Nat → Int) (g : Nat) (nm bv bm : Nat → Int32) : Prop := (∀ i, i ≤ l → nm i = nI (ix i) ∧ bv i = dg_i (vb i)) ∧ (1 ≤ ix 0 → bm 0 = nI g)
theorem dg_SX_take {l g : Nat} {S : dg_Sh} {ix : Nat → Nat} {vb : Nat → Int} {nm bv bm : Nat → Int32} {v : Int} (hH : dg_H l S ix vb) (h : dg_SX l ix vb g nm bv bm) (v1 : -10000 ≤ v) :
    dg_SX l (dg_u ix l (ix l + 1)) (dg_tv l v vb) (dg_tg l v vb ix g) (upd nm l (nI (ix l + 1))) (if vb l < v then upd bv l (dg_i v) else bv) (if vb l < v then upd bm l (nI (ix l)) else bm) := by
  obtain ⟨h1, h2⟩ := h
  have hl := (hH.2.2 l (Nat.le_refl l)).2.2
  unfold dg_tv dg_tg
  by_cases c : vb l < v
  · rw [if_pos c, if_pos c, if_pos c, if_pos c]
    refine ⟨fun i hi => ?_, fun z => ?_⟩
    · by_cases e : i = l
      · subst e; rw [pk_us, pk_us, dg_us, dg_uIs]; exact ⟨rfl, rfl⟩
      · rw [pk_un e, pk_un e, dg_un e, dg_uIn e]; exact h1 i hi
    · by_cases e : l = 0
      · subst e; rw [pk_us, if_pos rfl]
      · rw [pk_un (fun y => e y.symm), if_neg e]
        rw [dg_un (fun y => e y.symm)] at z
        exact h2 z
  · rw [if_neg c, if_neg c, if_neg c, if_neg c]
    refine ⟨fun i hi => ?_, fun z => ?_⟩
    · by_cases e : i = l
      · subst e; rw [pk_us, dg_us]; exact ⟨rfl, (h1 i hi).2⟩
      · rw [pk_un e, dg_un e]; exact h1 i hi
    · by_cases e : l = 0
      · subst e
        rcases hl with y | y
        · omega
        · exact h2 y.1
      · rw [dg_un (fun y => e y.symm)] at z
        exact h2 z
theorem dg_pt_pos (M ix : Nat → Nat) (l : Nat) : 1 ≤ dg_pt M ix (l + 1) := by
  show 1 ≤ dg_sp M ix l + ((M l - ix l) * dg_c l + 1)
  omega
theorem dg_neg_i {x y : Int32} {v : Int} (h : x = dg_i v) (e : y = -x) : y = dg_i (-v) := by rw [e, h, dg_i_neg]
theorem xs_walk {f_drawLimit f_logTotal f_gameStatus f_searchValue : Int32} {a_neighbours a_log : Nat → Int32} {post : SX → Prop} {pl : Nat} (hN : dg_N a_neighbours) (hpl : pl ≤ 3) :
    ∀ (n l : Nat) (S : dg_Sh) (ix : Nat → Nat) (vb : Nat → Int) (g : Nat) (nm bm bv p jx nd wo : Nat → Int32) (step m : Nat), dg_H l S ix vb → l < pl → dg_SX l ix vb g nm bv bm →
      dg_pt (dg_m S) ix (l + 1) ≤ n → step + dg_pt (dg_m S) ix (l + 1) ≤ 1000000 → dg_pt (dg_m S) ix (l + 1) < m →
      (∀ (S' : dg_Sh) (v' : Int) (g' : Nat) (nm' bm' bv' p' jx' nd' wo' : Nat → Int32), dg_se f_drawLimit pl n (l + 1) S ix vb g = (S', v', g') → bv' 0 = dg_i v' → bm' 0 = nI g' → post (f_drawLimit, f_logTotal, f_gameStatus, f_searchValue, a_neighbours, S'.1, S'.2.1, S'.2.2.1, S'.2.2.2.1, S'.2.2.2.2.1, S'.2.2.2.2.2, p', jx', nd', wo', nm', bm', bv', a_log)) →
      wX_walkTree_9 post (nI pl) m (nI l) (nI step) f_drawLimit f_logTotal f_gameStatus f_searchValue a_neighbours S.1 S.2.1 S.2.2.1 S.2.2.2.1 S.2.2.2.2.1 S.2.2.2.2.2 p jx nd wo nm bm bv a_log := by
  intro n
  induction n with
  | zero =>
    intro l S ix vb g nm bm bv p jx nd wo step m hH hl hA hn hstep hm hp
    have := dg_pt_pos (dg_m S) ix l
    omega
  | succ n ih =>
    intro l S ix vb g nm bm bv p jx nd wo step m hH hl hA hn hstep hm hp
    have hpos := dg_pt_pos (dg_m S) ix l
    obtain ⟨m, rfl⟩ : ∃ y, m = y + 1 := ⟨m - 1, by omega⟩
    have hO := hH.1
    have hLl := hO.2.2 l (Nat.le_refl l)
    obtain ⟨hM48, hMe⟩ := dg_L_m hLl
    obtain ⟨hM1, hixM, hvb⟩ := hH.2.2 l (Nat.le_refl l)
    have hA0 := hA.1 l (Nat.le_refl l)
    have ec : (nI l).toNatClampNeg = l := nI_clamp (by omega)
    have hin : vp_in (nI l) 4 := vp_in_nI (by omega) (by omega)
    refine br_f (nI_ge (b := 1000000) (by omega) (by decide)) (br_f (nI_pos (by omega)) ⟨hin, hin, ?_⟩)
    rw [ec, hMe, hA0.1]
    by_cases hlt : ix l < dg_m S l
    · refine br_f (nI_ge hlt (by omega)) ⟨hin, ?_⟩
      obtain ⟨hi48, hMM⟩ := dg_L_M hLl hlt
      have hap := dg_Ok_ap hO (by omega) hlt
      rw [nI_1 l]
      refine xa_apply hO.1 (by omega) (by omega) hi48 hMM (nm_e ?_)
      refine wx_gen hN hap.1 hap.2.1 (by omega) (fun p' jx' nd' wo' => ?_)
      obtain ⟨hO', hm'⟩ := dg_H_next hH (by omega) hlt rfl
      have ec1 : (nI (l + 1)).toNatClampNeg = l + 1 := nI_clamp (by omega)
      have hin1 : vp_in (nI (l + 1)) 4 := vp_in_nI (by omega) (by omega)
      refine xs_open (by omega) (xe_isLeaf (by omega) (by omega) (fun hlf => br_f (by decide) (xe_leafV hO'.1 hO'.2.1 (by omega) ?_)) (fun hlf => br_t rfl (nm_r (nI_1 step) ?_)))
      · have hlf' : dg_lf f_drawLimit pl (l + 1) (dg_gn (l + 1) (dg_ap l (ix l) (l + 1) S)) := hlf
        have hv := dg_lv_r (lim := f_drawLimit) (lv := l + 1) (S := (dg_gn (l + 1) (dg_ap l (ix l) (l + 1) S))) (by omega)
        have hpt := dg_pt_leaf (M := dg_m S) (M' := dg_m (dg_gn (l + 1) (dg_ap l (ix l) (l + 1) S))) (ix := ix) (l := l) hm' hlt
        have hpos2 := dg_pt_pos (dg_m (dg_gn (l + 1) (dg_ap l (ix l) (l + 1) S))) (dg_u ix l (ix l + 1)) l
        rw [dg_se_leaf hlt rfl hlf'] at hp
        obtain ⟨_, hMe'⟩ := dg_L_m (hO'.2.2 (l + 1) (Nat.le_refl _))
        have hM48' := (dg_L_m (hO'.2.2 (l + 1) (Nat.le_refl _))).1
        refine ⟨hin1, nm_r (e' := upd (upd bv (l + 1) (dg_i (-20000))) (l + 1) (dg_i (dg_lv f_drawLimit (l + 1) (dg_gn (l + 1) (dg_ap l (ix l) (l + 1) S))))) (by rw [ec1]; rfl) ⟨hin1, hin1, nm_r (e' := upd (upd nm (l + 1) 0) (l + 1) (nI (dg_m (dg_gn (l + 1) (dg_ap l (ix l) (l + 1) S)) (l + 1)))) (by rw [ec1]; exact congrArg (upd (upd nm (l + 1) 0) (l + 1)) hMe') (nm_r (nI_1 step) ?_)⟩⟩
        obtain ⟨m, rfl⟩ : ∃ y, m = y + 1 := ⟨m - 1, by omega⟩
        refine br_f (nI_ge (b := 1000000) (by omega) (by decide)) (br_f (nI_pos (by omega)) ⟨hin1, hin1, ?_⟩)
        have hle : (dg_gn (l + 1) (dg_ap l (ix l) (l + 1) S)).2.2.2.1 (nI (l + 1)).toNatClampNeg ≤ upd (upd nm (l + 1) 0) (l + 1) (nI (dg_m (dg_gn (l + 1) (dg_ap l (ix l) (l + 1) S)) (l + 1))) (nI (l + 1)).toNatClampNeg := by
          rw [ec1, hMe', pk_us]
          exact nI_le (Nat.le_refl _) (by omega)
        refine br_t hle (nm_r (pk_m1 l) (br_f (nI_pos (by omega)) ?_))
        rw [nI_1 l, ec1, pk_us, dg_i_neg]
        refine ⟨hin1, ?_⟩
        have hnm : upd (upd nm (l + 1) 0) (l + 1) (nI (dg_m (dg_gn (l + 1) (dg_ap l (ix l) (l + 1) S)) (l + 1))) l = nI (ix l) := by rw [pk_un (by omega), pk_un (by omega)]; exact hA0.1
        have hbv : upd (upd bv (l + 1) (dg_i (-20000))) (l + 1) (dg_i (dg_lv f_drawLimit (l + 1) (dg_gn (l + 1) (dg_ap l (ix l) (l + 1) S)))) l = dg_i (vb l) := by rw [pk_un (by omega), pk_un (by omega)]; exact hA0.2
        refine xs_take (b := vb l) (by omega) hnm hbv (by omega) (by omega) (by omega) (by omega) (nm_r (nI_1 (step + 1)) ?_)
        have hA' : dg_SX l ix vb g (upd (upd nm (l + 1) 0) (l + 1) (nI (dg_m (dg_gn (l + 1) (dg_ap l (ix l) (l + 1) S)) (l + 1)))) (upd (upd bv (l + 1) (dg_i (-20000))) (l + 1) (dg_i (dg_lv f_drawLimit (l + 1) (dg_gn (l + 1) (dg_ap l (ix l) (l + 1) S))))) bm :=
          ⟨fun i hi => by rw [pk_un (by omega), pk_un (by omega), pk_un (by omega), pk_un (by omega)]; exact hA.1 i hi, hA.2⟩
        exact ih l (dg_gn (l + 1) (dg_ap l (ix l) (l + 1) S)) _ _ _ _ _ _ _ _ _ _ (step + 1 + 1) m (dg_H_take hH (dg_Ok_le hO' (by omega)) hm' hlt (by omega) (by omega)) hl (dg_SX_take hH hA' (by omega)) (by omega) (by omega) (by omega) hp
      · have hlf' : ¬ dg_lf f_drawLimit pl (l + 1) (dg_gn (l + 1) (dg_ap l (ix l) (l + 1) S)) := hlf
        rw [dg_se_in hlt rfl hlf'] at hp
        have h0 : ¬ (dg_gn (l + 1) (dg_ap l (ix l) (l + 1) S)).2.2.2.1 (l + 1) = 0 := fun z => hlf' (Or.inl z)
        have hlp : l + 1 < pl := by
          apply Classical.byContradiction
          intro z
          exact hlf' (Or.inr (Or.inr (by omega)))
        have hM48' := (dg_L_m (hO'.2.2 (l + 1) (Nat.le_refl _))).1
        have hpt : dg_pt (dg_m (dg_gn (l + 1) (dg_ap l (ix l) (l + 1) S))) (dg_u ix (l + 1) 0) (l + 1 + 1) + 1 ≤ dg_pt (dg_m S) ix (l + 1) := dg_pt_in (by omega) hm' hlt hM48'
        refine ih (l + 1) (dg_gn (l + 1) (dg_ap l (ix l) (l + 1) S)) _ _ _ _ _ _ _ _ _ _ (step + 1) m (dg_H_in hH hlt hO' hm' h0) hlp ⟨fun i hi => ?_, fun z => ?_⟩ (by omega) (by omega) (by omega) hp
        · by_cases e : i = l + 1
          · subst e; rw [pk_us, pk_us, dg_us, dg_uIs]; exact ⟨nI_0.symm, rfl⟩
          · rw [pk_un e, pk_un e, dg_un e, dg_uIn e]; exact hA.1 i (by omega)
        · rw [dg_un (by omega)] at z; exact hA.2 z
    · have hge : dg_m S l ≤ ix l := by omega
      refine br_t (nI_le hge (by omega)) ?_
      cases l with
      | zero =>
        refine nm_r (dg_la_m 0) (br_t (show (-1 : Int32) < 0 by decide) (nm_r (nI_1 step) ?_))
        rw [dg_se_end hlt] at hp
        obtain ⟨m, rfl⟩ : ∃ y, m = y + 1 := ⟨m - 1, by omega⟩
        have fin := hp S (vb 0) g nm bm bv p jx nd wo rfl hA0.2 (hA.2 (by omega))
        exact br_c (fun _ => fin) (fun _ => br_t (show (-1 : Int32) < 0 by decide) fin)
      | succ l =>
        obtain ⟨hv, hH'⟩ := dg_H_out hH hlt
        have hB0 := hA.1 l (by omega)
        have ec1 : (nI (l + 1)).toNatClampNeg = l + 1 := nI_clamp (by omega)
        refine nm_r (pk_m1 l) (br_f (nI_pos (by omega)) ?_)
        rw [nI_1 l, ec1, hA0.2, dg_i_neg]
        refine ⟨vp_in_nI (by omega) (by omega), ?_⟩
        have hvl := (hH'.2.2 l (Nat.le_refl l)).2.2
        refine xs_take (b := vb l) (by omega) hB0.1 hB0.2 (by omega) (by omega) (by omega) (by omega) (nm_r (nI_1 step) ?_)
        rw [dg_se_out hlt] at hp
        have hpt : dg_pt (dg_m S) (dg_u ix l (ix l + 1)) (l + 1) + 1 ≤ dg_pt (dg_m S) ix (l + 1 + 1) := dg_pt_out
        have hA' : dg_SX l ix vb g nm bv bm := ⟨fun i hi => hA.1 i (by omega), hA.2⟩
        exact ih l S _ _ _ _ _ _ _ _ _ _ (step + 1) m (dg_H_take hH' hH'.1 (fun _ _ => rfl) (hH.2.1 l (by omega)) (by omega) (by omega)) (by omega) (dg_SX_take hH' hA' (by omega)) (by omega) (by omega) (by omega) hp
end
section
/-! the reference's search is the pure machine -/
theorem ys_up {f_lim f_last f_logN f_bestIdx : Int32} {a_bd a_sd a_dc a_mc a_ml a_mv a_ps a_dr a_cp a_ex a_jp a_log a_idx a_best : Nat → Int32} {post : SY → Prop} {l i : Nat} {b v : Int} (hl : l < 4) (hn : a_idx l = nI i) (hb : a_best l = dg_i b) (b1 : -1000000000 ≤ b) (b2 : b ≤ 30000) (v1 : -30000 ≤ v) (v2 : v ≤ 30000)
    (h : post (f_lim, f_last, f_logN, (if b < v then (if l = 0 then nI i else f_bestIdx) else f_bestIdx), a_bd, a_sd, a_dc, a_mc, a_ml, a_mv, a_ps, a_dr, a_cp, a_ex, a_jp, a_log, upd a_idx l (nI (i + 1)), (if b < v then upd a_best l (dg_i v) else a_best))) : wpY_up post (f_lim, f_last, f_logN, f_bestIdx, a_bd, a_sd, a_dc, a_mc, a_ml, a_mv, a_ps, a_dr, a_cp, a_ex, a_jp, a_log, a_idx, a_best) (nI l) (dg_i v) := by
  have ec : (nI l).toNatClampNeg = l := nI_clamp (by omega)
  have hin : vp_in (nI l) 4 := vp_in_nI hl (by omega)
  refine ⟨hin, ?_⟩
  rw [ec, hb]
  refine br_c (fun a => ?_) (fun a => ?_)
  · rw [dg_i_le (by omega) (by omega) (by omega) (by omega)] at a
    rw [if_neg (by omega), if_neg (by omega)] at h
    exact ⟨hin, hin, nm_r (by rw [ec, hn, nI_1]) h⟩
  · rw [dg_i_le (by omega) (by omega) (by omega) (by omega)] at a
    have hbv : b < v := by omega
    rw [if_pos hbv, if_pos hbv] at h
    refine ⟨hin, nm_e (pk_eq l 0 (fun e => ?_) (fun e => ?_))⟩
    · rw [if_pos e] at h
      subst e
      exact nm_r hn ⟨hin, hin, nm_r (by rw [ec, hn, nI_1]) h⟩
    · rw [if_neg e] at h
      exact ⟨hin, hin, nm_r (by rw [ec, hn, nI_1]) h⟩
def dg_yb (ix : Nat → Nat) (vb : Nat → Int) (i : Nat) : Int := if ix i = 0 then -1000000000 else vb i
/-- the reference's cells hold the search -/
def dg_SY (l : Nat) (ix : Nat → Nat) (vb : Nat → Int) (g : Nat) (idx best : Nat → Int32) (bi : Int32) : Prop := (∀ i, i ≤ l → idx i = nI (ix i) ∧ best i = dg_i (dg_yb ix vb i)) ∧ (1 ≤ ix 0 → bi = nI g)
theorem dg_SY_take {l g : Nat} {S : dg_Sh} {ix : Nat → Nat} {vb : Nat → Int} {idx best : Nat → Int32} {bi : Int32} {v : Int} (hH : dg_H l S ix vb) (h : dg_SY l ix vb g idx best bi) (v1 : -10000 ≤ v) :
    dg_SY l (dg_u ix l (ix l + 1)) (dg_tv l v vb) (dg_tg l v vb ix g) (upd idx l (nI (ix l + 1))) (if dg_yb ix vb l < v then upd best l (dg_i v) else best) (if dg_yb ix vb l < v then (if l = 0 then nI (ix l) else bi) else bi) := by
  obtain ⟨h1, h2⟩ := h
  have hl := (hH.2.2 l (Nat.le_refl l)).2.2
  have hc : dg_yb ix vb l < v ↔ vb l < v := by
    unfold dg_yb
    rcases hl with y | y
    · rw [if_pos y.1]; omega
    · rw [if_neg (by omega)]
  unfold dg_tv dg_tg
  by_cases c : vb l < v
  · have c' := hc.mpr c
    rw [if_pos c, if_pos c, if_pos c', if_pos c']
    refine ⟨fun i hi => ?_, fun z => ?_⟩
    · by_cases e : i = l
      · subst e
        rw [pk_us, pk_us, dg_us]
        unfold dg_yb
        rw [dg_us, if_neg (by omega), dg_uIs]
        exact ⟨rfl, rfl⟩
      · rw [pk_un e, pk_un e, dg_un e]
        unfold dg_yb
        rw [dg_un e, dg_uIn e]
        exact h1 i hi
    · by_cases e : l = 0
      · subst e; rw [if_pos rfl, if_pos rfl]
      · rw [if_neg e, if_neg e]
        rw [dg_un (fun y => e y.symm)] at z
        exact h2 z
  · have c' : ¬ dg_yb ix vb l < v := fun y => c (hc.mp y)
    rw [if_neg c, if_neg c, if_neg c', if_neg c']
    have hi1 : 1 ≤ ix l := by
      rcases hl with y | y
      · omega
      · exact y.1
    refine ⟨fun i hi => ?_, fun z => ?_⟩
    · by_cases e : i = l
      · subst e
        rw [pk_us, dg_us]
        have := (h1 i hi).2
        unfold dg_yb at this ⊢
        rw [if_neg (by omega)] at this
        rw [dg_us, if_neg (by omega)]
        exact ⟨rfl, this⟩
      · rw [pk_un e, dg_un e]
        unfold dg_yb
        rw [dg_un e]
        exact h1 i hi
    · by_cases e : l = 0
      · subst e; exact h2 hi1
      · rw [dg_un (fun y => e y.symm)] at z
        exact h2 z
theorem dg_2e9 : (2000000000 : Int32) = dg_i 2000000000 := by decide
theorem ys_walk {f_lim f_last f_logN : Int32} {a_log : Nat → Int32} {post : Int32 → SY → Prop} {pl : Nat} (hpl : pl ≤ 3) :
    ∀ (n l : Nat) (S : dg_Sh) (ix : Nat → Nat) (vb : Nat → Int) (g : Nat) (bi : Int32) (idx best ps dr cp ex jp : Nat → Int32) (step m : Nat), dg_H l S ix vb → l < pl → dg_SY l ix vb g idx best bi →
      dg_pt (dg_m S) ix (l + 1) ≤ n → step + dg_pt (dg_m S) ix (l + 1) ≤ 1000000 → dg_pt (dg_m S) ix (l + 1) < m →
      (∀ (S' : dg_Sh) (v' : Int) (g' : Nat) (idx' best' ps' dr' cp' ex' jp' : Nat → Int32), dg_se f_lim pl n (l + 1) S ix vb g = (S', v', g') → post (nI g') (f_lim, dg_i v', f_logN, nI g', S'.1, S'.2.1, S'.2.2.1, S'.2.2.2.1, S'.2.2.2.2.1, S'.2.2.2.2.2, ps', dr', cp', ex', jp', a_log, idx', best')) →
      wY_search_54 post (nI pl) m (nI l) (nI step) f_lim f_last f_logN bi S.1 S.2.1 S.2.2.1 S.2.2.2.1 S.2.2.2.2.1 S.2.2.2.2.2 ps dr cp ex jp a_log idx best := by
  intro n
  induction n with
  | zero =>
    intro l S ix vb g bi idx best ps dr cp ex jp step m hH hl hA hn hstep hm hp
    have := dg_pt_pos (dg_m S) ix l
    omega
  | succ n ih =>
    intro l S ix vb g bi idx best ps dr cp ex jp step m hH hl hA hn hstep hm hp
    have hpos := dg_pt_pos (dg_m S) ix l
    obtain ⟨m, rfl⟩ : ∃ y, m = y + 1 := ⟨m - 1, by omega⟩
    have hO := hH.1
    have hLl := hO.2.2 l (Nat.le_refl l)
    obtain ⟨hM48, hMe⟩ := dg_L_m hLl
    obtain ⟨hM1, hixM, hvb⟩ := hH.2.2 l (Nat.le_refl l)
    have hA0 := hA.1 l (Nat.le_refl l)
    have ec : (nI l).toNatClampNeg = l := nI_clamp (by omega)
    have hin : vp_in (nI l) 4 := vp_in_nI (by omega) (by omega)
    have hyb : -1000000000 ≤ dg_yb ix vb l ∧ dg_yb ix vb l ≤ 10000 := by
      unfold dg_yb
      rcases hvb with y | y
      · rw [if_pos y.1]; omega
      · rw [if_neg (by omega)]; omega
    refine br_f (nI_ge (b := 4194304) (by omega) (by decide)) ⟨hin, hin, ?_⟩
    rw [ec, hMe, hA0.1]
    by_cases hlt : ix l < dg_m S l
    · refine br_f (nI_ge hlt (by omega)) ⟨hin, ?_⟩
      obtain ⟨hi48, hMM⟩ := dg_L_M hLl hlt
      have hap := dg_Ok_ap hO (by omega) hlt
      rw [nI_1 l]
      refine ya_apply hO.1 hO.2.1 (by omega) (by omega) hi48 hMM ?_
      refine yn_gen hap.1 hap.2.1 (by omega) (fun ps' dr' cp' ex' jp' => ?_)
      obtain ⟨hO', hm'⟩ := dg_H_next hH (by omega) hlt rfl
      have ec1 : (nI (l + 1)).toNatClampNeg = l + 1 := nI_clamp (by omega)
      have hin1 : vp_in (nI (l + 1)) 4 := vp_in_nI (by omega) (by omega)
      refine ye_term hO'.1 hO'.2.1 (by omega) (by omega) (fun hlf => br_f ?_ ?_) (fun hlf => br_t rfl (nm_e ?_))
      · have hv := dg_lv_r (lim := f_lim) (lv := l + 1) (S := (dg_gn (l + 1) (dg_ap l (ix l) (l + 1) S))) (by omega)
        rw [dg_2e9]
        intro z
        have z' : dg_i (dg_lv f_lim (l + 1) (dg_gn (l + 1) (dg_ap l (ix l) (l + 1) S))) = dg_i 2000000000 := z
        rw [dg_i_eq (by omega) (by omega) (by omega) (by omega)] at z'
        omega
      · have hlf' : dg_lf f_lim pl (l + 1) (dg_gn (l + 1) (dg_ap l (ix l) (l + 1) S)) := hlf
        have hv := dg_lv_r (lim := f_lim) (lv := l + 1) (S := (dg_gn (l + 1) (dg_ap l (ix l) (l + 1) S))) (by omega)
        have hpt := dg_pt_leaf (M := dg_m S) (M' := dg_m (dg_gn (l + 1) (dg_ap l (ix l) (l + 1) S))) (ix := ix) (l := l) hm' hlt
        rw [dg_se_leaf hlt rfl hlf'] at hp
        rw [dg_i_neg]
        refine ys_up (v := - dg_lv f_lim (l + 1) (dg_gn (l + 1) (dg_ap l (ix l) (l + 1) S))) (b := dg_yb ix vb l) (by omega) hA0.1 hA0.2 (by omega) (by omega) (by omega) (by omega) (nm_r (nI_1 step) ?_)
        exact ih l (dg_gn (l + 1) (dg_ap l (ix l) (l + 1) S)) _ _ _ _ _ _ _ _ _ _ _ (step + 1) m (dg_H_take hH (dg_Ok_le hO' (by omega)) hm' hlt (by omega) (by omega)) hl (dg_SY_take hH hA (by omega)) (by omega) (by omega) (by omega) hp
      · have hlf' : ¬ dg_lf f_lim pl (l + 1) (dg_gn (l + 1) (dg_ap l (ix l) (l + 1) S)) := hlf
        rw [dg_se_in hlt rfl hlf'] at hp
        have h0 : ¬ (dg_gn (l + 1) (dg_ap l (ix l) (l + 1) S)).2.2.2.1 (l + 1) = 0 := fun z => hlf' (Or.inl z)
        have hlp : l + 1 < pl := by
          apply Classical.byContradiction
          intro z
          exact hlf' (Or.inr (Or.inr (by omega)))
        have hM48' := (dg_L_m (hO'.2.2 (l + 1) (Nat.le_refl _))).1
        have hpt : dg_pt (dg_m (dg_gn (l + 1) (dg_ap l (ix l) (l + 1) S))) (dg_u ix (l + 1) 0) (l + 1 + 1) + 1 ≤ dg_pt (dg_m S) ix (l + 1) := dg_pt_in (by omega) hm' hlt hM48'
        refine ⟨hin1, nm_r (e' := upd idx (l + 1) 0) (by rw [ec1]) ⟨hin1, nm_r (e' := upd best (l + 1) (dg_i (-1000000000))) (by rw [ec1]; rfl) (nm_r (nI_1 step) ?_)⟩⟩
        refine ih (l + 1) (dg_gn (l + 1) (dg_ap l (ix l) (l + 1) S)) _ _ _ _ _ _ _ _ _ _ _ (step + 1) m (dg_H_in hH hlt hO' hm' h0) hlp ⟨fun i hi => ?_, fun z => ?_⟩ (by omega) (by omega) (by omega) hp
        · by_cases e : i = l + 1
          · subst e
            unfold dg_yb
            rw [pk_us, pk_us, dg_us, if_pos rfl]
            exact ⟨nI_0.symm, rfl⟩
          · unfold dg_yb
            rw [pk_un e, pk_un e, dg_un e, dg_uIn e]
            exact hA.1 i (by omega)
        · rw [dg_un (by omega)] at z; exact hA.2 z
    · have hge : dg_m S l ≤ ix l := by omega
      refine br_t (nI_le hge (by omega)) ?_
      have hyv : dg_yb ix vb l = vb l := by unfold dg_yb; rw [if_neg (by omega)]
      rw [hyv] at hA0
      cases l with
      | zero =>
        refine br_t rfl ?_
        rw [dg_se_end hlt] at hp
        have fin := hp S (vb 0) g idx best ps dr cp ex jp rfl
        have hbi := hA.2 (by omega)
        subst hbi
        exact nm_r hA0.2 fin
      | succ l =>
        obtain ⟨hv, hH'⟩ := dg_H_out hH hlt
        have hB0 := hA.1 l (by omega)
        have hvl := (hH'.2.2 l (Nat.le_refl l)).2.2
        have hyb2 : -1000000000 ≤ dg_yb ix vb l ∧ dg_yb ix vb l ≤ 10000 := by
          unfold dg_yb
          rcases hvl with y | y
          · rw [if_pos y.1]; omega
          · rw [if_neg (by omega)]; omega
        refine br_f (nI_ne0 (by omega) (by omega)) ⟨hin, nm_r hA0.2 (nm_r (pk_m1 l) ?_)⟩
        rw [dg_i_neg]
        refine ys_up (v := - vb (l + 1)) (b := dg_yb ix vb l) (by omega) hB0.1 hB0.2 (by omega) (by omega) (by omega) (by omega) (nm_r (nI_1 step) ?_)
        rw [dg_se_out hlt] at hp
        have hpt : dg_pt (dg_m S) (dg_u ix l (ix l + 1)) (l + 1) + 1 ≤ dg_pt (dg_m S) ix (l + 1 + 1) := dg_pt_out
        have hA' : dg_SY l ix vb g idx best bi := ⟨fun i hi => hA.1 i (by omega), hA.2⟩
        exact ih l S _ _ _ _ _ _ _ _ _ _ _ (step + 1) m (dg_H_take hH' hH'.1 (fun _ _ => rfl) (hH.2.1 l (by omega)) (by omega) (by omega)) (by omega) (dg_SY_take hH' hA' (by omega)) (by omega) (by omega) (by omega) hp
end
section
/-! refreshing the game, setting it up, the log, counting -/
theorem dg_gen_congr {lv : Nat} {b : Nat → Nat} {sd : Int32} {mt mt' ml mv : Nat → Int32} (h : upd mt lv 0 = upd mt' lv 0) : dg_gen lv b sd mt ml mv = dg_gen lv b sd mt' ml mv := by
  unfold dg_gen
  rw [h]
theorem xr_refresh {f_drawLimit f_logTotal f_gameStatus f_searchValue : Int32} {a_neighbours a_board a_sides a_counters a_moveTotals a_moveLengths a_moveSquares a_path a_jumped a_nextDirection a_wentOn a_nextMove a_bestMove a_bestValue a_log : Nat → Int32} {post : SX → Prop} {T : (Nat → Int32) × (Nat → Int32) × (Nat → Int32)} (hN : dg_N a_neighbours) (hB : dg_B a_board) (hS : dg_S a_sides) (hT : dg_gen 0 (dg_bl a_board 0) (a_sides 0) a_moveTotals a_moveLengths a_moveSquares = T)
    (h : ∀ p' jx' nd' wo', post (f_drawLimit, f_logTotal, dg_st f_drawLimit (a_sides 0) (a_counters 0) (T.1 0), f_searchValue, a_neighbours, a_board, a_sides, a_counters, (if dg_st f_drawLimit (a_sides 0) (a_counters 0) (T.1 0) = 3 then upd T.1 0 0 else T.1), T.2.1, T.2.2, p', jx', nd', wo', a_nextMove, a_bestMove, a_bestValue, a_log)) : wpX_refreshGame post (f_drawLimit, f_logTotal, f_gameStatus, f_searchValue, a_neighbours, a_board, a_sides, a_counters, a_moveTotals, a_moveLengths, a_moveSquares, a_path, a_jumped, a_nextDirection, a_wentOn, a_nextMove, a_bestMove, a_bestValue, a_log) := by
  unfold wpX_refreshGame
  refine wx_gen (lv := 0) hN hB hS (by omega) (fun p' jx' nd' wo' => ?_)
  rw [hT]
  have h := h p' jx' nd' wo'
  refine br_c (fun a => br_c (fun b => ?_) (fun b => ?_)) (fun a => br_c (fun b => ?_) (fun b => nm_e ?_))
  · rw [dg_st_w a, if_pos b, if_neg (by decide)] at h; exact h
  · rw [dg_st_w a, if_neg b, if_neg (by decide)] at h; exact h
  · rw [dg_st_o a (Int32.not_le.mpr b), if_neg (by decide)] at h; exact h
  · rw [dg_st_d a (Int32.not_lt.mp b), if_pos rfl] at h; exact h
/-- the board that a set-up lays -/
def dg_sv (e : Int32) (i : Nat) : Int32 := if e = 0 then (if 12 ≤ i then (if 20 ≤ i then 3 else 0) else 1) else 0
def dg_su (bd : Nat → Int32) (e : Int32) : Nat → (Nat → Int32)
  | 0 => bd
  | n + 1 => upd (dg_su bd e n) n (dg_sv e n)
theorem dg_su_B {bd : Nat → Int32} (h : dg_B bd) (e : Int32) (n : Nat) : dg_B (dg_su bd e n) := by
  induction n with
  | zero => exact h
  | succ n ih =>
    show dg_B (upd (dg_su bd e n) n (dg_sv e n))
    unfold dg_sv
    split
    · split
      · split
        · exact dg_B_upd ih n 3 (by omega)
        · exact dg_B_upd ih n 0 (by omega)
      · exact dg_B_upd ih n 1 (by omega)
    · exact dg_B_upd ih n 0 (by omega)
theorem xr_setup_l {f_drawLimit f_logTotal f_gameStatus f_searchValue : Int32} {a_neighbours a_sides a_counters a_moveTotals a_moveLengths a_moveSquares a_path a_jumped a_nextDirection a_wentOn a_nextMove a_bestMove a_bestValue a_log : Nat → Int32} {post : SX → Prop} {bd : Nat → Int32} {e : Int32} (h : post (f_drawLimit, f_logTotal, f_gameStatus, f_searchValue, a_neighbours, dg_su bd e 32, a_sides, a_counters, a_moveTotals, a_moveLengths, a_moveSquares, a_path, a_jumped, a_nextDirection, a_wentOn, a_nextMove, a_bestMove, a_bestValue, a_log)) :
    ∀ m i n, i + m = 32 → m < n → wX_setUp_9 post e f_drawLimit f_logTotal f_gameStatus f_searchValue n (nI i) a_neighbours (dg_su bd e i) a_sides a_counters a_moveTotals a_moveLengths a_moveSquares a_path a_jumped a_nextDirection a_wentOn a_nextMove a_bestMove a_bestValue a_log := by
  intro m
  induction m with
  | zero =>
    intro i n hi hn
    obtain ⟨n, rfl⟩ : ∃ g, n = g + 1 := ⟨n - 1, by omega⟩
    obtain rfl : i = 32 := by omega
    exact br_t (nI_le (a := 32) (Nat.le_refl 32) (by omega)) h
  | succ m ih =>
    intro i n hi hn
    obtain ⟨n, rfl⟩ : ∃ g, n = g + 1 := ⟨n - 1, by omega⟩
    have hin : vp_in (nI i) 128 := vp_in_nI (by omega) (by omega)
    have ec : (nI i).toNatClampNeg = i := nI_clamp (by omega)
    have nx := ih (i + 1) n (by omega) (by omega)
    have st : ∀ z : Int32, z = dg_sv e i → upd (dg_su bd e i) (nI i).toNatClampNeg z = dg_su bd e (i + 1) := by
      intro z hz
      rw [ec, hz]
      rfl
    unfold dg_sv at st
    refine br_f (nI_ge (b := 32) (by omega) (by omega)) (br_c (fun a => pk_le 12 i (fun b => pk_le 20 i (fun c => ⟨hin, nm_r (st 3 ?_) (nm_r (nI_1 i) nx)⟩) (fun c => ⟨hin, nm_r (st 0 ?_) (nm_r (nI_1 i) nx)⟩)) (fun b => ⟨hin, nm_r (st 1 ?_) (nm_r (nI_1 i) nx)⟩)) (fun a => ⟨hin, nm_r (st 0 ?_) (nm_r (nI_1 i) nx)⟩))
    · rw [if_pos a, if_pos b, if_pos c]
    · rw [if_pos a, if_pos b, if_neg (by omega)]
    · rw [if_pos a, if_neg (by omega)]
    · rw [if_neg a]
theorem xr_setup {f_drawLimit f_logTotal f_gameStatus f_searchValue : Int32} {a_neighbours a_board a_sides a_counters a_moveTotals a_moveLengths a_moveSquares a_path a_jumped a_nextDirection a_wentOn a_nextMove a_bestMove a_bestValue a_log : Nat → Int32} {post : SX → Prop} {e : Int32} (h : post (f_drawLimit, f_logTotal, f_gameStatus, f_searchValue, a_neighbours, dg_su a_board e 32, upd a_sides 0 0, a_counters, a_moveTotals, a_moveLengths, a_moveSquares, a_path, a_jumped, a_nextDirection, a_wentOn, a_nextMove, a_bestMove, a_bestValue, a_log)) : wpX_setUp post (f_drawLimit, f_logTotal, f_gameStatus, f_searchValue, a_neighbours, a_board, a_sides, a_counters, a_moveTotals, a_moveLengths, a_moveSquares, a_path, a_jumped, a_nextDirection, a_wentOn, a_nextMove, a_bestMove, a_bestValue, a_log) e :=
  nm_e ⟨33, xr_setup_l (bd := a_board) h 32 0 33 (by omega) (by omega)⟩
theorem yr_setup_l {f_lim f_last f_logN f_bestIdx : Int32} {a_sd a_dc a_mc a_ml a_mv a_ps a_dr a_cp a_ex a_jp a_log a_idx a_best : Nat → Int32} {post : SY → Prop} {bd : Nat → Int32} {e : Int32} (h : wpY_fresh post (f_lim, f_last, f_logN, f_bestIdx, dg_su bd e 32, upd a_sd 0 0, a_dc, a_mc, a_ml, a_mv, a_ps, a_dr, a_cp, a_ex, a_jp, a_log, a_idx, a_best)) :
    ∀ m i n, i + m = 32 → m < n → wY_reset_2 post e f_lim f_last f_logN f_bestIdx n (nI i) (dg_su bd e i) a_sd a_dc a_mc a_ml a_mv a_ps a_dr a_cp a_ex a_jp a_log a_idx a_best := by
  intro m
  induction m with
  | zero =>
    intro i n hi hn
    obtain ⟨n, rfl⟩ : ∃ g, n = g + 1 := ⟨n - 1, by omega⟩
    obtain rfl : i = 32 := by omega
    exact br_t (nI_le (a := 32) (Nat.le_refl 32) (by omega)) (nm_e h)
  | succ m ih =>
    intro i n hi hn
    obtain ⟨n, rfl⟩ : ∃ g, n = g + 1 := ⟨n - 1, by omega⟩
    have hin : vp_in (nI i) 128 := vp_in_nI (by omega) (by omega)
    have ec : (nI i).toNatClampNeg = i := nI_clamp (by omega)
    have nx := ih (i + 1) n (by omega) (by omega)
    have st : ∀ z : Int32, z = dg_sv e i → upd (dg_su bd e i) (nI i).toNatClampNeg z = dg_su bd e (i + 1) := by
      intro z hz
      rw [ec, hz]
      rfl
    unfold dg_sv at st
    refine br_f (nI_ge (b := 32) (by omega) (by omega)) (br_c (fun a => pk_le 12 i (fun b => pk_lt i 20 (fun c => ⟨hin, nm_r (st 0 ?_) (nm_r (nI_1 i) nx)⟩) (fun c => ⟨hin, nm_r (st 3 ?_) (nm_r (nI_1 i) nx)⟩)) (fun b => ⟨hin, nm_r (st 1 ?_) (nm_r (nI_1 i) nx)⟩)) (fun a => ⟨hin, nm_r (st 0 ?_) (nm_r (nI_1 i) nx)⟩))
    · rw [if_pos a, if_pos b, if_neg (by omega)]
    · rw [if_pos a, if_pos b, if_pos c]
    · rw [if_pos a, if_neg (by omega)]
    · rw [if_neg a]
theorem yr_reset {f_lim f_last f_logN f_bestIdx : Int32} {a_bd a_sd a_dc a_mc a_ml a_mv a_ps a_dr a_cp a_ex a_jp a_log a_idx a_best : Nat → Int32} {post : SY → Prop} {e : Int32} (h : wpY_fresh post (f_lim, f_last, f_logN, f_bestIdx, dg_su a_bd e 32, upd a_sd 0 0, a_dc, a_mc, a_ml, a_mv, a_ps, a_dr, a_cp, a_ex, a_jp, a_log, a_idx, a_best)) : wpY_reset post (f_lim, f_last, f_logN, f_bestIdx, a_bd, a_sd, a_dc, a_mc, a_ml, a_mv, a_ps, a_dr, a_cp, a_ex, a_jp, a_log, a_idx, a_best) e :=
  ⟨33, yr_setup_l (bd := a_bd) h 32 0 33 (by omega) (by omega)⟩
theorem yr_fresh {f_lim f_last f_logN f_bestIdx : Int32} {a_bd a_sd a_dc a_mc a_ml a_mv a_ps a_dr a_cp a_ex a_jp a_log a_idx a_best : Nat → Int32} {post : SY → Prop} {T : (Nat → Int32) × (Nat → Int32) × (Nat → Int32)} (hB : dg_B a_bd) (hS : dg_S a_sd) (hT : dg_gen 0 (dg_bl a_bd 0) (a_sd 0) a_mc a_ml a_mv = T)
    (h : ∀ ps' dr' cp' ex' jp', post (f_lim, f_last, 0, f_bestIdx, a_bd, a_sd, upd a_dc 0 0, T.1, T.2.1, T.2.2, ps', dr', cp', ex', jp', a_log, a_idx, a_best)) : wpY_fresh post (f_lim, f_last, f_logN, f_bestIdx, a_bd, a_sd, a_dc, a_mc, a_ml, a_mv, a_ps, a_dr, a_cp, a_ex, a_jp, a_log, a_idx, a_best) := by
  subst hT
  exact nm_e (yn_gen (lv := 0) hB hS (by omega) h)
/-! the log -/
def dg_sh (log : Nat → Int32) : Nat → (Nat → Int32)
  | 0 => log
  | n + 1 => upd (dg_sh log n) n (dg_sh log n (n + 1))
def dg_al (log : Nat → Int32) (n : Nat) (e : Int32) : Nat → Int32 := if n = 64 then upd (dg_sh log 63) 63 e else upd log n e
def dg_an (n : Nat) : Nat := if n = 64 then 64 else n + 1
theorem xr_log47 {f_drawLimit f_logTotal f_gameStatus f_searchValue : Int32} {a_neighbours a_board a_sides a_counters a_moveTotals a_moveLengths a_moveSquares a_path a_jumped a_nextDirection a_wentOn a_nextMove a_bestMove a_bestValue a_log : Nat → Int32} {post : SX → Prop} {n : Nat} {e : Int32} (hn : n < 64) (hl : f_logTotal = nI n) (h : post (f_drawLimit, nI (n + 1), f_gameStatus, f_searchValue, a_neighbours, a_board, a_sides, a_counters, a_moveTotals, a_moveLengths, a_moveSquares, a_path, a_jumped, a_nextDirection, a_wentOn, a_nextMove, a_bestMove, a_bestValue, upd a_log n e)) : wX_appendToLog_47 post e f_drawLimit f_logTotal f_gameStatus f_searchValue a_neighbours a_board a_sides a_counters a_moveTotals a_moveLengths a_moveSquares a_path a_jumped a_nextDirection a_wentOn a_nextMove a_bestMove a_bestValue a_log := by
  subst hl
  exact ⟨vp_in_nI hn (by omega), nm_r (e' := upd a_log n e) (by rw [nI_clamp (by omega)]) (nm_r (nI_1 n) h)⟩
theorem xr_log_l {f_drawLimit f_gameStatus f_searchValue : Int32} {a_neighbours a_board a_sides a_counters a_moveTotals a_moveLengths a_moveSquares a_path a_jumped a_nextDirection a_wentOn a_nextMove a_bestMove a_bestValue : Nat → Int32} {post : SX → Prop} {log : Nat → Int32} {e : Int32} (h : post (f_drawLimit, nI 64, f_gameStatus, f_searchValue, a_neighbours, a_board, a_sides, a_counters, a_moveTotals, a_moveLengths, a_moveSquares, a_path, a_jumped, a_nextDirection, a_wentOn, a_nextMove, a_bestMove, a_bestValue, upd (dg_sh log 63) 63 e)) :
    ∀ m i n, i + m = 63 → m < n → wX_appendToLog_11 post e f_drawLimit (nI 64) f_gameStatus f_searchValue n (nI (i + 1)) a_neighbours a_board a_sides a_counters a_moveTotals a_moveLengths a_moveSquares a_path a_jumped a_nextDirection a_wentOn a_nextMove a_bestMove a_bestValue (dg_sh log i) := by
  intro m
  induction m with
  | zero =>
    intro i n hi hn
    obtain ⟨n, rfl⟩ : ∃ g, n = g + 1 := ⟨n - 1, by omega⟩
    obtain rfl : i = 63 := by omega
    exact br_t (nI_le (a := 64) (Nat.le_refl 64) (by omega)) (nm_r (nI_pred 63) (xr_log47 (n := 63) (by omega) rfl h))
  | succ m ih =>
    intro i n hi hn
    obtain ⟨n, rfl⟩ : ∃ g, n = g + 1 := ⟨n - 1, by omega⟩
    refine br_f (nI_ge (b := 64) (by omega) (by omega)) ⟨vp_in_nI (by omega) (by omega), ?_⟩
    rw [nI_pred i]
    refine ⟨vp_in_nI (by omega) (by omega), nm_r (e' := dg_sh log (i + 1)) ?_ (nm_r (nI_1 (i + 1)) (ih (i + 1) n (by omega) (by omega)))⟩
    rw [nI_clamp (by omega), nI_clamp (by omega)]
    rfl
theorem xr_log {f_drawLimit f_gameStatus f_searchValue : Int32} {a_neighbours a_board a_sides a_counters a_moveTotals a_moveLengths a_moveSquares a_path a_jumped a_nextDirection a_wentOn a_nextMove a_bestMove a_bestValue a_log : Nat → Int32} {post : SX → Prop} {n : Nat} {e : Int32} (hn : n ≤ 64) (h : post (f_drawLimit, nI (dg_an n), f_gameStatus, f_searchValue, a_neighbours, a_board, a_sides, a_counters, a_moveTotals, a_moveLengths, a_moveSquares, a_path, a_jumped, a_nextDirection, a_wentOn, a_nextMove, a_bestMove, a_bestValue, dg_al a_log n e)) : wpX_appendToLog post (f_drawLimit, nI n, f_gameStatus, f_searchValue, a_neighbours, a_board, a_sides, a_counters, a_moveTotals, a_moveLengths, a_moveSquares, a_path, a_jumped, a_nextDirection, a_wentOn, a_nextMove, a_bestMove, a_bestValue, a_log) e := by
  unfold dg_an dg_al at h
  refine pk_eq n 64 (fun z => ?_) (fun z => ?_)
  · rw [if_pos z, if_pos z] at h
    subst z
    exact ⟨64, xr_log_l (log := a_log) h 63 0 64 (by omega) (by omega)⟩
  · rw [if_neg z, if_neg z] at h
    exact xr_log47 (n := n) (by omega) rfl h
theorem yr_log72 {f_lim f_last f_logN f_bestIdx : Int32} {a_bd a_sd a_dc a_mc a_ml a_mv a_ps a_dr a_cp a_ex a_jp a_log a_idx a_best : Nat → Int32} {post : Int32 → SY → Prop} {T : (Nat → Int32) × (Nat → Int32) × (Nat → Int32)} {n : Nat} {e : Int32} (hB : dg_B a_bd) (hS : dg_S a_sd) (hT : dg_gen 0 (dg_bl a_bd 0) (a_sd 0) a_mc a_ml a_mv = T) (hn : n < 64) (hl : f_logN = nI n)
    (h : ∀ ps' dr' cp' ex' jp', post 1 (f_lim, f_last, nI (n + 1), f_bestIdx, a_bd, a_sd, a_dc, T.1, T.2.1, T.2.2, ps', dr', cp', ex', jp', upd a_log n e, a_idx, a_best)) : wY_play_72 post e f_lim f_last f_logN f_bestIdx a_bd a_sd a_dc a_mc a_ml a_mv a_ps a_dr a_cp a_ex a_jp a_log a_idx a_best := by
  subst hl
  subst hT
  exact ⟨vp_in_nI hn (by omega), nm_r (e' := upd a_log n e) (by rw [nI_clamp (by omega)]) (nm_r (nI_1 n) (yn_gen (lv := 0) hB hS (by omega) h))⟩
theorem yr_log_l {f_lim f_last f_logN f_bestIdx : Int32} {a_bd a_sd a_dc a_mc a_ml a_mv a_ps a_dr a_cp a_ex a_jp a_idx a_best : Nat → Int32} {post : Int32 → SY → Prop} {log : Nat → Int32} {e : Int32} (h : wY_play_72 post e f_lim f_last 63 f_bestIdx a_bd a_sd a_dc a_mc a_ml a_mv a_ps a_dr a_cp a_ex a_jp (dg_sh log 63) a_idx a_best) :
    ∀ m i n, i + m = 63 → m < n → wY_play_40 post e f_lim f_last f_logN f_bestIdx n (nI i) a_bd a_sd a_dc a_mc a_ml a_mv a_ps a_dr a_cp a_ex a_jp (dg_sh log i) a_idx a_best := by
  intro m
  induction m with
  | zero =>
    intro i n hi hn
    obtain ⟨n, rfl⟩ : ∃ g, n = g + 1 := ⟨n - 1, by omega⟩
    obtain rfl : i = 63 := by omega
    exact br_t (nI_le (a := 63) (Nat.le_refl 63) (by omega)) h
  | succ m ih =>
    intro i n hi hn
    obtain ⟨n, rfl⟩ : ∃ g, n = g + 1 := ⟨n - 1, by omega⟩
    refine br_f (nI_ge (b := 63) (by omega) (by omega)) ?_
    rw [nI_1 i]
    refine ⟨vp_in_nI (by omega) (by omega), vp_in_nI (by omega) (by omega), nm_r (e' := dg_sh log (i + 1)) ?_ (nm_e (ih (i + 1) n (by omega) (by omega)))⟩
    rw [nI_clamp (by omega), nI_clamp (by omega)]
    rfl
theorem yr_log {f_lim f_last f_bestIdx : Int32} {a_bd a_sd a_dc a_mc a_ml a_mv a_ps a_dr a_cp a_ex a_jp a_log a_idx a_best : Nat → Int32} {post : Int32 → SY → Prop} {T : (Nat → Int32) × (Nat → Int32) × (Nat → Int32)} {n : Nat} {e : Int32} (hB : dg_B a_bd) (hS : dg_S a_sd) (hT : dg_gen 0 (dg_bl a_bd 0) (a_sd 0) a_mc a_ml a_mv = T) (hn : n ≤ 64)
    (h : ∀ ps' dr' cp' ex' jp', post 1 (f_lim, f_last, nI (dg_an n), f_bestIdx, a_bd, a_sd, a_dc, T.1, T.2.1, T.2.2, ps', dr', cp', ex', jp', dg_al a_log n e, a_idx, a_best)) :
    ((nI n = 64 → ∃ n40 : Nat, wY_play_40 post e f_lim f_last (nI n) f_bestIdx n40 0 a_bd a_sd a_dc a_mc a_ml a_mv a_ps a_dr a_cp a_ex a_jp a_log a_idx a_best) ∧ (¬ nI n = 64 → wY_play_72 post e f_lim f_last (nI n) f_bestIdx a_bd a_sd a_dc a_mc a_ml a_mv a_ps a_dr a_cp a_ex a_jp a_log a_idx a_best)) := by
  unfold dg_an dg_al at h
  refine pk_eq n 64 (fun z => ⟨64, ?_⟩) (fun z => ?_)
  · rw [if_pos z, if_pos z] at h
    exact yr_log_l (log := a_log) (yr_log72 (n := 63) hB hS hT (by omega) rfl h) 63 0 64 (by omega) (by omega)
  · rw [if_neg z, if_neg z] at h
    exact yr_log72 (n := n) hB hS hT (by omega) rfl h
/-! how many other pieces of the colour stand -/
def dg_cn (b : Nat → Nat) (c s : Nat) : Nat → Nat → Nat
  | 0, _ => 0
  | n + 1, q => (if q ≠ s ∧ b q ≠ 0 ∧ (b q ≤ 2 ↔ c ≤ 2) then 1 else 0) + dg_cn b c s n (q + 1)
theorem dg_cn_y {b : Nat → Nat} {c s n q : Nat} (h : q ≠ s ∧ b q ≠ 0 ∧ (b q ≤ 2 ↔ c ≤ 2)) : dg_cn b c s (n + 1) q = 1 + dg_cn b c s n (q + 1) := by rw [dg_cn, if_pos h]
theorem dg_cn_n {b : Nat → Nat} {c s n q : Nat} (h : ¬ (q ≠ s ∧ b q ≠ 0 ∧ (b q ≤ 2 ↔ c ≤ 2))) : dg_cn b c s (n + 1) q = dg_cn b c s n (q + 1) := by rw [dg_cn, if_neg h, Nat.zero_add]
theorem dg_cn_le (b : Nat → Nat) (c s : Nat) : ∀ n q, dg_cn b c s n q ≤ n := by
  intro n
  induction n with
  | zero => intro q; exact Nat.le_refl _
  | succ n ih =>
    intro q
    have := ih (q + 1)
    by_cases h : q ≠ s ∧ b q ≠ 0 ∧ (b q ≤ 2 ↔ c ≤ 2)
    · rw [dg_cn_y h]; omega
    · rw [dg_cn_n h]; omega
theorem dg_colc : ∀ c, c < 5 → ¬ c = 0 → ∀ v, v < 5 → (dg_col v = dg_col c ↔ (v ≠ 0 ∧ (v ≤ 2 ↔ c ≤ 2))) := by decide +kernel
theorem xr_count_l {f_drawLimit f_logTotal f_gameStatus f_searchValue : Int32} {a_neighbours a_board a_sides a_counters a_moveTotals a_moveLengths a_moveSquares a_path a_jumped a_nextDirection a_wentOn a_nextMove a_bestMove a_bestValue a_log : Nat → Int32} {post : Int32 → Prop} {c s : Nat} (hB : dg_B a_board) (hc : c ≤ 4) (hc0 : ¬ c = 0) (hs : s < 32) :
    ∀ (m q n k : Nat), q + m = 32 → m < n → k ≤ q → post (nI (k + dg_cn (dg_b a_board) c s m q)) → wX_countOthers_11 post (nI s) (dg_col c) f_drawLimit f_logTotal f_gameStatus f_searchValue a_neighbours a_board a_sides a_counters a_moveTotals a_moveLengths a_moveSquares a_path a_jumped a_nextDirection a_wentOn a_nextMove a_bestMove a_bestValue a_log n (nI k) (nI q) := by
  intro m
  induction m with
  | zero =>
    intro q n k hq hn hk h
    obtain ⟨n, rfl⟩ : ∃ g, n = g + 1 := ⟨n - 1, by omega⟩
    obtain rfl : q = 32 := by omega
    exact br_t (nI_le (a := 32) (Nat.le_refl 32) (by omega)) h
  | succ m ih =>
    intro q n k hq hn hk h
    obtain ⟨n, rfl⟩ : ∃ g, n = g + 1 := ⟨n - 1, by omega⟩
    have hv := dg_B_b hB (i := q) (by omega)
    have hcc := dg_colc c (by omega) hc0 (dg_b a_board q) (by omega)
    refine br_f (nI_ge (b := 32) (by omega) (by omega)) (pk_eq q s (fun e => nm_r (nI_1 q) (ih (q + 1) n k (by omega) (by omega) (by omega) ?_)) (fun e => ⟨vp_in_nI (by omega) (by omega), ?_⟩))
    · rw [dg_cn_n (fun z => z.1 e)] at h; exact h
    · rw [nI_clamp (by omega), hv.1]
      refine wx_col hv.2 (br_c (fun a => nm_r (nI_1 k) (nm_r (nI_1 q) (ih (q + 1) n (k + 1) (by omega) (by omega) (by omega) ?_))) (fun a => nm_r (nI_1 q) (ih (q + 1) n k (by omega) (by omega) (by omega) ?_)))
      · rw [dg_cn_y ⟨e, hcc.mp a⟩] at h
        rw [Nat.add_assoc]; exact h
      · rw [dg_cn_n (fun z => a (hcc.mpr z.2))] at h; exact h
theorem xr_count {f_drawLimit f_logTotal f_gameStatus f_searchValue : Int32} {a_neighbours a_board a_sides a_counters a_moveTotals a_moveLengths a_moveSquares a_path a_jumped a_nextDirection a_wentOn a_nextMove a_bestMove a_bestValue a_log : Nat → Int32} {post : Int32 → Prop} {c s : Nat} (hB : dg_B a_board) (hc : c ≤ 4) (hc0 : ¬ c = 0) (hs : s < 32) (h : post (nI (dg_cn (dg_b a_board) c s 32 0))) : wpX_countOthers post (f_drawLimit, f_logTotal, f_gameStatus, f_searchValue, a_neighbours, a_board, a_sides, a_counters, a_moveTotals, a_moveLengths, a_moveSquares, a_path, a_jumped, a_nextDirection, a_wentOn, a_nextMove, a_bestMove, a_bestValue, a_log) (nI c) (nI s) := by
  unfold wpX_countOthers
  refine wx_col hc ⟨33, xr_count_l hB hc hc0 hs 32 0 33 0 (by omega) (by omega) (by omega) ?_⟩
  rw [Nat.zero_add]; exact h
theorem yr_count_l {f_lim f_last f_logN f_bestIdx : Int32} {a_bd a_sd a_dc a_mc a_ml a_mv a_ps a_dr a_cp a_ex a_jp a_log a_idx a_best : Nat → Int32} {post : Int32 → SY → Prop} {c s : Nat} (hB : dg_B a_bd) (hc : c ≤ 4) (hs : s < 32) :
    ∀ (m q n k : Nat), q + m = 32 → m < n → k ≤ q → (k + dg_cn (dg_b a_bd) c s m q ≤ 11 → wY_place_126 post (nI s) (nI c) f_lim f_last f_logN f_bestIdx a_bd a_sd a_dc a_mc a_ml a_mv a_ps a_dr a_cp a_ex a_jp a_log a_idx a_best) → (¬ k + dg_cn (dg_b a_bd) c s m q ≤ 11 → post 0 (f_lim, f_last, f_logN, f_bestIdx, a_bd, a_sd, a_dc, a_mc, a_ml, a_mv, a_ps, a_dr, a_cp, a_ex, a_jp, a_log, a_idx, a_best)) → wY_place_57 post (nI s) (nI c) f_lim f_last f_logN f_bestIdx a_bd a_sd a_dc a_mc a_ml a_mv a_ps a_dr a_cp a_ex a_jp a_log a_idx a_best n (nI k) (nI q) := by
  intro m
  induction m with
  | zero =>
    intro q n k hq hn hk h1 h0
    obtain ⟨n, rfl⟩ : ∃ g, n = g + 1 := ⟨n - 1, by omega⟩
    obtain rfl : q = 32 := by omega
    exact br_t (nI_le (a := 32) (Nat.le_refl 32) (by omega)) (pk_le k 11 (fun a => h1 a) (fun a => h0 (by rw [dg_cn]; omega)))
  | succ m ih =>
    intro q n k hq hn hk h1 h0
    obtain ⟨n, rfl⟩ : ∃ g, n = g + 1 := ⟨n - 1, by omega⟩
    have hv := dg_B_b hB (i := q) (by omega)
    have hv4 := hv.2
    have nxt : ¬ (q ≠ s ∧ dg_b a_bd q ≠ 0 ∧ (dg_b a_bd q ≤ 2 ↔ c ≤ 2)) → ∀ y, y = nI q + 1 → wY_place_57 post (nI s) (nI c) f_lim f_last f_logN f_bestIdx a_bd a_sd a_dc a_mc a_ml a_mv a_ps a_dr a_cp a_ex a_jp a_log a_idx a_best n (nI k) y := by
      intro z
      rw [dg_cn_n z] at h1 h0
      exact nm_r (nI_1 q) (ih (q + 1) n k (by omega) (by omega) (by omega) h1 h0)
    have inc : (q ≠ s ∧ dg_b a_bd q ≠ 0 ∧ (dg_b a_bd q ≤ 2 ↔ c ≤ 2)) → ∀ x, x = nI k + 1 → ∀ y, y = nI q + 1 → wY_place_57 post (nI s) (nI c) f_lim f_last f_logN f_bestIdx a_bd a_sd a_dc a_mc a_ml a_mv a_ps a_dr a_cp a_ex a_jp a_log a_idx a_best n x y := by
      intro z
      rw [dg_cn_y z, ← Nat.add_assoc] at h1 h0
      exact nm_r (nI_1 k) (nm_r (nI_1 q) (ih (q + 1) n (k + 1) (by omega) (by omega) (by omega) h1 h0))
    have n01 : ¬ (0 : Int32) = 1 := by decide
    have n10 : ¬ (1 : Int32) = 0 := by decide
    refine br_f (nI_ge (b := 32) (by omega) (by omega)) (pk_eq q s (fun e => nxt fun z => z.1 e) (fun e => ⟨vp_in_nI (by omega) (by omega), ?_⟩))
    rw [nI_clamp (by omega), hv.1]
    refine pk_eq (dg_b a_bd q) 0 (fun a => nxt fun z => z.2.1 a) (fun a => ⟨vp_in_nI (by omega) (by omega), pk_lt 2 (dg_b a_bd q) (fun l => pk_lt 2 c (fun l2 => ?_) (fun l2 => ?_)) (fun l => pk_lt 2 c (fun l2 => ?_) (fun l2 => ?_))⟩)
    · exact br_t rfl (inc ⟨e, a, by omega⟩)
    · exact br_f n01 (nxt fun z => by have := z.2.2; omega)
    · exact br_f n10 (nxt fun z => by have := z.2.2; omega)
    · exact br_t rfl (inc ⟨e, a, by omega⟩)
end
section
/-! the table of neighbours is filled -/
def dg_f31 (r z c : Int32) : Int32 := if r < 0 then -1 else if 8 ≤ r then -1 else if c + z < 0 then -1 else if c + z < 8 then r * 4 + (c + z) / 2 else -1
def dg_nbX (s d : Int32) : Int32 := dg_f31 (s / 4 + (if 2 ≤ d then 1 else -1)) (if d - d / 2 * 2 = 0 then -1 else 1) (dg_colX s)
theorem dg_nbX_T : ∀ s, s < 32 → ∀ d, d < 4 → dg_nbX (nI s) (nI d) = dg_enc (dg_T s d) := by decide +kernel
theorem xn_31 {post : Int32 → Prop} {r z c : Int32} (h : post (dg_f31 r z c)) : wX_neighbourOf_31 post r z c := by
  unfold dg_f31 at h
  refine nm_e (br_c (fun a => ?_) (fun a => br_c (fun b => ?_) (fun b => br_c (fun d => ?_) (fun d => br_c (fun e => ⟨yn_h2, ?_⟩) (fun e => ?_)))))
  · rw [if_pos a] at h; exact h
  · rw [if_neg a, if_pos b] at h; exact h
  · rw [if_neg a, if_neg b, if_pos d] at h; exact h
  · rw [if_neg a, if_neg b, if_neg d, if_pos e] at h; exact h
  · rw [if_neg a, if_neg b, if_neg d, if_neg e] at h; exact h
theorem xn_14 {post : Int32 → Prop} {s d z r : Int32} (h : post (dg_f31 (r + z) (if d - d / 2 * 2 = 0 then -1 else 1) (dg_colX s))) : wX_neighbourOf_14 post s d z r := by
  refine nm_e (xa_colE ⟨yn_h2, br_c (fun a => xn_31 ?_) (fun a => xn_31 ?_)⟩)
  · rw [if_pos a] at h; exact h
  · rw [if_neg a] at h; exact h
theorem xn_nb {post : Int32 → Prop} {s d : Nat} (hs : s < 32) (hd : d < 4) (h : post (dg_enc (dg_T s d))) : wpX_neighbourOf post (nI s) (nI d) := by
  rw [← dg_nbX_T s hs d hd] at h
  unfold dg_nbX at h
  unfold wpX_neighbourOf
  refine ⟨yn_h4, br_c (fun a => xn_14 ?_) (fun a => xn_14 ?_)⟩
  · rw [if_pos a] at h; exact h
  · rw [if_neg a] at h; exact h
def dg_Np (nb : Nat → Int32) (j : Nat) : Prop := ∀ s, s < 32 → ∀ d, d < 4 → s * 4 + d < j → nb (s * 4 + d) = dg_enc (dg_T s d)
theorem xn_fill_i {f_drawLimit f_logTotal f_gameStatus f_searchValue : Int32} {a_board a_sides a_counters a_moveTotals a_moveLengths a_moveSquares a_path a_jumped a_nextDirection a_wentOn a_nextMove a_bestMove a_bestValue a_log : Nat → Int32} {post : SX → Prop} {J2 : Int32 → (Nat → Int32) → (Nat → Int32) → (Nat → Int32) → (Nat → Int32) → (Nat → Int32) → (Nat → Int32) → (Nat → Int32) → (Nat → Int32) → (Nat → Int32) → (Nat → Int32) → (Nat → Int32) → (Nat → Int32) → (Nat → Int32) → (Nat → Int32) → (Nat → Int32) → Prop} {s : Nat} (hs : s < 32)
    (h : ∀ nb', dg_Np nb' (s * 4 + 4) → J2 (nI (s + 1)) nb' a_board a_sides a_counters a_moveTotals a_moveLengths a_moveSquares a_path a_jumped a_nextDirection a_wentOn a_nextMove a_bestMove a_bestValue a_log) :
    ∀ (m d n : Nat) (nb : Nat → Int32), d + m = 4 → m < n → dg_Np nb (s * 4 + d) → wX_fillNeighbours_10 post J2 (nI s) f_drawLimit f_logTotal f_gameStatus f_searchValue n (nI d) nb a_board a_sides a_counters a_moveTotals a_moveLengths a_moveSquares a_path a_jumped a_nextDirection a_wentOn a_nextMove a_bestMove a_bestValue a_log := by
  intro m
  induction m with
  | zero =>
    intro d n nb hd hn hb
    obtain ⟨n, rfl⟩ : ∃ g, n = g + 1 := ⟨n - 1, by omega⟩
    obtain rfl : d = 4 := by omega
    exact br_t (nI_le (a := 4) (Nat.le_refl 4) (by omega)) (nm_r (nI_1 s) (h nb hb))
  | succ m ih =>
    intro d n nb hd hn hb
    obtain ⟨n, rfl⟩ : ∃ g, n = g + 1 := ⟨n - 1, by omega⟩
    have e1 : nI s * 4 + nI d = nI (s * 4 + d) := by rw [wx_4, pk_mul, nI_add]
    refine br_f (nI_ge (b := 4) (by omega) (by omega)) (xn_nb hs (by omega) ?_)
    rw [e1]
    refine ⟨vp_in_nI (by omega) (by omega), nm_r (e' := upd nb (s * 4 + d) (dg_enc (dg_T s d))) (by rw [nI_clamp (by omega)]) (nm_r (nI_1 d) (ih (d + 1) n _ (by omega) (by omega) ?_))⟩
    intro s' hs' d' hd' hlt
    by_cases e : s' * 4 + d' = s * 4 + d
    · obtain rfl : s' = s := by omega
      obtain rfl : d' = d := by omega
      exact pk_us
    · rw [pk_un e]
      exact hb s' hs' d' hd' (by omega)
theorem xn_fill_o {f_drawLimit f_logTotal f_gameStatus f_searchValue : Int32} {a_board a_sides a_counters a_moveTotals a_moveLengths a_moveSquares a_path a_jumped a_nextDirection a_wentOn a_nextMove a_bestMove a_bestValue a_log : Nat → Int32} {post : SX → Prop} (h : ∀ nb', dg_N nb' → post (f_drawLimit, f_logTotal, f_gameStatus, f_searchValue, nb', a_board, a_sides, a_counters, a_moveTotals, a_moveLengths, a_moveSquares, a_path, a_jumped, a_nextDirection, a_wentOn, a_nextMove, a_bestMove, a_bestValue, a_log)) :
    ∀ (m s n : Nat) (nb : Nat → Int32), s + m = 32 → m < n → dg_Np nb (s * 4) → wX_fillNeighbours_2 post f_drawLimit f_logTotal f_gameStatus f_searchValue n (nI s) nb a_board a_sides a_counters a_moveTotals a_moveLengths a_moveSquares a_path a_jumped a_nextDirection a_wentOn a_nextMove a_bestMove a_bestValue a_log := by
  intro m
  induction m with
  | zero =>
    intro s n nb hs hn hb
    obtain ⟨n, rfl⟩ : ∃ g, n = g + 1 := ⟨n - 1, by omega⟩
    obtain rfl : s = 32 := by omega
    exact br_t (nI_le (a := 32) (Nat.le_refl 32) (by omega)) (h nb fun s' hs' d' hd' => hb s' hs' d' hd' (by omega))
  | succ m ih =>
    intro s n nb hs hn hb
    obtain ⟨n, rfl⟩ : ∃ g, n = g + 1 := ⟨n - 1, by omega⟩
    refine br_f (nI_ge (b := 32) (by omega) (by omega)) ⟨5, xn_fill_i (by omega) (fun nb' hb' => ?_) 4 0 5 nb (by omega) (by omega) hb⟩
    refine ih (s + 1) n nb' (by omega) (by omega) ?_
    intro s' hs' d' hd' hlt
    exact hb' s' hs' d' hd' (by omega)
theorem xn_fill {f_drawLimit f_logTotal f_gameStatus f_searchValue : Int32} {a_neighbours a_board a_sides a_counters a_moveTotals a_moveLengths a_moveSquares a_path a_jumped a_nextDirection a_wentOn a_nextMove a_bestMove a_bestValue a_log : Nat → Int32} {post : SX → Prop} (h : ∀ nb', dg_N nb' → post (f_drawLimit, f_logTotal, f_gameStatus, f_searchValue, nb', a_board, a_sides, a_counters, a_moveTotals, a_moveLengths, a_moveSquares, a_path, a_jumped, a_nextDirection, a_wentOn, a_nextMove, a_bestMove, a_bestValue, a_log)) : wpX_fillNeighbours post (f_drawLimit, f_logTotal, f_gameStatus, f_searchValue, a_neighbours, a_board, a_sides, a_counters, a_moveTotals, a_moveLengths, a_moveSquares, a_path, a_jumped, a_nextDirection, a_wentOn, a_nextMove, a_bestMove, a_bestValue, a_log) :=
  ⟨33, xn_fill_o h 32 0 33 a_neighbours (by omega) (by omega) (fun s' _ d' _ hlt => absurd hlt (by omega))⟩
/-! the search leaves the game's own level alone -/
theorem dg_se_inv {lim : Int32} {pl : Nat} (hpl : pl ≤ 3) : ∀ (n l : Nat) (S : dg_Sh) (ix : Nat → Nat) (vb : Nat → Int) (g : Nat), dg_H l S ix vb → l < pl →
    dg_Ok 0 (dg_se lim pl n (l + 1) S ix vb g).1 ∧ (dg_se lim pl n (l + 1) S ix vb g).1.2.2.2.1 0 = S.2.2.2.1 0 ∧ (dg_se lim pl n (l + 1) S ix vb g).1.2.1 0 = S.2.1 0 ∧ (dg_se lim pl n (l + 1) S ix vb g).1.2.2.1 0 = S.2.2.1 0 := by
  intro n
  induction n with
  | zero =>
    intro l S ix vb g hH hl
    rw [dg_se]
    exact ⟨dg_Ok_le hH.1 (by omega), rfl, rfl, rfl⟩
  | succ n ih =>
    intro l S ix vb g hH hl
    by_cases hlt : ix l < dg_m S l
    · obtain ⟨hO', hm'⟩ := dg_H_next hH (by omega) hlt rfl
      have k1 : (dg_gn (l + 1) (dg_ap l (ix l) (l + 1) S)).2.2.2.1 0 = S.2.2.2.1 0 := dg_m_next (Nat.zero_le l) (ix l)
      have k2 : (dg_gn (l + 1) (dg_ap l (ix l) (l + 1) S)).2.1 0 = S.2.1 0 := by
        show dg_as S.2.1 l (l + 1) 0 = S.2.1 0
        unfold dg_as
        exact pk_un (by omega)
      have k3 : (dg_gn (l + 1) (dg_ap l (ix l) (l + 1) S)).2.2.1 0 = S.2.2.1 0 := by
        show dg_ad S.2.2.1 S.1 l (l + 1) (dg_l S.2.2.2.2.1 (l * 48 + ix l)) (dg_q S.2.2.2.2.2 (l * 48 + ix l)) 0 = S.2.2.1 0
        unfold dg_ad
        exact pk_un (by omega)
      by_cases hlf : dg_lf lim pl (l + 1) (dg_gn (l + 1) (dg_ap l (ix l) (l + 1) S))
      · rw [dg_se_leaf hlt rfl hlf]
        have hv := dg_lv_r (lim := lim) (lv := l + 1) (S := dg_gn (l + 1) (dg_ap l (ix l) (l + 1) S)) (by omega)
        have r := ih l (dg_gn (l + 1) (dg_ap l (ix l) (l + 1) S)) _ _ (dg_tg l (- dg_lv lim (l + 1) (dg_gn (l + 1) (dg_ap l (ix l) (l + 1) S))) vb ix g) (dg_H_take (v := - dg_lv lim (l + 1) (dg_gn (l + 1) (dg_ap l (ix l) (l + 1) S))) hH (dg_Ok_le hO' (by omega)) hm' hlt (by omega) (by omega)) hl
        exact ⟨r.1, r.2.1.trans k1, r.2.2.1.trans k2, r.2.2.2.trans k3⟩
      · rw [dg_se_in hlt rfl hlf]
        have hlp : l + 1 < pl := by
          apply Classical.byContradiction
          intro z
          exact hlf (Or.inr (Or.inr (by omega)))
        have r := ih (l + 1) (dg_gn (l + 1) (dg_ap l (ix l) (l + 1) S)) _ _ g (dg_H_in hH hlt hO' hm' (fun z => hlf (Or.inl z))) hlp
        exact ⟨r.1, r.2.1.trans k1, r.2.2.1.trans k2, r.2.2.2.trans k3⟩
    · cases l with
      | zero =>
        rw [dg_se_end hlt]
        exact ⟨hH.1, rfl, rfl, rfl⟩
      | succ l =>
        obtain ⟨hv, hH'⟩ := dg_H_out hH hlt
        rw [dg_se_out hlt]
        exact ih l S _ _ _ (dg_H_take (v := - vb (l + 1)) hH' hH'.1 (fun _ _ => rfl) (hH.2.1 l (by omega)) (by omega) (by omega)) (by omega)
/-! the relation -/
def i_Rel (k : Nat) (u : SX) (v : SY) : Prop := ∃ (f_drawLimit f_searchValue f_bestIdx : Int32) (a_neighbours a_board a_sides a_counters a_mc a_moveLengths a_moveSquares a_path a_jumped a_nextDirection a_wentOn a_nextMove a_bestMove a_bestValue a_log a_ps a_dr a_cp a_ex a_jp a_idx a_best : Nat → Int32) (n : Nat),
  u = (f_drawLimit, nI n, dg_st f_drawLimit (a_sides 0) (a_counters 0) (a_mc 0), f_searchValue, a_neighbours, a_board, a_sides, a_counters, (if dg_st f_drawLimit (a_sides 0) (a_counters 0) (a_mc 0) = 3 then upd a_mc 0 0 else a_mc), a_moveLengths, a_moveSquares, a_path, a_jumped, a_nextDirection, a_wentOn, a_nextMove, a_bestMove, a_bestValue, a_log) ∧
  v = (f_drawLimit, f_searchValue, nI n, f_bestIdx, a_board, a_sides, a_counters, a_mc, a_moveLengths, a_moveSquares, a_ps, a_dr, a_cp, a_ex, a_jp, a_log, a_idx, a_best) ∧
  dg_N a_neighbours ∧ dg_B a_board ∧ dg_S a_sides ∧ dg_L a_mc a_moveLengths a_moveSquares 0 ∧ n ≤ 64
theorem i_up {k : Nat} {u : SX} {v : SY} (h : i_Rel k u v) : i_Rel (k + 3) u v := h
theorem re_mk {k n : Nat} {f_drawLimit f_searchValue f_bestIdx : Int32} {a_neighbours a_board a_sides a_counters a_mc a_moveLengths a_moveSquares a_path a_jumped a_nextDirection a_wentOn a_nextMove a_bestMove a_bestValue a_log a_ps a_dr a_cp a_ex a_jp a_idx a_best : Nat → Int32} (hN : dg_N a_neighbours) (hB : dg_B a_board) (hS : dg_S a_sides) (hL : dg_L a_mc a_moveLengths a_moveSquares 0) (hn : n ≤ 64) :
    i_Rel k (f_drawLimit, nI n, dg_st f_drawLimit (a_sides 0) (a_counters 0) (a_mc 0), f_searchValue, a_neighbours, a_board, a_sides, a_counters, (if dg_st f_drawLimit (a_sides 0) (a_counters 0) (a_mc 0) = 3 then upd a_mc 0 0 else a_mc), a_moveLengths, a_moveSquares, a_path, a_jumped, a_nextDirection, a_wentOn, a_nextMove, a_bestMove, a_bestValue, a_log) (f_drawLimit, f_searchValue, nI n, f_bestIdx, a_board, a_sides, a_counters, a_mc, a_moveLengths, a_moveSquares, a_ps, a_dr, a_cp, a_ex, a_jp, a_log, a_idx, a_best) :=
  ⟨f_drawLimit, f_searchValue, f_bestIdx, a_neighbours, a_board, a_sides, a_counters, a_mc, a_moveLengths, a_moveSquares, a_path, a_jumped, a_nextDirection, a_wentOn, a_nextMove, a_bestMove, a_bestValue, a_log, a_ps, a_dr, a_cp, a_ex, a_jp, a_idx, a_best, n, rfl, rfl, hN, hB, hS, hL, hn⟩
theorem re_mt {st : Int32} {mc : Nat → Int32} : upd (if st = 3 then upd mc 0 0 else mc) 0 0 = upd mc 0 0 := by
  split
  · funext i
    by_cases e : i = 0
    · subst e; rw [pk_us, pk_us]
    · rw [pk_un e, pk_un e]
  · rfl
theorem re_mt0 {lim sd0 dc0 : Int32} {mc : Nat → Int32} : (if dg_st lim sd0 dc0 (mc 0) = 3 then upd mc 0 0 else mc) 0 = if dg_st lim sd0 dc0 (mc 0) = 0 then mc 0 else 0 := by
  by_cases a : mc 0 = 0
  · have h3 : ¬ dg_st lim sd0 dc0 (mc 0) = 3 := by rw [dg_st_w a]; split <;> decide
    rw [if_neg h3, a]
    split <;> rfl
  · by_cases b : lim ≤ dc0
    · rw [dg_st_d a b, if_pos rfl, if_neg (by decide)]; exact pk_us
    · rw [dg_st_o a b, if_neg (by decide), if_pos rfl]
theorem re_ix (x : Int32) : x < 0 ∨ ∃ j : Nat, j < 2 ^ 31 ∧ x = nI j := by
  by_cases h : x < 0
  · exact Or.inl h
  · exact Or.inr (nI_of h)
theorem yr_status {f_lim f_last f_logN f_bestIdx : Int32} {a_bd a_sd a_dc a_mc a_ml a_mv a_ps a_dr a_cp a_ex a_jp a_log a_idx a_best : Nat → Int32} {post : Int32 → Prop} (h : post (dg_st f_lim (a_sd 0) (a_dc 0) (a_mc 0))) : wpY_status post (f_lim, f_last, f_logN, f_bestIdx, a_bd, a_sd, a_dc, a_mc, a_ml, a_mv, a_ps, a_dr, a_cp, a_ex, a_jp, a_log, a_idx, a_best) := by
  refine br_c (fun a => br_c (fun b => ?_) (fun b => ?_)) (fun a => br_c (fun b => ?_) (fun b => ?_))
  · rw [dg_st_w a, if_pos b] at h; exact h
  · rw [dg_st_w a, if_neg b] at h; exact h
  · rw [dg_st_o a (Int32.not_le.mpr b)] at h; exact h
  · rw [dg_st_d a (Int32.not_lt.mp b)] at h; exact h
theorem yr_mc {f_lim f_last f_logN f_bestIdx : Int32} {a_bd a_sd a_dc a_mc a_ml a_mv a_ps a_dr a_cp a_ex a_jp a_log a_idx a_best : Nat → Int32} {post : Int32 → Prop} (h : post (if dg_st f_lim (a_sd 0) (a_dc 0) (a_mc 0) = 0 then a_mc 0 else 0)) : wpY_moveCount post (f_lim, f_last, f_logN, f_bestIdx, a_bd, a_sd, a_dc, a_mc, a_ml, a_mv, a_ps, a_dr, a_cp, a_ex, a_jp, a_log, a_idx, a_best) := by
  unfold wpY_moveCount
  refine yr_status (br_c (fun a => ?_) (fun a => ?_))
  · rw [if_pos a] at h; exact h
  · rw [if_neg a] at h; exact h
/-- how many moves the game lists: one number on both sides -/
theorem re_M {lim sd0 dc0 : Int32} {mc ml mv : Nat → Int32} (hL : dg_L mc ml mv 0) : ∃ M, M ≤ 48 ∧ (if dg_st lim sd0 dc0 (mc 0) = 0 then mc 0 else 0) = nI M ∧ (∀ j, j < M → dg_M ml mv (0 * 48 + j)) ∧ (dg_st lim sd0 dc0 (mc 0) = 0 → mc 0 = nI M) := by
  obtain ⟨M, h1, h2, h3⟩ := hL
  by_cases a : dg_st lim sd0 dc0 (mc 0) = 0
  · exact ⟨M, h1, by rw [if_pos a]; exact h2, h3, fun _ => h2⟩
  · exact ⟨0, by omega, by rw [if_neg a]; rfl, fun j hj => absurd hj (Nat.not_lt_zero j), fun z => absurd z a⟩
theorem yr_place {f_lim f_last f_logN f_bestIdx : Int32} {a_bd a_sd a_dc a_mc a_ml a_mv a_ps a_dr a_cp a_ex a_jp a_log a_idx a_best : Nat → Int32} {post : Int32 → SY → Prop} {c s : Nat} (hB : dg_B a_bd) (hc : c ≤ 4) (hs : s < 32) (h1 : dg_cro c s = 0 → (c = 0 ∨ dg_cn (dg_b a_bd) c s 32 0 ≤ 11) → wY_place_126 post (nI s) (nI c) f_lim f_last f_logN f_bestIdx a_bd a_sd a_dc a_mc a_ml a_mv a_ps a_dr a_cp a_ex a_jp a_log a_idx a_best)
    (h0 : ¬ (dg_cro c s = 0 ∧ (c = 0 ∨ dg_cn (dg_b a_bd) c s 32 0 ≤ 11)) → post 0 (f_lim, f_last, f_logN, f_bestIdx, a_bd, a_sd, a_dc, a_mc, a_ml, a_mv, a_ps, a_dr, a_cp, a_ex, a_jp, a_log, a_idx, a_best)) : wpY_place post (f_lim, f_last, f_logN, f_bestIdx, a_bd, a_sd, a_dc, a_mc, a_ml, a_mv, a_ps, a_dr, a_cp, a_ex, a_jp, a_log, a_idx, a_best) (nI s) (nI c) := by
  have p48 : dg_cro c s = 0 → wY_place_48 post (nI s) (nI c) f_lim f_last f_logN f_bestIdx a_bd a_sd a_dc a_mc a_ml a_mv a_ps a_dr a_cp a_ex a_jp a_log a_idx a_best := by
    intro hcr
    refine pk_eq c 0 (fun e => h1 hcr (Or.inl e)) (fun e => ⟨33, yr_count_l hB hc hs 32 0 33 0 (by omega) (by omega) (by omega) (fun z => h1 hcr (Or.inr (by omega))) (fun z => h0 ?_)⟩)
    rintro ⟨_, y | y⟩
    · exact e y
    · omega
  have bad : (c = 1 ∧ 28 ≤ s) ∨ (c = 3 ∧ s < 4) → post 0 (f_lim, f_last, f_logN, f_bestIdx, a_bd, a_sd, a_dc, a_mc, a_ml, a_mv, a_ps, a_dr, a_cp, a_ex, a_jp, a_log, a_idx, a_best) := by
    intro z
    refine h0 fun y => ?_
    have := y.1
    unfold dg_cro at this
    rw [if_pos z] at this
    omega
  have p36 : ¬ (c = 1 ∧ 28 ≤ s) → wY_place_36 post (nI s) (nI c) f_lim f_last f_logN f_bestIdx a_bd a_sd a_dc a_mc a_ml a_mv a_ps a_dr a_cp a_ex a_jp a_log a_idx a_best := by
    intro z
    exact pk_eq c 3 (fun e => pk_lt 3 s (fun l => p48 (if_neg (by omega))) (fun l => bad (by omega))) (fun e => p48 (if_neg (by omega)))
  exact br_f (nI_pos (by omega)) (pk_le s 31 (fun _ => br_f (nI_pos (by omega)) (pk_le c 4 (fun _ => pk_eq c 1 (fun e => pk_lt s 28 (fun l => p36 (by omega)) (fun l => bad (by omega))) (fun e => p36 (by omega))) (fun z => absurd z (by omega)))) (fun z => absurd z (by omega)))
end
section
/-! what is owed -/
theorem i_vc0 (k0 : Int32) : wpX_init (fun u => wpY_init (fun v => i_Rel 1 u v) k0) k0 := by
  have hB0 : dg_B (fun _ => 0) := fun i _ => ⟨0, by omega, rfl⟩
  have hS0 : dg_S (upd (fun _ => 0) 0 0) := dg_S_upd (fun i _ => Or.inl rfl) 0 0 (Or.inl rfl)
  have hB1 := dg_su_B hB0 0 32
  have hL1 := dg_gen_L 0 (dg_bl (dg_su (fun _ => 0) 0 32) 0) (upd (fun _ => 0) 0 0 0) (fun _ => 0) (fun _ => 0) (fun _ => 0)
  unfold wpX_init
  refine br_c (fun a => br_c (fun b => ?_) (fun b => ?_)) (fun a => ?_)
  · refine xn_fill fun nb' hN => xr_setup (nm_e (xr_refresh hN hB1 hS0 rfl fun p' jx' nd' wo' => ?_))
    refine br_t a (br_t b ?_)
    unfold wY_init_136
    exact yr_reset (yr_fresh hB1 hS0 rfl fun ps' dr' cp' ex' jp' => re_mk (n := 0) hN hB1 hS0 hL1.1 (by omega))
  · refine xn_fill fun nb' hN => xr_setup (nm_e (xr_refresh hN hB1 hS0 rfl fun p' jx' nd' wo' => ?_))
    refine br_t a (br_f b ?_)
    unfold wY_init_136
    exact yr_reset (yr_fresh hB1 hS0 rfl fun ps' dr' cp' ex' jp' => re_mk (n := 0) hN hB1 hS0 hL1.1 (by omega))
  · refine xn_fill fun nb' hN => xr_setup (nm_e (xr_refresh hN hB1 hS0 rfl fun p' jx' nd' wo' => ?_))
    refine br_f a ?_
    unfold wY_init_136
    exact yr_reset (yr_fresh hB1 hS0 rfl fun ps' dr' cp' ex' jp' => re_mk (n := 0) hN hB1 hS0 hL1.1 (by omega))
theorem i_vc_reset {k : Nat} {u : SX} {v : SY} (I : i_Rel k u v) (hk : k + 3 ≤ 1537) (v1 : Int32) : wpX_reset (fun u' => wpY_reset (fun v' => i_Rel (k + 3) u' v') v (lw_bz v1)) u (lw_bz v1) := by
  obtain ⟨f_drawLimit, f_searchValue, f_bestIdx, a_neighbours, a_board, a_sides, a_counters, a_mc, a_moveLengths, a_moveSquares, a_path, a_jumped, a_nextDirection, a_wentOn, a_nextMove, a_bestMove, a_bestValue, a_log, a_ps, a_dr, a_cp, a_ex, a_jp, a_idx, a_best, n, rfl, rfl, hN, hB, hS, hL, hn⟩ := I
  have hB1 := dg_su_B hB (lw_bz v1) 32
  have hS1 : dg_S (upd a_sides 0 0) := dg_S_upd hS 0 0 (Or.inl rfl)
  have hL1 := dg_gen_L 0 (dg_bl (dg_su a_board (lw_bz v1) 32) 0) (upd a_sides 0 0 0) a_mc a_moveLengths a_moveSquares
  unfold wpX_reset
  refine xr_setup (nm_e (xr_refresh hN hB1 hS1 (dg_gen_congr re_mt) fun p' jx' nd' wo' => ?_))
  exact yr_reset (yr_fresh hB1 hS1 rfl fun ps' dr' cp' ex' jp' => re_mk (n := 0) hN hB1 hS1 hL1.1 (by omega))
theorem i_vc_place {k : Nat} {u : SX} {v : SY} (I : i_Rel k u v) (hk : k + 3 ≤ 1537) (v1 : Int32) (v2 : Int32) : wpX_place (fun r u' => wpY_place (fun r' v' => r' = r ∧ i_Rel (k + 3) u' v') v v1 v2) u v1 v2 := by
  have I3 := i_up I
  obtain ⟨f_drawLimit, f_searchValue, f_bestIdx, a_neighbours, a_board, a_sides, a_counters, a_mc, a_moveLengths, a_moveSquares, a_path, a_jumped, a_nextDirection, a_wentOn, a_nextMove, a_bestMove, a_bestValue, a_log, a_ps, a_dr, a_cp, a_ex, a_jp, a_idx, a_best, n, rfl, rfl, hN, hB, hS, hL, hn⟩ := I
  unfold wpX_place
  rcases re_ix v1 with h1 | ⟨s, hs, rfl⟩
  · exact br_t h1 (br_t rfl (br_t h1 ⟨rfl, I3⟩))
  · refine br_f (nI_pos hs) (pk_le 32 s (fun big => br_t rfl (br_f (nI_pos hs) (br_f (nI_ge (a := 31) (by omega) (by omega)) ⟨rfl, I3⟩))) (fun s32 => br_f (by decide) ?_))
    rcases re_ix v2 with h2 | ⟨c, hc, rfl⟩
    · exact br_t h2 (br_f (nI_pos hs) (br_t (nI_le (b := 31) (by omega) (by omega)) (br_t h2 ⟨rfl, I3⟩)))
    · refine br_f (nI_pos hc) (pk_le c 4 (fun c4 => ?_) (fun big => br_f (nI_pos hs) (br_t (nI_le (b := 31) (by omega) (by omega)) (br_f (nI_pos hc) (br_f (nI_ge (a := 4) (by omega) (by omega)) ⟨rfl, I3⟩)))))
      have hB1 : dg_B (upd a_board s (nI c)) := dg_B_upd hB s c c4
      have hL1 := dg_gen_L 0 (dg_bl (upd a_board s (nI c)) 0) (a_sides 0) a_mc a_moveLengths a_moveSquares
      have ec : (nI s).toNatClampNeg = s := nI_clamp hs
      have no : ¬ (dg_cro c s = 0 ∧ (c = 0 ∨ dg_cn (dg_b a_board) c s 32 0 ≤ 11)) → wpY_place (fun r' v' => r' = 0 ∧ i_Rel (k + 3) (f_drawLimit, nI n, dg_st f_drawLimit (a_sides 0) (a_counters 0) (a_mc 0), f_searchValue, a_neighbours, a_board, a_sides, a_counters, (if dg_st f_drawLimit (a_sides 0) (a_counters 0) (a_mc 0) = 3 then upd a_mc 0 0 else a_mc), a_moveLengths, a_moveSquares, a_path, a_jumped, a_nextDirection, a_wentOn, a_nextMove, a_bestMove, a_bestValue, a_log) v') (f_drawLimit, f_searchValue, nI n, f_bestIdx, a_board, a_sides, a_counters, a_mc, a_moveLengths, a_moveSquares, a_ps, a_dr, a_cp, a_ex, a_jp, a_log, a_idx, a_best) (nI s) (nI c) := by
        intro hno
        exact yr_place hB c4 s32 (fun a b => absurd ⟨a, b⟩ hno) (fun _ => ⟨rfl, I3⟩)
      have yes : dg_cro c s = 0 → (c = 0 ∨ dg_cn (dg_b a_board) c s 32 0 ≤ 11) → wX_place_45 (fun r u' => wpY_place (fun r' v' => r' = r ∧ i_Rel (k + 3) u' v') (f_drawLimit, f_searchValue, nI n, f_bestIdx, a_board, a_sides, a_counters, a_mc, a_moveLengths, a_moveSquares, a_ps, a_dr, a_cp, a_ex, a_jp, a_log, a_idx, a_best) (nI s) (nI c)) (nI s) (nI c) f_drawLimit (nI n) (dg_st f_drawLimit (a_sides 0) (a_counters 0) (a_mc 0)) f_searchValue a_neighbours a_board a_sides a_counters (if dg_st f_drawLimit (a_sides 0) (a_counters 0) (a_mc 0) = 3 then upd a_mc 0 0 else a_mc) a_moveLengths a_moveSquares a_path a_jumped a_nextDirection a_wentOn a_nextMove a_bestMove a_bestValue a_log := by
        intro y1 y2
        refine ⟨vp_in_nI (by omega) (by omega), nm_r (e' := upd a_board s (nI c)) (by rw [ec]) (nm_e (xr_refresh hN hB1 hS (dg_gen_congr re_mt) fun p' jx' nd' wo' => ?_))⟩
        refine yr_place hB c4 s32 (fun _ _ => ⟨vp_in_nI (by omega) (by omega), nm_r (e' := upd a_board s (nI c)) (by rw [ec]) ?_⟩) (fun hno => absurd ⟨y1, y2⟩ hno)
        exact yr_fresh hB1 hS rfl fun ps' dr' cp' ex' jp' => ⟨rfl, re_mk (n := 0) hN hB1 hS hL1.1 (by omega)⟩
      have hcn := dg_cn_le (dg_b a_board) c s 32 0
      refine wx_cro c4 s32 (pk_eq (dg_cro c s) 0 (fun z => pk_eq c 0 (fun c0 => yes z (Or.inl c0)) (fun c0 => xr_count hB c4 c0 s32 (pk_lt (dg_cn (dg_b a_board) c s 32 0) 12 (fun l => yes z (Or.inr (by omega))) (fun l => no ?_)))) (fun z => no fun y => z y.1) (ha := by unfold dg_cro; split <;> omega))
      rintro ⟨_, y | y⟩
      · exact c0 y
      · omega
theorem i_vc_setSideToMove {k : Nat} {u : SX} {v : SY} (I : i_Rel k u v) (hk : k + 3 ≤ 1537) (v1 : Int32) : wpX_setSideToMove (fun r u' => wpY_setSideToMove (fun r' v' => r' = r ∧ i_Rel (k + 3) u' v') v v1) u v1 := by
  have I3 := i_up I
  obtain ⟨f_drawLimit, f_searchValue, f_bestIdx, a_neighbours, a_board, a_sides, a_counters, a_mc, a_moveLengths, a_moveSquares, a_path, a_jumped, a_nextDirection, a_wentOn, a_nextMove, a_bestMove, a_bestValue, a_log, a_ps, a_dr, a_cp, a_ex, a_jp, a_idx, a_best, n, rfl, rfl, hN, hB, hS, hL, hn⟩ := I
  have hL1 := dg_gen_L 0 (dg_bl a_board 0) (upd a_sides 0 v1 0) a_mc a_moveLengths a_moveSquares
  by_cases h0 : v1 = 0
  · have hS1 : dg_S (upd a_sides 0 v1) := dg_S_upd hS 0 v1 (Or.inl h0)
    refine br_t h0 (nm_e (nm_e (xr_refresh hN hB hS1 (dg_gen_congr re_mt) fun p' jx' nd' wo' => ?_)))
    exact br_t h0 (nm_e (yr_fresh hB hS1 rfl fun ps' dr' cp' ex' jp' => ⟨rfl, re_mk (n := 0) hN hB hS1 hL1.1 (by omega)⟩))
  · by_cases h1 : v1 = 1
    · have hS1 : dg_S (upd a_sides 0 v1) := dg_S_upd hS 0 v1 (Or.inr h1)
      refine br_f h0 (br_t h1 (nm_e (nm_e (xr_refresh hN hB hS1 (dg_gen_congr re_mt) fun p' jx' nd' wo' => ?_))))
      exact br_f h0 (br_t h1 (nm_e (yr_fresh hB hS1 rfl fun ps' dr' cp' ex' jp' => ⟨rfl, re_mk (n := 0) hN hB hS1 hL1.1 (by omega)⟩)))
    · exact br_f h0 (br_f h1 (br_f h0 (br_f h1 ⟨rfl, I3⟩)))
theorem i_vc_pieceAt {k : Nat} {u : SX} {v : SY} (I : i_Rel k u v) (hk : k + 3 ≤ 1537) (v1 : Int32) : wpX_pieceAt (fun r => wpY_pieceAt (fun r' => r' = r ∧ i_Rel (k + 3) u v) v v1) u v1 := by
  have I3 := i_up I
  obtain ⟨f_drawLimit, f_searchValue, f_bestIdx, a_neighbours, a_board, a_sides, a_counters, a_mc, a_moveLengths, a_moveSquares, a_path, a_jumped, a_nextDirection, a_wentOn, a_nextMove, a_bestMove, a_bestValue, a_log, a_ps, a_dr, a_cp, a_ex, a_jp, a_idx, a_best, n, rfl, rfl, hN, hB, hS, hL, hn⟩ := I
  unfold wpX_pieceAt
  rcases re_ix v1 with h1 | ⟨s, hs, rfl⟩
  · exact br_t h1 (br_t rfl (br_t h1 ⟨rfl, I3⟩))
  · refine br_f (nI_pos hs) (pk_le 32 s (fun big => br_t rfl (br_f (nI_pos hs) (br_f (nI_ge (a := 31) (by omega) (by omega)) ⟨rfl, I3⟩))) (fun s32 => br_f (by decide) ⟨vp_in_nI (by omega) (by omega), br_f (nI_pos hs) (br_t (nI_le (b := 31) (by omega) (by omega)) ⟨vp_in_nI (by omega) (by omega), rfl, I3⟩)⟩))
theorem i_vc_sideToMove {k : Nat} {u : SX} {v : SY} (I : i_Rel k u v) (hk : k + 3 ≤ 1537) : wpX_sideToMove (fun r => wpY_sideToMove (fun r' => r' = r ∧ i_Rel (k + 3) u v) v) u := by
  have I3 := i_up I
  obtain ⟨f_drawLimit, f_searchValue, f_bestIdx, a_neighbours, a_board, a_sides, a_counters, a_mc, a_moveLengths, a_moveSquares, a_path, a_jumped, a_nextDirection, a_wentOn, a_nextMove, a_bestMove, a_bestValue, a_log, a_ps, a_dr, a_cp, a_ex, a_jp, a_idx, a_best, n, rfl, rfl, hN, hB, hS, hL, hn⟩ := I
  exact ⟨rfl, I3⟩
theorem i_vc_status {k : Nat} {u : SX} {v : SY} (I : i_Rel k u v) (hk : k + 3 ≤ 1537) : wpX_status (fun r => wpY_status (fun r' => r' = r ∧ i_Rel (k + 3) u v) v) u := by
  have I3 := i_up I
  obtain ⟨f_drawLimit, f_searchValue, f_bestIdx, a_neighbours, a_board, a_sides, a_counters, a_mc, a_moveLengths, a_moveSquares, a_path, a_jumped, a_nextDirection, a_wentOn, a_nextMove, a_bestMove, a_bestValue, a_log, a_ps, a_dr, a_cp, a_ex, a_jp, a_idx, a_best, n, rfl, rfl, hN, hB, hS, hL, hn⟩ := I
  unfold wpX_status
  exact yr_status ⟨rfl, I3⟩
theorem i_vc_drawCounter {k : Nat} {u : SX} {v : SY} (I : i_Rel k u v) (hk : k + 3 ≤ 1537) : wpX_drawCounter (fun r => wpY_drawCounter (fun r' => r' = r ∧ i_Rel (k + 3) u v) v) u := by
  have I3 := i_up I
  obtain ⟨f_drawLimit, f_searchValue, f_bestIdx, a_neighbours, a_board, a_sides, a_counters, a_mc, a_moveLengths, a_moveSquares, a_path, a_jumped, a_nextDirection, a_wentOn, a_nextMove, a_bestMove, a_bestValue, a_log, a_ps, a_dr, a_cp, a_ex, a_jp, a_idx, a_best, n, rfl, rfl, hN, hB, hS, hL, hn⟩ := I
  exact ⟨rfl, I3⟩
theorem i_vc_moveCount {k : Nat} {u : SX} {v : SY} (I : i_Rel k u v) (hk : k + 3 ≤ 1537) : wpX_moveCount (fun r => wpY_moveCount (fun r' => r' = r ∧ i_Rel (k + 3) u v) v) u := by
  have I3 := i_up I
  obtain ⟨f_drawLimit, f_searchValue, f_bestIdx, a_neighbours, a_board, a_sides, a_counters, a_mc, a_moveLengths, a_moveSquares, a_path, a_jumped, a_nextDirection, a_wentOn, a_nextMove, a_bestMove, a_bestValue, a_log, a_ps, a_dr, a_cp, a_ex, a_jp, a_idx, a_best, n, rfl, rfl, hN, hB, hS, hL, hn⟩ := I
  unfold wpX_moveCount
  exact yr_mc ⟨re_mt0.symm, I3⟩
theorem i_vc_moveLength {k : Nat} {u : SX} {v : SY} (I : i_Rel k u v) (hk : k + 3 ≤ 1537) (v1 : Int32) : wpX_moveLength (fun r => wpY_moveLength (fun r' => r' = r ∧ i_Rel (k + 3) u v) v v1) u v1 := by
  have I3 := i_up I
  obtain ⟨f_drawLimit, f_searchValue, f_bestIdx, a_neighbours, a_board, a_sides, a_counters, a_mc, a_moveLengths, a_moveSquares, a_path, a_jumped, a_nextDirection, a_wentOn, a_nextMove, a_bestMove, a_bestValue, a_log, a_ps, a_dr, a_cp, a_ex, a_jp, a_idx, a_best, n, rfl, rfl, hN, hB, hS, hL, hn⟩ := I
  obtain ⟨M, hM, eM, hMM, eM0⟩ := re_M (lim := f_drawLimit) (sd0 := a_sides 0) (dc0 := a_counters 0) hL
  unfold wpX_moveLength
  rcases re_ix v1 with h1 | ⟨j, hj, rfl⟩
  · exact br_t h1 (br_t rfl (br_t h1 ⟨rfl, I3⟩))
  · refine br_f (nI_pos hj) ?_
    rw [re_mt0, eM]
    refine pk_le M j (fun big => br_t rfl (br_f (nI_pos hj) (yr_mc ?_))) (fun lt => br_f (by decide) ⟨vp_in_nI (by omega) (by omega), br_f (nI_pos hj) (yr_mc ?_)⟩)
    · rw [eM]; exact br_f (nI_nlt big hj) ⟨rfl, I3⟩
    · rw [eM]; exact br_t (nI_lt lt (by omega)) ⟨vp_in_nI (by omega) (by omega), rfl, I3⟩
theorem i_vc_moveSquare {k : Nat} {u : SX} {v : SY} (I : i_Rel k u v) (hk : k + 3 ≤ 1537) (v1 : Int32) (v2 : Int32) : wpX_moveSquare (fun r => wpY_moveSquare (fun r' => r' = r ∧ i_Rel (k + 3) u v) v v1 v2) u v1 v2 := by
  have I3 := i_up I
  obtain ⟨f_drawLimit, f_searchValue, f_bestIdx, a_neighbours, a_board, a_sides, a_counters, a_mc, a_moveLengths, a_moveSquares, a_path, a_jumped, a_nextDirection, a_wentOn, a_nextMove, a_bestMove, a_bestValue, a_log, a_ps, a_dr, a_cp, a_ex, a_jp, a_idx, a_best, n, rfl, rfl, hN, hB, hS, hL, hn⟩ := I
  obtain ⟨M, hM, eM, hMM, eM0⟩ := re_M (lim := f_drawLimit) (sd0 := a_sides 0) (dc0 := a_counters 0) hL
  unfold wpX_moveSquare
  rcases re_ix v1 with h1 | ⟨j, hj, rfl⟩
  · exact br_t h1 (br_t rfl (br_t h1 ⟨rfl, I3⟩))
  · refine br_f (nI_pos hj) ?_
    rw [re_mt0, eM]
    refine pk_le M j (fun big => br_t rfl (br_f (nI_pos hj) (yr_mc ?_))) (fun lt => br_f (by decide) ?_)
    · rw [eM]; exact br_f (nI_nlt big hj) ⟨rfl, I3⟩
    · obtain ⟨hL2, hL13, hml, hq, _⟩ := dg_M_c (hMM j lt)
      rw [show 0 * 48 + j = j by omega] at hL2 hL13 hml
      have hin : vp_in (nI j) 192 := vp_in_nI (by omega) (by omega)
      have ec : (nI j).toNatClampNeg = j := nI_clamp hj
      have hY : ∀ post : Int32 → Prop, ((v2 < 0 → post (-1)) ∧ (¬ v2 < 0 → (vp_in (nI j) 192 ∧ ((v2 < a_moveLengths (nI j).toNatClampNeg → (vp_in (nI j * 13 + v2) 2496 ∧ post (a_moveSquares (nI j * 13 + v2).toNatClampNeg))) ∧ (¬ v2 < a_moveLengths (nI j).toNatClampNeg → post (-1)))))) → wpY_moveSquare post (f_drawLimit, f_searchValue, nI n, f_bestIdx, a_board, a_sides, a_counters, a_mc, a_moveLengths, a_moveSquares, a_ps, a_dr, a_cp, a_ex, a_jp, a_log, a_idx, a_best) (nI j) v2 := by
        intro post h
        refine br_f (nI_pos hj) (yr_mc ?_)
        rw [eM]
        exact br_t (nI_lt lt (by omega)) h
      rcases re_ix v2 with h2 | ⟨q, hq2, rfl⟩
      · exact br_t h2 (hY _ (br_t h2 ⟨rfl, I3⟩))
      · refine br_f (nI_pos hq2) ⟨hin, ?_⟩
        have e1 : nI j * 13 + nI q = nI (j * 13 + q) := by rw [show (13 : Int32) = nI 13 from rfl, pk_mul, nI_add]
        refine br_c (fun a => ?_) (fun a => hY _ (br_f (nI_pos hq2) ⟨hin, br_f a ⟨rfl, I3⟩⟩))
        have hql : q < dg_l a_moveLengths j := by
          rw [ec, hml] at a
          exact (nI_ltI hq2 (by omega)).mp a
        have hin2 : vp_in (nI j * 13 + nI q) 2496 := by rw [e1]; exact vp_in_nI (by omega) (by omega)
        exact ⟨hin2, hY _ (br_f (nI_pos hq2) ⟨hin, br_t a ⟨hin2, rfl, I3⟩⟩)⟩
theorem i_vc_play {k : Nat} {u : SX} {v : SY} (I : i_Rel k u v) (hk : k + 3 ≤ 1537) (v1 : Int32) : wpX_play (fun r u' => wpY_play (fun r' v' => r' = r ∧ i_Rel (k + 3) u' v') v v1) u v1 := by
  have I3 := i_up I
  obtain ⟨f_drawLimit, f_searchValue, f_bestIdx, a_neighbours, a_board, a_sides, a_counters, a_mc, a_moveLengths, a_moveSquares, a_path, a_jumped, a_nextDirection, a_wentOn, a_nextMove, a_bestMove, a_bestValue, a_log, a_ps, a_dr, a_cp, a_ex, a_jp, a_idx, a_best, n, rfl, rfl, hN, hB, hS, hL, hn⟩ := I
  obtain ⟨M, hM, eM, hMM, eM0⟩ := re_M (lim := f_drawLimit) (sd0 := a_sides 0) (dc0 := a_counters 0) hL
  by_cases hst : dg_st f_drawLimit (a_sides 0) (a_counters 0) (a_mc 0) = 0
  · have hmt : (if dg_st f_drawLimit (a_sides 0) (a_counters 0) (a_mc 0) = 3 then upd a_mc 0 0 else a_mc) = a_mc := by rw [hst]; exact if_neg (by decide)
    have eM1 := eM0 hst
    refine br_t hst ?_
    rcases re_ix v1 with h1 | ⟨j, hj, rfl⟩
    · refine br_t h1 (br_t rfl ?_)
      unfold wpY_play
      exact yr_status (br_t hst (br_t h1 ⟨rfl, I3⟩))
    · refine br_f (nI_pos hj) ?_
      rw [re_mt0, eM]
      refine pk_le M j (fun big => br_t rfl ?_) (fun lt => br_f (by decide) ?_)
      · unfold wpY_play
        refine yr_status (br_t hst (br_f (nI_pos hj) (yr_mc ?_)))
        rw [eM]
        exact br_f (nI_nlt big hj) ⟨rfl, I3⟩
      · have hMj := hMM j lt
        have hmc := dg_M_c hMj
        have hB1 := dg_ab_B (s := 0) (t := 0) (L := dg_l a_moveLengths (0 * 48 + j)) (q := dg_q a_moveSquares (0 * 48 + j)) hB (by omega) (hmc.2.2.2.1 0 (by omega)).1
        have hS1 := dg_as_S (s := 0) (t := 0) hS
        have hL1 := dg_gen_L 0 (dg_bl (dg_ab a_board 0 0 (dg_l a_moveLengths (0 * 48 + j)) (dg_q a_moveSquares (0 * 48 + j))) 0) (dg_as a_sides 0 0 0) a_mc a_moveLengths a_moveSquares
        have hn1 : dg_an n ≤ 64 := by unfold dg_an; split <;> omega
        refine xa_desc hB (by omega) hMj (xa_apply (s := 0) (t := 0) hB (by omega) (by omega) (by omega) hMj (xr_log hn (xr_refresh hN hB1 hS1 (dg_gen_congr re_mt) fun p' jx' nd' wo' => ?_)))
        unfold wpY_play
        refine yr_status (br_t hst (br_f (nI_pos hj) (yr_mc ?_)))
        rw [eM]
        refine br_t (nI_lt lt (by omega)) (ya_apply (s := 0) (t := 0) hB hS (by omega) (by omega) (by omega) hMj ?_)
        exact yr_log hB1 hS1 rfl hn fun ps' dr' cp' ex' jp' => ⟨rfl, re_mk hN hB1 hS1 hL1.1 hn1⟩
  · refine br_f hst ?_
    unfold wpY_play
    exact yr_status (br_f hst ⟨rfl, I3⟩)
theorem re_clamp (x : Int32) : ∃ pl, 1 ≤ pl ∧ pl ≤ 3 ∧ (∀ post : Int32 → Prop, post (nI pl) → wpX_clamp post x 1 3) ∧ (∀ (post : Int32 → SY → Prop) (f_lim f_last f_logN f_bestIdx : Int32) (a_bd a_sd a_dc a_mc a_ml a_mv a_ps a_dr a_cp a_ex a_jp a_log a_idx a_best : Nat → Int32), wY_search_19 post (nI pl) f_lim f_last f_logN f_bestIdx a_bd a_sd a_dc a_mc a_ml a_mv a_ps a_dr a_cp a_ex a_jp a_log a_idx a_best → wpY_search post (f_lim, f_last, f_logN, f_bestIdx, a_bd, a_sd, a_dc, a_mc, a_ml, a_mv, a_ps, a_dr, a_cp, a_ex, a_jp, a_log, a_idx, a_best) x) := by
  by_cases a : 1 ≤ x
  · by_cases b : x ≤ 3
    · have hx : ¬ x < 0 := by
        intro z
        rw [Int32.le_iff_toInt_le] at a
        rw [Int32.lt_iff_toInt_lt] at z
        have e1 : (1 : Int32).toInt = 1 := by decide
        have e0 : (0 : Int32).toInt = 0 := by decide
        omega
      obtain ⟨j, hj, rfl⟩ := nI_of hx
      have a' : 1 ≤ j := (nI_leI (a := 1) (by omega) hj).mp a
      have b' : j ≤ 3 := (nI_leI (b := 3) hj (by omega)).mp b
      exact ⟨j, a', b', fun post h => br_t a (br_t b h), fun post _ _ _ _ _ _ _ _ _ _ _ _ _ _ _ _ _ _ h => br_t a (br_t b h)⟩
    · exact ⟨3, by omega, by omega, fun post h => br_t a (br_f b h), fun post _ _ _ _ _ _ _ _ _ _ _ _ _ _ _ _ _ _ h => br_t a (br_f b h)⟩
  · exact ⟨1, by omega, by omega, fun post h => br_f a h, fun post _ _ _ _ _ _ _ _ _ _ _ _ _ _ _ _ _ _ h => br_f a h⟩
theorem i_vc_search {k : Nat} {u : SX} {v : SY} (I : i_Rel k u v) (hk : k + 3 ≤ 1537) (v1 : Int32) : wpX_search (fun r u' => wpY_search (fun r' v' => r' = r ∧ i_Rel (k + 3) u' v') v v1) u v1 := by
  have I3 := i_up I
  obtain ⟨f_drawLimit, f_searchValue, f_bestIdx, a_neighbours, a_board, a_sides, a_counters, a_mc, a_moveLengths, a_moveSquares, a_path, a_jumped, a_nextDirection, a_wentOn, a_nextMove, a_bestMove, a_bestValue, a_log, a_ps, a_dr, a_cp, a_ex, a_jp, a_idx, a_best, n, rfl, rfl, hN, hB, hS, hL, hn⟩ := I
  obtain ⟨pl, hp1, hp3, hX, hY⟩ := re_clamp v1
  by_cases hst : dg_st f_drawLimit (a_sides 0) (a_counters 0) (a_mc 0) = 0
  · have hmt : (if dg_st f_drawLimit (a_sides 0) (a_counters 0) (a_mc 0) = 3 then upd a_mc 0 0 else a_mc) = a_mc := by rw [hst]; exact if_neg (by decide)
    rw [hmt] at I3 ⊢
    have hmc0 := (dg_st_0 hst).1
    have hm := dg_L_m (S := (a_board, a_sides, a_counters, a_mc, a_moveLengths, a_moveSquares)) (l := 0) hL
    have hM1 : 1 ≤ dg_m (a_board, a_sides, a_counters, a_mc, a_moveLengths, a_moveSquares) 0 := by
      apply Classical.byContradiction
      intro z
      have e : dg_m (a_board, a_sides, a_counters, a_mc, a_moveLengths, a_moveSquares) 0 = 0 := by omega
      have := hm.2
      rw [e] at this
      exact hmc0 this
    have hH : dg_H 0 (a_board, a_sides, a_counters, a_mc, a_moveLengths, a_moveSquares) (fun _ => 0) (fun _ => -20000) := by
      refine ⟨⟨hB, hS, fun l hl => ?_⟩, fun i hi => absurd hi (Nat.not_lt_zero i), fun i hi => ?_⟩
      · obtain rfl : l = 0 := by omega
        exact hL
      · obtain rfl : i = 0 := by omega
        exact ⟨hM1, Nat.zero_le _, Or.inl ⟨rfl, rfl⟩⟩
    have hpt : dg_pt (dg_m (a_board, a_sides, a_counters, a_mc, a_moveLengths, a_moveSquares)) (fun _ => 0) (0 + 1) ≤ 225889 := dg_pt_0 hm.1
    have hinv := dg_se_inv (lim := f_drawLimit) hp3 225889 0 (a_board, a_sides, a_counters, a_mc, a_moveLengths, a_moveSquares) (fun _ => 0) (fun _ => -20000) 0 hH (by omega)
    obtain ⟨S', v', g', eS⟩ : ∃ S' v' g', dg_se f_drawLimit pl 225889 (0 + 1) (a_board, a_sides, a_counters, a_mc, a_moveLengths, a_moveSquares) (fun _ => 0) (fun _ => -20000) 0 = (S', v', g') := ⟨_, _, _, rfl⟩
    rw [eS] at hinv
    obtain ⟨i1, i2, i3, i4⟩ := hinv
    have hst' : dg_st f_drawLimit (S'.2.1 0) (S'.2.2.1 0) (S'.2.2.2.1 0) = 0 := by
      have e2 : S'.2.2.2.1 0 = a_mc 0 := i2
      have e3 : S'.2.1 0 = a_sides 0 := i3
      have e4 : S'.2.2.1 0 = a_counters 0 := i4
      rw [e2, e3, e4]
      exact hst
    refine br_t hst (hX _ ?_)
    unfold wpX_walkTree
    refine xs_open (l := 0) (by omega) ⟨300000, ?_⟩
    refine xs_walk hN hp3 225889 0 (a_board, a_sides, a_counters, a_mc, a_moveLengths, a_moveSquares) (fun _ => 0) (fun _ => -20000) 0 _ _ _ _ _ _ _ 0 300000 hH (by omega) ⟨fun i hi => ?_, fun z => absurd z (Nat.not_succ_le_zero 0)⟩ hpt (by omega) (by omega) ?_
    · obtain rfl : i = 0 := by omega
      exact ⟨pk_us, pk_us⟩
    · intro S1 w1 g1 nm' bm' bv' p' jx' nd' wo' e1 hbv hbm
      cases e1.symm.trans eS
      refine nm_r hbv ?_
      rw [hbm]
      refine hY _ _ _ _ _ _ _ _ _ _ _ _ _ _ _ _ _ _ _ ?_
      unfold wY_search_19
      refine yr_status (br_t hst (nm_e (nm_e ⟨300000, ?_⟩)))
      refine ys_walk hp3 225889 0 (a_board, a_sides, a_counters, a_mc, a_moveLengths, a_moveSquares) (fun _ => 0) (fun _ => -20000) 0 _ _ _ _ _ _ _ _ 0 300000 hH (by omega) ⟨fun i hi => ?_, fun z => absurd z (Nat.not_succ_le_zero 0)⟩ hpt (by omega) (by omega) ?_
      · obtain rfl : i = 0 := by omega
        exact ⟨pk_us, pk_us⟩
      · intro S2 w2 g2 idx' best' ps' dr' cp' ex' jp' e2
        cases e2.symm.trans eS
        refine ⟨rfl, ?_⟩
        have r := re_mk (k := k + 3) (n := n) (f_drawLimit := f_drawLimit) (f_searchValue := dg_i v') (f_bestIdx := nI g') (a_counters := S'.2.2.1) (a_path := p') (a_jumped := jx') (a_nextDirection := nd') (a_wentOn := wo') (a_nextMove := nm') (a_bestMove := bm') (a_bestValue := bv') (a_log := a_log) (a_ps := ps') (a_dr := dr') (a_cp := cp') (a_ex := ex') (a_jp := jp') (a_idx := idx') (a_best := best') hN i1.1 i1.2.1 (i1.2.2 0 (Nat.le_refl 0)) hn
        rw [hst', if_neg (by decide)] at r
        rw [hst]
        exact r
  · refine br_f hst (hY _ _ _ _ _ _ _ _ _ _ _ _ _ _ _ _ _ _ _ ?_)
    unfold wY_search_19
    exact yr_status (br_f hst ⟨rfl, I3⟩)
theorem i_vc_lastValue {k : Nat} {u : SX} {v : SY} (I : i_Rel k u v) (hk : k + 3 ≤ 1537) : wpX_lastValue (fun r => wpY_lastValue (fun r' => r' = r ∧ i_Rel (k + 3) u v) v) u := by
  have I3 := i_up I
  obtain ⟨f_drawLimit, f_searchValue, f_bestIdx, a_neighbours, a_board, a_sides, a_counters, a_mc, a_moveLengths, a_moveSquares, a_path, a_jumped, a_nextDirection, a_wentOn, a_nextMove, a_bestMove, a_bestValue, a_log, a_ps, a_dr, a_cp, a_ex, a_jp, a_idx, a_best, n, rfl, rfl, hN, hB, hS, hL, hn⟩ := I
  exact ⟨rfl, I3⟩
theorem i_vc_logLength {k : Nat} {u : SX} {v : SY} (I : i_Rel k u v) (hk : k + 3 ≤ 1537) : wpX_logLength (fun r => wpY_logLength (fun r' => r' = r ∧ i_Rel (k + 3) u v) v) u := by
  have I3 := i_up I
  obtain ⟨f_drawLimit, f_searchValue, f_bestIdx, a_neighbours, a_board, a_sides, a_counters, a_mc, a_moveLengths, a_moveSquares, a_path, a_jumped, a_nextDirection, a_wentOn, a_nextMove, a_bestMove, a_bestValue, a_log, a_ps, a_dr, a_cp, a_ex, a_jp, a_idx, a_best, n, rfl, rfl, hN, hB, hS, hL, hn⟩ := I
  exact ⟨rfl, I3⟩
theorem i_vc_logEntry {k : Nat} {u : SX} {v : SY} (I : i_Rel k u v) (hk : k + 3 ≤ 1537) (v1 : Int32) : wpX_logEntry (fun r => wpY_logEntry (fun r' => r' = r ∧ i_Rel (k + 3) u v) v v1) u v1 := by
  have I3 := i_up I
  obtain ⟨f_drawLimit, f_searchValue, f_bestIdx, a_neighbours, a_board, a_sides, a_counters, a_mc, a_moveLengths, a_moveSquares, a_path, a_jumped, a_nextDirection, a_wentOn, a_nextMove, a_bestMove, a_bestValue, a_log, a_ps, a_dr, a_cp, a_ex, a_jp, a_idx, a_best, n, rfl, rfl, hN, hB, hS, hL, hn⟩ := I
  rcases re_ix v1 with h1 | ⟨j, hj, rfl⟩
  · exact br_t h1 (br_t h1 ⟨rfl, I3⟩)
  · exact br_f (nI_pos hj) (pk_le n j (fun a => br_f (nI_pos hj) (br_f (nI_nlt a hj) ⟨rfl, I3⟩)) (fun a => ⟨vp_in_nI (by omega) (by omega), br_f (nI_pos hj) (br_t (nI_lt a (by omega)) ⟨vp_in_nI (by omega) (by omega), rfl, I3⟩)⟩))
end
