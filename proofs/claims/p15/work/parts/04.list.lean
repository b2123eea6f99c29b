def dg_M (ml mv : Nat → Int32) (s : Nat) : Prop := ∃ (L : Nat) (q : Nat → Nat), 2 ≤ L ∧ L ≤ 13 ∧ ml s = nI L ∧ (∀ k, k < L → q k < 32 ∧ mv (s * 13 + k) = nI (q k)) ∧ ((∀ k, k + 1 < L → dg_D2 (q k) (q (k + 1))) ∨ (L = 2 ∧ ¬ dg_D2 (q 0) (q 1)))
def dg_L (mt ml mv : Nat → Int32) (lv : Nat) : Prop := ∃ M, M ≤ 48 ∧ mt lv = nI M ∧ ∀ i, i < M → dg_M ml mv (lv * 48 + i)
def dg_F (lv : Nat) (mt ml mv mt' ml' mv' : Nat → Int32) : Prop := (∀ i, i ≠ lv → mt' i = mt i) ∧ (∀ i, i < lv * 48 ∨ lv * 48 + 48 ≤ i → ml' i = ml i) ∧ (∀ i, i < lv * 624 ∨ lv * 624 + 624 ≤ i → mv' i = mv i)
theorem dg_F_rfl {lv : Nat} {mt ml mv : Nat → Int32} : dg_F lv mt ml mv mt ml mv := ⟨fun _ _ => rfl, fun _ _ => rfl, fun _ _ => rfl⟩
theorem dg_F_tr {lv : Nat} {a b c a1 b1 c1 a2 b2 c2 : Nat → Int32} (h : dg_F lv a b c a1 b1 c1) (g : dg_F lv a1 b1 c1 a2 b2 c2) : dg_F lv a b c a2 b2 c2 :=
  ⟨fun i hi => (g.1 i hi).trans (h.1 i hi), fun i hi => (g.2.1 i hi).trans (h.2.1 i hi), fun i hi => (g.2.2 i hi).trans (h.2.2 i hi)⟩
theorem dg_M_congr {ml mv ml' mv' : Nat → Int32} {s : Nat} (h : dg_M ml mv s) (h1 : ml' s = ml s) (h2 : ∀ k, k < 13 → mv' (s * 13 + k) = mv (s * 13 + k)) : dg_M ml' mv' s := by
  obtain ⟨L, q, a1, a2, a3, a4, a5⟩ := h
  exact ⟨L, q, a1, a2, h1.trans a3, fun k hk => ⟨(a4 k hk).1, (h2 k (by omega)).trans (a4 k hk).2⟩, a5⟩
theorem dg_L_F {lv l : Nat} {mt ml mv mt' ml' mv' : Nat → Int32} (h : dg_L mt ml mv l) (hl : l ≠ lv) (hf : dg_F lv mt ml mv mt' ml' mv') : dg_L mt' ml' mv' l := by
  obtain ⟨M, h1, h2, h3⟩ := h
  refine ⟨M, h1, (hf.1 l hl).trans h2, fun i hi => dg_M_congr (h3 i hi) (hf.2.1 _ (by omega)) fun k hk => hf.2.2 _ (by omega)⟩
def dg_wr (mv : Nat → Int32) (o : Nat) (q : Nat → Nat) : Nat → (Nat → Int32)
  | 0 => mv
  | n + 1 => upd (dg_wr mv o q n) (o + n) (nI (q n))
theorem dg_wr_in (mv : Nat → Int32) (o : Nat) (q : Nat → Nat) (n k : Nat) (h : k < n) : dg_wr mv o q n (o + k) = nI (q k) := by
  induction n with
  | zero => exact absurd h (Nat.not_lt_zero k)
  | succ n ih =>
    show upd (dg_wr mv o q n) (o + n) (nI (q n)) (o + k) = nI (q k)
    by_cases e : k = n
    · subst e; rw [pk_us]
    · rw [pk_un (by omega)]; exact ih (by omega)
theorem dg_wr_out (mv : Nat → Int32) (o : Nat) (q : Nat → Nat) (n i : Nat) (h : i < o ∨ o + n ≤ i) : dg_wr mv o q n i = mv i := by
  induction n with
  | zero => rfl
  | succ n ih =>
    show upd (dg_wr mv o q n) (o + n) (nI (q n)) i = mv i
    rw [pk_un (by omega)]; exact ih (by omega)
theorem dg_L_rec {lv M L : Nat} {mt ml mv : Nat → Int32} {q : Nat → Nat} (hM : M < 48) (h : ∀ i, i < M → dg_M ml mv (lv * 48 + i)) (hL : 2 ≤ L) (hL2 : L ≤ 13) (hq : ∀ k, k < L → q k < 32)
    (hk : (∀ k, k + 1 < L → dg_D2 (q k) (q (k + 1))) ∨ (L = 2 ∧ ¬ dg_D2 (q 0) (q 1))) :
    dg_L (upd mt lv (nI (M + 1))) (upd ml (lv * 48 + M) (nI L)) (dg_wr mv ((lv * 48 + M) * 13) q L) lv ∧
    dg_F lv mt ml mv (upd mt lv (nI (M + 1))) (upd ml (lv * 48 + M) (nI L)) (dg_wr mv ((lv * 48 + M) * 13) q L) := by
  refine ⟨⟨M + 1, by omega, pk_us, fun i hi => ?_⟩, fun i hi => pk_un hi, fun i hi => pk_un (by omega), fun i hi => dg_wr_out _ _ _ _ _ (by omega)⟩
  by_cases e : i = M
  · subst e
    exact ⟨L, q, hL, hL2, pk_us, fun k hk => ⟨hq k hk, dg_wr_in _ _ _ _ _ hk⟩, hk⟩
  · exact dg_M_congr (h i (by omega)) (pk_un (by omega)) fun k hk => dg_wr_out _ _ _ _ _ (by omega)
def dg_rec (lv : Nat) (T : (Nat → Int32) × (Nat → Int32) × (Nat → Int32)) (e : Nat × (Nat → Nat)) : (Nat → Int32) × (Nat → Int32) × (Nat → Int32) :=
  if (T.1 lv).toNatClampNeg < 48 then (upd T.1 lv (nI ((T.1 lv).toNatClampNeg + 1)), upd T.2.1 (lv * 48 + (T.1 lv).toNatClampNeg) (nI e.1), dg_wr T.2.2 ((lv * 48 + (T.1 lv).toNatClampNeg) * 13) e.2 e.1) else T
def dg_Q (T : (Nat → Int32) × (Nat → Int32) × (Nat → Int32)) (lv : Nat) : Prop := ∃ M, M ≤ 48 ∧ T.1 lv = nI M
theorem dg_rec_lt {lv M : Nat} {T : (Nat → Int32) × (Nat → Int32) × (Nat → Int32)} {e : Nat × (Nat → Nat)} (h : T.1 lv = nI M) (hM : M < 48) :
    dg_rec lv T e = (upd T.1 lv (nI (M + 1)), upd T.2.1 (lv * 48 + M) (nI e.1), dg_wr T.2.2 ((lv * 48 + M) * 13) e.2 e.1) := by
  have e1 : (T.1 lv).toNatClampNeg = M := by rw [h]; exact nI_clamp (by omega)
  unfold dg_rec
  rw [e1, if_pos hM]
theorem dg_rec_ge {lv M : Nat} {T : (Nat → Int32) × (Nat → Int32) × (Nat → Int32)} {e : Nat × (Nat → Nat)} (h : T.1 lv = nI M) (hM : 48 ≤ M) (hM2 : M ≤ 48) : dg_rec lv T e = T := by
  have e1 : (T.1 lv).toNatClampNeg = M := by rw [h]; exact nI_clamp (by omega)
  unfold dg_rec
  rw [e1, if_neg (by omega)]
theorem dg_rec_Q {lv : Nat} {T : (Nat → Int32) × (Nat → Int32) × (Nat → Int32)} (e : Nat × (Nat → Nat)) (h : dg_Q T lv) : dg_Q (dg_rec lv T e) lv := by
  obtain ⟨M, h1, h2⟩ := h
  by_cases hM : M < 48
  · rw [dg_rec_lt h2 hM]; exact ⟨M + 1, hM, pk_us⟩
  · rw [dg_rec_ge h2 (by omega) h1]; exact ⟨M, h1, h2⟩
theorem dg_fold_Q {lv : Nat} (l : List (Nat × (Nat → Nat))) : ∀ {T : (Nat → Int32) × (Nat → Int32) × (Nat → Int32)}, dg_Q T lv → dg_Q (l.foldl (dg_rec lv) T) lv := by
  induction l with
  | nil => intro T h; exact h
  | cons e t ih => intro T h; exact ih (dg_rec_Q e h)
theorem dg_rec_L {lv : Nat} {T : (Nat → Int32) × (Nat → Int32) × (Nat → Int32)} {e : Nat × (Nat → Nat)} (h : dg_L T.1 T.2.1 T.2.2 lv) (he : dg_E e) :
    dg_L (dg_rec lv T e).1 (dg_rec lv T e).2.1 (dg_rec lv T e).2.2 lv ∧ dg_F lv T.1 T.2.1 T.2.2 (dg_rec lv T e).1 (dg_rec lv T e).2.1 (dg_rec lv T e).2.2 := by
  obtain ⟨M, h1, h2, h3⟩ := h
  by_cases hM : M < 48
  · rw [dg_rec_lt h2 hM]
    exact dg_L_rec hM h3 he.1 he.2.1 he.2.2.1 he.2.2.2
  · rw [dg_rec_ge h2 (by omega) h1]
    exact ⟨⟨M, h1, h2, h3⟩, dg_F_rfl⟩
theorem dg_fold_L {lv : Nat} (l : List (Nat × (Nat → Nat))) : ∀ {T : (Nat → Int32) × (Nat → Int32) × (Nat → Int32)}, dg_L T.1 T.2.1 T.2.2 lv → (∀ e, e ∈ l → dg_E e) →
    dg_L (l.foldl (dg_rec lv) T).1 (l.foldl (dg_rec lv) T).2.1 (l.foldl (dg_rec lv) T).2.2 lv ∧ dg_F lv T.1 T.2.1 T.2.2 (l.foldl (dg_rec lv) T).1 (l.foldl (dg_rec lv) T).2.1 (l.foldl (dg_rec lv) T).2.2 := by
  induction l with
  | nil => intro T h _; exact ⟨h, dg_F_rfl⟩
  | cons e t ih =>
    intro T h he
    have g := dg_rec_L h (he e List.mem_cons_self)
    have g2 := ih (T := dg_rec lv T e) g.1 (fun e' h' => he e' (List.mem_cons_of_mem e h'))
    exact ⟨g2.1, dg_F_tr g.2 g2.2⟩
noncomputable def dg_cap (N : Nat) (b : Nat → Nat) (c s0 : Nat) : List (Nat × (Nat → Nat)) := dg_run b c s0 N 1 (fun _ => s0) (fun _ => 0) (fun _ => dg_fst c) (fun _ => 1) (fun _ => 0)
theorem dg_cnt_0 (l : List Nat) : dg_cnt (fun _ => 0) l = 0 := by
  induction l with
  | nil => rfl
  | cons n t ih => show (if (0 : Int32) = 0 then 0 else 1) + dg_cnt (fun _ => 0) t = 0; rw [ih, if_pos rfl]
theorem dg_K_0 {c s0 : Nat} (h : s0 < 32) : dg_K c s0 1 (fun _ => s0) (fun _ => 0) (fun _ => dg_fst c) (fun _ => 0) (fun _ => 1) (fun _ => 0) := by
  intro k hk
  obtain rfl : k = 0 := by omega
  have hf := dg_fst_le c
  refine ⟨⟨rfl, fun i hi => ⟨h, rfl, Nat.le_refl _, ?_, Nat.zero_le _, Or.inr (Or.inl ⟨rfl, rfl⟩)⟩, fun i hi => absurd hi (Nat.not_lt_zero i), fun n hn hJ => absurd rfl hJ, dg_cnt_0 _⟩, ?_⟩
  · show dg_fst c ≤ 4; omega
  · show ¬ (1 : Int32) = 0; decide
theorem dg_cap_E (N : Nat) (b : Nat → Nat) (c s0 : Nat) (h : s0 < 32) : ∀ e, e ∈ dg_cap N b c s0 → dg_E e := dg_run_E b c s0 N 1 _ _ _ _ _ _ (dg_K_0 h)
def dg_own (c : Nat) (sd : Int32) : Prop := (¬ c = 0 ∧ c ≤ 2 ∧ sd = 0) ∨ (2 < c ∧ sd = 1)
noncomputable def dg_caps (N : Nat) (b : Nat → Nat) (sd : Int32) : Nat → Nat → List (Nat × (Nat → Nat))
  | 0, _ => []
  | n + 1, s => (@ite _ (dg_own (b s) sd) (Classical.propDecidable _) (dg_cap N b (b s) s) []) ++ dg_caps N b sd n (s + 1)
theorem dg_caps_y {N : Nat} {b : Nat → Nat} {sd : Int32} {n s : Nat} (h : dg_own (b s) sd) : dg_caps N b sd (n + 1) s = dg_cap N b (b s) s ++ dg_caps N b sd n (s + 1) := by
  rw [dg_caps, if_pos h]
theorem dg_caps_n {N : Nat} {b : Nat → Nat} {sd : Int32} {n s : Nat} (h : ¬ dg_own (b s) sd) : dg_caps N b sd (n + 1) s = dg_caps N b sd n (s + 1) := by
  rw [dg_caps, if_neg h]; rfl
theorem dg_caps_E (N : Nat) (b : Nat → Nat) (sd : Int32) : ∀ n s, s + n ≤ 32 → ∀ e, e ∈ dg_caps N b sd n s → dg_E e := by
  intro n
  induction n with
  | zero => intro s _ e he; rw [dg_caps] at he; exact absurd he List.not_mem_nil
  | succ n ih =>
    intro s hs e he
    by_cases h : dg_own (b s) sd
    · rw [dg_caps_y h] at he
      rcases List.mem_append.mp he with he | he
      · exact dg_cap_E N b _ s (by omega) e he
      · exact ih (s + 1) (by omega) e he
    · rw [dg_caps_n h] at he
      exact ih (s + 1) (by omega) e he
def dg_R (b : Nat → Nat) (c s d : Nat) : Prop := dg_ok c d ∧ dg_T s d < 32 ∧ b (dg_T s d) = 0
def dg_two (s t : Nat) : Nat → Nat := fun i => if i = 0 then s else t
noncomputable def dg_sm (b : Nat → Nat) (c s : Nat) : Nat → Nat → List (Nat × (Nat → Nat))
  | 0, _ => []
  | n + 1, d => (@ite _ (dg_R b c s d) (Classical.propDecidable _) [(2, dg_two s (dg_T s d))] []) ++ dg_sm b c s n (d + 1)
theorem dg_sm_y {b : Nat → Nat} {c s n d : Nat} (h : dg_R b c s d) : dg_sm b c s (n + 1) d = (2, dg_two s (dg_T s d)) :: dg_sm b c s n (d + 1) := by
  rw [dg_sm, if_pos h]; rfl
theorem dg_sm_n {b : Nat → Nat} {c s n d : Nat} (h : ¬ dg_R b c s d) : dg_sm b c s (n + 1) d = dg_sm b c s n (d + 1) := by
  rw [dg_sm, if_neg h]; rfl
theorem dg_sm_none {b : Nat → Nat} {c s : Nat} : ∀ n d, (∀ e, d ≤ e → e < d + n → ¬ dg_R b c s e) → dg_sm b c s n d = [] := by
  intro n
  induction n with
  | zero => intro d _; rw [dg_sm]
  | succ n ih => intro d h; rw [dg_sm_n (h d (Nat.le_refl d) (by omega))]; exact ih (d + 1) (fun e h1 h2 => h e (by omega) (by omega))
theorem dg_sm_skip {b : Nat → Nat} {c s : Nat} : ∀ k d, d + k ≤ 4 → (∀ e, d ≤ e → e < d + k → ¬ dg_R b c s e) → dg_sm b c s (4 - d) d = dg_sm b c s (4 - (d + k)) (d + k) := by
  intro k
  induction k with
  | zero => intro d _ _; rfl
  | succ k ih =>
    intro d hd h
    have e1 : 4 - d = (4 - (d + 1)) + 1 := by omega
    rw [e1, dg_sm_n (h d (Nat.le_refl d) (by omega)), ih (d + 1) (by omega) (fun e h1 h2 => h e (by omega) (by omega))]
    have e2 : d + 1 + k = d + (k + 1) := by omega
    rw [e2]
theorem dg_sm_E {b : Nat → Nat} {c s : Nat} (hs : s < 32) : ∀ n d, d + n ≤ 4 → ∀ e, e ∈ dg_sm b c s n d → dg_E e := by
  intro n
  induction n with
  | zero => intro d _ e he; rw [dg_sm] at he; exact absurd he List.not_mem_nil
  | succ n ih =>
    intro d hd e he
    by_cases h : dg_R b c s d
    · rw [dg_sm_y h] at he
      rcases List.mem_cons.mp he with he | he
      · subst he
        refine ⟨Nat.le_refl 2, by show 2 ≤ 13; omega, fun k hk => ?_, Or.inr ⟨rfl, dg_step1 s hs d (by omega) h.2.1⟩⟩
        show (if k = 0 then s else dg_T s d) < 32
        split
        · exact hs
        · exact h.2.1
      · exact ih (d + 1) (by omega) e he
    · rw [dg_sm_n h] at he
      exact ih (d + 1) (by omega) e he
noncomputable def dg_sms (b : Nat → Nat) (sd : Int32) : Nat → Nat → List (Nat × (Nat → Nat))
  | 0, _ => []
  | n + 1, s => (@ite _ (dg_own (b s) sd) (Classical.propDecidable _) (dg_sm b (b s) s 4 0) []) ++ dg_sms b sd n (s + 1)
theorem dg_sms_y {b : Nat → Nat} {sd : Int32} {n s : Nat} (h : dg_own (b s) sd) : dg_sms b sd (n + 1) s = dg_sm b (b s) s 4 0 ++ dg_sms b sd n (s + 1) := by
  rw [dg_sms, if_pos h]
theorem dg_sms_n {b : Nat → Nat} {sd : Int32} {n s : Nat} (h : ¬ dg_own (b s) sd) : dg_sms b sd (n + 1) s = dg_sms b sd n (s + 1) := by
  rw [dg_sms, if_neg h]; rfl
theorem dg_sms_E (b : Nat → Nat) (sd : Int32) : ∀ n s, s + n ≤ 32 → ∀ e, e ∈ dg_sms b sd n s → dg_E e := by
  intro n
  induction n with
  | zero => intro s _ e he; rw [dg_sms] at he; exact absurd he List.not_mem_nil
  | succ n ih =>
    intro s hs e he
    by_cases h : dg_own (b s) sd
    · rw [dg_sms_y h] at he
      rcases List.mem_append.mp he with he | he
      · exact dg_sm_E (by omega) 4 0 (by omega) e he
      · exact ih (s + 1) (by omega) e he
    · rw [dg_sms_n h] at he
      exact ih (s + 1) (by omega) e he
noncomputable def dg_gen (lv : Nat) (b : Nat → Nat) (sd : Int32) (mt ml mv : Nat → Int32) : (Nat → Int32) × (Nat → Int32) × (Nat → Int32) :=
  if ((dg_caps 700000 b sd 32 0).foldl (dg_rec lv) (upd mt lv 0, ml, mv)).1 lv = 0 then (dg_sms b sd 32 0).foldl (dg_rec lv) ((dg_caps 700000 b sd 32 0).foldl (dg_rec lv) (upd mt lv 0, ml, mv))
  else (dg_caps 700000 b sd 32 0).foldl (dg_rec lv) (upd mt lv 0, ml, mv)
theorem dg_gen_L (lv : Nat) (b : Nat → Nat) (sd : Int32) (mt ml mv : Nat → Int32) :
    dg_L (dg_gen lv b sd mt ml mv).1 (dg_gen lv b sd mt ml mv).2.1 (dg_gen lv b sd mt ml mv).2.2 lv ∧ dg_F lv mt ml mv (dg_gen lv b sd mt ml mv).1 (dg_gen lv b sd mt ml mv).2.1 (dg_gen lv b sd mt ml mv).2.2 := by
  have h0 : dg_L (upd mt lv 0) ml mv lv := ⟨0, by omega, pk_us, fun i hi => absurd hi (Nat.not_lt_zero i)⟩
  have f0 : dg_F lv mt ml mv (upd mt lv 0) ml mv := ⟨fun i hi => pk_un hi, fun _ _ => rfl, fun _ _ => rfl⟩
  have h1 := dg_fold_L (lv := lv) (dg_caps 700000 b sd 32 0) (T := (upd mt lv 0, ml, mv)) h0 (dg_caps_E 700000 b sd 32 0 (by omega))
  unfold dg_gen
  generalize (dg_caps 700000 b sd 32 0).foldl (dg_rec lv) (upd mt lv 0, ml, mv) = T1 at h1 ⊢
  split
  · have h2 := dg_fold_L (lv := lv) (dg_sms b sd 32 0) (T := T1) h1.1 (dg_sms_E b sd 32 0 (by omega))
    exact ⟨h2.1, dg_F_tr f0 (dg_F_tr h1.2 h2.2)⟩
  · exact ⟨h1.1, dg_F_tr f0 h1.2⟩
def dg_B (bd : Nat → Int32) : Prop := ∀ i, i < 128 → ∃ c, c ≤ 4 ∧ bd i = nI c
def dg_b (bd : Nat → Int32) (i : Nat) : Nat := (bd i).toNatClampNeg
theorem dg_B_b {bd : Nat → Int32} (h : dg_B bd) {i : Nat} (hi : i < 128) : bd i = nI (dg_b bd i) ∧ dg_b bd i ≤ 4 := by
  obtain ⟨c, hc, e⟩ := h i hi
  unfold dg_b
  rw [e, nI_clamp (by omega)]
  exact ⟨rfl, hc⟩
theorem dg_B_upd {bd : Nat → Int32} (h : dg_B bd) (k c : Nat) (hc : c ≤ 4) : dg_B (upd bd k (nI c)) := by
  intro i hi
  by_cases e : i = k
  · subst e; exact ⟨c, hc, pk_us⟩
  · rw [pk_un e]; exact h i hi
def dg_S (sd : Nat → Int32) : Prop := ∀ i, i < 4 → sd i = 0 ∨ sd i = 1
theorem dg_S_upd {sd : Nat → Int32} (h : dg_S sd) (k : Nat) (x : Int32) (hx : x = 0 ∨ x = 1) : dg_S (upd sd k x) := by
  intro i hi
  by_cases e : i = k
  · subst e; rw [pk_us]; exact hx
  · rw [pk_un e]; exact h i hi
def dg_N (nb : Nat → Int32) : Prop := ∀ s, s < 32 → ∀ d, d < 4 → nb (s * 4 + d) = dg_enc (dg_T s d)
def dg_cb (bd : Nat → Int32) (s t : Nat) : Nat → (Nat → Int32)
  | 0 => bd
  | n + 1 => upd (dg_cb bd s t n) (t * 32 + n) (dg_cb bd s t n (s * 32 + n))
theorem dg_cb_src (bd : Nat → Int32) (s t n i : Nat) (h : s ≠ t) (hn : n ≤ 32) (hi : i < 32) : dg_cb bd s t n (s * 32 + i) = bd (s * 32 + i) := by
  induction n with
  | zero => rfl
  | succ n ih =>
    show upd (dg_cb bd s t n) (t * 32 + n) (dg_cb bd s t n (s * 32 + n)) (s * 32 + i) = bd (s * 32 + i)
    rw [pk_un (by omega)]; exact ih (by omega)
theorem dg_cb_in (bd : Nat → Int32) (s t n i : Nat) (h : s ≠ t) (hn : n ≤ 32) (hi : i < n) : dg_cb bd s t n (t * 32 + i) = bd (s * 32 + i) := by
  induction n with
  | zero => exact absurd hi (Nat.not_lt_zero i)
  | succ n ih =>
    show upd (dg_cb bd s t n) (t * 32 + n) (dg_cb bd s t n (s * 32 + n)) (t * 32 + i) = bd (s * 32 + i)
    by_cases e : i = n
    · subst e; rw [pk_us]; exact dg_cb_src bd s t i i h (by omega) (by omega)
    · rw [pk_un (by omega)]; exact ih (by omega) (by omega)
theorem dg_cb_out (bd : Nat → Int32) (s t n i : Nat) (h : i < t * 32 ∨ t * 32 + n ≤ i) : dg_cb bd s t n i = bd i := by
  induction n with
  | zero => rfl
  | succ n ih =>
    show upd (dg_cb bd s t n) (t * 32 + n) (dg_cb bd s t n (s * 32 + n)) i = bd i
    rw [pk_un (by omega)]; exact ih (by omega)
theorem dg_upd_same (f : Nat → Int32) (k : Nat) : upd f k (f k) = f := by
  funext i
  by_cases e : i = k
  · subst e; rw [pk_us]
  · rw [pk_un e]
theorem dg_cb_same (bd : Nat → Int32) (s n : Nat) : dg_cb bd s s n = bd := by
  induction n with
  | zero => rfl
  | succ n ih =>
    show upd (dg_cb bd s s n) (s * 32 + n) (dg_cb bd s s n (s * 32 + n)) = bd
    rw [ih]; exact dg_upd_same bd _
theorem dg_cb_B {bd : Nat → Int32} (h : dg_B bd) (s t n : Nat) (hs : s < 4) (hn : n ≤ 32) : dg_B (dg_cb bd s t n) := by
  induction n with
  | zero => exact h
  | succ n ih =>
    intro i hi
    have g := ih (by omega)
    show ∃ c, c ≤ 4 ∧ upd (dg_cb bd s t n) (t * 32 + n) (dg_cb bd s t n (s * 32 + n)) i = nI c
    by_cases e : i = t * 32 + n
    · rw [e, pk_us]; exact g _ (by omega)
    · rw [pk_un e]; exact g i hi
def dg_co (s : Nat) : Nat := 2 * (s % 4) + (if s / 4 % 2 = 0 then 1 else 0)
def dg_mid (a z : Nat) : Nat := (a / 4 + z / 4) / 2 * 4 + (dg_co a + dg_co z) / 2 / 2
theorem dg_co_lt (s : Nat) : dg_co s ≤ 7 := by unfold dg_co; split <;> omega
theorem dg_mid_lt {a z : Nat} (ha : a < 32) (hz : z < 32) : dg_mid a z < 32 := by
  have h1 := dg_co_lt a
  have h2 := dg_co_lt z
  unfold dg_mid
  omega
def dg_tk (bd : Nat → Int32) (t : Nat) (q : Nat → Nat) : Nat → (Nat → Int32)
  | 0 => bd
  | n + 1 => upd (dg_tk bd t q n) (t * 32 + dg_mid (q n) (q (n + 1))) 0
theorem dg_tk_B {bd : Nat → Int32} (h : dg_B bd) (t : Nat) (q : Nat → Nat) (n : Nat) : dg_B (dg_tk bd t q n) := by
  induction n with
  | zero => exact h
  | succ n ih => exact dg_B_upd ih _ 0 (by omega)
def dg_i (z : Int) : Int32 := Int32.ofInt z
theorem dg_i_add (a b : Int) : dg_i a + dg_i b = dg_i (a + b) := (Int32.ofInt_add a b).symm
theorem dg_i_sub (a b : Int) : dg_i a - dg_i b = dg_i (a - b) := (Int32.ofInt_sub a b).symm
theorem dg_i_neg (a : Int) : - dg_i a = dg_i (- a) := (Int32.ofInt_neg a).symm
theorem dg_i_nI (n : Nat) : nI n = dg_i (n : Int) := Int32.ofInt_eq_ofNat.symm
theorem dg_i_t {a : Int} (h : -2000000000 ≤ a) (h2 : a ≤ 2000000000) : (dg_i a).toInt = a := Int32.toInt_ofInt_of_le (by omega) (by omega)
theorem dg_i_lt {a b : Int} (h : -2000000000 ≤ a) (h2 : a ≤ 2000000000) (g : -2000000000 ≤ b) (g2 : b ≤ 2000000000) : dg_i a < dg_i b ↔ a < b := by
  rw [Int32.lt_iff_toInt_lt, dg_i_t h h2, dg_i_t g g2]
theorem dg_i_le {a b : Int} (h : -2000000000 ≤ a) (h2 : a ≤ 2000000000) (g : -2000000000 ≤ b) (g2 : b ≤ 2000000000) : dg_i a ≤ dg_i b ↔ a ≤ b := by
  rw [Int32.le_iff_toInt_le, dg_i_t h h2, dg_i_t g g2]
theorem dg_i_eq {a b : Int} (h : -2000000000 ≤ a) (h2 : a ≤ 2000000000) (g : -2000000000 ≤ b) (g2 : b ≤ 2000000000) : dg_i a = dg_i b ↔ a = b := by
  rw [← Int32.toInt_inj, dg_i_t h h2, dg_i_t g g2]
def dg_wo (c s : Nat) : Int := if c = 1 then 100 + 4 * ((s / 4 : Nat) : Int) else if c = 3 then 100 + 4 * ((7 - s / 4 : Nat) : Int) else if c = 0 then 0 else 250
theorem dg_wo_r {c s : Nat} (hs : s < 32) : 0 ≤ dg_wo c s ∧ dg_wo c s ≤ 250 := by
  unfold dg_wo
  split
  · omega
  · split
    · omega
    · split <;> omega
noncomputable def dg_ev (b : Nat → Nat) (sd : Int32) : Nat → Nat → Int
  | 0, _ => 0
  | n + 1, s => (@ite _ (dg_own (b s) sd) (Classical.propDecidable _) (dg_wo (b s) s) (- dg_wo (b s) s)) + dg_ev b sd n (s + 1)
theorem dg_ev_y {b : Nat → Nat} {sd : Int32} {n s : Nat} (h : dg_own (b s) sd) : dg_ev b sd (n + 1) s = dg_wo (b s) s + dg_ev b sd n (s + 1) := by
  rw [dg_ev, if_pos h]
theorem dg_ev_n {b : Nat → Nat} {sd : Int32} {n s : Nat} (h : ¬ dg_own (b s) sd) : dg_ev b sd (n + 1) s = - dg_wo (b s) s + dg_ev b sd n (s + 1) := by
  rw [dg_ev, if_neg h]
theorem dg_ev_r (b : Nat → Nat) (sd : Int32) : ∀ (n s : Nat), s + n ≤ 32 → - (250 * (n : Int)) ≤ dg_ev b sd n s ∧ dg_ev b sd n s ≤ 250 * (n : Int) := by
  intro n
  induction n with
  | zero => intro s _; rw [dg_ev]; omega
  | succ n ih =>
    intro s hs
    have h1 := ih (s + 1) (by omega)
    have h2 := dg_wo_r (c := b s) (s := s) (by omega)
    by_cases h : dg_own (b s) sd
    · rw [dg_ev_y h]; omega
    · rw [dg_ev_n h]; omega
def dg_st (lim sd0 dc0 mc0 : Int32) : Int32 := if mc0 = 0 then (if sd0 = 0 then 2 else 1) else if lim ≤ dc0 then 3 else 0
theorem dg_st_w {lim sd0 dc0 mc0 : Int32} (h : mc0 = 0) : dg_st lim sd0 dc0 mc0 = if sd0 = 0 then 2 else 1 := if_pos h
theorem dg_st_d {lim sd0 dc0 mc0 : Int32} (h : ¬ mc0 = 0) (h2 : lim ≤ dc0) : dg_st lim sd0 dc0 mc0 = 3 := by unfold dg_st; rw [if_neg h, if_pos h2]
theorem dg_st_o {lim sd0 dc0 mc0 : Int32} (h : ¬ mc0 = 0) (h2 : ¬ lim ≤ dc0) : dg_st lim sd0 dc0 mc0 = 0 := by unfold dg_st; rw [if_neg h, if_neg h2]
theorem dg_st_0 {lim sd0 dc0 mc0 : Int32} (h : dg_st lim sd0 dc0 mc0 = 0) : ¬ mc0 = 0 ∧ ¬ lim ≤ dc0 := by
  unfold dg_st at h
  split at h
  · split at h <;> exact absurd h (by decide)
  · split at h
    · exact absurd h (by decide)
    · exact ⟨‹_›, ‹_›⟩
