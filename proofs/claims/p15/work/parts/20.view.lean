/-! what a level's list shows: a list of paths -/
def pv_at (ml mv : Nat → Int32) (s : Nat) (e : Nat × (Nat → Nat)) : Prop := ml s = nI e.1 ∧ ∀ k, k < e.1 → mv (s * 13 + k) = nI (e.2 k)
def pv_V (T : (Nat → Int32) × (Nat → Int32) × (Nat → Int32)) (lv : Nat) (l : List (Nat × (Nat → Nat))) : Prop := l.length ≤ 48 ∧ T.1 lv = nI l.length ∧ ∀ i e, l[i]? = some e → pv_at T.2.1 T.2.2 (lv * 48 + i) e
def pv_add (l : List (Nat × (Nat → Nat))) (e : Nat × (Nat → Nat)) : List (Nat × (Nat → Nat)) := if l.length < 48 then l ++ [e] else l
theorem pv_rec {T : (Nat → Int32) × (Nat → Int32) × (Nat → Int32)} {lv : Nat} {l : List (Nat × (Nat → Nat))} {e : Nat × (Nat → Nat)} (h : pv_V T lv l) (hl : ∀ e, e ∈ l → dg_E e) (he : dg_E e) : pv_V (dg_rec lv T e) lv (pv_add l e) ∧ ∀ e', e' ∈ pv_add l e → dg_E e' := by
  obtain ⟨h1, h2, h3⟩ := h
  unfold pv_add
  by_cases hM : l.length < 48
  · rw [if_pos hM, dg_rec_lt h2 hM]
    refine ⟨⟨?_, ?_, fun i e' hi => ?_⟩, fun e' he' => ?_⟩
    · rw [List.length_append]; exact hM
    · rw [List.length_append]; exact pk_us
    · have hlen : i < (l ++ [e]).length := (List.getElem?_eq_some_iff.mp hi).1
      rw [List.length_append] at hlen
      have hlen' : i < l.length + 1 := hlen
      by_cases hi2 : i = l.length
      · subst hi2
        rw [List.getElem?_append_right (Nat.le_refl _), Nat.sub_self] at hi
        have : e = e' := Option.some.inj hi
        subst this
        exact ⟨pk_us, fun k hk => dg_wr_in _ _ _ _ _ hk⟩
      · have hi3 : i < l.length := by omega
        rw [List.getElem?_append_left hi3] at hi
        have g := h3 i e' hi
        have hE := hl e' (List.mem_of_getElem? hi)
        refine ⟨?_, fun k hk => ?_⟩
        · show upd T.2.1 (lv * 48 + l.length) (nI e.1) (lv * 48 + i) = nI e'.1
          rw [pk_un (by omega)]; exact g.1
        · show dg_wr T.2.2 ((lv * 48 + l.length) * 13) e.2 e.1 ((lv * 48 + i) * 13 + k) = nI (e'.2 k)
          have := hE.2.1
          rw [dg_wr_out _ _ _ _ _ (by omega)]; exact g.2 k hk
    · rcases List.mem_append.mp he' with a | a
      · exact hl e' a
      · obtain rfl := List.mem_singleton.mp a
        exact he
  · rw [if_neg hM, dg_rec_ge h2 (by omega) h1]
    exact ⟨⟨h1, h2, h3⟩, hl⟩
theorem pv_fold {lv : Nat} (m : List (Nat × (Nat → Nat))) : ∀ {T : (Nat → Int32) × (Nat → Int32) × (Nat → Int32)} {l : List (Nat × (Nat → Nat))}, pv_V T lv l → (∀ e, e ∈ l → dg_E e) → (∀ e, e ∈ m → dg_E e) → pv_V (m.foldl (dg_rec lv) T) lv (m.foldl pv_add l) ∧ ∀ e, e ∈ m.foldl pv_add l → dg_E e := by
  induction m with
  | nil => intro T l h hl _; exact ⟨h, hl⟩
  | cons e t ih =>
    intro T l h hl hm
    have g := pv_rec h hl (hm e List.mem_cons_self)
    exact ih (T := dg_rec lv T e) (l := pv_add l e) g.1 g.2 (fun e' h' => hm e' (List.mem_cons_of_mem e h'))
theorem pv_mem (m : List (Nat × (Nat → Nat))) : ∀ (l : List (Nat × (Nat → Nat))) e, e ∈ m.foldl pv_add l → e ∈ l ∨ e ∈ m := by
  induction m with
  | nil => intro l e h; exact Or.inl h
  | cons a t ih =>
    intro l e h
    rcases ih (pv_add l a) e h with g | g
    · unfold pv_add at g
      split at g
      · rcases List.mem_append.mp g with g | g
        · exact Or.inl g
        · obtain rfl := List.mem_singleton.mp g
          exact Or.inr List.mem_cons_self
      · exact Or.inl g
    · exact Or.inr (List.mem_cons_of_mem a g)
theorem pv_len (m : List (Nat × (Nat → Nat))) : ∀ (l : List (Nat × (Nat → Nat))), l.length ≤ (m.foldl pv_add l).length := by
  induction m with
  | nil => intro l; exact Nat.le_refl _
  | cons a t ih =>
    intro l
    refine Nat.le_trans ?_ (ih (pv_add l a))
    unfold pv_add
    split
    · rw [List.length_append]; exact Nat.le_add_right _ _
    · exact Nat.le_refl _
theorem pv_ne {m : List (Nat × (Nat → Nat))} (h : m ≠ []) : 0 < (m.foldl pv_add []).length := by
  cases m with
  | nil => exact absurd rfl h
  | cons a t => exact Nat.lt_of_lt_of_le (show 0 < (pv_add [] a).length from Nat.succ_pos 0) (pv_len t (pv_add [] a))
/-- all moves of a position -/
noncomputable def pv_caps (b : Nat → Nat) (sd : Int32) : List (Nat × (Nat → Nat)) := (dg_caps 700000 b sd 32 0).foldl pv_add []
noncomputable def pv_sms (b : Nat → Nat) (sd : Int32) : List (Nat × (Nat → Nat)) := (dg_sms b sd 32 0).foldl pv_add []
noncomputable def pv_ls (b : Nat → Nat) (sd : Int32) : List (Nat × (Nat → Nat)) := if (pv_caps b sd).length = 0 then pv_sms b sd else pv_caps b sd
theorem pv_gen (lv : Nat) (b : Nat → Nat) (sd : Int32) (mt ml mv : Nat → Int32) : pv_V (dg_gen lv b sd mt ml mv) lv (pv_ls b sd) ∧ ∀ e, e ∈ pv_ls b sd → dg_E e := by
  have h0 : pv_V (upd mt lv 0, ml, mv) lv [] := ⟨by decide, pk_us, fun i e h => absurd h (by simp)⟩
  have n0 : ∀ e : Nat × (Nat → Nat), e ∈ ([] : List (Nat × (Nat → Nat))) → dg_E e := fun e h => absurd h List.not_mem_nil
  have h1 := pv_fold (lv := lv) (dg_caps 700000 b sd 32 0) h0 n0 (dg_caps_E 700000 b sd 32 0 (by omega))
  unfold dg_gen pv_ls pv_sms
  change pv_V _ lv (pv_caps b sd) ∧ _ at h1
  have hlen := h1.1.1
  by_cases hz : (pv_caps b sd).length = 0
  · have hT : ((dg_caps 700000 b sd 32 0).foldl (dg_rec lv) (upd mt lv 0, ml, mv)).1 lv = 0 := by rw [h1.1.2.1, hz]; rfl
    rw [if_pos hz, if_pos hT]
    have he : pv_caps b sd = [] := List.eq_nil_of_length_eq_zero hz
    rw [he] at h1
    exact pv_fold (lv := lv) (dg_sms b sd 32 0) h1.1 n0 (dg_sms_E b sd 32 0 (by omega))
  · have hT : ¬ ((dg_caps 700000 b sd 32 0).foldl (dg_rec lv) (upd mt lv 0, ml, mv)).1 lv = 0 := by
      rw [h1.1.2.1, ← nI_0, nI_eq (by omega) (by omega)]; exact hz
    rw [if_neg hz, if_neg hT]
    exact h1
/-! the moves depend on the 32 squares alone -/
theorem pv_P_congr {b b' : Nat → Nat} (h : ∀ n, n < 32 → b n = b' n) (J : Nat → Int32) (c s0 q : Nat) : dg_P b J c s0 q = dg_P b' J c s0 q := by
  funext d
  unfold dg_P
  apply propext
  constructor
  · rintro ⟨a1, a2, a3, a4, a5, a6⟩
    rw [h _ a2] at a5; rw [h _ a3] at a6
    exact ⟨a1, a2, a3, a4, a5, a6⟩
  · rintro ⟨a1, a2, a3, a4, a5, a6⟩
    rw [← h _ a2] at a5; rw [← h _ a3] at a6
    exact ⟨a1, a2, a3, a4, a5, a6⟩
theorem pv_run_congr {b b' : Nat → Nat} (h : ∀ n, n < 32 → b n = b' n) (c s0 : Nat) : ∀ (n k1 : Nat) (q j x : Nat → Nat) (w J : Nat → Int32), dg_run b c s0 n k1 q j x w J = dg_run b' c s0 n k1 q j x w J := by
  intro n
  induction n with
  | zero => intro k1 q j x w J; rw [dg_run, dg_run]
  | succ n ih =>
    intro k1 q j x w J
    cases k1 with
    | zero => rw [dg_run_0, dg_run_0]
    | succ k =>
      have e : dg_D b c s0 J (q k) (x k) = dg_D b' c s0 J (q k) (x k) := by unfold dg_D; rw [pv_P_congr h]
      by_cases hD : dg_D b' c s0 J (q k) (x k) < 4
      · rw [dg_run_push e hD, dg_run_push rfl hD]
        exact ih _ _ _ _ _ _
      · rw [dg_run_pop hD, dg_run_pop (by rw [e]; exact hD), ih]
theorem pv_caps_congr {b b' : Nat → Nat} (h : ∀ n, n < 32 → b n = b' n) (N : Nat) (sd : Int32) : ∀ n s, s + n ≤ 32 → dg_caps N b sd n s = dg_caps N b' sd n s := by
  intro n
  induction n with
  | zero => intro s _; rw [dg_caps, dg_caps]
  | succ n ih =>
    intro s hs
    have e := h s (by omega)
    by_cases ho : dg_own (b' s) sd
    · rw [dg_caps_y ho, dg_caps_y (by rw [e]; exact ho), ih (s + 1) (by omega), e]
      unfold dg_cap
      rw [pv_run_congr h]
    · rw [dg_caps_n ho, dg_caps_n (by rw [e]; exact ho), ih (s + 1) (by omega)]
theorem pv_sm_congr {b b' : Nat → Nat} (h : ∀ n, n < 32 → b n = b' n) (c s : Nat) : ∀ n d, dg_sm b c s n d = dg_sm b' c s n d := by
  intro n
  induction n with
  | zero => intro d; rw [dg_sm, dg_sm]
  | succ n ih =>
    intro d
    by_cases hR : dg_R b' c s d
    · have hR' : dg_R b c s d := ⟨hR.1, hR.2.1, by rw [h _ hR.2.1]; exact hR.2.2⟩
      rw [dg_sm_y hR, dg_sm_y hR', ih]
    · have hR' : ¬ dg_R b c s d := fun z => hR ⟨z.1, z.2.1, by rw [← h _ z.2.1]; exact z.2.2⟩
      rw [dg_sm_n hR, dg_sm_n hR', ih]
theorem pv_sms_congr {b b' : Nat → Nat} (h : ∀ n, n < 32 → b n = b' n) (sd : Int32) : ∀ n s, s + n ≤ 32 → dg_sms b sd n s = dg_sms b' sd n s := by
  intro n
  induction n with
  | zero => intro s _; rw [dg_sms, dg_sms]
  | succ n ih =>
    intro s hs
    have e := h s (by omega)
    by_cases ho : dg_own (b' s) sd
    · rw [dg_sms_y ho, dg_sms_y (by rw [e]; exact ho), ih (s + 1) (by omega), e, pv_sm_congr h]
    · rw [dg_sms_n ho, dg_sms_n (by rw [e]; exact ho), ih (s + 1) (by omega)]
theorem pv_ls_congr {b b' : Nat → Nat} (h : ∀ n, n < 32 → b n = b' n) (sd : Int32) : pv_ls b sd = pv_ls b' sd := by
  unfold pv_ls pv_caps pv_sms
  rw [pv_caps_congr h 700000 sd 32 0 (by omega), pv_sms_congr h sd 32 0 (by omega)]
theorem pv_ev_congr {b b' : Nat → Nat} (h : ∀ n, n < 32 → b n = b' n) (sd : Int32) : ∀ n s, s + n ≤ 32 → dg_ev b sd n s = dg_ev b' sd n s := by
  intro n
  induction n with
  | zero => intro s _; rw [dg_ev, dg_ev]
  | succ n ih =>
    intro s hs
    have e := h s (by omega)
    by_cases ho : dg_own (b' s) sd
    · rw [dg_ev_y ho, dg_ev_y (by rw [e]; exact ho), ih (s + 1) (by omega), e]
    · rw [dg_ev_n ho, dg_ev_n (by rw [e]; exact ho), ih (s + 1) (by omega), e]
