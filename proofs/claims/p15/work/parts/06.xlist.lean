theorem wx_4 : (4 : Int32) = nI 4 := rfl
def dg_col (c : Nat) : Int32 := if c = 0 then -1 else if c ≤ 2 then 0 else 1
def dg_fo (c : Nat) : Int32 := if c ≤ 2 then 1 else 0
theorem dg_foe : ∀ c, c < 5 → ¬ c = 0 → ∀ v, v < 5 → (dg_col v = dg_fo c ↔ (¬ v = 0 ∧ ¬ (v ≤ 2 ↔ c ≤ 2))) := by decide +kernel
theorem dg_own0 : ∀ c, c < 5 → (dg_col c = 0 ↔ (¬ c = 0 ∧ c ≤ 2)) := by decide +kernel
theorem dg_own1 : ∀ c, c < 5 → (dg_col c = 1 ↔ 2 < c) := by decide +kernel
theorem dg_own_col {c : Nat} {sd : Int32} (hc : c ≤ 4) (hs : sd = 0 ∨ sd = 1) : dg_col c = sd ↔ dg_own c sd := by
  rcases hs with rfl | rfl
  · rw [dg_own0 c (by omega)]
    unfold dg_own
    have h : ¬ (0 : Int32) = 1 := by decide
    constructor
    · intro h; exact Or.inl ⟨h.1, h.2, rfl⟩
    · rintro (h1 | h1)
      · exact ⟨h1.1, h1.2.1⟩
      · exact absurd h1.2 h
  · rw [dg_own1 c (by omega)]
    unfold dg_own
    have h : ¬ (1 : Int32) = 0 := by decide
    constructor
    · intro h; exact Or.inr ⟨h, rfl⟩
    · rintro (h1 | h1)
      · exact absurd h1.2.2 h
      · exact h1.1
theorem wx_col {post : Int32 → Prop} {c : Nat} (hc : c ≤ 4) (h : post (dg_col c)) : wpX_colourOf post () (nI c) := by
  refine pk_eq c 0 (fun e => ?_) (fun e => pk_lt 2 c (fun l => ?_) (fun l => ?_))
  · subst e; exact h
  · have e1 : dg_col c = 1 := by unfold dg_col; rw [if_neg e, if_neg (by omega)]
    rw [e1] at h; exact h
  · have e1 : dg_col c = 0 := by unfold dg_col; rw [if_neg e, if_pos (by omega)]
    rw [e1] at h; exact h
theorem wx_fst {post : Int32 → Prop} {c : Nat} (hc : c ≤ 4) (h : post (nI (dg_fst c))) : wpX_firstDirection post () (nI c) := by
  refine pk_eq c 1 (fun e => ?_) (fun e => ?_)
  · have e1 : dg_fst c = 2 := if_pos e
    rw [e1] at h; exact h
  · have e1 : dg_fst c = 0 := if_neg e
    rw [e1] at h; exact h
theorem wx_end {post : Int32 → Prop} {c : Nat} (hc : c ≤ 4) (h : post (nI (dg_end c))) : wpX_directionEnd post () (nI c) := by
  refine pk_eq c 3 (fun e => ?_) (fun e => ?_)
  · have e1 : dg_end c = 2 := if_pos e
    rw [e1] at h; exact h
  · have e1 : dg_end c = 4 := if_neg e
    rw [e1] at h; exact h
theorem wx_cro {post : Int32 → Prop} {c s : Nat} (hc : c ≤ 4) (hs : s < 32) (h : post (nI (dg_cro c s))) : wpX_isCrowningSquare post () (nI c) (nI s) := by
  refine pk_eq c 1 (fun e => pk_lt s 28 (fun l => ?_) (fun l => ?_)) (fun e => pk_eq c 3 (fun e3 => pk_le 4 s (fun l => ?_) (fun l => ?_)) (fun e3 => ?_))
  · have e1 : dg_cro c s = 0 := if_neg (by omega)
    rw [e1] at h; exact h
  · have e1 : dg_cro c s = 1 := if_pos (by omega)
    rw [e1] at h; exact h
  · have e1 : dg_cro c s = 0 := if_neg (by omega)
    rw [e1] at h; exact h
  · have e1 : dg_cro c s = 1 := if_pos (by omega)
    rw [e1] at h; exact h
  · have e1 : dg_cro c s = 0 := if_neg (by omega)
    rw [e1] at h; exact h
theorem dg_fo_1 {post : Int32 → Prop} {c : Nat} (h0 : ¬ c = 0) (h1 : dg_col c = 0 → post 1) (h2 : ¬ dg_col c = 0 → post 0) : post (dg_fo c) := by
  unfold dg_fo
  split
  · refine h1 ?_
    unfold dg_col; rw [if_neg h0, if_pos ‹_›]
  · refine h2 ?_
    unfold dg_col; rw [if_neg h0, if_neg ‹_›]; decide
theorem wx_isJ_l {f_drawLimit f_logTotal f_gameStatus f_searchValue : Int32} {a_neighbours a_board a_sides a_counters a_moveTotals a_moveLengths a_moveSquares a_path a_jumped a_nextDirection a_wentOn a_nextMove a_bestMove a_bestValue a_log : Nat → Int32} {P : Int32 → Prop} {J : Nat → Int32} {n k : Nat} {j : Nat → Nat} (hk : k ≤ 12) (hn : n < 32) (hj : ∀ i, i < k → a_jumped (i + 1) = nI (j i) ∧ j i < 32 ∧ ¬ J (j i) = 0) (hJ : ¬ J n = 0 → ∃ i, i < k ∧ j i = n)
    (h0 : J n = 0 → P 0) (h1 : ¬ J n = 0 → P 1) : ∀ m i f, i + m = k → m < f → (∀ e, e < i → j e ≠ n) → wX_isJumped_2 P (nI n) (nI k) f_drawLimit f_logTotal f_gameStatus f_searchValue a_neighbours a_board a_sides a_counters a_moveTotals a_moveLengths a_moveSquares a_path a_jumped a_nextDirection a_wentOn a_nextMove a_bestMove a_bestValue a_log f (nI (i + 1)) := by
  intro m
  induction m with
  | zero =>
    intro i f hi hf hno
    obtain ⟨f, rfl⟩ : ∃ g, f = g + 1 := ⟨f - 1, by omega⟩
    refine br_t (nI_lt (by omega) (by omega)) (h0 ?_)
    apply Classical.byContradiction
    intro z
    obtain ⟨e, he, e2⟩ := hJ z
    exact hno e (by omega) e2
  | succ m ih =>
    intro i f hi hf hno
    obtain ⟨f, rfl⟩ : ∃ g, f = g + 1 := ⟨f - 1, by omega⟩
    have hcl : (nI (i + 1)).toNatClampNeg = i + 1 := nI_clamp (by omega)
    obtain ⟨a1, a2, a3⟩ := hj i (by omega)
    refine br_f (nI_nlt (by omega) (by omega)) ⟨vp_in_nI (by omega) (by omega), ?_⟩
    rw [hcl, a1]
    refine pk_eq (j i) n (fun e => h1 (e ▸ a3)) (fun e => nm_r (nI_1 (i + 1)) (ih (i + 1) f (by omega) (by omega) fun e' he' => ?_))
    by_cases z : e' = i
    · subst z; exact e
    · exact hno e' (by omega)
theorem wx_isJ {f_drawLimit f_logTotal f_gameStatus f_searchValue : Int32} {a_neighbours a_board a_sides a_counters a_moveTotals a_moveLengths a_moveSquares a_path a_jumped a_nextDirection a_wentOn a_nextMove a_bestMove a_bestValue a_log : Nat → Int32} {P : Int32 → Prop} {J : Nat → Int32} {n k : Nat} {j : Nat → Nat} (hk : k ≤ 12) (hn : n < 32) (hj : ∀ i, i < k → a_jumped (i + 1) = nI (j i) ∧ j i < 32 ∧ ¬ J (j i) = 0) (hJ : ¬ J n = 0 → ∃ i, i < k ∧ j i = n)
    (h0 : J n = 0 → P 0) (h1 : ¬ J n = 0 → P 1) : wpX_isJumped P (f_drawLimit, f_logTotal, f_gameStatus, f_searchValue, a_neighbours, a_board, a_sides, a_counters, a_moveTotals, a_moveLengths, a_moveSquares, a_path, a_jumped, a_nextDirection, a_wentOn, a_nextMove, a_bestMove, a_bestValue, a_log) (nI n) (nI k) :=
  ⟨k + 1, wx_isJ_l hk hn hj hJ h0 h1 k 0 (k + 1) (by omega) (by omega) (fun e he => absurd he (Nat.not_lt_zero e))⟩
theorem wx_fj_l {f_drawLimit f_logTotal f_gameStatus f_searchValue : Int32} {a_neighbours a_board a_sides a_counters a_moveTotals a_moveLengths a_moveSquares a_path a_jumped a_nextDirection a_wentOn a_nextMove a_bestMove a_bestValue a_log : Nat → Int32} {post : Int32 → Prop} {lv c k s0 q : Nat} {J : Nat → Int32} (hN : dg_N a_neighbours) (hB : dg_B a_board) (hlv : lv < 4) (hc : c ≤ 4) (hc0 : ¬ c = 0) (hk : k < 13) (hq : q < 32) (hpk : a_path k = nI q) (hp0 : a_path 0 = nI s0) (hs0 : s0 < 32)
    (hJ : ∀ n, n < 32 → ∀ P : Int32 → Prop, (J n = 0 → P 0) → (¬ J n = 0 → P 1) → wpX_isJumped P (f_drawLimit, f_logTotal, f_gameStatus, f_searchValue, a_neighbours, a_board, a_sides, a_counters, a_moveTotals, a_moveLengths, a_moveSquares, a_path, a_jumped, a_nextDirection, a_wentOn, a_nextMove, a_bestMove, a_bestValue, a_log) (nI n) (nI k)) :
    ∀ m d n, d + m = 4 → dg_fst c ≤ d → m < n → post (dg_r (dg_sc (dg_P (dg_bl a_board lv) J c s0 q) m d)) → wX_findJump_34 post (nI k) (nI (lv * 32)) (dg_fo c) (nI (dg_end c)) f_drawLimit f_logTotal f_gameStatus f_searchValue a_neighbours a_board a_sides a_counters a_moveTotals a_moveLengths a_moveSquares a_path a_jumped a_nextDirection a_wentOn a_nextMove a_bestMove a_bestValue a_log n (nI d) := by
  have he : dg_end c ≤ 4 := by unfold dg_end; split <;> omega
  intro m
  induction m with
  | zero =>
    intro d n hd hf hn hp
    obtain ⟨n, rfl⟩ : ∃ g, n = g + 1 := ⟨n - 1, by omega⟩
    obtain rfl : d = 4 := by omega
    exact br_t (nI_le he (by omega)) hp
  | succ m ih =>
    intro d n hd hf hn hp
    obtain ⟨n, rfl⟩ : ∃ g, n = g + 1 := ⟨n - 1, by omega⟩
    by_cases hde : dg_end c ≤ d
    · have hno : ∀ e, d ≤ e → e < d + (m + 1) → ¬ dg_P (dg_bl a_board lv) J c s0 q e := by
        intro e h1 h2 hP
        have ho := hP.1.2
        unfold dg_end at hde
        split at hde
        · have := ho ‹_›; omega
        · omega
      rw [dg_sc_none _ _ _ hno, hd] at hp
      exact br_t (nI_le hde (by omega)) hp
    · have hok : dg_ok c d := by
        refine ⟨fun e => ?_, fun e => ?_⟩
        · have : dg_fst c = 2 := if_pos e
          omega
        · have : dg_end c = 2 := if_pos e
          omega
      have nxt : ¬ dg_P (dg_bl a_board lv) J c s0 q d → ∀ y, y = nI d + 1 → wX_findJump_34 post (nI k) (nI (lv * 32)) (dg_fo c) (nI (dg_end c)) f_drawLimit f_logTotal f_gameStatus f_searchValue a_neighbours a_board a_sides a_counters a_moveTotals a_moveLengths a_moveSquares a_path a_jumped a_nextDirection a_wentOn a_nextMove a_bestMove a_bestValue a_log n y := by
        intro hP
        rw [dg_sc_n hP] at hp
        exact nm_r (nI_1 d) (ih (d + 1) n (by omega) (by omega) (by omega) hp)
      have hit : dg_P (dg_bl a_board lv) J c s0 q d → post (nI d) := by
        intro hP
        rw [dg_sc_y hP, dg_r_lt (by omega)] at hp
        exact hp
      have ec : (nI k).toNatClampNeg = k := nI_clamp (by omega)
      have e1 : a_path (nI k).toNatClampNeg * 4 + nI d = nI (q * 4 + d) := by
        rw [ec, hpk, wx_4, pk_mul, nI_add]
      refine br_f (nI_ge (by omega) (by omega)) ⟨vp_in_nI hk (by omega), ?_⟩
      rw [e1]
      refine ⟨vp_in_nI (by omega) (by omega), ?_⟩
      rw [nI_clamp (by omega), hN q hq d (by omega)]
      by_cases hT : dg_T q d < 32
      · rw [dg_enc_lt hT]
        refine nm_e (br_f (dg_enc_n _ hT).1 ?_)
        have e2 : nI (lv * 32) + nI (dg_T q d) = nI (lv * 32 + dg_T q d) := nI_add _ _
        rw [e2]
        refine ⟨vp_in_nI (by omega) (by omega), ?_⟩
        have hv := dg_B_b hB (i := lv * 32 + dg_T q d) (by omega)
        rw [nI_clamp (by omega), hv.1]
        refine wx_col hv.2 ?_
        by_cases hfo : dg_col (dg_b a_board (lv * 32 + dg_T q d)) = dg_fo c
        · have hfoe := (dg_foe c (by omega) hc0 _ (by omega)).mp hfo
          refine br_t hfo ?_
          have e3 : nI (dg_T q d) * 4 + nI d = nI (dg_T q d * 4 + d) := by rw [wx_4, pk_mul, nI_add]
          rw [e3]
          refine ⟨vp_in_nI (by omega) (by omega), ?_⟩
          rw [nI_clamp (by omega), hN _ hT d (by omega)]
          by_cases hL : dg_T (dg_T q d) d < 32
          · rw [dg_enc_lt hL]
            refine nm_e (br_f (dg_enc_n _ hL).1 ?_)
            have e4 : nI (lv * 32) + nI (dg_T (dg_T q d) d) = nI (lv * 32 + dg_T (dg_T q d) d) := nI_add _ _
            rw [e4]
            refine ⟨vp_in_nI (by omega) (by omega), ?_⟩
            have hw := dg_B_b hB (i := lv * 32 + dg_T (dg_T q d) d) (by omega)
            rw [nI_clamp (by omega), hw.1, hp0]
            have go : (dg_bl a_board lv (dg_T (dg_T q d) d) = 0 ∨ dg_T (dg_T q d) d = s0) → wX_findJump_130 post (wX_findJump_34 post (nI k) (nI (lv * 32)) (dg_fo c) (nI (dg_end c)) f_drawLimit f_logTotal f_gameStatus f_searchValue a_neighbours a_board a_sides a_counters a_moveTotals a_moveLengths a_moveSquares a_path a_jumped a_nextDirection a_wentOn a_nextMove a_bestMove a_bestValue a_log n) (nI k) (nI (lv * 32)) (dg_fo c) (nI (dg_end c)) (nI d) (nI (dg_T q d)) f_drawLimit f_logTotal f_gameStatus f_searchValue a_neighbours a_board a_sides a_counters a_moveTotals a_moveLengths a_moveSquares a_path a_jumped a_nextDirection a_wentOn a_nextMove a_bestMove a_bestValue a_log := by
              intro hfree
              refine br_f (by decide) (hJ _ hT _ (fun j0 => br_t rfl (hit ⟨hok, hT, hL, j0, hfoe, hfree⟩)) (fun j1 => br_f (by decide) (nxt fun hP => j1 hP.2.2.2.1)))
            refine pk_eq (dg_b a_board (lv * 32 + dg_T (dg_T q d) d)) 0 (fun z => go (Or.inl z)) (fun z => pk_eq (dg_T (dg_T q d) d) s0 (fun z2 => go (Or.inr z2)) (fun z2 => br_t rfl (nxt fun hP => ?_)))
            rcases hP.2.2.2.2.2 with h | h
            · exact z h
            · exact z2 h
          · rw [dg_enc_ge hL]
            exact nm_e (br_t rfl (br_t rfl (nxt fun hP => hL hP.2.2.1)))
        · exact br_f hfo (nxt fun hP => hfo ((dg_foe c (by omega) hc0 _ (by omega)).mpr hP.2.2.2.2.1))
      · rw [dg_enc_ge hT]
        exact nm_e (br_t rfl (nxt fun hP => hT hP.2.1))
theorem wx_fj {f_drawLimit f_logTotal f_gameStatus f_searchValue : Int32} {a_neighbours a_board a_sides a_counters a_moveTotals a_moveLengths a_moveSquares a_path a_jumped a_nextDirection a_wentOn a_nextMove a_bestMove a_bestValue a_log : Nat → Int32} {post : Int32 → Prop} {lv c k s0 q x : Nat} {J : Nat → Int32} (hN : dg_N a_neighbours) (hB : dg_B a_board) (hlv : lv < 4) (hc : c ≤ 4) (hc0 : ¬ c = 0) (hk : k < 13) (hq : q < 32) (hpk : a_path k = nI q) (hp0 : a_path 0 = nI s0) (hs0 : s0 < 32)
    (hJ : ∀ n, n < 32 → ∀ P : Int32 → Prop, (J n = 0 → P 0) → (¬ J n = 0 → P 1) → wpX_isJumped P (f_drawLimit, f_logTotal, f_gameStatus, f_searchValue, a_neighbours, a_board, a_sides, a_counters, a_moveTotals, a_moveLengths, a_moveSquares, a_path, a_jumped, a_nextDirection, a_wentOn, a_nextMove, a_bestMove, a_bestValue, a_log) (nI n) (nI k)) (hx : a_nextDirection k = nI x) (hx1 : dg_fst c ≤ x) (hx4 : x ≤ 4)
    (hp : post (dg_r (dg_D (dg_bl a_board lv) c s0 J q x))) : wpX_findJump post (f_drawLimit, f_logTotal, f_gameStatus, f_searchValue, a_neighbours, a_board, a_sides, a_counters, a_moveTotals, a_moveLengths, a_moveSquares, a_path, a_jumped, a_nextDirection, a_wentOn, a_nextMove, a_bestMove, a_bestValue, a_log) (nI lv) (nI c) (nI k) := by
  have go : ∀ z, z = dg_fo c → wX_findJump_18 post (nI c) (nI k) (nI (lv * 32)) z f_drawLimit f_logTotal f_gameStatus f_searchValue a_neighbours a_board a_sides a_counters a_moveTotals a_moveLengths a_moveSquares a_path a_jumped a_nextDirection a_wentOn a_nextMove a_bestMove a_bestValue a_log := by
    intro z hz
    subst hz
    refine wx_end hc ⟨vp_in_nI hk (by omega), nm_r (e' := nI x) (by rw [nI_clamp (by omega), hx]) ⟨5, ?_⟩⟩
    exact wx_fj_l hN hB hlv hc hc0 hk hq hpk hp0 hs0 hJ (4 - x) x 5 (by omega) hx1 (by omega) hp
  refine nm_r (e' := nI (lv * 32)) (pk_mul lv 32) (wx_col hc ?_)
  refine br_c (fun h => go 1 ?_) (fun h => go 0 ?_)
  · unfold dg_fo
    unfold dg_col at h
    rw [if_neg hc0] at h
    split at h
    · rw [if_pos ‹_›]
    · exact absurd h (by decide)
  · unfold dg_fo
    unfold dg_col at h
    rw [if_neg hc0] at h
    split at h
    · exact absurd rfl h
    · rw [if_neg ‹_›]
theorem wx_keep_l {f_drawLimit f_logTotal f_gameStatus f_searchValue : Int32} {a_neighbours a_board a_sides a_counters a_moveTotals a_moveLengths a_moveSquares a_path a_jumped a_nextDirection a_wentOn a_nextMove a_bestMove a_bestValue a_log : Nat → Int32} {post : St2 → Prop} {lv L s M : Nat} {q : Nat → Nat} (hlv : lv < 4) (hs : s < 192) (hL : L ≤ 13) (hp : ∀ i, i < L → a_path i = nI (q i)) (hM : a_moveTotals lv = nI M)
    (h : post (f_drawLimit, f_logTotal, f_gameStatus, f_searchValue, a_neighbours, a_board, a_sides, a_counters, upd a_moveTotals lv (nI (M + 1)), a_moveLengths, dg_wr a_moveSquares (s * 13) q L, a_path, a_jumped, a_nextDirection, a_wentOn, a_nextMove, a_bestMove, a_bestValue, a_log)) :
    ∀ m i n, i + m = L → m < n → wX_keepPath_34 post (nI lv) (nI L) (nI s) f_drawLimit f_logTotal f_gameStatus f_searchValue n (nI i) a_neighbours a_board a_sides a_counters a_moveTotals a_moveLengths (dg_wr a_moveSquares (s * 13) q i) a_path a_jumped a_nextDirection a_wentOn a_nextMove a_bestMove a_bestValue a_log := by
  intro m
  induction m with
  | zero =>
    intro i n hi hn
    obtain ⟨n, rfl⟩ : ∃ g, n = g + 1 := ⟨n - 1, by omega⟩
    obtain rfl : i = L := by omega
    refine br_t (nI_le (Nat.le_refl i) (by omega)) ⟨vp_in_nI hlv (by omega), vp_in_nI hlv (by omega), nm_r ?_ h⟩
    rw [nI_clamp (by omega), hM, nI_1]
  | succ m ih =>
    intro i n hi hn
    obtain ⟨n, rfl⟩ : ∃ g, n = g + 1 := ⟨n - 1, by omega⟩
    have e1 : nI s * 13 + nI i = nI (s * 13 + i) := by rw [show (13 : Int32) = nI 13 from rfl, pk_mul, nI_add]
    refine br_f (nI_ge (by omega) (by omega)) ⟨vp_in_nI (by omega) (by omega), ?_⟩
    rw [e1]
    refine ⟨vp_in_nI (by omega) (by omega), nm_r (e' := dg_wr a_moveSquares (s * 13) q (i + 1)) ?_ (nm_r (nI_1 i) (ih (i + 1) n (by omega) (by omega)))⟩
    rw [nI_clamp (by omega), nI_clamp (by omega), hp i (by omega)]
    rfl
theorem wx_keep {f_drawLimit f_logTotal f_gameStatus f_searchValue : Int32} {a_neighbours a_board a_sides a_counters a_path a_jumped a_nextDirection a_wentOn a_nextMove a_bestMove a_bestValue a_log : Nat → Int32} {post : St2 → Prop} {lv L : Nat} {q : Nat → Nat} {T : (Nat → Int32) × (Nat → Int32) × (Nat → Int32)} (hlv : lv < 4) (hQ : dg_Q T lv) (hL : L ≤ 13) (hp : ∀ i, i < L → a_path i = nI (q i))
    (h : post (f_drawLimit, f_logTotal, f_gameStatus, f_searchValue, a_neighbours, a_board, a_sides, a_counters, (dg_rec lv T (L, q)).1, (dg_rec lv T (L, q)).2.1, (dg_rec lv T (L, q)).2.2, a_path, a_jumped, a_nextDirection, a_wentOn, a_nextMove, a_bestMove, a_bestValue, a_log)) : wpX_keepPath post (f_drawLimit, f_logTotal, f_gameStatus, f_searchValue, a_neighbours, a_board, a_sides, a_counters, T.1, T.2.1, T.2.2, a_path, a_jumped, a_nextDirection, a_wentOn, a_nextMove, a_bestMove, a_bestValue, a_log) (nI lv) (nI L) := by
  obtain ⟨M, hM, eM⟩ := hQ
  have ec : (nI lv).toNatClampNeg = lv := nI_clamp (by omega)
  refine ⟨vp_in_nI hlv (by omega), ?_⟩
  rw [ec, eM]
  refine pk_lt M 48 (fun hlt => ⟨vp_in_nI hlv (by omega), ?_⟩) (fun hge => ?_)
  · rw [dg_rec_lt eM hlt] at h
    refine nm_r (e' := nI (lv * 48 + M)) (by rw [show (48 : Int32) = nI 48 from rfl, pk_mul, nI_add]) ⟨vp_in_nI (by omega) (by omega), nm_r (e' := upd T.2.1 (lv * 48 + M) (nI L)) (by rw [nI_clamp (by omega)]) ⟨L + 1, ?_⟩⟩
    exact wx_keep_l hlv (by omega) hL hp eM h L 0 (L + 1) (by omega) (by omega)
  · rw [dg_rec_ge eM hge hM] at h
    exact h
theorem wx_jump {f_drawLimit f_logTotal f_gameStatus f_searchValue : Int32} {a_neighbours a_board a_sides a_counters a_moveTotals a_moveLengths a_moveSquares a_path a_jumped a_nextDirection a_wentOn a_nextMove a_bestMove a_bestValue a_log : Nat → Int32} {post : St2 → Prop} {c k D q : Nat} (hN : dg_N a_neighbours) (hc : c ≤ 4) (hk : k < 12) (hD : D < 4) (hq : q < 32) (hpk : a_path k = nI q) (hT : dg_T q D < 32) (hL : dg_T (dg_T q D) D < 32)
    (h : post (f_drawLimit, f_logTotal, f_gameStatus, f_searchValue, a_neighbours, a_board, a_sides, a_counters, a_moveTotals, a_moveLengths, a_moveSquares, upd a_path (k + 1) (nI (dg_T (dg_T q D) D)), upd a_jumped (k + 1) (nI (dg_T q D)), upd (upd a_nextDirection k (nI (D + 1))) (k + 1) (nI (dg_x0 c (dg_T (dg_T q D) D))), upd (upd a_wentOn k 1) (k + 1) 0, a_nextMove, a_bestMove, a_bestValue, a_log)) : wpX_jump post (f_drawLimit, f_logTotal, f_gameStatus, f_searchValue, a_neighbours, a_board, a_sides, a_counters, a_moveTotals, a_moveLengths, a_moveSquares, a_path, a_jumped, a_nextDirection, a_wentOn, a_nextMove, a_bestMove, a_bestValue, a_log) (nI c) (nI k) (nI D) := by
  have ec : (nI k).toNatClampNeg = k := nI_clamp (by omega)
  have ec1 : (nI k + 1).toNatClampNeg = k + 1 := by rw [nI_1]; exact nI_clamp (by omega)
  have hin : vp_in (nI k) 13 := vp_in_nI (by omega) (by omega)
  have hin1 : vp_in (nI k + 1) 13 := by rw [nI_1]; exact vp_in_nI (by omega) (by omega)
  have b1 : vp_nar .boolean 1 = 1 := by decide
  have b0 : vp_nar .boolean 0 = 0 := by decide
  have e1 : a_path (nI k).toNatClampNeg * 4 + nI D = nI (q * 4 + D) := by rw [ec, hpk, wx_4, pk_mul, nI_add]
  have e2 : nI (dg_T q D) * 4 + nI D = nI (dg_T q D * 4 + D) := by rw [wx_4, pk_mul, nI_add]
  refine ⟨hin, ?_⟩
  rw [e1]
  refine ⟨vp_in_nI (by omega) (by omega), nm_r (e' := nI (dg_T q D)) (by rw [nI_clamp (by omega), hN q hq D hD, dg_enc_lt hT]) ?_⟩
  rw [e2]
  refine ⟨vp_in_nI (by omega) (by omega), nm_r (e' := nI (dg_T (dg_T q D) D)) (by rw [nI_clamp (by omega), hN _ hT D hD, dg_enc_lt hL]) ?_⟩
  refine ⟨hin, nm_r (e' := upd a_nextDirection k (nI (D + 1))) (by rw [ec, nI_1]) ⟨hin, nm_r (e' := upd a_wentOn k 1) (by rw [ec]) ⟨hin1, nm_r (e' := upd a_jumped (k + 1) (nI (dg_T q D))) (by rw [ec1]) ⟨hin1, nm_r (e' := upd a_path (k + 1) (nI (dg_T (dg_T q D) D))) (by rw [ec1]) ⟨hin1, nm_r (e' := upd (upd a_wentOn k 1) (k + 1) 0) (by rw [ec1]) ?_⟩⟩⟩⟩⟩
  refine wx_cro hc hL ?_
  refine pk_eq (dg_cro c (dg_T (dg_T q D) D)) 0 (fun z => ?_) (fun z => ⟨hin1, nm_r ?_ h⟩) (ha := by unfold dg_cro; split <;> omega)
  · refine wx_fst hc ⟨hin1, nm_r ?_ h⟩
    have e : dg_x0 c (dg_T (dg_T q D) D) = dg_fst c := by
      unfold dg_cro at z
      unfold dg_x0
      split at z
      · exact absurd z (by omega)
      · rw [if_neg ‹_›]
    rw [ec1, e]
  · have e : dg_x0 c (dg_T (dg_T q D) D) = 4 := by
      unfold dg_cro at z
      unfold dg_x0
      split at z
      · rw [if_pos ‹_›]
      · exact absurd rfl z
    rw [ec1, e]
    rfl
