theorem dg_gen_congr {lv : Nat} {b : Nat → Nat} {sd : Int32} {mt mt' ml mv : Nat → Int32} (h : upd mt lv 0 = upd mt' lv 0) : dg_gen lv b sd mt ml mv = dg_gen lv b sd mt' ml mv := by
  unfold dg_gen
  rw [h]
theorem xr_refresh {f_drawLimit f_logTotal f_gameStatus f_searchValue : Int32} {a_neighbours a_board a_sides a_counters a_moveTotals a_moveLengths a_moveSquares a_path a_jumped a_nextDirection a_wentOn a_nextMove a_bestMove a_bestValue a_log : Nat → Int32} {post : St2 → Prop} {T : (Nat → Int32) × (Nat → Int32) × (Nat → Int32)} (hN : dg_N a_neighbours) (hB : dg_B a_board) (hS : dg_S a_sides) (hT : dg_gen 0 (dg_bl a_board 0) (a_sides 0) a_moveTotals a_moveLengths a_moveSquares = T)
    (h : ∀ p' jx' nd' wo', post (f_drawLimit, f_logTotal, dg_st f_drawLimit (a_sides 0) (a_counters 0) (T.1 0), f_searchValue, a_neighbours, a_board, a_sides, a_counters, (if dg_st f_drawLimit (a_sides 0) (a_counters 0) (T.1 0) = 3 then upd T.1 0 0 else T.1), T.2.1, T.2.2, p', jx', nd', wo', a_nextMove, a_bestMove, a_bestValue, a_log)) : wpX_refreshGame post (f_drawLimit, f_logTotal, f_gameStatus, f_searchValue, a_neighbours, a_board, a_sides, a_counters, a_moveTotals, a_moveLengths, a_moveSquares, a_path, a_jumped, a_nextDirection, a_wentOn, a_nextMove, a_bestMove, a_bestValue, a_log) := by
  unfold wpX_refreshGame
  refine wx_gen (lv := 0) hN hB hS (by omega) (fun p' jx' nd' wo' => ?_)
  rw [hT]
  have h := h p' jx' nd' wo'
  refine br_c (fun a => br_c (fun b => ?_) (fun b => ?_)) (fun a => br_c (fun b => ?_) (fun b => nm_e ?_))
  · rw [dg_st_w a, if_pos b, if_neg (by decide)] at h; exact h
  · rw [dg_st_w a, if_neg b, if_neg (by decide)] at h; exact h
  · rw [dg_st_o a (Int32.not_le.mpr b), if_neg (by decide)] at h; exact h
  · rw [dg_st_d a (Int32.not_lt.mp b), if_pos rfl] at h; exact h
def dg_sv (e : Int32) (i : Nat) : Int32 := if e = 0 then (if 12 ≤ i then (if 20 ≤ i then 3 else 0) else 1) else 0
def dg_su (bd : Nat → Int32) (e : Int32) : Nat → (Nat → Int32)
  | 0 => bd
  | n + 1 => upd (dg_su bd e n) n (dg_sv e n)
theorem dg_su_B {bd : Nat → Int32} (h : dg_B bd) (e : Int32) (n : Nat) : dg_B (dg_su bd e n) := by
  induction n with
  | zero => exact h
  | succ n ih =>
    show dg_B (upd (dg_su bd e n) n (dg_sv e n))
    unfold dg_sv
    split
    · split
      · split
        · exact dg_B_upd ih n 3 (by omega)
        · exact dg_B_upd ih n 0 (by omega)
      · exact dg_B_upd ih n 1 (by omega)
    · exact dg_B_upd ih n 0 (by omega)
theorem xr_setup_l {f_drawLimit f_logTotal f_gameStatus f_searchValue : Int32} {a_neighbours a_sides a_counters a_moveTotals a_moveLengths a_moveSquares a_path a_jumped a_nextDirection a_wentOn a_nextMove a_bestMove a_bestValue a_log : Nat → Int32} {post : St2 → Prop} {bd : Nat → Int32} {e : Int32} (h : post (f_drawLimit, f_logTotal, f_gameStatus, f_searchValue, a_neighbours, dg_su bd e 32, a_sides, a_counters, a_moveTotals, a_moveLengths, a_moveSquares, a_path, a_jumped, a_nextDirection, a_wentOn, a_nextMove, a_bestMove, a_bestValue, a_log)) :
    ∀ m i n, i + m = 32 → m < n → wX_setUp_9 post e f_drawLimit f_logTotal f_gameStatus f_searchValue n (nI i) a_neighbours (dg_su bd e i) a_sides a_counters a_moveTotals a_moveLengths a_moveSquares a_path a_jumped a_nextDirection a_wentOn a_nextMove a_bestMove a_bestValue a_log := by
  intro m
  induction m with
  | zero =>
    intro i n hi hn
    obtain ⟨n, rfl⟩ : ∃ g, n = g + 1 := ⟨n - 1, by omega⟩
    obtain rfl : i = 32 := by omega
    exact br_t (nI_le (a := 32) (Nat.le_refl 32) (by omega)) h
  | succ m ih =>
    intro i n hi hn
    obtain ⟨n, rfl⟩ : ∃ g, n = g + 1 := ⟨n - 1, by omega⟩
    have hin : vp_in (nI i) 128 := vp_in_nI (by omega) (by omega)
    have ec : (nI i).toNatClampNeg = i := nI_clamp (by omega)
    have nx := ih (i + 1) n (by omega) (by omega)
    have st : ∀ z : Int32, z = dg_sv e i → upd (dg_su bd e i) (nI i).toNatClampNeg z = dg_su bd e (i + 1) := by
      intro z hz
      rw [ec, hz]
      rfl
    unfold dg_sv at st
    refine br_f (nI_ge (b := 32) (by omega) (by omega)) (br_c (fun a => pk_le 12 i (fun b => pk_le 20 i (fun c => ⟨hin, nm_r (st 3 ?_) (nm_r (nI_1 i) nx)⟩) (fun c => ⟨hin, nm_r (st 0 ?_) (nm_r (nI_1 i) nx)⟩)) (fun b => ⟨hin, nm_r (st 1 ?_) (nm_r (nI_1 i) nx)⟩)) (fun a => ⟨hin, nm_r (st 0 ?_) (nm_r (nI_1 i) nx)⟩))
    · rw [if_pos a, if_pos b, if_pos c]
    · rw [if_pos a, if_pos b, if_neg (by omega)]
    · rw [if_pos a, if_neg (by omega)]
    · rw [if_neg a]
theorem xr_setup {f_drawLimit f_logTotal f_gameStatus f_searchValue : Int32} {a_neighbours a_board a_sides a_counters a_moveTotals a_moveLengths a_moveSquares a_path a_jumped a_nextDirection a_wentOn a_nextMove a_bestMove a_bestValue a_log : Nat → Int32} {post : St2 → Prop} {e : Int32} (h : post (f_drawLimit, f_logTotal, f_gameStatus, f_searchValue, a_neighbours, dg_su a_board e 32, upd a_sides 0 0, a_counters, a_moveTotals, a_moveLengths, a_moveSquares, a_path, a_jumped, a_nextDirection, a_wentOn, a_nextMove, a_bestMove, a_bestValue, a_log)) : wpX_setUp post (f_drawLimit, f_logTotal, f_gameStatus, f_searchValue, a_neighbours, a_board, a_sides, a_counters, a_moveTotals, a_moveLengths, a_moveSquares, a_path, a_jumped, a_nextDirection, a_wentOn, a_nextMove, a_bestMove, a_bestValue, a_log) e :=
  nm_e ⟨33, xr_setup_l (bd := a_board) h 32 0 33 (by omega) (by omega)⟩
def dg_sh (log : Nat → Int32) : Nat → (Nat → Int32)
  | 0 => log
  | n + 1 => upd (dg_sh log n) n (dg_sh log n (n + 1))
def dg_al (log : Nat → Int32) (n : Nat) (e : Int32) : Nat → Int32 := if n = 64 then upd (dg_sh log 63) 63 e else upd log n e
def dg_an (n : Nat) : Nat := if n = 64 then 64 else n + 1
theorem xr_log47 {f_drawLimit f_logTotal f_gameStatus f_searchValue : Int32} {a_neighbours a_board a_sides a_counters a_moveTotals a_moveLengths a_moveSquares a_path a_jumped a_nextDirection a_wentOn a_nextMove a_bestMove a_bestValue a_log : Nat → Int32} {post : St2 → Prop} {n : Nat} {e : Int32} (hn : n < 64) (hl : f_logTotal = nI n) (h : post (f_drawLimit, nI (n + 1), f_gameStatus, f_searchValue, a_neighbours, a_board, a_sides, a_counters, a_moveTotals, a_moveLengths, a_moveSquares, a_path, a_jumped, a_nextDirection, a_wentOn, a_nextMove, a_bestMove, a_bestValue, upd a_log n e)) : wX_appendToLog_47 post e f_drawLimit f_logTotal f_gameStatus f_searchValue a_neighbours a_board a_sides a_counters a_moveTotals a_moveLengths a_moveSquares a_path a_jumped a_nextDirection a_wentOn a_nextMove a_bestMove a_bestValue a_log := by
  subst hl
  exact ⟨vp_in_nI hn (by omega), nm_r (e' := upd a_log n e) (by rw [nI_clamp (by omega)]) (nm_r (nI_1 n) h)⟩
theorem xr_log_l {f_drawLimit f_gameStatus f_searchValue : Int32} {a_neighbours a_board a_sides a_counters a_moveTotals a_moveLengths a_moveSquares a_path a_jumped a_nextDirection a_wentOn a_nextMove a_bestMove a_bestValue : Nat → Int32} {post : St2 → Prop} {log : Nat → Int32} {e : Int32} (h : post (f_drawLimit, nI 64, f_gameStatus, f_searchValue, a_neighbours, a_board, a_sides, a_counters, a_moveTotals, a_moveLengths, a_moveSquares, a_path, a_jumped, a_nextDirection, a_wentOn, a_nextMove, a_bestMove, a_bestValue, upd (dg_sh log 63) 63 e)) :
    ∀ m i n, i + m = 63 → m < n → wX_appendToLog_11 post e f_drawLimit (nI 64) f_gameStatus f_searchValue n (nI (i + 1)) a_neighbours a_board a_sides a_counters a_moveTotals a_moveLengths a_moveSquares a_path a_jumped a_nextDirection a_wentOn a_nextMove a_bestMove a_bestValue (dg_sh log i) := by
  intro m
  induction m with
  | zero =>
    intro i n hi hn
    obtain ⟨n, rfl⟩ : ∃ g, n = g + 1 := ⟨n - 1, by omega⟩
    obtain rfl : i = 63 := by omega
    exact br_t (nI_le (a := 64) (Nat.le_refl 64) (by omega)) (nm_r (nI_pred 63) (xr_log47 (n := 63) (by omega) rfl h))
  | succ m ih =>
    intro i n hi hn
    obtain ⟨n, rfl⟩ : ∃ g, n = g + 1 := ⟨n - 1, by omega⟩
    refine br_f (nI_ge (b := 64) (by omega) (by omega)) ⟨vp_in_nI (by omega) (by omega), ?_⟩
    rw [nI_pred i]
    refine ⟨vp_in_nI (by omega) (by omega), nm_r (e' := dg_sh log (i + 1)) ?_ (nm_r (nI_1 (i + 1)) (ih (i + 1) n (by omega) (by omega)))⟩
    rw [nI_clamp (by omega), nI_clamp (by omega)]
    rfl
theorem xr_log {f_drawLimit f_gameStatus f_searchValue : Int32} {a_neighbours a_board a_sides a_counters a_moveTotals a_moveLengths a_moveSquares a_path a_jumped a_nextDirection a_wentOn a_nextMove a_bestMove a_bestValue a_log : Nat → Int32} {post : St2 → Prop} {n : Nat} {e : Int32} (hn : n ≤ 64) (h : post (f_drawLimit, nI (dg_an n), f_gameStatus, f_searchValue, a_neighbours, a_board, a_sides, a_counters, a_moveTotals, a_moveLengths, a_moveSquares, a_path, a_jumped, a_nextDirection, a_wentOn, a_nextMove, a_bestMove, a_bestValue, dg_al a_log n e)) : wpX_appendToLog post (f_drawLimit, nI n, f_gameStatus, f_searchValue, a_neighbours, a_board, a_sides, a_counters, a_moveTotals, a_moveLengths, a_moveSquares, a_path, a_jumped, a_nextDirection, a_wentOn, a_nextMove, a_bestMove, a_bestValue, a_log) e := by
  unfold dg_an dg_al at h
  refine pk_eq n 64 (fun z => ?_) (fun z => ?_)
  · rw [if_pos z, if_pos z] at h
    subst z
    exact ⟨64, xr_log_l (log := a_log) h 63 0 64 (by omega) (by omega)⟩
  · rw [if_neg z, if_neg z] at h
    exact xr_log47 (n := n) (by omega) rfl h
def dg_cn (b : Nat → Nat) (c s : Nat) : Nat → Nat → Nat
  | 0, _ => 0
  | n + 1, q => (if q ≠ s ∧ b q ≠ 0 ∧ (b q ≤ 2 ↔ c ≤ 2) then 1 else 0) + dg_cn b c s n (q + 1)
theorem dg_cn_y {b : Nat → Nat} {c s n q : Nat} (h : q ≠ s ∧ b q ≠ 0 ∧ (b q ≤ 2 ↔ c ≤ 2)) : dg_cn b c s (n + 1) q = 1 + dg_cn b c s n (q + 1) := by rw [dg_cn, if_pos h]
theorem dg_cn_n {b : Nat → Nat} {c s n q : Nat} (h : ¬ (q ≠ s ∧ b q ≠ 0 ∧ (b q ≤ 2 ↔ c ≤ 2))) : dg_cn b c s (n + 1) q = dg_cn b c s n (q + 1) := by rw [dg_cn, if_neg h, Nat.zero_add]
theorem dg_cn_le (b : Nat → Nat) (c s : Nat) : ∀ n q, dg_cn b c s n q ≤ n := by
  intro n
  induction n with
  | zero => intro q; exact Nat.le_refl _
  | succ n ih =>
    intro q
    have := ih (q + 1)
    by_cases h : q ≠ s ∧ b q ≠ 0 ∧ (b q ≤ 2 ↔ c ≤ 2)
    · rw [dg_cn_y h]; omega
    · rw [dg_cn_n h]; omega
theorem dg_colc : ∀ c, c < 5 → ¬ c = 0 → ∀ v, v < 5 → (dg_col v = dg_col c ↔ (v ≠ 0 ∧ (v ≤ 2 ↔ c ≤ 2))) := by decide +kernel
theorem xr_count_l {f_drawLimit f_logTotal f_gameStatus f_searchValue : Int32} {a_neighbours a_board a_sides a_counters a_moveTotals a_moveLengths a_moveSquares a_path a_jumped a_nextDirection a_wentOn a_nextMove a_bestMove a_bestValue a_log : Nat → Int32} {post : Int32 → Prop} {c s : Nat} (hB : dg_B a_board) (hc : c ≤ 4) (hc0 : ¬ c = 0) (hs : s < 32) :
    ∀ (m q n k : Nat), q + m = 32 → m < n → k ≤ q → post (nI (k + dg_cn (dg_b a_board) c s m q)) → wX_countOthers_11 post (nI s) (dg_col c) f_drawLimit f_logTotal f_gameStatus f_searchValue a_neighbours a_board a_sides a_counters a_moveTotals a_moveLengths a_moveSquares a_path a_jumped a_nextDirection a_wentOn a_nextMove a_bestMove a_bestValue a_log n (nI k) (nI q) := by
  intro m
  induction m with
  | zero =>
    intro q n k hq hn hk h
    obtain ⟨n, rfl⟩ : ∃ g, n = g + 1 := ⟨n - 1, by omega⟩
    obtain rfl : q = 32 := by omega
    exact br_t (nI_le (a := 32) (Nat.le_refl 32) (by omega)) h
  | succ m ih =>
    intro q n k hq hn hk h
    obtain ⟨n, rfl⟩ : ∃ g, n = g + 1 := ⟨n - 1, by omega⟩
    have hv := dg_B_b hB (i := q) (by omega)
    have hcc := dg_colc c (by omega) hc0 (dg_b a_board q) (by omega)
    refine br_f (nI_ge (b := 32) (by omega) (by omega)) (pk_eq q s (fun e => nm_r (nI_1 q) (ih (q + 1) n k (by omega) (by omega) (by omega) ?_)) (fun e => ⟨vp_in_nI (by omega) (by omega), ?_⟩))
    · rw [dg_cn_n (fun z => z.1 e)] at h; exact h
    · rw [nI_clamp (by omega), hv.1]
      refine wx_col hv.2 (br_c (fun a => nm_r (nI_1 k) (nm_r (nI_1 q) (ih (q + 1) n (k + 1) (by omega) (by omega) (by omega) ?_))) (fun a => nm_r (nI_1 q) (ih (q + 1) n k (by omega) (by omega) (by omega) ?_)))
      · rw [dg_cn_y ⟨e, hcc.mp a⟩] at h
        rw [Nat.add_assoc]; exact h
      · rw [dg_cn_n (fun z => a (hcc.mpr z.2))] at h; exact h
theorem xr_count {f_drawLimit f_logTotal f_gameStatus f_searchValue : Int32} {a_neighbours a_board a_sides a_counters a_moveTotals a_moveLengths a_moveSquares a_path a_jumped a_nextDirection a_wentOn a_nextMove a_bestMove a_bestValue a_log : Nat → Int32} {post : Int32 → Prop} {c s : Nat} (hB : dg_B a_board) (hc : c ≤ 4) (hc0 : ¬ c = 0) (hs : s < 32) (h : post (nI (dg_cn (dg_b a_board) c s 32 0))) : wpX_countOthers post (f_drawLimit, f_logTotal, f_gameStatus, f_searchValue, a_neighbours, a_board, a_sides, a_counters, a_moveTotals, a_moveLengths, a_moveSquares, a_path, a_jumped, a_nextDirection, a_wentOn, a_nextMove, a_bestMove, a_bestValue, a_log) (nI c) (nI s) := by
  unfold wpX_countOthers
  refine wx_col hc ⟨33, xr_count_l hB hc hc0 hs 32 0 33 0 (by omega) (by omega) (by omega) ?_⟩
  rw [Nat.zero_add]; exact h
