theorem xe_worth {post : Int32 → Prop} {c s : Nat} (hc : c ≤ 4) (hs : s < 32) (h : post (dg_i (dg_wo c s))) : wpX_worthOf post () (nI c) (nI s) := by
  refine pk_eq c 1 (fun e => xa_row hs ?_) (fun e => pk_eq c 3 (fun e3 => xa_row hs ?_) (fun e3 => pk_eq c 0 (fun e0 => ?_) (fun e0 => ?_)))
  · have e1 : (100 : Int32) + 4 * nI (s / 4) = dg_i (dg_wo c s) := by
      rw [show (100 : Int32) = nI 100 from rfl, wx_4, pk_mul, nI_add, dg_i_nI]
      unfold dg_wo
      rw [if_pos e]
      exact congrArg dg_i (by omega)
    rw [e1]; exact h
  · have e1 : (100 : Int32) + 4 * (7 - nI (s / 4)) = dg_i (dg_wo c s) := by
      rw [show (100 : Int32) = nI 100 from rfl, show (7 : Int32) = nI 7 from rfl, pk_sub (by omega), wx_4, pk_mul, nI_add, dg_i_nI]
      unfold dg_wo
      rw [if_neg e, if_pos e3]
      exact congrArg dg_i (by omega)
    rw [e1]; exact h
  · have e1 : dg_wo c s = 0 := by unfold dg_wo; rw [if_neg e, if_neg e3, if_pos e0]
    rw [e1] at h; exact h
  · have e1 : dg_wo c s = 250 := by unfold dg_wo; rw [if_neg e, if_neg e3, if_neg e0]
    rw [e1] at h; exact h
theorem xe_ev_l {f_drawLimit f_logTotal f_gameStatus f_searchValue : Int32} {a_neighbours a_board a_sides a_counters a_moveTotals a_moveLengths a_moveSquares a_path a_jumped a_nextDirection a_wentOn a_nextMove a_bestMove a_bestValue a_log : Nat → Int32} {post : Int32 → Prop} {lv : Nat} (hB : dg_B a_board) (hS : dg_S a_sides) (hlv : lv < 4) :
    ∀ (m s n : Nat) (z : Int), s + m = 32 → m < n → post (dg_i (z + dg_ev (dg_bl a_board lv) (a_sides lv) m s)) → wX_evaluate_4 post (nI lv) f_drawLimit f_logTotal f_gameStatus f_searchValue a_neighbours a_board a_sides a_counters a_moveTotals a_moveLengths a_moveSquares a_path a_jumped a_nextDirection a_wentOn a_nextMove a_bestMove a_bestValue a_log n (dg_i z) (nI s) := by
  intro m
  induction m with
  | zero =>
    intro s n z hs hn h
    obtain ⟨n, rfl⟩ : ∃ g, n = g + 1 := ⟨n - 1, by omega⟩
    obtain rfl : s = 32 := by omega
    rw [dg_ev, Int.add_zero] at h
    exact br_t (nI_le (a := 32) (Nat.le_refl 32) (by omega)) h
  | succ m ih =>
    intro s n z hs hn h
    obtain ⟨n, rfl⟩ : ∃ g, n = g + 1 := ⟨n - 1, by omega⟩
    have hv := dg_B_b hB (i := lv * 32 + s) (by omega)
    have ho := wx_own (a_sides := a_sides) hB hS hlv (s := s) (by omega)
    have e1 : nI lv * 32 + nI s = nI (lv * 32 + s) := by rw [show (32 : Int32) = nI 32 from rfl, pk_mul, nI_add]
    refine br_f (nI_ge (b := 32) (by omega) (by omega)) ?_
    rw [e1, nI_clamp (n := lv * 32 + s) (by omega), hv.1, nI_clamp (n := lv) (by omega)]
    refine ⟨vp_in_nI (by omega) (by omega), nm_e (xe_worth hv.2 (by omega) (wx_col hv.2 ⟨vp_in_nI hlv (by omega), ?_⟩))⟩
    by_cases hw : dg_own (dg_bl a_board lv s) (a_sides lv)
    · rw [dg_ev_y hw, ← Int.add_assoc] at h
      exact br_t (ho.1.mpr hw) (nm_r (dg_i_add z _) (nm_r (nI_1 s) (ih (s + 1) n _ (by omega) (by omega) h)))
    · rw [dg_ev_n hw, ← Int.add_assoc] at h
      exact br_f (fun y => hw (ho.1.mp y)) (nm_r (by rw [dg_i_neg, dg_i_add]; rfl) (nm_r (nI_1 s) (ih (s + 1) n _ (by omega) (by omega) h)))
theorem xe_ev {f_drawLimit f_logTotal f_gameStatus f_searchValue : Int32} {a_neighbours a_board a_sides a_counters a_moveTotals a_moveLengths a_moveSquares a_path a_jumped a_nextDirection a_wentOn a_nextMove a_bestMove a_bestValue a_log : Nat → Int32} {post : Int32 → Prop} {lv : Nat} (hB : dg_B a_board) (hS : dg_S a_sides) (hlv : lv < 4) (h : post (dg_i (dg_ev (dg_bl a_board lv) (a_sides lv) 32 0))) : wpX_evaluate post (f_drawLimit, f_logTotal, f_gameStatus, f_searchValue, a_neighbours, a_board, a_sides, a_counters, a_moveTotals, a_moveLengths, a_moveSquares, a_path, a_jumped, a_nextDirection, a_wentOn, a_nextMove, a_bestMove, a_bestValue, a_log) (nI lv) := by
  refine ⟨33, xe_ev_l hB hS hlv 32 0 33 0 (by omega) (by omega) ?_⟩
  rw [Int.zero_add]
  exact h
theorem xe_loss (lv : Nat) : (-10000 : Int32) + nI lv = dg_i (-10000 + (lv : Int)) := by
  rw [dg_i_nI, show (-10000 : Int32) = dg_i (-10000) by decide, dg_i_add]
theorem xe_leafV {f_drawLimit f_logTotal f_gameStatus f_searchValue : Int32} {a_neighbours a_board a_sides a_counters a_moveTotals a_moveLengths a_moveSquares a_path a_jumped a_nextDirection a_wentOn a_nextMove a_bestMove a_bestValue a_log : Nat → Int32} {post : Int32 → Prop} {lv : Nat} (hB : dg_B a_board) (hS : dg_S a_sides) (hlv : lv < 4) (h : post (dg_i (dg_lv f_drawLimit lv (a_board, a_sides, a_counters, a_moveTotals, a_moveLengths, a_moveSquares)))) : wpX_leafValue post (f_drawLimit, f_logTotal, f_gameStatus, f_searchValue, a_neighbours, a_board, a_sides, a_counters, a_moveTotals, a_moveLengths, a_moveSquares, a_path, a_jumped, a_nextDirection, a_wentOn, a_nextMove, a_bestMove, a_bestValue, a_log) (nI lv) := by
  unfold dg_lv at h
  dsimp only at h
  refine ⟨vp_in_nI hlv (by omega), ?_⟩
  rw [nI_clamp (n := lv) (by omega), xe_loss]
  refine br_c (fun a => ?_) (fun a => ⟨vp_in_nI hlv (by omega), br_c (fun b => xe_ev hB hS hlv ?_) (fun b => ?_)⟩)
  · rw [if_pos a] at h; exact h
  · rw [if_neg a, if_neg (Int32.not_le.mpr b)] at h; exact h
  · rw [if_neg a, if_pos (Int32.not_lt.mp b)] at h; exact h
theorem xe_isLeaf {f_drawLimit f_logTotal f_gameStatus f_searchValue : Int32} {a_neighbours a_board a_sides a_counters a_moveTotals a_moveLengths a_moveSquares a_path a_jumped a_nextDirection a_wentOn a_nextMove a_bestMove a_bestValue a_log : Nat → Int32} {post : Int32 → Prop} {lv pl : Nat} (hlv : lv < 4) (hpl : pl < 4) (h1 : dg_lf f_drawLimit pl lv (a_board, a_sides, a_counters, a_moveTotals, a_moveLengths, a_moveSquares) → post 1)
    (h0 : ¬ dg_lf f_drawLimit pl lv (a_board, a_sides, a_counters, a_moveTotals, a_moveLengths, a_moveSquares) → post 0) : wpX_isLeaf post (f_drawLimit, f_logTotal, f_gameStatus, f_searchValue, a_neighbours, a_board, a_sides, a_counters, a_moveTotals, a_moveLengths, a_moveSquares, a_path, a_jumped, a_nextDirection, a_wentOn, a_nextMove, a_bestMove, a_bestValue, a_log) (nI lv) (nI pl) := by
  unfold dg_lf at h1 h0
  dsimp only at h1 h0
  refine pk_eq lv pl (fun e => h1 (Or.inr (Or.inr e))) (fun e => ⟨vp_in_nI hlv (by omega), ?_⟩)
  rw [nI_clamp (n := lv) (by omega)]
  refine br_c (fun a => h1 (Or.inl a)) (fun a => ⟨vp_in_nI hlv (by omega), br_c (fun b => h0 ?_) (fun b => h1 (Or.inr (Or.inl (Int32.not_lt.mp b))))⟩)
  rintro (z | z | z)
  · exact a z
  · exact Int32.not_le.mpr b z
  · exact e z
