/-! what is owed -/
theorem i_vc0 (k0 : Int32) : wpX_init (fun u => wpY_init (fun v => i_Rel 1 u v) k0) k0 := by
  have hB0 : dg_B (fun _ => 0) := fun i _ => ⟨0, by omega, rfl⟩
  have hS0 : dg_S (upd (fun _ => 0) 0 0) := dg_S_upd (fun i _ => Or.inl rfl) 0 0 (Or.inl rfl)
  have hB1 := dg_su_B hB0 0 32
  have hL1 := dg_gen_L 0 (dg_bl (dg_su (fun _ => 0) 0 32) 0) (upd (fun _ => 0) 0 0 0) (fun _ => 0) (fun _ => 0) (fun _ => 0)
  unfold wpX_init
  refine br_c (fun a => br_c (fun b => ?_) (fun b => ?_)) (fun a => ?_)
  · refine xn_fill fun nb' hN => xr_setup (nm_e (xr_refresh hN hB1 hS0 rfl fun p' jx' nd' wo' => ?_))
    refine br_t a (br_t b ?_)
    unfold wY_init_136
    exact yr_reset (yr_fresh hB1 hS0 rfl fun ps' dr' cp' ex' jp' => re_mk (n := 0) hN hB1 hS0 hL1.1 (by omega))
  · refine xn_fill fun nb' hN => xr_setup (nm_e (xr_refresh hN hB1 hS0 rfl fun p' jx' nd' wo' => ?_))
    refine br_t a (br_f b ?_)
    unfold wY_init_136
    exact yr_reset (yr_fresh hB1 hS0 rfl fun ps' dr' cp' ex' jp' => re_mk (n := 0) hN hB1 hS0 hL1.1 (by omega))
  · refine xn_fill fun nb' hN => xr_setup (nm_e (xr_refresh hN hB1 hS0 rfl fun p' jx' nd' wo' => ?_))
    refine br_f a ?_
    unfold wY_init_136
    exact yr_reset (yr_fresh hB1 hS0 rfl fun ps' dr' cp' ex' jp' => re_mk (n := 0) hN hB1 hS0 hL1.1 (by omega))
theorem i_vc_reset {k : Nat} {u : SX} {v : SY} (I : i_Rel k u v) (hk : k + 3 ≤ 1537) (v1 : Int32) : wpX_reset (fun u' => wpY_reset (fun v' => i_Rel (k + 3) u' v') v (lw_bz v1)) u (lw_bz v1) := by
  obtain ⟨f_drawLimit, f_searchValue, f_bestIdx, a_neighbours, a_board, a_sides, a_counters, a_mc, a_moveLengths, a_moveSquares, a_path, a_jumped, a_nextDirection, a_wentOn, a_nextMove, a_bestMove, a_bestValue, a_log, a_ps, a_dr, a_cp, a_ex, a_jp, a_idx, a_best, n, rfl, rfl, hN, hB, hS, hL, hn⟩ := I
  have hB1 := dg_su_B hB (lw_bz v1) 32
  have hS1 : dg_S (upd a_sides 0 0) := dg_S_upd hS 0 0 (Or.inl rfl)
  have hL1 := dg_gen_L 0 (dg_bl (dg_su a_board (lw_bz v1) 32) 0) (upd a_sides 0 0 0) a_mc a_moveLengths a_moveSquares
  unfold wpX_reset
  refine xr_setup (nm_e (xr_refresh hN hB1 hS1 (dg_gen_congr re_mt) fun p' jx' nd' wo' => ?_))
  exact yr_reset (yr_fresh hB1 hS1 rfl fun ps' dr' cp' ex' jp' => re_mk (n := 0) hN hB1 hS1 hL1.1 (by omega))
theorem i_vc_place {k : Nat} {u : SX} {v : SY} (I : i_Rel k u v) (hk : k + 3 ≤ 1537) (v1 : Int32) (v2 : Int32) : wpX_place (fun r u' => wpY_place (fun r' v' => r' = r ∧ i_Rel (k + 3) u' v') v v1 v2) u v1 v2 := by
  have I3 := i_up I
  obtain ⟨f_drawLimit, f_searchValue, f_bestIdx, a_neighbours, a_board, a_sides, a_counters, a_mc, a_moveLengths, a_moveSquares, a_path, a_jumped, a_nextDirection, a_wentOn, a_nextMove, a_bestMove, a_bestValue, a_log, a_ps, a_dr, a_cp, a_ex, a_jp, a_idx, a_best, n, rfl, rfl, hN, hB, hS, hL, hn⟩ := I
  unfold wpX_place
  rcases re_ix v1 with h1 | ⟨s, hs, rfl⟩
  · exact br_t h1 (br_t rfl (br_t h1 ⟨rfl, I3⟩))
  · refine br_f (nI_pos hs) (pk_le 32 s (fun big => br_t rfl (br_f (nI_pos hs) (br_f (nI_ge (a := 31) (by omega) (by omega)) ⟨rfl, I3⟩))) (fun s32 => br_f (by decide) ?_))
    rcases re_ix v2 with h2 | ⟨c, hc, rfl⟩
    · exact br_t h2 (br_f (nI_pos hs) (br_t (nI_le (b := 31) (by omega) (by omega)) (br_t h2 ⟨rfl, I3⟩)))
    · refine br_f (nI_pos hc) (pk_le c 4 (fun c4 => ?_) (fun big => br_f (nI_pos hs) (br_t (nI_le (b := 31) (by omega) (by omega)) (br_f (nI_pos hc) (br_f (nI_ge (a := 4) (by omega) (by omega)) ⟨rfl, I3⟩)))))
      have hB1 : dg_B (upd a_board s (nI c)) := dg_B_upd hB s c c4
      have hL1 := dg_gen_L 0 (dg_bl (upd a_board s (nI c)) 0) (a_sides 0) a_mc a_moveLengths a_moveSquares
      have ec : (nI s).toNatClampNeg = s := nI_clamp hs
      have no : ¬ (dg_cro c s = 0 ∧ (c = 0 ∨ dg_cn (dg_b a_board) c s 32 0 ≤ 11)) → wpY_place (fun r' v' => r' = 0 ∧ i_Rel (k + 3) (f_drawLimit, nI n, dg_st f_drawLimit (a_sides 0) (a_counters 0) (a_mc 0), f_searchValue, a_neighbours, a_board, a_sides, a_counters, (if dg_st f_drawLimit (a_sides 0) (a_counters 0) (a_mc 0) = 3 then upd a_mc 0 0 else a_mc), a_moveLengths, a_moveSquares, a_path, a_jumped, a_nextDirection, a_wentOn, a_nextMove, a_bestMove, a_bestValue, a_log) v') (f_drawLimit, f_searchValue, nI n, f_bestIdx, a_board, a_sides, a_counters, a_mc, a_moveLengths, a_moveSquares, a_ps, a_dr, a_cp, a_ex, a_jp, a_log, a_idx, a_best) (nI s) (nI c) := by
        intro hno
        exact yr_place hB c4 s32 (fun a b => absurd ⟨a, b⟩ hno) (fun _ => ⟨rfl, I3⟩)
      have yes : dg_cro c s = 0 → (c = 0 ∨ dg_cn (dg_b a_board) c s 32 0 ≤ 11) → wX_place_45 (fun r u' => wpY_place (fun r' v' => r' = r ∧ i_Rel (k + 3) u' v') (f_drawLimit, f_searchValue, nI n, f_bestIdx, a_board, a_sides, a_counters, a_mc, a_moveLengths, a_moveSquares, a_ps, a_dr, a_cp, a_ex, a_jp, a_log, a_idx, a_best) (nI s) (nI c)) (nI s) (nI c) f_drawLimit (nI n) (dg_st f_drawLimit (a_sides 0) (a_counters 0) (a_mc 0)) f_searchValue a_neighbours a_board a_sides a_counters (if dg_st f_drawLimit (a_sides 0) (a_counters 0) (a_mc 0) = 3 then upd a_mc 0 0 else a_mc) a_moveLengths a_moveSquares a_path a_jumped a_nextDirection a_wentOn a_nextMove a_bestMove a_bestValue a_log := by
        intro y1 y2
        refine ⟨vp_in_nI (by omega) (by omega), nm_r (e' := upd a_board s (nI c)) (by rw [ec]) (nm_e (xr_refresh hN hB1 hS (dg_gen_congr re_mt) fun p' jx' nd' wo' => ?_))⟩
        refine yr_place hB c4 s32 (fun _ _ => ⟨vp_in_nI (by omega) (by omega), nm_r (e' := upd a_board s (nI c)) (by rw [ec]) ?_⟩) (fun hno => absurd ⟨y1, y2⟩ hno)
        exact yr_fresh hB1 hS rfl fun ps' dr' cp' ex' jp' => ⟨rfl, re_mk (n := 0) hN hB1 hS hL1.1 (by omega)⟩
      have hcn := dg_cn_le (dg_b a_board) c s 32 0
      refine wx_cro c4 s32 (pk_eq (dg_cro c s) 0 (fun z => pk_eq c 0 (fun c0 => yes z (Or.inl c0)) (fun c0 => xr_count hB c4 c0 s32 (pk_lt (dg_cn (dg_b a_board) c s 32 0) 12 (fun l => yes z (Or.inr (by omega))) (fun l => no ?_)))) (fun z => no fun y => z y.1) (ha := by unfold dg_cro; split <;> omega))
      rintro ⟨_, y | y⟩
      · exact c0 y
      · omega
theorem i_vc_setSideToMove {k : Nat} {u : SX} {v : SY} (I : i_Rel k u v) (hk : k + 3 ≤ 1537) (v1 : Int32) : wpX_setSideToMove (fun r u' => wpY_setSideToMove (fun r' v' => r' = r ∧ i_Rel (k + 3) u' v') v v1) u v1 := by
  have I3 := i_up I
  obtain ⟨f_drawLimit, f_searchValue, f_bestIdx, a_neighbours, a_board, a_sides, a_counters, a_mc, a_moveLengths, a_moveSquares, a_path, a_jumped, a_nextDirection, a_wentOn, a_nextMove, a_bestMove, a_bestValue, a_log, a_ps, a_dr, a_cp, a_ex, a_jp, a_idx, a_best, n, rfl, rfl, hN, hB, hS, hL, hn⟩ := I
  have hL1 := dg_gen_L 0 (dg_bl a_board 0) (upd a_sides 0 v1 0) a_mc a_moveLengths a_moveSquares
  by_cases h0 : v1 = 0
  · have hS1 : dg_S (upd a_sides 0 v1) := dg_S_upd hS 0 v1 (Or.inl h0)
    refine br_t h0 (nm_e (nm_e (xr_refresh hN hB hS1 (dg_gen_congr re_mt) fun p' jx' nd' wo' => ?_)))
    exact br_t h0 (nm_e (yr_fresh hB hS1 rfl fun ps' dr' cp' ex' jp' => ⟨rfl, re_mk (n := 0) hN hB hS1 hL1.1 (by omega)⟩))
  · by_cases h1 : v1 = 1
    · have hS1 : dg_S (upd a_sides 0 v1) := dg_S_upd hS 0 v1 (Or.inr h1)
      refine br_f h0 (br_t h1 (nm_e (nm_e (xr_refresh hN hB hS1 (dg_gen_congr re_mt) fun p' jx' nd' wo' => ?_))))
      exact br_f h0 (br_t h1 (nm_e (yr_fresh hB hS1 rfl fun ps' dr' cp' ex' jp' => ⟨rfl, re_mk (n := 0) hN hB hS1 hL1.1 (by omega)⟩)))
    · exact br_f h0 (br_f h1 (br_f h0 (br_f h1 ⟨rfl, I3⟩)))
theorem i_vc_pieceAt {k : Nat} {u : SX} {v : SY} (I : i_Rel k u v) (hk : k + 3 ≤ 1537) (v1 : Int32) : wpX_pieceAt (fun r => wpY_pieceAt (fun r' => r' = r ∧ i_Rel (k + 3) u v) v v1) u v1 := by
  have I3 := i_up I
  obtain ⟨f_drawLimit, f_searchValue, f_bestIdx, a_neighbours, a_board, a_sides, a_counters, a_mc, a_moveLengths, a_moveSquares, a_path, a_jumped, a_nextDirection, a_wentOn, a_nextMove, a_bestMove, a_bestValue, a_log, a_ps, a_dr, a_cp, a_ex, a_jp, a_idx, a_best, n, rfl, rfl, hN, hB, hS, hL, hn⟩ := I
  unfold wpX_pieceAt
  rcases re_ix v1 with h1 | ⟨s, hs, rfl⟩
  · exact br_t h1 (br_t rfl (br_t h1 ⟨rfl, I3⟩))
  · refine br_f (nI_pos hs) (pk_le 32 s (fun big => br_t rfl (br_f (nI_pos hs) (br_f (nI_ge (a := 31) (by omega) (by omega)) ⟨rfl, I3⟩))) (fun s32 => br_f (by decide) ⟨vp_in_nI (by omega) (by omega), br_f (nI_pos hs) (br_t (nI_le (b := 31) (by omega) (by omega)) ⟨vp_in_nI (by omega) (by omega), rfl, I3⟩)⟩))
theorem i_vc_sideToMove {k : Nat} {u : SX} {v : SY} (I : i_Rel k u v) (hk : k + 3 ≤ 1537) : wpX_sideToMove (fun r => wpY_sideToMove (fun r' => r' = r ∧ i_Rel (k + 3) u v) v) u := by
  have I3 := i_up I
  obtain ⟨f_drawLimit, f_searchValue, f_bestIdx, a_neighbours, a_board, a_sides, a_counters, a_mc, a_moveLengths, a_moveSquares, a_path, a_jumped, a_nextDirection, a_wentOn, a_nextMove, a_bestMove, a_bestValue, a_log, a_ps, a_dr, a_cp, a_ex, a_jp, a_idx, a_best, n, rfl, rfl, hN, hB, hS, hL, hn⟩ := I
  exact ⟨rfl, I3⟩
theorem i_vc_status {k : Nat} {u : SX} {v : SY} (I : i_Rel k u v) (hk : k + 3 ≤ 1537) : wpX_status (fun r => wpY_status (fun r' => r' = r ∧ i_Rel (k + 3) u v) v) u := by
  have I3 := i_up I
  obtain ⟨f_drawLimit, f_searchValue, f_bestIdx, a_neighbours, a_board, a_sides, a_counters, a_mc, a_moveLengths, a_moveSquares, a_path, a_jumped, a_nextDirection, a_wentOn, a_nextMove, a_bestMove, a_bestValue, a_log, a_ps, a_dr, a_cp, a_ex, a_jp, a_idx, a_best, n, rfl, rfl, hN, hB, hS, hL, hn⟩ := I
  unfold wpX_status
  exact yr_status ⟨rfl, I3⟩
theorem i_vc_drawCounter {k : Nat} {u : SX} {v : SY} (I : i_Rel k u v) (hk : k + 3 ≤ 1537) : wpX_drawCounter (fun r => wpY_drawCounter (fun r' => r' = r ∧ i_Rel (k + 3) u v) v) u := by
  have I3 := i_up I
  obtain ⟨f_drawLimit, f_searchValue, f_bestIdx, a_neighbours, a_board, a_sides, a_counters, a_mc, a_moveLengths, a_moveSquares, a_path, a_jumped, a_nextDirection, a_wentOn, a_nextMove, a_bestMove, a_bestValue, a_log, a_ps, a_dr, a_cp, a_ex, a_jp, a_idx, a_best, n, rfl, rfl, hN, hB, hS, hL, hn⟩ := I
  exact ⟨rfl, I3⟩
theorem i_vc_moveCount {k : Nat} {u : SX} {v : SY} (I : i_Rel k u v) (hk : k + 3 ≤ 1537) : wpX_moveCount (fun r => wpY_moveCount (fun r' => r' = r ∧ i_Rel (k + 3) u v) v) u := by
  have I3 := i_up I
  obtain ⟨f_drawLimit, f_searchValue, f_bestIdx, a_neighbours, a_board, a_sides, a_counters, a_mc, a_moveLengths, a_moveSquares, a_path, a_jumped, a_nextDirection, a_wentOn, a_nextMove, a_bestMove, a_bestValue, a_log, a_ps, a_dr, a_cp, a_ex, a_jp, a_idx, a_best, n, rfl, rfl, hN, hB, hS, hL, hn⟩ := I
  unfold wpX_moveCount
  exact yr_mc ⟨re_mt0.symm, I3⟩
theorem i_vc_moveLength {k : Nat} {u : SX} {v : SY} (I : i_Rel k u v) (hk : k + 3 ≤ 1537) (v1 : Int32) : wpX_moveLength (fun r => wpY_moveLength (fun r' => r' = r ∧ i_Rel (k + 3) u v) v v1) u v1 := by
  have I3 := i_up I
  obtain ⟨f_drawLimit, f_searchValue, f_bestIdx, a_neighbours, a_board, a_sides, a_counters, a_mc, a_moveLengths, a_moveSquares, a_path, a_jumped, a_nextDirection, a_wentOn, a_nextMove, a_bestMove, a_bestValue, a_log, a_ps, a_dr, a_cp, a_ex, a_jp, a_idx, a_best, n, rfl, rfl, hN, hB, hS, hL, hn⟩ := I
  obtain ⟨M, hM, eM, hMM, eM0⟩ := re_M (lim := f_drawLimit) (sd0 := a_sides 0) (dc0 := a_counters 0) hL
  unfold wpX_moveLength
  rcases re_ix v1 with h1 | ⟨j, hj, rfl⟩
  · exact br_t h1 (br_t rfl (br_t h1 ⟨rfl, I3⟩))
  · refine br_f (nI_pos hj) ?_
    rw [re_mt0, eM]
    refine pk_le M j (fun big => br_t rfl (br_f (nI_pos hj) (yr_mc ?_))) (fun lt => br_f (by decide) ⟨vp_in_nI (by omega) (by omega), br_f (nI_pos hj) (yr_mc ?_)⟩)
    · rw [eM]; exact br_f (nI_nlt big hj) ⟨rfl, I3⟩
    · rw [eM]; exact br_t (nI_lt lt (by omega)) ⟨vp_in_nI (by omega) (by omega), rfl, I3⟩
theorem i_vc_moveSquare {k : Nat} {u : SX} {v : SY} (I : i_Rel k u v) (hk : k + 3 ≤ 1537) (v1 : Int32) (v2 : Int32) : wpX_moveSquare (fun r => wpY_moveSquare (fun r' => r' = r ∧ i_Rel (k + 3) u v) v v1 v2) u v1 v2 := by
  have I3 := i_up I
  obtain ⟨f_drawLimit, f_searchValue, f_bestIdx, a_neighbours, a_board, a_sides, a_counters, a_mc, a_moveLengths, a_moveSquares, a_path, a_jumped, a_nextDirection, a_wentOn, a_nextMove, a_bestMove, a_bestValue, a_log, a_ps, a_dr, a_cp, a_ex, a_jp, a_idx, a_best, n, rfl, rfl, hN, hB, hS, hL, hn⟩ := I
  obtain ⟨M, hM, eM, hMM, eM0⟩ := re_M (lim := f_drawLimit) (sd0 := a_sides 0) (dc0 := a_counters 0) hL
  unfold wpX_moveSquare
  rcases re_ix v1 with h1 | ⟨j, hj, rfl⟩
  · exact br_t h1 (br_t rfl (br_t h1 ⟨rfl, I3⟩))
  · refine br_f (nI_pos hj) ?_
    rw [re_mt0, eM]
    refine pk_le M j (fun big => br_t rfl (br_f (nI_pos hj) (yr_mc ?_))) (fun lt => br_f (by decide) ?_)
    · rw [eM]; exact br_f (nI_nlt big hj) ⟨rfl, I3⟩
    · obtain ⟨hL2, hL13, hml, hq, _⟩ := dg_M_c (hMM j lt)
      rw [show 0 * 48 + j = j by omega] at hL2 hL13 hml
      have hin : vp_in (nI j) 192 := vp_in_nI (by omega) (by omega)
      have ec : (nI j).toNatClampNeg = j := nI_clamp hj
      have hY : ∀ post : Int32 → Prop, ((v2 < 0 → post (-1)) ∧ (¬ v2 < 0 → (vp_in (nI j) 192 ∧ ((v2 < a_moveLengths (nI j).toNatClampNeg → (vp_in (nI j * 13 + v2) 2496 ∧ post (a_moveSquares (nI j * 13 + v2).toNatClampNeg))) ∧ (¬ v2 < a_moveLengths (nI j).toNatClampNeg → post (-1)))))) → wpY_moveSquare post (f_drawLimit, f_searchValue, nI n, f_bestIdx, a_board, a_sides, a_counters, a_mc, a_moveLengths, a_moveSquares, a_ps, a_dr, a_cp, a_ex, a_jp, a_log, a_idx, a_best) (nI j) v2 := by
        intro post h
        refine br_f (nI_pos hj) (yr_mc ?_)
        rw [eM]
        exact br_t (nI_lt lt (by omega)) h
      rcases re_ix v2 with h2 | ⟨q, hq2, rfl⟩
      · exact br_t h2 (hY _ (br_t h2 ⟨rfl, I3⟩))
      · refine br_f (nI_pos hq2) ⟨hin, ?_⟩
        have e1 : nI j * 13 + nI q = nI (j * 13 + q) := by rw [show (13 : Int32) = nI 13 from rfl, pk_mul, nI_add]
        refine br_c (fun a => ?_) (fun a => hY _ (br_f (nI_pos hq2) ⟨hin, br_f a ⟨rfl, I3⟩⟩))
        have hql : q < dg_l a_moveLengths j := by
          rw [ec, hml] at a
          exact (nI_ltI hq2 (by omega)).mp a
        have hin2 : vp_in (nI j * 13 + nI q) 2496 := by rw [e1]; exact vp_in_nI (by omega) (by omega)
        exact ⟨hin2, hY _ (br_f (nI_pos hq2) ⟨hin, br_t a ⟨hin2, rfl, I3⟩⟩)⟩
theorem i_vc_play {k : Nat} {u : SX} {v : SY} (I : i_Rel k u v) (hk : k + 3 ≤ 1537) (v1 : Int32) : wpX_play (fun r u' => wpY_play (fun r' v' => r' = r ∧ i_Rel (k + 3) u' v') v v1) u v1 := by
  have I3 := i_up I
  obtain ⟨f_drawLimit, f_searchValue, f_bestIdx, a_neighbours, a_board, a_sides, a_counters, a_mc, a_moveLengths, a_moveSquares, a_path, a_jumped, a_nextDirection, a_wentOn, a_nextMove, a_bestMove, a_bestValue, a_log, a_ps, a_dr, a_cp, a_ex, a_jp, a_idx, a_best, n, rfl, rfl, hN, hB, hS, hL, hn⟩ := I
  obtain ⟨M, hM, eM, hMM, eM0⟩ := re_M (lim := f_drawLimit) (sd0 := a_sides 0) (dc0 := a_counters 0) hL
  by_cases hst : dg_st f_drawLimit (a_sides 0) (a_counters 0) (a_mc 0) = 0
  · have hmt : (if dg_st f_drawLimit (a_sides 0) (a_counters 0) (a_mc 0) = 3 then upd a_mc 0 0 else a_mc) = a_mc := by rw [hst]; exact if_neg (by decide)
    have eM1 := eM0 hst
    refine br_t hst ?_
    rcases re_ix v1 with h1 | ⟨j, hj, rfl⟩
    · refine br_t h1 (br_t rfl ?_)
      unfold wpY_play
      exact yr_status (br_t hst (br_t h1 ⟨rfl, I3⟩))
    · refine br_f (nI_pos hj) ?_
      rw [re_mt0, eM]
      refine pk_le M j (fun big => br_t rfl ?_) (fun lt => br_f (by decide) ?_)
      · unfold wpY_play
        refine yr_status (br_t hst (br_f (nI_pos hj) (yr_mc ?_)))
        rw [eM]
        exact br_f (nI_nlt big hj) ⟨rfl, I3⟩
      · have hMj := hMM j lt
        have hmc := dg_M_c hMj
        have hB1 := dg_ab_B (s := 0) (t := 0) (L := dg_l a_moveLengths (0 * 48 + j)) (q := dg_q a_moveSquares (0 * 48 + j)) hB (by omega) (hmc.2.2.2.1 0 (by omega)).1
        have hS1 := dg_as_S (s := 0) (t := 0) hS
        have hL1 := dg_gen_L 0 (dg_bl (dg_ab a_board 0 0 (dg_l a_moveLengths (0 * 48 + j)) (dg_q a_moveSquares (0 * 48 + j))) 0) (dg_as a_sides 0 0 0) a_mc a_moveLengths a_moveSquares
        have hn1 : dg_an n ≤ 64 := by unfold dg_an; split <;> omega
        refine xa_desc hB (by omega) hMj (xa_apply (s := 0) (t := 0) hB (by omega) (by omega) (by omega) hMj (xr_log hn (xr_refresh hN hB1 hS1 (dg_gen_congr re_mt) fun p' jx' nd' wo' => ?_)))
        unfold wpY_play
        refine yr_status (br_t hst (br_f (nI_pos hj) (yr_mc ?_)))
        rw [eM]
        refine br_t (nI_lt lt (by omega)) (ya_apply (s := 0) (t := 0) hB hS (by omega) (by omega) (by omega) hMj ?_)
        exact yr_log hB1 hS1 rfl hn fun ps' dr' cp' ex' jp' => ⟨rfl, re_mk hN hB1 hS1 hL1.1 hn1⟩
  · refine br_f hst ?_
    unfold wpY_play
    exact yr_status (br_f hst ⟨rfl, I3⟩)
theorem re_clamp (x : Int32) : ∃ pl, 1 ≤ pl ∧ pl ≤ 3 ∧ (∀ post : Int32 → Prop, post (nI pl) → wpX_clamp post x 1 3) ∧ (∀ (post : Int32 → SY → Prop) (f_lim f_last f_logN f_bestIdx : Int32) (a_bd a_sd a_dc a_mc a_ml a_mv a_ps a_dr a_cp a_ex a_jp a_log a_idx a_best : Nat → Int32), wY_search_19 post (nI pl) f_lim f_last f_logN f_bestIdx a_bd a_sd a_dc a_mc a_ml a_mv a_ps a_dr a_cp a_ex a_jp a_log a_idx a_best → wpY_search post (f_lim, f_last, f_logN, f_bestIdx, a_bd, a_sd, a_dc, a_mc, a_ml, a_mv, a_ps, a_dr, a_cp, a_ex, a_jp, a_log, a_idx, a_best) x) := by
  by_cases a : 1 ≤ x
  · by_cases b : x ≤ 3
    · have hx : ¬ x < 0 := by
        intro z
        rw [Int32.le_iff_toInt_le] at a
        rw [Int32.lt_iff_toInt_lt] at z
        have e1 : (1 : Int32).toInt = 1 := by decide
        have e0 : (0 : Int32).toInt = 0 := by decide
        omega
      obtain ⟨j, hj, rfl⟩ := nI_of hx
      have a' : 1 ≤ j := (nI_leI (a := 1) (by omega) hj).mp a
      have b' : j ≤ 3 := (nI_leI (b := 3) hj (by omega)).mp b
      exact ⟨j, a', b', fun post h => br_t a (br_t b h), fun post _ _ _ _ _ _ _ _ _ _ _ _ _ _ _ _ _ _ h => br_t a (br_t b h)⟩
    · exact ⟨3, by omega, by omega, fun post h => br_t a (br_f b h), fun post _ _ _ _ _ _ _ _ _ _ _ _ _ _ _ _ _ _ h => br_t a (br_f b h)⟩
  · exact ⟨1, by omega, by omega, fun post h => br_f a h, fun post _ _ _ _ _ _ _ _ _ _ _ _ _ _ _ _ _ _ h => br_f a h⟩
theorem i_vc_search {k : Nat} {u : SX} {v : SY} (I : i_Rel k u v) (hk : k + 3 ≤ 1537) (v1 : Int32) : wpX_search (fun r u' => wpY_search (fun r' v' => r' = r ∧ i_Rel (k + 3) u' v') v v1) u v1 := by
  have I3 := i_up I
  obtain ⟨f_drawLimit, f_searchValue, f_bestIdx, a_neighbours, a_board, a_sides, a_counters, a_mc, a_moveLengths, a_moveSquares, a_path, a_jumped, a_nextDirection, a_wentOn, a_nextMove, a_bestMove, a_bestValue, a_log, a_ps, a_dr, a_cp, a_ex, a_jp, a_idx, a_best, n, rfl, rfl, hN, hB, hS, hL, hn⟩ := I
  obtain ⟨pl, hp1, hp3, hX, hY⟩ := re_clamp v1
  by_cases hst : dg_st f_drawLimit (a_sides 0) (a_counters 0) (a_mc 0) = 0
  · have hmt : (if dg_st f_drawLimit (a_sides 0) (a_counters 0) (a_mc 0) = 3 then upd a_mc 0 0 else a_mc) = a_mc := by rw [hst]; exact if_neg (by decide)
    rw [hmt] at I3 ⊢
    have hmc0 := (dg_st_0 hst).1
    have hm := dg_L_m (S := (a_board, a_sides, a_counters, a_mc, a_moveLengths, a_moveSquares)) (l := 0) hL
    have hM1 : 1 ≤ dg_m (a_board, a_sides, a_counters, a_mc, a_moveLengths, a_moveSquares) 0 := by
      apply Classical.byContradiction
      intro z
      have e : dg_m (a_board, a_sides, a_counters, a_mc, a_moveLengths, a_moveSquares) 0 = 0 := by omega
      have := hm.2
      rw [e] at this
      exact hmc0 this
    have hH : dg_H 0 (a_board, a_sides, a_counters, a_mc, a_moveLengths, a_moveSquares) (fun _ => 0) (fun _ => -20000) := by
      refine ⟨⟨hB, hS, fun l hl => ?_⟩, fun i hi => absurd hi (Nat.not_lt_zero i), fun i hi => ?_⟩
      · obtain rfl : l = 0 := by omega
        exact hL
      · obtain rfl : i = 0 := by omega
        exact ⟨hM1, Nat.zero_le _, Or.inl ⟨rfl, rfl⟩⟩
    have hpt : dg_pt (dg_m (a_board, a_sides, a_counters, a_mc, a_moveLengths, a_moveSquares)) (fun _ => 0) (0 + 1) ≤ 225889 := dg_pt_0 hm.1
    have hinv := dg_se_inv (lim := f_drawLimit) hp3 225889 0 (a_board, a_sides, a_counters, a_mc, a_moveLengths, a_moveSquares) (fun _ => 0) (fun _ => -20000) 0 hH (by omega)
    obtain ⟨S', v', g', eS⟩ : ∃ S' v' g', dg_se f_drawLimit pl 225889 (0 + 1) (a_board, a_sides, a_counters, a_mc, a_moveLengths, a_moveSquares) (fun _ => 0) (fun _ => -20000) 0 = (S', v', g') := ⟨_, _, _, rfl⟩
    rw [eS] at hinv
    obtain ⟨i1, i2, i3, i4⟩ := hinv
    have hst' : dg_st f_drawLimit (S'.2.1 0) (S'.2.2.1 0) (S'.2.2.2.1 0) = 0 := by
      have e2 : S'.2.2.2.1 0 = a_mc 0 := i2
      have e3 : S'.2.1 0 = a_sides 0 := i3
      have e4 : S'.2.2.1 0 = a_counters 0 := i4
      rw [e2, e3, e4]
      exact hst
    refine br_t hst (hX _ ?_)
    unfold wpX_walkTree
    refine xs_open (l := 0) (by omega) ⟨300000, ?_⟩
    refine xs_walk hN hp3 225889 0 (a_board, a_sides, a_counters, a_mc, a_moveLengths, a_moveSquares) (fun _ => 0) (fun _ => -20000) 0 _ _ _ _ _ _ _ 0 300000 hH (by omega) ⟨fun i hi => ?_, fun z => absurd z (Nat.not_succ_le_zero 0)⟩ hpt (by omega) (by omega) ?_
    · obtain rfl : i = 0 := by omega
      exact ⟨pk_us, pk_us⟩
    · intro S1 w1 g1 nm' bm' bv' p' jx' nd' wo' e1 hbv hbm
      cases e1.symm.trans eS
      refine nm_r hbv ?_
      rw [hbm]
      refine hY _ _ _ _ _ _ _ _ _ _ _ _ _ _ _ _ _ _ _ ?_
      unfold wY_search_19
      refine yr_status (br_t hst (nm_e (nm_e ⟨300000, ?_⟩)))
      refine ys_walk hp3 225889 0 (a_board, a_sides, a_counters, a_mc, a_moveLengths, a_moveSquares) (fun _ => 0) (fun _ => -20000) 0 _ _ _ _ _ _ _ _ 0 300000 hH (by omega) ⟨fun i hi => ?_, fun z => absurd z (Nat.not_succ_le_zero 0)⟩ hpt (by omega) (by omega) ?_
      · obtain rfl : i = 0 := by omega
        exact ⟨pk_us, pk_us⟩
      · intro S2 w2 g2 idx' best' ps' dr' cp' ex' jp' e2
        cases e2.symm.trans eS
        refine ⟨rfl, ?_⟩
        have r := re_mk (k := k + 3) (n := n) (f_drawLimit := f_drawLimit) (f_searchValue := dg_i v') (f_bestIdx := nI g') (a_counters := S'.2.2.1) (a_path := p') (a_jumped := jx') (a_nextDirection := nd') (a_wentOn := wo') (a_nextMove := nm') (a_bestMove := bm') (a_bestValue := bv') (a_log := a_log) (a_ps := ps') (a_dr := dr') (a_cp := cp') (a_ex := ex') (a_jp := jp') (a_idx := idx') (a_best := best') hN i1.1 i1.2.1 (i1.2.2 0 (Nat.le_refl 0)) hn
        rw [hst', if_neg (by decide)] at r
        rw [hst]
        exact r
  · refine br_f hst (hY _ _ _ _ _ _ _ _ _ _ _ _ _ _ _ _ _ _ _ ?_)
    unfold wY_search_19
    exact yr_status (br_f hst ⟨rfl, I3⟩)
theorem i_vc_lastValue {k : Nat} {u : SX} {v : SY} (I : i_Rel k u v) (hk : k + 3 ≤ 1537) : wpX_lastValue (fun r => wpY_lastValue (fun r' => r' = r ∧ i_Rel (k + 3) u v) v) u := by
  have I3 := i_up I
  obtain ⟨f_drawLimit, f_searchValue, f_bestIdx, a_neighbours, a_board, a_sides, a_counters, a_mc, a_moveLengths, a_moveSquares, a_path, a_jumped, a_nextDirection, a_wentOn, a_nextMove, a_bestMove, a_bestValue, a_log, a_ps, a_dr, a_cp, a_ex, a_jp, a_idx, a_best, n, rfl, rfl, hN, hB, hS, hL, hn⟩ := I
  exact ⟨rfl, I3⟩
theorem i_vc_logLength {k : Nat} {u : SX} {v : SY} (I : i_Rel k u v) (hk : k + 3 ≤ 1537) : wpX_logLength (fun r => wpY_logLength (fun r' => r' = r ∧ i_Rel (k + 3) u v) v) u := by
  have I3 := i_up I
  obtain ⟨f_drawLimit, f_searchValue, f_bestIdx, a_neighbours, a_board, a_sides, a_counters, a_mc, a_moveLengths, a_moveSquares, a_path, a_jumped, a_nextDirection, a_wentOn, a_nextMove, a_bestMove, a_bestValue, a_log, a_ps, a_dr, a_cp, a_ex, a_jp, a_idx, a_best, n, rfl, rfl, hN, hB, hS, hL, hn⟩ := I
  exact ⟨rfl, I3⟩
theorem i_vc_logEntry {k : Nat} {u : SX} {v : SY} (I : i_Rel k u v) (hk : k + 3 ≤ 1537) (v1 : Int32) : wpX_logEntry (fun r => wpY_logEntry (fun r' => r' = r ∧ i_Rel (k + 3) u v) v v1) u v1 := by
  have I3 := i_up I
  obtain ⟨f_drawLimit, f_searchValue, f_bestIdx, a_neighbours, a_board, a_sides, a_counters, a_mc, a_moveLengths, a_moveSquares, a_path, a_jumped, a_nextDirection, a_wentOn, a_nextMove, a_bestMove, a_bestValue, a_log, a_ps, a_dr, a_cp, a_ex, a_jp, a_idx, a_best, n, rfl, rfl, hN, hB, hS, hL, hn⟩ := I
  rcases re_ix v1 with h1 | ⟨j, hj, rfl⟩
  · exact br_t h1 (br_t h1 ⟨rfl, I3⟩)
  · exact br_f (nI_pos hj) (pk_le n j (fun a => br_f (nI_pos hj) (br_f (nI_nlt a hj) ⟨rfl, I3⟩)) (fun a => ⟨vp_in_nI (by omega) (by omega), br_f (nI_pos hj) (br_t (nI_lt a (by omega)) ⟨vp_in_nI (by omega) (by omega), rfl, I3⟩)⟩))
