/-! playing, searching, the list and the log -/
def eg_en (P : pp_Pos) (e : Nat × (Nat → Nat)) : Int32 := nI (e.2 0 + 32 * e.2 (e.1 - 1) + 1024 * dg_C2 e.2 e.1 + 16384 * dg_cro (P.1 (e.2 0)) (e.2 (e.1 - 1)))
noncomputable def eg_pl (i : Nat) (G : eg_G) : eg_G := (pp_ap G.1 (pp_mv G.1 i), dg_al G.2.1 G.2.2 (eg_en G.1 (pp_mv G.1 i)), dg_an G.2.2)
noncomputable def eg_play (lim v : Int32) (G : eg_G) : eg_G := @ite _ (¬ v < 0 ∧ v.toNatClampNeg < eg_M lim G.1) (Classical.propDecidable _) (eg_pl v.toNatClampNeg G) G
theorem eg_sh (log : Nat → Int32) : ∀ m i, dg_sh log m i = if i < m then log (i + 1) else log i := by
  intro m
  induction m with
  | zero => intro i; rfl
  | succ m ih =>
    intro i
    show upd (dg_sh log m) m (dg_sh log m (m + 1)) i = _
    by_cases e : i = m
    · subst e
      rw [pk_us, ih, if_neg (by omega), if_pos (by omega)]
    · rw [pk_un e, ih]
      by_cases h : i < m
      · rw [if_pos h, if_pos (by omega)]
      · rw [if_neg h, if_neg (by omega)]
theorem eg_al {log lg : Nat → Int32} {n : Nat} {e : Int32} (hn : n ≤ 64) (h : ∀ i, i < n → log i = lg i) : ∀ i, i < dg_an n → dg_al log n e i = dg_al lg n e i := by
  intro i hi
  unfold dg_an at hi
  unfold dg_al
  by_cases z : n = 64
  · rw [if_pos z] at hi
    rw [if_pos z, if_pos z]
    by_cases e : i = 63
    · rw [e, pk_us, pk_us]
    · rw [pk_un e, pk_un e, eg_sh, eg_sh, if_pos (by omega), if_pos (by omega)]
      exact h _ (by omega)
  · rw [if_neg z] at hi
    rw [if_neg z, if_neg z]
    by_cases e : i = n
    · rw [e, pk_us, pk_us]
    · rw [pk_un e, pk_un e]; exact h i (by omega)
theorem ex_play {lim sv v : Int32} {G : eg_G} {u : St2} {post : Int32 → St2 → Prop} (h : eg_R lim G sv u) (hp : ∀ r u', eg_R lim (eg_play lim v G) sv u' → post r u') : wpX_play post u v := by
  have h' := h
  obtain ⟨a_neighbours, a_board, a_sides, a_counters, a_mc, a_moveLengths, a_moveSquares, a_path, a_jumped, a_nextDirection, a_wentOn, a_nextMove, a_bestMove, a_bestValue, a_log, rfl, hN, hB, hS, hat, hl, hn⟩ := h
  have es : dg_st lim (a_sides 0) (a_counters 0) (a_mc 0) = eg_st lim G.1 := eg_st_at hat
  have em : a_mc 0 = nI (pp_ls G.1).length := hat.2.2.2.2.1
  have h48 : (pp_ls G.1).length ≤ 48 := hat.2.2.2.1
  unfold eg_play at hp
  by_cases hst : eg_st lim G.1 = 0
  · have eM : eg_M lim G.1 = (pp_ls G.1).length := if_pos hst
    rw [eM] at hp
    refine br_t (es.trans hst) ?_
    rcases re_ix v with h1 | ⟨j, hj, rfl⟩
    · rw [if_neg (fun z => z.1 h1)] at hp
      exact br_t h1 (br_t rfl (hp _ _ h'))
    · rw [nI_clamp hj] at hp
      refine br_f (nI_pos hj) ?_
      have e0 : (if dg_st lim (a_sides 0) (a_counters 0) (a_mc 0) = 3 then upd a_mc 0 0 else a_mc) 0 = nI (pp_ls G.1).length := by rw [re_mt0, es, hst, if_pos rfl, em]
      rw [e0]
      refine pk_le (pp_ls G.1).length j (fun big => br_t rfl ?_) (fun lt => br_f (by decide) ?_)
      · rw [if_neg (fun z => by have := z.2; omega)] at hp
        exact hp _ _ h'
      · rw [if_pos ⟨nI_pos hj, lt⟩] at hp
        have hL := pv_L hat.2.2.2 (pp_E G.1)
        have hMj : dg_M a_moveLengths a_moveSquares (0 * 48 + j) := (dg_L_M hL (by
          show j < (a_mc 0).toNatClampNeg
          rw [em, nI_clamp (by omega)]; exact lt)).2
        have hmc := dg_M_c hMj
        obtain ⟨c1, c2⟩ := pp_cells hat lt
        have hE := (pp_mv_E lt).1
        have hq0 : dg_q a_moveSquares (0 * 48 + j) 0 < 32 := (hmc.2.2.2.1 0 (by omega)).1
        have hc := pb_ap_congr (b := dg_bl a_board 0) (b' := G.1.1) (q := dg_q a_moveSquares (0 * 48 + j)) (q' := (pp_mv G.1 j).2) (L := (pp_mv G.1 j).1) hat.1 hE.1 c2 hq0
        have hnx := pp_next (t := 0) hB (by omega) hat lt
        have hB1 := dg_ab_B (s := 0) (t := 0) (L := dg_l a_moveLengths (0 * 48 + j)) (q := dg_q a_moveSquares (0 * 48 + j)) hB (by omega) hq0
        have hS1 := dg_as_S (s := 0) (t := 0) hS
        have hn1 : dg_an G.2.2 ≤ 64 := by unfold dg_an; split <;> omega
        have een : dg_en a_board 0 (dg_l a_moveLengths (0 * 48 + j)) (dg_q a_moveSquares (0 * 48 + j)) = eg_en G.1 (pp_mv G.1 j) := by
          unfold dg_en eg_en
          have k0 := c2 0 (by have := hE.1; omega)
          have kL := c2 ((pp_mv G.1 j).1 - 1) (by have := hE.1; omega)
          have c1' : dg_l a_moveLengths (0 * 48 + j) = (pp_mv G.1 j).1 := c1
          have kb : dg_b a_board (0 * 32 + dg_q a_moveSquares (0 * 48 + j) 0) = G.1.1 ((pp_mv G.1 j).2 0) := hc.2.2
          have k0' : dg_q a_moveSquares (0 * 48 + j) 0 = (pp_mv G.1 j).2 0 := k0
          have kL' : dg_q a_moveSquares (0 * 48 + j) ((pp_mv G.1 j).1 - 1) = (pp_mv G.1 j).2 ((pp_mv G.1 j).1 - 1) := kL
          rw [c1', kb, hc.2.1, kL', k0']
        refine xa_desc hB (by omega) hMj (xa_apply (s := 0) (t := 0) hB (by omega) (by omega) (by omega) hMj (xr_log hn (xr_refresh hN hB1 hS1 rfl fun p' jx' nd' wo' => hp _ _ ?_)))
        rw [een]
        exact eg_mk (P := pp_ap G.1 (pp_mv G.1 j)) hN hB1 hS1 hnx.1 hnx.2.1 hnx.2.2.1 ⟨_, _, _, rfl⟩ (eg_al hn hl) hn1
  · have eM : eg_M lim G.1 = 0 := if_neg hst
    rw [eM, if_neg (fun z => by have := z.2; omega)] at hp
    exact br_f (fun z => hst (es.symm.trans z)) (hp _ _ h')
theorem ex_search {lim sv d : Int32} {G : eg_G} {u : St2} {post : Int32 → St2 → Prop} {pl : Nat} (h : eg_R lim G sv u) (hp1 : 1 ≤ pl) (hp3 : pl ≤ 3) (hd : ∀ post : Int32 → Prop, post (nI pl) → wpX_clamp post () d 1 3)
    (hno : ¬ eg_st lim G.1 = 0 → post (-1) u)
    (hyes : eg_st lim G.1 = 0 → ∀ u', eg_R lim G (dg_i (pp_f (pp_ch lim pl 0 G.1) (pp_ls G.1).length)) u' → post (nI (pp_a (pp_ch lim pl 0 G.1) (pp_ls G.1).length)) u') : wpX_search post u d := by
  obtain ⟨a_neighbours, a_board, a_sides, a_counters, a_mc, a_moveLengths, a_moveSquares, a_path, a_jumped, a_nextDirection, a_wentOn, a_nextMove, a_bestMove, a_bestValue, a_log, rfl, hN, hB, hS, hat, hl, hn⟩ := h
  have es : dg_st lim (a_sides 0) (a_counters 0) (a_mc 0) = eg_st lim G.1 := eg_st_at hat
  by_cases hst : eg_st lim G.1 = 0
  · have hst0 : dg_st lim (a_sides 0) (a_counters 0) (a_mc 0) = 0 := es.trans hst
    have hmt : (if dg_st lim (a_sides 0) (a_counters 0) (a_mc 0) = 3 then upd a_mc 0 0 else a_mc) = a_mc := by rw [hst0]; exact if_neg (by decide)
    rw [hmt]
    have hL := pv_L hat.2.2.2 (pp_E G.1)
    have hm := dg_L_m (S := (a_board, a_sides, a_counters, a_mc, a_moveLengths, a_moveSquares)) (l := 0) hL
    have hmc0 := (dg_st_0 hst0).1
    have hM1 : 1 ≤ dg_m (a_board, a_sides, a_counters, a_mc, a_moveLengths, a_moveSquares) 0 := by
      apply Classical.byContradiction
      intro z
      have e : dg_m (a_board, a_sides, a_counters, a_mc, a_moveLengths, a_moveSquares) 0 = 0 := by omega
      have := hm.2
      rw [e] at this
      exact hmc0 this
    have hH : dg_H 0 (a_board, a_sides, a_counters, a_mc, a_moveLengths, a_moveSquares) (fun _ => 0) (fun _ => -20000) := by
      refine ⟨⟨hB, hS, fun l hl => ?_⟩, fun i hi => absurd hi (Nat.not_lt_zero i), fun i hi => ?_⟩
      · obtain rfl : l = 0 := by omega
        exact hL
      · obtain rfl : i = 0 := by omega
        exact ⟨hM1, Nat.zero_le _, Or.inl ⟨rfl, rfl⟩⟩
    have hPH : pp_H lim pl 0 (a_board, a_sides, a_counters, a_mc, a_moveLengths, a_moveSquares) (fun _ => 0) (fun _ => -20000) 0 (fun _ => G.1) := by
      refine ⟨fun i hi => ?_, fun i hi => absurd hi (Nat.not_lt_zero i), fun i hi => rfl, rfl⟩
      obtain rfl : i = 0 := by omega
      exact hat
    have hpt : dg_pt (dg_m (a_board, a_sides, a_counters, a_mc, a_moveLengths, a_moveSquares)) (fun _ => 0) (0 + 1) ≤ 225889 := dg_pt_0 hm.1
    have hinv := dg_se_inv (lim := lim) hp3 225889 0 (a_board, a_sides, a_counters, a_mc, a_moveLengths, a_moveSquares) (fun _ => 0) (fun _ => -20000) 0 hH (by omega)
    have hval := pp_se (lim := lim) hp3 225889 0 (a_board, a_sides, a_counters, a_mc, a_moveLengths, a_moveSquares) (fun _ => 0) (fun _ => -20000) 0 (fun _ => G.1) hH (by omega) hPH hpt
    obtain ⟨S', v', g', eS⟩ : ∃ S' v' g', dg_se lim pl 225889 (0 + 1) (a_board, a_sides, a_counters, a_mc, a_moveLengths, a_moveSquares) (fun _ => 0) (fun _ => -20000) 0 = (S', v', g') := ⟨_, _, _, rfl⟩
    rw [eS] at hinv hval
    obtain ⟨hv1, hat'⟩ := hval
    have hv2 : v' = pp_f (pp_ch lim pl 0 G.1) (pp_ls G.1).length := congrArg Prod.fst hv1
    have hg2 : g' = pp_a (pp_ch lim pl 0 G.1) (pp_ls G.1).length := congrArg Prod.snd hv1
    refine br_t hst0 (hd _ ?_)
    unfold wpX_walkTree
    refine xs_open (l := 0) (by omega) ⟨300000, ?_⟩
    refine xs_walk hN hp3 225889 0 (a_board, a_sides, a_counters, a_mc, a_moveLengths, a_moveSquares) (fun _ => 0) (fun _ => -20000) 0 _ _ _ _ _ _ _ 0 300000 hH (by omega) ⟨fun i hi => ?_, fun z => absurd z (Nat.not_succ_le_zero 0)⟩ hpt (by omega) (by omega) ?_
    · obtain rfl : i = 0 := by omega
      exact ⟨pk_us, pk_us⟩
    · intro S1 w1 g1 nm' bm' bv' p' jx' nd' wo' e1 hbv hbm
      cases e1.symm.trans eS
      refine nm_r hbv ?_
      rw [hbm, hg2, hv2]
      refine hyes hst _ ⟨a_neighbours, S'.1, S'.2.1, S'.2.2.1, S'.2.2.2.1, S'.2.2.2.2.1, S'.2.2.2.2.2, p', jx', nd', wo', nm', bm', bv', a_log, ?_, hN, hinv.1.1, hinv.1.2.1, hat', hl, hn⟩
      have es' : dg_st lim (S'.2.1 0) (S'.2.2.1 0) (S'.2.2.2.1 0) = eg_st lim G.1 := eg_st_at hat'
      rw [es', es, hst, if_neg (by decide)]
  · exact br_f (fun z => hst (es.symm.trans z)) (hno hst)
theorem ex_len {lim sv : Int32} {G : eg_G} {u : St2} {post : Int32 → Prop} {i : Nat} (h : eg_R lim G sv u) (hi : i < eg_M lim G.1) (hp : post (nI (pp_mv G.1 i).1)) : wpX_moveLength post u (nI i) := by
  have h48 := eg_M_le lim G.1
  obtain ⟨a_neighbours, a_board, a_sides, a_counters, a_mc, a_moveLengths, a_moveSquares, a_path, a_jumped, a_nextDirection, a_wentOn, a_nextMove, a_bestMove, a_bestValue, a_log, rfl, hN, hB, hS, hat, hl, hn⟩ := h
  have es : dg_st lim (a_sides 0) (a_counters 0) (a_mc 0) = eg_st lim G.1 := eg_st_at hat
  have em : a_mc 0 = nI (pp_ls G.1).length := hat.2.2.2.2.1
  have hst : eg_st lim G.1 = 0 := by
    apply Classical.byContradiction
    intro z
    have : eg_M lim G.1 = 0 := if_neg z
    omega
  have eM : eg_M lim G.1 = (pp_ls G.1).length := if_pos hst
  rw [eM] at hi h48
  have g := hat.2.2.2.2.2 i _ (pp_mv_some hi)
  have g1 : a_moveLengths i = nI (pp_mv G.1 i).1 := by
    have := g.1
    rw [show 0 * 48 + i = i by omega] at this
    exact this
  unfold wpX_moveLength
  refine br_f (nI_pos (by omega)) ?_
  rw [re_mt0, es, hst, if_pos rfl, em]
  refine br_f (nI_ge hi (by omega)) (br_f (by decide) ⟨vp_in_nI (by omega) (by omega), ?_⟩)
  rw [nI_clamp (by omega), g1]
  exact hp
noncomputable def eg_sq (P : pp_Pos) (i : Nat) (k : Int32) : Int32 := @ite _ (¬ k < 0 ∧ k.toNatClampNeg < (pp_mv P i).1) (Classical.propDecidable _) (nI ((pp_mv P i).2 k.toNatClampNeg)) (-1)
theorem ex_sq {lim sv : Int32} {G : eg_G} {u : St2} {post : Int32 → Prop} {i : Nat} {k : Int32} (h : eg_R lim G sv u) (hi : i < eg_M lim G.1) (hp : post (eg_sq G.1 i k)) : wpX_moveSquare post u (nI i) k := by
  have h48 := eg_M_le lim G.1
  obtain ⟨a_neighbours, a_board, a_sides, a_counters, a_mc, a_moveLengths, a_moveSquares, a_path, a_jumped, a_nextDirection, a_wentOn, a_nextMove, a_bestMove, a_bestValue, a_log, rfl, hN, hB, hS, hat, hl, hn⟩ := h
  have es : dg_st lim (a_sides 0) (a_counters 0) (a_mc 0) = eg_st lim G.1 := eg_st_at hat
  have em : a_mc 0 = nI (pp_ls G.1).length := hat.2.2.2.2.1
  have hst : eg_st lim G.1 = 0 := by
    apply Classical.byContradiction
    intro z
    have : eg_M lim G.1 = 0 := if_neg z
    omega
  have eM : eg_M lim G.1 = (pp_ls G.1).length := if_pos hst
  rw [eM] at hi h48
  have g := hat.2.2.2.2.2 i _ (pp_mv_some hi)
  rw [show 0 * 48 + i = i by omega] at g
  have hE := (pp_mv_E hi).1
  have h13 := hE.2.1
  have g1 : a_moveLengths i = nI (pp_mv G.1 i).1 := g.1
  unfold eg_sq at hp
  unfold wpX_moveSquare
  refine br_f (nI_pos (by omega)) ?_
  rw [re_mt0, es, hst, if_pos rfl, em]
  refine br_f (nI_ge hi (by omega)) (br_f (by decide) ?_)
  rcases re_ix k with h1 | ⟨q, hq, rfl⟩
  · rw [if_neg (fun z => z.1 h1)] at hp
    exact br_t h1 hp
  · rw [nI_clamp hq] at hp
    refine br_f (nI_pos hq) ⟨vp_in_nI (by omega) (by omega), ?_⟩
    rw [nI_clamp (n := i) (by omega), g1]
    have e1 : nI i * 13 + nI q = nI (i * 13 + q) := by rw [show (13 : Int32) = nI 13 from rfl, pk_mul, nI_add]
    refine pk_lt q (pp_mv G.1 i).1 (fun l => ?_) (fun l => ?_)
    · rw [if_pos ⟨nI_pos hq, l⟩] at hp
      rw [e1]
      refine ⟨vp_in_nI (by omega) (by omega), ?_⟩
      have g2 : a_moveSquares (i * 13 + q) = nI ((pp_mv G.1 i).2 q) := g.2 q l
      rw [nI_clamp (by omega), g2]
      exact hp
    · rw [if_neg (fun z => by have := z.2; omega)] at hp
      exact hp
theorem ex_loge {lim sv : Int32} {G : eg_G} {u : St2} {post : Int32 → Prop} {i : Nat} (hi : i < 64) (h : eg_R lim G sv u) (hp : post (if i < G.2.2 then G.2.1 i else -1)) : wpX_logEntry post u (nI i) := by
  obtain ⟨a_neighbours, a_board, a_sides, a_counters, a_mc, a_moveLengths, a_moveSquares, a_path, a_jumped, a_nextDirection, a_wentOn, a_nextMove, a_bestMove, a_bestValue, a_log, rfl, hN, hB, hS, hat, hl, hn⟩ := h
  refine br_f (nI_pos (by omega)) (pk_le G.2.2 i (fun a => ?_) (fun a => ⟨vp_in_nI (by omega) (by omega), ?_⟩))
  · rw [if_neg (by omega)] at hp; exact hp
  · rw [if_pos a] at hp
    rw [nI_clamp (by omega), hl i a]
    exact hp
