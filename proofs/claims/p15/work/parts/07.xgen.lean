def dg_la : Nat → Int32
  | 0 => -1
  | k + 1 => nI k
theorem dg_la_m (k : Nat) : nI k + (-1) = dg_la k := by
  cases k with
  | zero => rfl
  | succ k => exact pk_m1 k
theorem wx_walk {f_drawLimit f_logTotal f_gameStatus f_searchValue : Int32} {a_neighbours a_board a_sides a_counters a_nextMove a_bestMove a_bestValue a_log : Nat → Int32} {post : St2 → Prop} {lv c s0 : Nat} (hN : dg_N a_neighbours) (hB : dg_B a_board) (hlv : lv < 4) (hc : c ≤ 4) (hc0 : ¬ c = 0) (hs0 : s0 < 32) :
    ∀ (n k1 : Nat) (q j x y : Nat → Nat) (w J : Nat → Int32) (T : (Nat → Int32) × (Nat → Int32) × (Nat → Int32)) (p jx nd wo : Nat → Int32) (step m : Nat), dg_K c s0 k1 q j x y w J → (∀ k, k1 = k + 1 → dg_AX k q j x w p jx nd wo) → dg_Q T lv →
      dg_ps x k1 ≤ n → step + dg_ps x k1 ≤ 1000000 → dg_ps x k1 < m →
      (∀ p' jx' nd' wo', post (f_drawLimit, f_logTotal, f_gameStatus, f_searchValue, a_neighbours, a_board, a_sides, a_counters, ((dg_run (dg_bl a_board lv) c s0 n k1 q j x w J).foldl (dg_rec lv) T).1, ((dg_run (dg_bl a_board lv) c s0 n k1 q j x w J).foldl (dg_rec lv) T).2.1, ((dg_run (dg_bl a_board lv) c s0 n k1 q j x w J).foldl (dg_rec lv) T).2.2, p', jx', nd', wo', a_nextMove, a_bestMove, a_bestValue, a_log)) →
      wX_listCapturesFrom_42 post (nI lv) (nI c) m (dg_la k1) (nI step) f_drawLimit f_logTotal f_gameStatus f_searchValue a_neighbours a_board a_sides a_counters T.1 T.2.1 T.2.2 p jx nd wo a_nextMove a_bestMove a_bestValue a_log := by
  have hend : ∀ (n : Nat) (q j x : Nat → Nat) (w J : Nat → Int32) (T : (Nat → Int32) × (Nat → Int32) × (Nat → Int32)) (p jx nd wo : Nat → Int32) (step m : Nat), 0 < m →
      (∀ p' jx' nd' wo', post (f_drawLimit, f_logTotal, f_gameStatus, f_searchValue, a_neighbours, a_board, a_sides, a_counters, ((dg_run (dg_bl a_board lv) c s0 n 0 q j x w J).foldl (dg_rec lv) T).1, ((dg_run (dg_bl a_board lv) c s0 n 0 q j x w J).foldl (dg_rec lv) T).2.1, ((dg_run (dg_bl a_board lv) c s0 n 0 q j x w J).foldl (dg_rec lv) T).2.2, p', jx', nd', wo', a_nextMove, a_bestMove, a_bestValue, a_log)) →
      wX_listCapturesFrom_42 post (nI lv) (nI c) m (dg_la 0) (nI step) f_drawLimit f_logTotal f_gameStatus f_searchValue a_neighbours a_board a_sides a_counters T.1 T.2.1 T.2.2 p jx nd wo a_nextMove a_bestMove a_bestValue a_log := by
    intro n q j x w J T p jx nd wo step m hm hp
    obtain ⟨m, rfl⟩ : ∃ g, m = g + 1 := ⟨m - 1, by omega⟩
    rw [dg_run_0] at hp
    exact br_c (fun _ => hp p jx nd wo) (fun _ => br_t (show (-1 : Int32) < 0 by decide) (hp p jx nd wo))
  intro n
  induction n with
  | zero =>
    intro k1 q j x y w J T p jx nd wo step m hK hA hQ hn hstep hm hp
    cases k1 with
    | zero => exact hend 0 q j x w J T p jx nd wo step m (by omega) hp
    | succ k => have := dg_ps_pos x k; omega
  | succ n ih =>
    intro k1 q j x y w J T p jx nd wo step m hK hA hQ hn hstep hm hp
    cases k1 with
    | zero => exact hend (n + 1) q j x w J T p jx nd wo step m (by omega) hp
    | succ k =>
      have hpos := dg_ps_pos x k
      obtain ⟨m, rfl⟩ : ∃ g, m = g + 1 := ⟨m - 1, by omega⟩
      obtain ⟨hI, hw⟩ := hK k rfl
      have hAk := hA k rfl
      have hk9 := dg_I_k hI
      obtain ⟨hq, hpar, hdr⟩ := hI.2.1 k (Nat.le_refl k)
      have hq0 := hI.1
      have hA0 := (hAk.1 0 (Nat.zero_le k)).1
      rw [hq0] at hA0
      have hAkk := hAk.1 k (Nat.le_refl k)
      rw [show dg_la (k + 1) = nI k from rfl]
      refine br_f (nI_ge (b := 1000000) (by omega) (by decide)) (br_f (nI_pos (by omega)) ?_)
      refine wx_fj (J := J) (s0 := s0) (q := q k) (x := x k) hN hB hlv hc hc0 (by omega) hq hAkk.1 hA0 hs0 ?_ hAkk.2.1 hdr.1 hdr.2.1 ?_
      · intro n' hn' P h0 h1
        refine wx_isJ (j := j) (J := J) (by omega) hn' (fun i hi => ⟨hAk.2 i hi, dg_C_lt _ _ (hI.2.2.1 i hi).1, (hI.2.2.1 i hi).2.2.1⟩) (fun z => hI.2.2.2.1 n' hn' z) h0 h1
      · by_cases hD : dg_D (dg_bl a_board lv) c s0 J (q k) (x k) < 4
        · generalize eD : dg_D (dg_bl a_board lv) c s0 J (q k) (x k) = D at hD
          rw [dg_r_lt hD]
          obtain ⟨hP, hxD, hk8, hK'⟩ := dg_K_push hK eD hD
          refine br_f (dg_enc_n D (by omega)).1 (wx_jump hN hc (by omega) hD hq hAkk.1 hP.2.1 hP.2.2.1 ?_)
          refine nm_r (nI_1 k) (nm_r (nI_1 step) ?_)
          have hps := dg_ps_push (x := x) (k := k) (D := D) (x' := dg_x0 c (dg_T (dg_T (q k) D) D)) hk8 hxD hD
          rw [dg_run_push eD hD] at hp
          refine ih (k + 2) _ _ _ _ _ _ T _ _ _ _ (step + 1) m hK' (fun k' e => ?_) hQ (by omega) (by omega) (by omega) hp
          obtain rfl : k' = k + 1 := by omega
          exact dg_AX_push hAk
        · rw [dg_r_ge hD]
          rw [dg_run_pop hD, List.foldl_append] at hp
          refine br_t rfl ⟨vp_in_nI (by omega) (by omega), ?_⟩
          rw [nI_clamp (by omega), hAkk.2.2]
          by_cases hwk : w k = 0
          · rw [if_pos hwk] at hp
            refine br_t hwk ?_
            rw [nI_1 k]
            refine wx_keep (q := q) hlv hQ (by omega) (fun i hi => (hAk.1 i (by omega)).1) ?_
            refine nm_r (dg_la_m k) (nm_r (nI_1 step) ?_)
            refine ih k q j x y w _ (dg_rec lv T (k + 1, q)) p jx nd wo (step + 1) m (dg_K_pop hK) (fun k' e => ?_) (dg_rec_Q _ hQ) (by omega) (by omega) (by omega) hp
            subst e
            exact dg_AX_pop hAk
          · rw [if_neg hwk] at hp
            refine br_f hwk (nm_r (dg_la_m k) (nm_r (nI_1 step) ?_))
            refine ih k q j x y w _ T p jx nd wo (step + 1) m (dg_K_pop hK) (fun k' e => ?_) hQ (by omega) (by omega) (by omega) hp
            subst e
            exact dg_AX_pop hAk
theorem wx_caps {f_drawLimit f_logTotal f_gameStatus f_searchValue : Int32} {a_neighbours a_board a_sides a_counters a_path a_jumped a_nextDirection a_wentOn a_nextMove a_bestMove a_bestValue a_log : Nat → Int32} {post : St2 → Prop} {lv s : Nat} {T : (Nat → Int32) × (Nat → Int32) × (Nat → Int32)} (hN : dg_N a_neighbours) (hB : dg_B a_board) (hlv : lv < 4) (hs : s < 32) (hc0 : ¬ dg_bl a_board lv s = 0) (hQ : dg_Q T lv)
    (h : ∀ p' jx' nd' wo', post (f_drawLimit, f_logTotal, f_gameStatus, f_searchValue, a_neighbours, a_board, a_sides, a_counters, ((dg_cap 700000 (dg_bl a_board lv) (dg_bl a_board lv s) s).foldl (dg_rec lv) T).1, ((dg_cap 700000 (dg_bl a_board lv) (dg_bl a_board lv s) s).foldl (dg_rec lv) T).2.1, ((dg_cap 700000 (dg_bl a_board lv) (dg_bl a_board lv s) s).foldl (dg_rec lv) T).2.2, p', jx', nd', wo', a_nextMove, a_bestMove, a_bestValue, a_log)) :
    wpX_listCapturesFrom post (f_drawLimit, f_logTotal, f_gameStatus, f_searchValue, a_neighbours, a_board, a_sides, a_counters, T.1, T.2.1, T.2.2, a_path, a_jumped, a_nextDirection, a_wentOn, a_nextMove, a_bestMove, a_bestValue, a_log) (nI lv) (nI s) := by
  have hv := dg_B_b hB (i := lv * 32 + s) (by omega)
  have e1 : nI lv * 32 + nI s = nI (lv * 32 + s) := by rw [show (32 : Int32) = nI 32 from rfl, pk_mul, nI_add]
  have b1 : vp_nar .boolean 1 = 1 := by decide
  refine ⟨by rw [e1]; exact vp_in_nI (by omega) (by omega), nm_r (e' := nI (dg_bl a_board lv s)) (by rw [e1, nI_clamp (by omega)]; exact hv.1) (nm_e (wx_fst hv.2 (nm_e (nm_r (e' := upd a_wentOn 0 1) rfl ⟨700000, ?_⟩))))⟩
  refine wx_walk hN hB hlv hv.2 hc0 hs 700000 1 (fun _ => s) (fun _ => 0) (fun _ => dg_fst (dg_bl a_board lv s)) (fun _ => 0) (fun _ => 1) (fun _ => 0) T _ _ _ _ 0 700000 (dg_K_0 hs) (fun k e => ?_) hQ ?_ ?_ ?_ h
  · obtain rfl : k = 0 := by omega
    refine ⟨fun i hi => ?_, fun i hi => absurd hi (Nat.not_lt_zero i)⟩
    obtain rfl : i = 0 := by omega
    exact ⟨pk_us, pk_us, pk_us⟩
  · have := dg_ps_0 (fun _ => dg_fst (dg_bl a_board lv s)); omega
  · have := dg_ps_0 (fun _ => dg_fst (dg_bl a_board lv s)); omega
  · have := dg_ps_0 (fun _ => dg_fst (dg_bl a_board lv s)); omega
theorem wx_sim_l {f_drawLimit f_logTotal f_gameStatus f_searchValue : Int32} {a_neighbours a_board a_sides a_counters a_jumped a_nextDirection a_wentOn a_nextMove a_bestMove a_bestValue a_log : Nat → Int32} {post : St2 → Prop} {lv c s : Nat} (hN : dg_N a_neighbours) (hB : dg_B a_board) (hlv : lv < 4) (hs : s < 32) :
    ∀ (m d n : Nat) (T : (Nat → Int32) × (Nat → Int32) × (Nat → Int32)) (p : Nat → Int32), d + m = 4 → dg_fst c ≤ d → m < n → p 0 = nI s → dg_Q T lv →
      (∀ p', post (f_drawLimit, f_logTotal, f_gameStatus, f_searchValue, a_neighbours, a_board, a_sides, a_counters, ((dg_sm (dg_bl a_board lv) c s m d).foldl (dg_rec lv) T).1, ((dg_sm (dg_bl a_board lv) c s m d).foldl (dg_rec lv) T).2.1, ((dg_sm (dg_bl a_board lv) c s m d).foldl (dg_rec lv) T).2.2, p', a_jumped, a_nextDirection, a_wentOn, a_nextMove, a_bestMove, a_bestValue, a_log)) →
      wX_listSimpleMovesFrom_31 post (nI lv) (nI s) (nI (dg_end c)) n (nI d) f_drawLimit f_logTotal f_gameStatus f_searchValue a_neighbours a_board a_sides a_counters T.1 T.2.1 T.2.2 p a_jumped a_nextDirection a_wentOn a_nextMove a_bestMove a_bestValue a_log := by
  have he : dg_end c ≤ 4 := by unfold dg_end; split <;> omega
  intro m
  induction m with
  | zero =>
    intro d n T p hd hf hn h0 hQ h
    obtain ⟨n, rfl⟩ : ∃ g, n = g + 1 := ⟨n - 1, by omega⟩
    obtain rfl : d = 4 := by omega
    exact br_t (nI_le he (by omega)) (h p)
  | succ m ih =>
    intro d n T p hd hf hn h0 hQ h
    obtain ⟨n, rfl⟩ : ∃ g, n = g + 1 := ⟨n - 1, by omega⟩
    by_cases hde : dg_end c ≤ d
    · have hno : ∀ e, d ≤ e → e < d + (m + 1) → ¬ dg_R (dg_bl a_board lv) c s e := by
        intro e h1 h2 hP
        have ho := hP.1.2
        unfold dg_end at hde
        split at hde
        · have := ho ‹_›; omega
        · omega
      rw [dg_sm_none _ _ hno] at h
      exact br_t (nI_le hde (by omega)) (h p)
    · have hok : dg_ok c d := by
        refine ⟨fun e => ?_, fun e => ?_⟩
        · have : dg_fst c = 2 := if_pos e
          omega
        · have : dg_end c = 2 := if_pos e
          omega
      have nxt : ¬ dg_R (dg_bl a_board lv) c s d → ∀ y, y = nI d + 1 → wX_listSimpleMovesFrom_31 post (nI lv) (nI s) (nI (dg_end c)) n y f_drawLimit f_logTotal f_gameStatus f_searchValue a_neighbours a_board a_sides a_counters T.1 T.2.1 T.2.2 p a_jumped a_nextDirection a_wentOn a_nextMove a_bestMove a_bestValue a_log := by
        intro hP
        rw [dg_sm_n hP] at h
        exact nm_r (nI_1 d) (ih (d + 1) n T p (by omega) (by omega) (by omega) h0 hQ h)
      have e1 : nI s * 4 + nI d = nI (s * 4 + d) := by rw [wx_4, pk_mul, nI_add]
      refine br_f (nI_ge (by omega) (by omega)) ?_
      rw [e1]
      refine ⟨vp_in_nI (by omega) (by omega), ?_⟩
      rw [nI_clamp (by omega), hN s hs d (by omega)]
      by_cases hT : dg_T s d < 32
      · rw [dg_enc_lt hT]
        refine nm_e (br_f (dg_enc_n _ hT).1 ?_)
        have e2 : nI lv * 32 + nI (dg_T s d) = nI (lv * 32 + dg_T s d) := by rw [show (32 : Int32) = nI 32 from rfl, pk_mul, nI_add]
        rw [e2]
        refine ⟨vp_in_nI (by omega) (by omega), ?_⟩
        have hv := dg_B_b hB (i := lv * 32 + dg_T s d) (by omega)
        rw [nI_clamp (by omega), hv.1]
        refine pk_eq (dg_b a_board (lv * 32 + dg_T s d)) 0 (fun z => ?_) (fun z => nxt fun hP => z hP.2.2)
        rw [dg_sm_y ⟨hok, hT, z⟩] at h
        refine nm_e ?_
        refine wx_keep (L := 2) (q := dg_two s (dg_T s d)) hlv hQ (by omega) (fun i hi => ?_) ?_
        · have : i = 0 ∨ i = 1 := by omega
          rcases this with rfl | rfl
          · rw [pk_un (by omega)]; exact h0
          · exact pk_us
        · exact nm_r (nI_1 d) (ih (d + 1) n (dg_rec lv T (2, dg_two s (dg_T s d))) _ (by omega) (by omega) (by omega) (by rw [pk_un (by omega)]; exact h0) (dg_rec_Q _ hQ) h)
      · rw [dg_enc_ge hT]
        exact nm_e (br_t rfl (nxt fun hP => hT hP.2.1))
theorem wx_sim {f_drawLimit f_logTotal f_gameStatus f_searchValue : Int32} {a_neighbours a_board a_sides a_counters a_path a_jumped a_nextDirection a_wentOn a_nextMove a_bestMove a_bestValue a_log : Nat → Int32} {post : St2 → Prop} {lv s : Nat} {T : (Nat → Int32) × (Nat → Int32) × (Nat → Int32)} (hN : dg_N a_neighbours) (hB : dg_B a_board) (hlv : lv < 4) (hs : s < 32) (hQ : dg_Q T lv)
    (h : ∀ p', post (f_drawLimit, f_logTotal, f_gameStatus, f_searchValue, a_neighbours, a_board, a_sides, a_counters, ((dg_sm (dg_bl a_board lv) (dg_bl a_board lv s) s 4 0).foldl (dg_rec lv) T).1, ((dg_sm (dg_bl a_board lv) (dg_bl a_board lv s) s 4 0).foldl (dg_rec lv) T).2.1, ((dg_sm (dg_bl a_board lv) (dg_bl a_board lv s) s 4 0).foldl (dg_rec lv) T).2.2, p', a_jumped, a_nextDirection, a_wentOn, a_nextMove, a_bestMove, a_bestValue, a_log)) :
    wpX_listSimpleMovesFrom post (f_drawLimit, f_logTotal, f_gameStatus, f_searchValue, a_neighbours, a_board, a_sides, a_counters, T.1, T.2.1, T.2.2, a_path, a_jumped, a_nextDirection, a_wentOn, a_nextMove, a_bestMove, a_bestValue, a_log) (nI lv) (nI s) := by
  have hv := dg_B_b hB (i := lv * 32 + s) (by omega)
  have e1 : nI lv * 32 + nI s = nI (lv * 32 + s) := by rw [show (32 : Int32) = nI 32 from rfl, pk_mul, nI_add]
  have hf := dg_fst_le (dg_bl a_board lv s)
  have hskip := dg_sm_skip (b := dg_bl a_board lv) (c := dg_bl a_board lv s) (s := s) (dg_fst (dg_bl a_board lv s)) 0 (by omega) (fun e _ he hP => by
    have := dg_fst_ok hP.1
    omega)
  rw [Nat.zero_add] at hskip
  have e40 : dg_sm (dg_bl a_board lv) (dg_bl a_board lv s) s 4 0 = dg_sm (dg_bl a_board lv) (dg_bl a_board lv s) s (4 - 0) 0 := rfl
  rw [e40, hskip] at h
  refine ⟨by rw [e1]; exact vp_in_nI (by omega) (by omega), nm_r (e' := nI (dg_bl a_board lv s)) (by rw [e1, nI_clamp (by omega)]; exact hv.1) (wx_end hv.2 (nm_e (wx_fst hv.2 ⟨5, ?_⟩)))⟩
  exact wx_sim_l hN hB hlv hs _ _ 5 T _ (by omega) (Nat.le_refl _) (by omega) pk_us hQ h
theorem wx_own {a_board a_sides : Nat → Int32} {lv s : Nat} (hB : dg_B a_board) (hS : dg_S a_sides) (hlv : lv < 4) (hs : s < 32) : (dg_col (dg_b a_board (lv * 32 + s)) = a_sides lv ↔ dg_own (dg_bl a_board lv s) (a_sides lv)) ∧ (dg_own (dg_bl a_board lv s) (a_sides lv) → ¬ dg_bl a_board lv s = 0) := by
  have hv := dg_B_b hB (i := lv * 32 + s) (by omega)
  refine ⟨dg_own_col hv.2 (hS lv hlv), fun h => ?_⟩
  rcases h with h | h
  · exact h.1
  · have := h.1; omega
theorem wx_lm2 {f_drawLimit f_logTotal f_gameStatus f_searchValue : Int32} {a_neighbours a_board a_sides a_counters a_jumped a_nextDirection a_wentOn a_nextMove a_bestMove a_bestValue a_log : Nat → Int32} {post : St2 → Prop} {lv : Nat} (hN : dg_N a_neighbours) (hB : dg_B a_board) (hS : dg_S a_sides) (hlv : lv < 4) :
    ∀ (m s n : Nat) (T : (Nat → Int32) × (Nat → Int32) × (Nat → Int32)) (p : Nat → Int32), s + m = 32 → m < n → dg_Q T lv →
      (∀ p', post (f_drawLimit, f_logTotal, f_gameStatus, f_searchValue, a_neighbours, a_board, a_sides, a_counters, ((dg_sms (dg_bl a_board lv) (a_sides lv) m s).foldl (dg_rec lv) T).1, ((dg_sms (dg_bl a_board lv) (a_sides lv) m s).foldl (dg_rec lv) T).2.1, ((dg_sms (dg_bl a_board lv) (a_sides lv) m s).foldl (dg_rec lv) T).2.2, p', a_jumped, a_nextDirection, a_wentOn, a_nextMove, a_bestMove, a_bestValue, a_log)) →
      wX_listMoves_62 post (nI lv) n (nI s) f_drawLimit f_logTotal f_gameStatus f_searchValue a_neighbours a_board a_sides a_counters T.1 T.2.1 T.2.2 p a_jumped a_nextDirection a_wentOn a_nextMove a_bestMove a_bestValue a_log := by
  intro m
  induction m with
  | zero =>
    intro s n T p hs hn hQ h
    obtain ⟨n, rfl⟩ : ∃ g, n = g + 1 := ⟨n - 1, by omega⟩
    obtain rfl : s = 32 := by omega
    exact br_t (nI_le (a := 32) (Nat.le_refl 32) (by omega)) (h p)
  | succ m ih =>
    intro s n T p hs hn hQ h
    obtain ⟨n, rfl⟩ : ∃ g, n = g + 1 := ⟨n - 1, by omega⟩
    have hv := dg_B_b hB (i := lv * 32 + s) (by omega)
    have ho := wx_own (a_sides := a_sides) hB hS hlv (s := s) (by omega)
    have e1 : nI lv * 32 + nI s = nI (lv * 32 + s) := by rw [show (32 : Int32) = nI 32 from rfl, pk_mul, nI_add]
    refine br_f (nI_ge (b := 32) (by omega) (by omega)) ?_
    rw [e1, nI_clamp (n := lv * 32 + s) (by omega), hv.1, nI_clamp (n := lv) (by omega)]
    refine ⟨vp_in_nI (by omega) (by omega), wx_col hv.2 ⟨vp_in_nI hlv (by omega), ?_⟩⟩
    by_cases hw : dg_own (dg_bl a_board lv s) (a_sides lv)
    · rw [dg_sms_y hw, List.foldl_append] at h
      refine br_t (ho.1.mpr hw) (wx_sim hN hB hlv (by omega) hQ fun p' => nm_r (nI_1 s) ?_)
      exact ih (s + 1) n _ p' (by omega) (by omega) (dg_fold_Q _ hQ) h
    · rw [dg_sms_n hw] at h
      exact br_f (fun z => hw (ho.1.mp z)) (nm_r (nI_1 s) (ih (s + 1) n T p (by omega) (by omega) hQ h))
theorem wx_lm1 {f_drawLimit f_logTotal f_gameStatus f_searchValue : Int32} {a_neighbours a_board a_sides a_counters a_nextMove a_bestMove a_bestValue a_log : Nat → Int32} {post : St2 → Prop} {lv : Nat} (hN : dg_N a_neighbours) (hB : dg_B a_board) (hS : dg_S a_sides) (hlv : lv < 4) :
    ∀ (m s n : Nat) (T : (Nat → Int32) × (Nat → Int32) × (Nat → Int32)) (p jx nd wo : Nat → Int32), s + m = 32 → m < n → dg_Q T lv →
      (∀ (p' jx' nd' wo' : Nat → Int32) (T' : (Nat → Int32) × (Nat → Int32) × (Nat → Int32)), T' = (dg_caps 700000 (dg_bl a_board lv) (a_sides lv) m s).foldl (dg_rec lv) T → ((T'.1 lv ≤ 0 → ∃ n62 : Nat, wX_listMoves_62 post (nI lv) n62 0 f_drawLimit f_logTotal f_gameStatus f_searchValue a_neighbours a_board a_sides a_counters T'.1 T'.2.1 T'.2.2 p' jx' nd' wo' a_nextMove a_bestMove a_bestValue a_log) ∧ (¬ T'.1 lv ≤ 0 → post (f_drawLimit, f_logTotal, f_gameStatus, f_searchValue, a_neighbours, a_board, a_sides, a_counters, T'.1, T'.2.1, T'.2.2, p', jx', nd', wo', a_nextMove, a_bestMove, a_bestValue, a_log)))) →
      wX_listMoves_9 post (nI lv) n (nI s) f_drawLimit f_logTotal f_gameStatus f_searchValue a_neighbours a_board a_sides a_counters T.1 T.2.1 T.2.2 p jx nd wo a_nextMove a_bestMove a_bestValue a_log := by
  intro m
  induction m with
  | zero =>
    intro s n T p jx nd wo hs hn hQ h
    obtain ⟨n, rfl⟩ : ∃ g, n = g + 1 := ⟨n - 1, by omega⟩
    obtain rfl : s = 32 := by omega
    refine br_t (nI_le (a := 32) (Nat.le_refl 32) (by omega)) ⟨vp_in_nI hlv (by omega), ?_⟩
    rw [nI_clamp (n := lv) (by omega)]
    exact h p jx nd wo T rfl
  | succ m ih =>
    intro s n T p jx nd wo hs hn hQ h
    obtain ⟨n, rfl⟩ : ∃ g, n = g + 1 := ⟨n - 1, by omega⟩
    have hv := dg_B_b hB (i := lv * 32 + s) (by omega)
    have ho := wx_own (a_sides := a_sides) hB hS hlv (s := s) (by omega)
    have e1 : nI lv * 32 + nI s = nI (lv * 32 + s) := by rw [show (32 : Int32) = nI 32 from rfl, pk_mul, nI_add]
    refine br_f (nI_ge (b := 32) (by omega) (by omega)) ?_
    rw [e1, nI_clamp (n := lv * 32 + s) (by omega), hv.1, nI_clamp (n := lv) (by omega)]
    refine ⟨vp_in_nI (by omega) (by omega), wx_col hv.2 ⟨vp_in_nI hlv (by omega), ?_⟩⟩
    by_cases hw : dg_own (dg_bl a_board lv s) (a_sides lv)
    · rw [dg_caps_y hw, List.foldl_append] at h
      refine br_t (ho.1.mpr hw) (wx_caps hN hB hlv (by omega) (ho.2 hw) hQ fun p' jx' nd' wo' => nm_r (nI_1 s) ?_)
      exact ih (s + 1) n _ p' jx' nd' wo' (by omega) (by omega) (dg_fold_Q _ hQ) h
    · rw [dg_caps_n hw] at h
      exact br_f (fun z => hw (ho.1.mp z)) (nm_r (nI_1 s) (ih (s + 1) n T p jx nd wo (by omega) (by omega) hQ h))
theorem dg_le0 {M : Nat} (h : M ≤ 48) : nI M ≤ 0 ↔ nI M = 0 := by
  rw [← nI_0, nI_leI (by omega) (by omega), nI_eq (by omega) (by omega)]
  omega
theorem wx_gen {f_drawLimit f_logTotal f_gameStatus f_searchValue : Int32} {a_neighbours a_board a_sides a_counters a_moveTotals a_moveLengths a_moveSquares a_path a_jumped a_nextDirection a_wentOn a_nextMove a_bestMove a_bestValue a_log : Nat → Int32} {post : St2 → Prop} {lv : Nat} (hN : dg_N a_neighbours) (hB : dg_B a_board) (hS : dg_S a_sides) (hlv : lv < 4)
    (h : ∀ p' jx' nd' wo', post (f_drawLimit, f_logTotal, f_gameStatus, f_searchValue, a_neighbours, a_board, a_sides, a_counters, (dg_gen lv (dg_bl a_board lv) (a_sides lv) a_moveTotals a_moveLengths a_moveSquares).1, (dg_gen lv (dg_bl a_board lv) (a_sides lv) a_moveTotals a_moveLengths a_moveSquares).2.1, (dg_gen lv (dg_bl a_board lv) (a_sides lv) a_moveTotals a_moveLengths a_moveSquares).2.2, p', jx', nd', wo', a_nextMove, a_bestMove, a_bestValue, a_log)) :
    wpX_listMoves post (f_drawLimit, f_logTotal, f_gameStatus, f_searchValue, a_neighbours, a_board, a_sides, a_counters, a_moveTotals, a_moveLengths, a_moveSquares, a_path, a_jumped, a_nextDirection, a_wentOn, a_nextMove, a_bestMove, a_bestValue, a_log) (nI lv) := by
  have hQ0 : dg_Q (upd a_moveTotals lv 0, a_moveLengths, a_moveSquares) lv := ⟨0, by omega, pk_us⟩
  refine ⟨vp_in_nI hlv (by omega), nm_r (e' := upd a_moveTotals lv 0) (by rw [nI_clamp (by omega)]) ⟨33, ?_⟩⟩
  refine wx_lm1 hN hB hS hlv 32 0 33 (upd a_moveTotals lv 0, a_moveLengths, a_moveSquares) _ _ _ _ (by omega) (by omega) hQ0 ?_
  intro p' jx' nd' wo' T' eT
  have hQ' : dg_Q T' lv := by rw [eT]; exact dg_fold_Q _ hQ0
  obtain ⟨M, hM, eM⟩ := hQ'
  unfold dg_gen at h
  rw [← eT, eM] at h
  rw [eM]
  refine br_c (fun z => ⟨33, ?_⟩) (fun z => ?_)
  · rw [if_pos ((dg_le0 hM).mp z)] at h
    exact wx_lm2 hN hB hS hlv 32 0 33 T' p' (by omega) (by omega) ⟨M, hM, eM⟩ fun p'' => h p'' jx' nd' wo'
  · rw [if_neg (fun e => z ((dg_le0 hM).mpr e))] at h
    exact h p' jx' nd' wo'
