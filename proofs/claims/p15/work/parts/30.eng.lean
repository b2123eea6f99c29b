/-! an engine that shows a game: position, log, its length -/
abbrev eg_G : Type := pp_Pos × (Nat → Int32) × Nat
def eg_R (lim : Int32) (G : eg_G) (sv : Int32) (u : St2) : Prop := ∃ (a_neighbours a_board a_sides a_counters a_mc a_moveLengths a_moveSquares a_path a_jumped a_nextDirection a_wentOn a_nextMove a_bestMove a_bestValue a_log : Nat → Int32),
  u = (lim, nI G.2.2, dg_st lim (a_sides 0) (a_counters 0) (a_mc 0), sv, a_neighbours, a_board, a_sides, a_counters, (if dg_st lim (a_sides 0) (a_counters 0) (a_mc 0) = 3 then upd a_mc 0 0 else a_mc), a_moveLengths, a_moveSquares, a_path, a_jumped, a_nextDirection, a_wentOn, a_nextMove, a_bestMove, a_bestValue, a_log) ∧
  dg_N a_neighbours ∧ dg_B a_board ∧ dg_S a_sides ∧ pp_at (a_board, a_sides, a_counters, a_mc, a_moveLengths, a_moveSquares) 0 G.1 ∧ (∀ i, i < G.2.2 → a_log i = G.2.1 i) ∧ G.2.2 ≤ 64
theorem pv_L {T : (Nat → Int32) × (Nat → Int32) × (Nat → Int32)} {lv : Nat} {l : List (Nat × (Nat → Nat))} (h : pv_V T lv l) (hE : ∀ e, e ∈ l → dg_E e) : dg_L T.1 T.2.1 T.2.2 lv := by
  refine ⟨l.length, h.1, h.2.1, fun i hi => ?_⟩
  have e1 := List.getElem?_eq_getElem hi
  have g := h.2.2 i _ e1
  have hm := hE _ (List.mem_of_getElem? e1)
  exact ⟨(l[i]).1, (l[i]).2, hm.1, hm.2.1, g.1, fun k hk => ⟨hm.2.2.1 k hk, g.2 k hk⟩, hm.2.2.2⟩
theorem pp_E (P : pp_Pos) : ∀ e, e ∈ pp_ls P → dg_E e := (pv_gen 0 P.1 P.2.1 (fun _ => 0) (fun _ => 0) (fun _ => 0)).2
/-- the status of a game -/
noncomputable def eg_st (lim : Int32) (P : pp_Pos) : Int32 := dg_st lim P.2.1 P.2.2 (nI (pp_ls P).length)
/-- how many moves the game lists -/
noncomputable def eg_M (lim : Int32) (P : pp_Pos) : Nat := if eg_st lim P = 0 then (pp_ls P).length else 0
theorem eg_M_le (lim : Int32) (P : pp_Pos) : eg_M lim P ≤ 48 := by
  have h := (pv_gen 0 P.1 P.2.1 (fun _ => 0) (fun _ => 0) (fun _ => 0)).1.1
  unfold eg_M
  split
  · exact h
  · omega
theorem eg_st_at {lim : Int32} {S : dg_Sh} {P : pp_Pos} (h : pp_at S 0 P) : dg_st lim (S.2.1 0) (S.2.2.1 0) (S.2.2.2.1 0) = eg_st lim P := by
  unfold eg_st
  rw [h.2.1, h.2.2.1, h.2.2.2.2.1]
/-- a freshly listed engine -/
theorem eg_mk {f_searchValue : Int32} {a_neighbours a_board a_sides a_counters a_path a_jumped a_nextDirection a_wentOn a_nextMove a_bestMove a_bestValue a_log : Nat → Int32} {lim : Int32} {P : pp_Pos} {lg : Nat → Int32} {n : Nat} {T : (Nat → Int32) × (Nat → Int32) × (Nat → Int32)} (hN : dg_N a_neighbours) (hB : dg_B a_board) (hS : dg_S a_sides) (hb : ∀ i, i < 32 → dg_bl a_board 0 i = P.1 i) (hs : a_sides 0 = P.2.1) (hd : a_counters 0 = P.2.2)
    (hT : ∃ mt ml mv, dg_gen 0 (dg_bl a_board 0) (a_sides 0) mt ml mv = T) (hl : ∀ i, i < n → a_log i = lg i) (hn : n ≤ 64) :
    eg_R lim (P, lg, n) f_searchValue (lim, nI n, dg_st lim (a_sides 0) (a_counters 0) (T.1 0), f_searchValue, a_neighbours, a_board, a_sides, a_counters, (if dg_st lim (a_sides 0) (a_counters 0) (T.1 0) = 3 then upd T.1 0 0 else T.1), T.2.1, T.2.2, a_path, a_jumped, a_nextDirection, a_wentOn, a_nextMove, a_bestMove, a_bestValue, a_log) := by
  obtain ⟨mt, ml, mv, rfl⟩ := hT
  refine ⟨a_neighbours, a_board, a_sides, a_counters, _, _, _, a_path, a_jumped, a_nextDirection, a_wentOn, a_nextMove, a_bestMove, a_bestValue, a_log, rfl, hN, hB, hS, ⟨hb, hs, hd, ?_⟩, hl, hn⟩
  have g := (pv_gen 0 (dg_bl a_board 0) (a_sides 0) mt ml mv).1
  have e : pv_ls (dg_bl a_board 0) (a_sides 0) = pp_ls P := by
    rw [hs, pv_ls_congr hb]
    rfl
  rw [e] at g
  exact g
/-! setting up -/
def eg_B0 (e : Int32) : Nat → Nat := fun n => if e = 0 then (if 12 ≤ n then (if 20 ≤ n then 3 else 0) else 1) else 0
theorem eg_su {bd : Nat → Int32} {e : Int32} : ∀ m n, n < m → dg_su bd e m n = nI (eg_B0 e n) := by
  intro m
  induction m with
  | zero => intro n h; exact absurd h (Nat.not_lt_zero n)
  | succ m ih =>
    intro n h
    show upd (dg_su bd e m) m (dg_sv e m) n = _
    by_cases z : n = m
    · subst z
      rw [pk_us]
      unfold dg_sv eg_B0
      split
      · split
        · split <;> rfl
        · rfl
      · rfl
    · rw [pk_un z]; exact ih n (by omega)
theorem eg_B0_le (e : Int32) (n : Nat) : eg_B0 e n ≤ 4 := by
  unfold eg_B0
  split
  · split
    · split <;> omega
    · omega
  · omega
theorem eg_su_b {bd : Nat → Int32} {e : Int32} : ∀ n, n < 32 → dg_bl (dg_su bd e 32) 0 n = eg_B0 e n := by
  intro n hn
  have := eg_B0_le e n
  unfold dg_bl dg_b
  rw [show 0 * 32 + n = n by omega, eg_su 32 n hn]
  exact nI_clamp (by omega)
def eg_reset (e : Int32) (G : eg_G) : eg_G := ((eg_B0 e, 0, 0), G.2.1, 0)
theorem ex_reset {lim sv e : Int32} {G : eg_G} {u : St2} {post : St2 → Prop} (h : eg_R lim G sv u) (hp : ∀ u', eg_R lim (eg_reset e G) sv u' → post u') : wpX_reset post u e := by
  obtain ⟨a_neighbours, a_board, a_sides, a_counters, a_mc, a_moveLengths, a_moveSquares, a_path, a_jumped, a_nextDirection, a_wentOn, a_nextMove, a_bestMove, a_bestValue, a_log, rfl, hN, hB, hS, hat, hl, hn⟩ := h
  have hB1 := dg_su_B hB e 32
  have hS1 : dg_S (upd a_sides 0 0) := dg_S_upd hS 0 0 (Or.inl rfl)
  unfold wpX_reset
  refine xr_setup (nm_e (xr_refresh hN hB1 hS1 rfl fun p' jx' nd' wo' => hp _ ?_))
  exact eg_mk (n := 0) hN hB1 hS1 eg_su_b pk_us pk_us ⟨_, _, _, rfl⟩ (fun i hi => absurd hi (Nat.not_lt_zero i)) (by omega)
def eg_side (v : Int32) (G : eg_G) : eg_G := if v = 0 ∨ v = 1 then ((G.1.1, v, 0), G.2.1, 0) else G
theorem ex_side {lim sv v : Int32} {G : eg_G} {u : St2} {post : Int32 → St2 → Prop} (h : eg_R lim G sv u) (hp : ∀ r u', eg_R lim (eg_side v G) sv u' → post r u') : wpX_setSideToMove post u v := by
  have h' := h
  obtain ⟨a_neighbours, a_board, a_sides, a_counters, a_mc, a_moveLengths, a_moveSquares, a_path, a_jumped, a_nextDirection, a_wentOn, a_nextMove, a_bestMove, a_bestValue, a_log, rfl, hN, hB, hS, hat, hl, hn⟩ := h
  unfold eg_side at hp
  by_cases h01 : v = 0 ∨ v = 1
  · rw [if_pos h01] at hp
    have hS1 : dg_S (upd a_sides 0 v) := dg_S_upd hS 0 v h01
    have fin : wX_setSideToMove_11 post v lim (nI G.2.2) (dg_st lim (a_sides 0) (a_counters 0) (a_mc 0)) sv a_neighbours a_board a_sides a_counters (if dg_st lim (a_sides 0) (a_counters 0) (a_mc 0) = 3 then upd a_mc 0 0 else a_mc) a_moveLengths a_moveSquares a_path a_jumped a_nextDirection a_wentOn a_nextMove a_bestMove a_bestValue a_log := by
      refine nm_e (nm_e (xr_refresh hN hB hS1 rfl fun p' jx' nd' wo' => hp _ _ ?_))
      exact eg_mk (P := (G.1.1, v, 0)) (n := 0) hN hB hS1 hat.1 pk_us pk_us ⟨_, _, _, rfl⟩ (fun i hi => absurd hi (Nat.not_lt_zero i)) (by omega)
    rcases h01 with h0 | h1
    · exact br_t h0 fin
    · exact br_f (by rw [h1]; decide) (br_t h1 fin)
  · rw [if_neg h01] at hp
    exact br_f (fun z => h01 (Or.inl z)) (br_f (fun z => h01 (Or.inr z)) (hp _ _ h'))
/-- the placing of a piece is taken -/
def eg_can (b : Nat → Nat) (s c : Nat) : Prop := dg_cro c s = 0 ∧ (c = 0 ∨ dg_cn b c s 32 0 ≤ 11)
noncomputable def eg_place (v1 v2 : Int32) (G : eg_G) : eg_G := @ite _ (¬ v1 < 0 ∧ v1.toNatClampNeg < 32 ∧ ¬ v2 < 0 ∧ v2.toNatClampNeg ≤ 4 ∧ eg_can G.1.1 v1.toNatClampNeg v2.toNatClampNeg) (Classical.propDecidable _) ((dg_u G.1.1 v1.toNatClampNeg v2.toNatClampNeg, G.1.2.1, 0), G.2.1, 0) G
theorem eg_cn_congr {b b' : Nat → Nat} {c s : Nat} (h : ∀ n, n < 32 → b n = b' n) : ∀ n q, q + n ≤ 32 → dg_cn b c s n q = dg_cn b' c s n q := by
  intro n
  induction n with
  | zero => intro q _; rfl
  | succ n ih =>
    intro q hq
    show (if q ≠ s ∧ b q ≠ 0 ∧ (b q ≤ 2 ↔ c ≤ 2) then 1 else 0) + dg_cn b c s n (q + 1) = (if q ≠ s ∧ b' q ≠ 0 ∧ (b' q ≤ 2 ↔ c ≤ 2) then 1 else 0) + dg_cn b' c s n (q + 1)
    rw [h q (by omega), ih (q + 1) (by omega)]
theorem ex_place {lim sv v1 v2 : Int32} {G : eg_G} {u : St2} {post : Int32 → St2 → Prop} (h : eg_R lim G sv u) (hp : ∀ r u', eg_R lim (eg_place v1 v2 G) sv u' → post r u') : wpX_place post u v1 v2 := by
  have h' := h
  obtain ⟨a_neighbours, a_board, a_sides, a_counters, a_mc, a_moveLengths, a_moveSquares, a_path, a_jumped, a_nextDirection, a_wentOn, a_nextMove, a_bestMove, a_bestValue, a_log, rfl, hN, hB, hS, hat, hl, hn⟩ := h
  unfold eg_place at hp
  unfold wpX_place
  rcases re_ix v1 with h1 | ⟨s, hs, rfl⟩
  · rw [if_neg (fun z => z.1 h1)] at hp
    exact br_t h1 (br_t rfl (hp _ _ h'))
  · have es : (nI s).toNatClampNeg = s := nI_clamp hs
    rw [es] at hp
    refine br_f (nI_pos hs) (pk_le 32 s (fun big => br_t rfl ?_) (fun s32 => br_f (by decide) ?_))
    · rw [if_neg (fun z => by have := z.2.1; omega)] at hp
      exact hp _ _ h'
    · rcases re_ix v2 with h2 | ⟨c, hc, rfl⟩
      · rw [if_neg (fun z => z.2.2.1 h2)] at hp
        exact br_t h2 (hp _ _ h')
      · have ec : (nI c).toNatClampNeg = c := nI_clamp hc
        rw [ec] at hp
        refine br_f (nI_pos hc) (pk_le c 4 (fun c4 => ?_) (fun big => ?_))
        · have hcn : dg_cn (dg_b a_board) c s 32 0 = dg_cn G.1.1 c s 32 0 := eg_cn_congr (fun n hn => by
            have := hat.1 n hn
            unfold dg_bl at this
            rw [show 0 * 32 + n = n by omega] at this
            exact this) 32 0 (by omega)
          have hcl := dg_cn_le (dg_b a_board) c s 32 0
          have no : ¬ eg_can G.1.1 s c → post 0 (lim, nI G.2.2, dg_st lim (a_sides 0) (a_counters 0) (a_mc 0), sv, a_neighbours, a_board, a_sides, a_counters, (if dg_st lim (a_sides 0) (a_counters 0) (a_mc 0) = 3 then upd a_mc 0 0 else a_mc), a_moveLengths, a_moveSquares, a_path, a_jumped, a_nextDirection, a_wentOn, a_nextMove, a_bestMove, a_bestValue, a_log) := by
            intro z
            rw [if_neg (fun y => z y.2.2.2.2)] at hp
            exact hp _ _ h'
          have yes : eg_can G.1.1 s c → wX_place_45 post (nI s) (nI c) lim (nI G.2.2) (dg_st lim (a_sides 0) (a_counters 0) (a_mc 0)) sv a_neighbours a_board a_sides a_counters (if dg_st lim (a_sides 0) (a_counters 0) (a_mc 0) = 3 then upd a_mc 0 0 else a_mc) a_moveLengths a_moveSquares a_path a_jumped a_nextDirection a_wentOn a_nextMove a_bestMove a_bestValue a_log := by
            intro z
            rw [if_pos ⟨nI_pos hs, s32, nI_pos hc, c4, z⟩] at hp
            have hB1 : dg_B (upd a_board s (nI c)) := dg_B_upd hB s c c4
            refine ⟨vp_in_nI (by omega) (by omega), nm_r (e' := upd a_board s (nI c)) (by rw [es]) (nm_e (xr_refresh hN hB1 hS rfl fun p' jx' nd' wo' => hp _ _ ?_))⟩
            have hb := pb_upd (f := a_board) (g := G.1.1) (t := 0) (m := s) (v := c) (by omega) hat.1
            rw [show 0 * 32 + s = s by omega] at hb
            exact eg_mk (P := (dg_u G.1.1 s c, G.1.2.1, 0)) (n := 0) hN hB1 hS hb hat.2.1 pk_us ⟨_, _, _, rfl⟩ (fun i hi => absurd hi (Nat.not_lt_zero i)) (by omega)
          refine wx_cro c4 s32 (pk_eq (dg_cro c s) 0 (fun z => pk_eq c 0 (fun c0 => yes ⟨z, Or.inl c0⟩) (fun c0 => xr_count hB c4 c0 s32 (pk_lt (dg_cn (dg_b a_board) c s 32 0) 12 (fun l => yes ⟨z, Or.inr (by omega)⟩) (fun l => no ?_)))) (fun z => no fun y => z y.1) (ha := by unfold dg_cro; split <;> omega))
          rintro ⟨_, y | y⟩
          · exact c0 y
          · omega
        · rw [if_neg (fun z => by have := z.2.2.2.1; omega)] at hp
          exact hp _ _ h'
/-! reading -/
theorem ex_count {lim sv : Int32} {G : eg_G} {u : St2} {post : Int32 → Prop} (h : eg_R lim G sv u) (hp : post (nI (eg_M lim G.1))) : wpX_moveCount post u := by
  obtain ⟨a_neighbours, a_board, a_sides, a_counters, a_mc, a_moveLengths, a_moveSquares, a_path, a_jumped, a_nextDirection, a_wentOn, a_nextMove, a_bestMove, a_bestValue, a_log, rfl, hN, hB, hS, hat, hl, hn⟩ := h
  have e := re_mt0 (lim := lim) (sd0 := a_sides 0) (dc0 := a_counters 0) (mc := a_mc)
  have es : dg_st lim (a_sides 0) (a_counters 0) (a_mc 0) = eg_st lim G.1 := eg_st_at hat
  have em : a_mc 0 = nI (pp_ls G.1).length := hat.2.2.2.2.1
  have e2 : (if dg_st lim (a_sides 0) (a_counters 0) (a_mc 0) = 0 then a_mc 0 else 0) = nI (eg_M lim G.1) := by
    rw [es]
    unfold eg_M
    split
    · exact em
    · rfl
  unfold wpX_moveCount
  rw [e2] at e
  rw [← e] at hp
  exact hp
theorem ex_sidem {lim sv : Int32} {G : eg_G} {u : St2} {post : Int32 → Prop} (h : eg_R lim G sv u) (hp : post G.1.2.1) : wpX_sideToMove post u := by
  obtain ⟨a_neighbours, a_board, a_sides, a_counters, a_mc, a_moveLengths, a_moveSquares, a_path, a_jumped, a_nextDirection, a_wentOn, a_nextMove, a_bestMove, a_bestValue, a_log, rfl, hN, hB, hS, hat, hl, hn⟩ := h
  have e : a_sides 0 = G.1.2.1 := hat.2.1
  rw [← e] at hp
  exact hp
theorem ex_status {lim sv : Int32} {G : eg_G} {u : St2} {post : Int32 → Prop} (h : eg_R lim G sv u) (hp : post (eg_st lim G.1)) : wpX_status post u := by
  obtain ⟨a_neighbours, a_board, a_sides, a_counters, a_mc, a_moveLengths, a_moveSquares, a_path, a_jumped, a_nextDirection, a_wentOn, a_nextMove, a_bestMove, a_bestValue, a_log, rfl, hN, hB, hS, hat, hl, hn⟩ := h
  have es : dg_st lim (a_sides 0) (a_counters 0) (a_mc 0) = eg_st lim G.1 := eg_st_at hat
  rw [← es] at hp
  exact hp
theorem ex_draw {lim sv : Int32} {G : eg_G} {u : St2} {post : Int32 → Prop} (h : eg_R lim G sv u) (hp : post G.1.2.2) : wpX_drawCounter post u := by
  obtain ⟨a_neighbours, a_board, a_sides, a_counters, a_mc, a_moveLengths, a_moveSquares, a_path, a_jumped, a_nextDirection, a_wentOn, a_nextMove, a_bestMove, a_bestValue, a_log, rfl, hN, hB, hS, hat, hl, hn⟩ := h
  have e : a_counters 0 = G.1.2.2 := hat.2.2.1
  rw [← e] at hp
  exact hp
theorem ex_last {lim sv : Int32} {G : eg_G} {u : St2} {post : Int32 → Prop} (h : eg_R lim G sv u) (hp : post sv) : wpX_lastValue post u := by
  obtain ⟨a_neighbours, a_board, a_sides, a_counters, a_mc, a_moveLengths, a_moveSquares, a_path, a_jumped, a_nextDirection, a_wentOn, a_nextMove, a_bestMove, a_bestValue, a_log, rfl, hN, hB, hS, hat, hl, hn⟩ := h
  exact hp
theorem ex_logn {lim sv : Int32} {G : eg_G} {u : St2} {post : Int32 → Prop} (h : eg_R lim G sv u) (hp : post (nI G.2.2)) : wpX_logLength post u := by
  obtain ⟨a_neighbours, a_board, a_sides, a_counters, a_mc, a_moveLengths, a_moveSquares, a_path, a_jumped, a_nextDirection, a_wentOn, a_nextMove, a_bestMove, a_bestValue, a_log, rfl, hN, hB, hS, hat, hl, hn⟩ := h
  exact hp
theorem ex_piece {lim sv : Int32} {G : eg_G} {u : St2} {post : Int32 → Prop} {s : Nat} (hs : s < 32) (h : eg_R lim G sv u) (hp : post (nI (G.1.1 s))) : wpX_pieceAt post u (nI s) := by
  obtain ⟨a_neighbours, a_board, a_sides, a_counters, a_mc, a_moveLengths, a_moveSquares, a_path, a_jumped, a_nextDirection, a_wentOn, a_nextMove, a_bestMove, a_bestValue, a_log, rfl, hN, hB, hS, hat, hl, hn⟩ := h
  unfold wpX_pieceAt
  have e : a_board s = nI (G.1.1 s) := by
    have h1 := hat.1 s hs
    have h2 := (dg_B_b hB (i := s) (by omega)).1
    unfold dg_bl at h1
    rw [show 0 * 32 + s = s by omega] at h1
    rw [h2]
    exact congrArg nI h1
  refine br_f (nI_pos (by omega)) (br_f (nI_ge (b := 32) hs (by omega)) (br_f (by decide) ⟨vp_in_nI (by omega) (by omega), ?_⟩))
  rw [nI_clamp (by omega), e]
  exact hp
theorem eg_code {lim sv : Int32} {G : eg_G} {u : St2} (h : eg_R lim G sv u) {s : Nat} (hs : s < 32) : G.1.1 s ≤ 4 := by
  obtain ⟨a_neighbours, a_board, a_sides, a_counters, a_mc, a_moveLengths, a_moveSquares, a_path, a_jumped, a_nextDirection, a_wentOn, a_nextMove, a_bestMove, a_bestValue, a_log, rfl, hN, hB, hS, hat, hl, hn⟩ := h
  have h1 := hat.1 s hs
  have h2 := (dg_B_b hB (i := 0 * 32 + s) (by omega)).2
  rw [← h1]
  exact h2
theorem eg_sd {lim sv : Int32} {G : eg_G} {u : St2} (h : eg_R lim G sv u) : G.1.2.1 = 0 ∨ G.1.2.1 = 1 := by
  obtain ⟨a_neighbours, a_board, a_sides, a_counters, a_mc, a_moveLengths, a_moveSquares, a_path, a_jumped, a_nextDirection, a_wentOn, a_nextMove, a_bestMove, a_bestValue, a_log, rfl, hN, hB, hS, hat, hl, hn⟩ := h
  have e : a_sides 0 = G.1.2.1 := hat.2.1
  rw [← e]
  exact hS 0 (by omega)
