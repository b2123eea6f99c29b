def dg_f31 (r z c : Int32) : Int32 := if r < 0 then -1 else if 8 ≤ r then -1 else if c + z < 0 then -1 else if c + z < 8 then r * 4 + (c + z) / 2 else -1
def dg_nbX (s d : Int32) : Int32 := dg_f31 (s / 4 + (if 2 ≤ d then 1 else -1)) (if d - d / 2 * 2 = 0 then -1 else 1) (dg_colX s)
theorem dg_nbX_T : ∀ s, s < 32 → ∀ d, d < 4 → dg_nbX (nI s) (nI d) = dg_enc (dg_T s d) := by decide +kernel
theorem xn_31 {post : Int32 → Prop} {r z c : Int32} (h : post (dg_f31 r z c)) : wX_neighbourOf_31 post r z c := by
  unfold dg_f31 at h
  refine nm_e (br_c (fun a => ?_) (fun a => br_c (fun b => ?_) (fun b => br_c (fun d => ?_) (fun d => br_c (fun e => ⟨yn_h2, ?_⟩) (fun e => ?_)))))
  · rw [if_pos a] at h; exact h
  · rw [if_neg a, if_pos b] at h; exact h
  · rw [if_neg a, if_neg b, if_pos d] at h; exact h
  · rw [if_neg a, if_neg b, if_neg d, if_pos e] at h; exact h
  · rw [if_neg a, if_neg b, if_neg d, if_neg e] at h; exact h
theorem xn_14 {post : Int32 → Prop} {s d z r : Int32} (h : post (dg_f31 (r + z) (if d - d / 2 * 2 = 0 then -1 else 1) (dg_colX s))) : wX_neighbourOf_14 post s d z r := by
  refine nm_e (xa_colE ⟨yn_h2, br_c (fun a => xn_31 ?_) (fun a => xn_31 ?_)⟩)
  · rw [if_pos a] at h; exact h
  · rw [if_neg a] at h; exact h
theorem xn_nb {post : Int32 → Prop} {s d : Nat} (hs : s < 32) (hd : d < 4) (h : post (dg_enc (dg_T s d))) : wpX_neighbourOf post () (nI s) (nI d) := by
  rw [← dg_nbX_T s hs d hd] at h
  unfold dg_nbX at h
  unfold wpX_neighbourOf
  refine ⟨yn_h4, br_c (fun a => xn_14 ?_) (fun a => xn_14 ?_)⟩
  · rw [if_pos a] at h; exact h
  · rw [if_neg a] at h; exact h
def dg_Np (nb : Nat → Int32) (j : Nat) : Prop := ∀ s, s < 32 → ∀ d, d < 4 → s * 4 + d < j → nb (s * 4 + d) = dg_enc (dg_T s d)
theorem xn_fill_i {f_drawLimit f_logTotal f_gameStatus f_searchValue : Int32} {a_board a_sides a_counters a_moveTotals a_moveLengths a_moveSquares a_path a_jumped a_nextDirection a_wentOn a_nextMove a_bestMove a_bestValue a_log : Nat → Int32} {post : St2 → Prop} {J2 : Int32 → (Nat → Int32) → (Nat → Int32) → (Nat → Int32) → (Nat → Int32) → (Nat → Int32) → (Nat → Int32) → (Nat → Int32) → (Nat → Int32) → (Nat → Int32) → (Nat → Int32) → (Nat → Int32) → (Nat → Int32) → (Nat → Int32) → (Nat → Int32) → (Nat → Int32) → Prop} {s : Nat} (hs : s < 32)
    (h : ∀ nb', dg_Np nb' (s * 4 + 4) → J2 (nI (s + 1)) nb' a_board a_sides a_counters a_moveTotals a_moveLengths a_moveSquares a_path a_jumped a_nextDirection a_wentOn a_nextMove a_bestMove a_bestValue a_log) :
    ∀ (m d n : Nat) (nb : Nat → Int32), d + m = 4 → m < n → dg_Np nb (s * 4 + d) → wX_fillNeighbours_10 post J2 (nI s) f_drawLimit f_logTotal f_gameStatus f_searchValue n (nI d) nb a_board a_sides a_counters a_moveTotals a_moveLengths a_moveSquares a_path a_jumped a_nextDirection a_wentOn a_nextMove a_bestMove a_bestValue a_log := by
  intro m
  induction m with
  | zero =>
    intro d n nb hd hn hb
    obtain ⟨n, rfl⟩ : ∃ g, n = g + 1 := ⟨n - 1, by omega⟩
    obtain rfl : d = 4 := by omega
    exact br_t (nI_le (a := 4) (Nat.le_refl 4) (by omega)) (nm_r (nI_1 s) (h nb hb))
  | succ m ih =>
    intro d n nb hd hn hb
    obtain ⟨n, rfl⟩ : ∃ g, n = g + 1 := ⟨n - 1, by omega⟩
    have e1 : nI s * 4 + nI d = nI (s * 4 + d) := by rw [wx_4, pk_mul, nI_add]
    refine br_f (nI_ge (b := 4) (by omega) (by omega)) (xn_nb hs (by omega) ?_)
    rw [e1]
    refine ⟨vp_in_nI (by omega) (by omega), nm_r (e' := upd nb (s * 4 + d) (dg_enc (dg_T s d))) (by rw [nI_clamp (by omega)]) (nm_r (nI_1 d) (ih (d + 1) n _ (by omega) (by omega) ?_))⟩
    intro s' hs' d' hd' hlt
    by_cases e : s' * 4 + d' = s * 4 + d
    · obtain rfl : s' = s := by omega
      obtain rfl : d' = d := by omega
      exact pk_us
    · rw [pk_un e]
      exact hb s' hs' d' hd' (by omega)
theorem xn_fill_o {f_drawLimit f_logTotal f_gameStatus f_searchValue : Int32} {a_board a_sides a_counters a_moveTotals a_moveLengths a_moveSquares a_path a_jumped a_nextDirection a_wentOn a_nextMove a_bestMove a_bestValue a_log : Nat → Int32} {post : St2 → Prop} (h : ∀ nb', dg_N nb' → post (f_drawLimit, f_logTotal, f_gameStatus, f_searchValue, nb', a_board, a_sides, a_counters, a_moveTotals, a_moveLengths, a_moveSquares, a_path, a_jumped, a_nextDirection, a_wentOn, a_nextMove, a_bestMove, a_bestValue, a_log)) :
    ∀ (m s n : Nat) (nb : Nat → Int32), s + m = 32 → m < n → dg_Np nb (s * 4) → wX_fillNeighbours_2 post f_drawLimit f_logTotal f_gameStatus f_searchValue n (nI s) nb a_board a_sides a_counters a_moveTotals a_moveLengths a_moveSquares a_path a_jumped a_nextDirection a_wentOn a_nextMove a_bestMove a_bestValue a_log := by
  intro m
  induction m with
  | zero =>
    intro s n nb hs hn hb
    obtain ⟨n, rfl⟩ : ∃ g, n = g + 1 := ⟨n - 1, by omega⟩
    obtain rfl : s = 32 := by omega
    exact br_t (nI_le (a := 32) (Nat.le_refl 32) (by omega)) (h nb fun s' hs' d' hd' => hb s' hs' d' hd' (by omega))
  | succ m ih =>
    intro s n nb hs hn hb
    obtain ⟨n, rfl⟩ : ∃ g, n = g + 1 := ⟨n - 1, by omega⟩
    refine br_f (nI_ge (b := 32) (by omega) (by omega)) ⟨5, xn_fill_i (by omega) (fun nb' hb' => ?_) 4 0 5 nb (by omega) (by omega) hb⟩
    refine ih (s + 1) n nb' (by omega) (by omega) ?_
    intro s' hs' d' hd' hlt
    exact hb' s' hs' d' hd' (by omega)
theorem xn_fill {f_drawLimit f_logTotal f_gameStatus f_searchValue : Int32} {a_neighbours a_board a_sides a_counters a_moveTotals a_moveLengths a_moveSquares a_path a_jumped a_nextDirection a_wentOn a_nextMove a_bestMove a_bestValue a_log : Nat → Int32} {post : St2 → Prop} (h : ∀ nb', dg_N nb' → post (f_drawLimit, f_logTotal, f_gameStatus, f_searchValue, nb', a_board, a_sides, a_counters, a_moveTotals, a_moveLengths, a_moveSquares, a_path, a_jumped, a_nextDirection, a_wentOn, a_nextMove, a_bestMove, a_bestValue, a_log)) : wpX_fillNeighbours post (f_drawLimit, f_logTotal, f_gameStatus, f_searchValue, a_neighbours, a_board, a_sides, a_counters, a_moveTotals, a_moveLengths, a_moveSquares, a_path, a_jumped, a_nextDirection, a_wentOn, a_nextMove, a_bestMove, a_bestValue, a_log) :=
  ⟨33, xn_fill_o h 32 0 33 a_neighbours (by omega) (by omega) (fun s' _ d' _ hlt => absurd hlt (by omega))⟩
theorem dg_se_inv {lim : Int32} {pl : Nat} (hpl : pl ≤ 3) : ∀ (n l : Nat) (S : dg_Sh) (ix : Nat → Nat) (vb : Nat → Int) (g : Nat), dg_H l S ix vb → l < pl →
    dg_Ok 0 (dg_se lim pl n (l + 1) S ix vb g).1 ∧ (dg_se lim pl n (l + 1) S ix vb g).1.2.2.2.1 0 = S.2.2.2.1 0 ∧ (dg_se lim pl n (l + 1) S ix vb g).1.2.1 0 = S.2.1 0 ∧ (dg_se lim pl n (l + 1) S ix vb g).1.2.2.1 0 = S.2.2.1 0 := by
  intro n
  induction n with
  | zero =>
    intro l S ix vb g hH hl
    rw [dg_se]
    exact ⟨dg_Ok_le hH.1 (by omega), rfl, rfl, rfl⟩
  | succ n ih =>
    intro l S ix vb g hH hl
    by_cases hlt : ix l < dg_m S l
    · obtain ⟨hO', hm'⟩ := dg_H_next hH (by omega) hlt rfl
      have k1 : (dg_gn (l + 1) (dg_ap l (ix l) (l + 1) S)).2.2.2.1 0 = S.2.2.2.1 0 := dg_m_next (Nat.zero_le l) (ix l)
      have k2 : (dg_gn (l + 1) (dg_ap l (ix l) (l + 1) S)).2.1 0 = S.2.1 0 := by
        show dg_as S.2.1 l (l + 1) 0 = S.2.1 0
        unfold dg_as
        exact pk_un (by omega)
      have k3 : (dg_gn (l + 1) (dg_ap l (ix l) (l + 1) S)).2.2.1 0 = S.2.2.1 0 := by
        show dg_ad S.2.2.1 S.1 l (l + 1) (dg_l S.2.2.2.2.1 (l * 48 + ix l)) (dg_q S.2.2.2.2.2 (l * 48 + ix l)) 0 = S.2.2.1 0
        unfold dg_ad
        exact pk_un (by omega)
      by_cases hlf : dg_lf lim pl (l + 1) (dg_gn (l + 1) (dg_ap l (ix l) (l + 1) S))
      · rw [dg_se_leaf hlt rfl hlf]
        have hv := dg_lv_r (lim := lim) (lv := l + 1) (S := dg_gn (l + 1) (dg_ap l (ix l) (l + 1) S)) (by omega)
        have r := ih l (dg_gn (l + 1) (dg_ap l (ix l) (l + 1) S)) _ _ (dg_tg l (- dg_lv lim (l + 1) (dg_gn (l + 1) (dg_ap l (ix l) (l + 1) S))) vb ix g) (dg_H_take (v := - dg_lv lim (l + 1) (dg_gn (l + 1) (dg_ap l (ix l) (l + 1) S))) hH (dg_Ok_le hO' (by omega)) hm' hlt (by omega) (by omega)) hl
        exact ⟨r.1, r.2.1.trans k1, r.2.2.1.trans k2, r.2.2.2.trans k3⟩
      · rw [dg_se_in hlt rfl hlf]
        have hlp : l + 1 < pl := by
          apply Classical.byContradiction
          intro z
          exact hlf (Or.inr (Or.inr (by omega)))
        have r := ih (l + 1) (dg_gn (l + 1) (dg_ap l (ix l) (l + 1) S)) _ _ g (dg_H_in hH hlt hO' hm' (fun z => hlf (Or.inl z))) hlp
        exact ⟨r.1, r.2.1.trans k1, r.2.2.1.trans k2, r.2.2.2.trans k3⟩
    · cases l with
      | zero =>
        rw [dg_se_end hlt]
        exact ⟨hH.1, rfl, rfl, rfl⟩
      | succ l =>
        obtain ⟨hv, hH'⟩ := dg_H_out hH hlt
        rw [dg_se_out hlt]
        exact ih l S _ _ _ (dg_H_take (v := - vb (l + 1)) hH' hH'.1 (fun _ _ => rfl) (hH.2.1 l (by omega)) (by omega) (by omega)) (by omega)
theorem re_mt {st : Int32} {mc : Nat → Int32} : upd (if st = 3 then upd mc 0 0 else mc) 0 0 = upd mc 0 0 := by
  split
  · funext i
    by_cases e : i = 0
    · subst e; rw [pk_us, pk_us]
    · rw [pk_un e, pk_un e]
  · rfl
theorem re_mt0 {lim sd0 dc0 : Int32} {mc : Nat → Int32} : (if dg_st lim sd0 dc0 (mc 0) = 3 then upd mc 0 0 else mc) 0 = if dg_st lim sd0 dc0 (mc 0) = 0 then mc 0 else 0 := by
  by_cases a : mc 0 = 0
  · have h3 : ¬ dg_st lim sd0 dc0 (mc 0) = 3 := by rw [dg_st_w a]; split <;> decide
    rw [if_neg h3, a]
    split <;> rfl
  · by_cases b : lim ≤ dc0
    · rw [dg_st_d a b, if_pos rfl, if_neg (by decide)]; exact pk_us
    · rw [dg_st_o a b, if_neg (by decide), if_pos rfl]
theorem re_ix (x : Int32) : x < 0 ∨ ∃ j : Nat, j < 2 ^ 31 ∧ x = nI j := by
  by_cases h : x < 0
  · exact Or.inl h
  · exact Or.inr (nI_of h)
theorem re_M {lim sd0 dc0 : Int32} {mc ml mv : Nat → Int32} (hL : dg_L mc ml mv 0) : ∃ M, M ≤ 48 ∧ (if dg_st lim sd0 dc0 (mc 0) = 0 then mc 0 else 0) = nI M ∧ (∀ j, j < M → dg_M ml mv (0 * 48 + j)) ∧ (dg_st lim sd0 dc0 (mc 0) = 0 → mc 0 = nI M) := by
  obtain ⟨M, h1, h2, h3⟩ := hL
  by_cases a : dg_st lim sd0 dc0 (mc 0) = 0
  · exact ⟨M, h1, by rw [if_pos a]; exact h2, h3, fun _ => h2⟩
  · exact ⟨0, by omega, by rw [if_neg a]; rfl, fun j hj => absurd hj (Nat.not_lt_zero j), fun z => absurd z a⟩
