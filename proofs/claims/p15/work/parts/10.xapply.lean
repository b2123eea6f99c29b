theorem xa_row {post : Int32 → Prop} {a : Nat} (ha : a < 32) (h : post (nI (a / 4))) : wpX_rowOf post () (nI a) := by
  refine ⟨yn_h4, ?_⟩
  rw [wx_4, pk_div (by omega) (by omega) (by omega)]
  exact h
def dg_colX (s : Int32) : Int32 := 2 * (s - s / 4 * 4) + (if s / 4 - s / 4 / 2 * 2 = 0 then 1 else 0)
theorem dg_colX_t : ∀ s, s < 32 → dg_colX (nI s) = nI (dg_co s) := by decide +kernel
theorem xa_colE {post : Int32 → Prop} {s : Int32} (h : post (dg_colX s)) : wpX_columnOf post () s := by
  unfold wpX_columnOf
  unfold dg_colX at h
  refine ⟨yn_h4, yn_h2, br_c (fun a => ⟨yn_h4, ?_⟩) (fun a => ⟨yn_h4, ?_⟩)⟩
  · rw [if_pos a] at h; exact h
  · rw [if_neg a] at h; exact h
theorem xa_col {post : Int32 → Prop} {s : Nat} (hs : s < 32) (h : post (nI (dg_co s))) : wpX_columnOf post () (nI s) :=
  xa_colE (by rw [dg_colX_t s hs]; exact h)
theorem xa_mid {post : Int32 → Prop} {a z : Nat} (ha : a < 32) (hz : z < 32) (h : post (nI (dg_mid a z))) : wpX_squareBetween post () (nI a) (nI z) := by
  have h1 := dg_co_lt a
  have h2 := dg_co_lt z
  unfold wpX_squareBetween
  refine xa_row ha (xa_row hz ⟨yn_h2, nm_r (e' := nI ((a / 4 + z / 4) / 2)) ?_ (xa_col ha (xa_col hz ⟨yn_h2, nm_r (e' := nI ((dg_co a + dg_co z) / 2)) ?_ ⟨yn_h2, ?_⟩⟩))⟩)
  · rw [nI_add, show (2 : Int32) = nI 2 from rfl, pk_div (by omega) (by omega) (by omega)]
  · rw [nI_add, show (2 : Int32) = nI 2 from rfl, pk_div (by omega) (by omega) (by omega)]
  · rw [show (2 : Int32) = nI 2 from rfl, pk_div (by omega) (by omega) (by omega), wx_4, pk_mul, nI_add]
    exact h
theorem dg_rows2 : ∀ a, a < 8 → ∀ b, b < 8 → (nI b - nI a = 2 ↔ a + 2 = b) := by decide +kernel
theorem dg_rowsm2 : ∀ a, a < 8 → ∀ b, b < 8 → (nI b - nI a = -2 ↔ b + 2 = a) := by decide +kernel
theorem xa_cap {f_drawLimit f_logTotal f_gameStatus f_searchValue : Int32} {a_neighbours a_board a_sides a_counters a_moveTotals a_moveLengths a_moveSquares a_path a_jumped a_nextDirection a_wentOn a_nextMove a_bestMove a_bestValue a_log : Nat → Int32} {post : Int32 → Prop} {s L : Nat} {q : Nat → Nat} (hs : s < 192) (hL : 2 ≤ L) (hL2 : L ≤ 13) (hml : a_moveLengths s = nI L) (hq : ∀ k, k < L → q k < 32 ∧ a_moveSquares (s * 13 + k) = nI (q k))
    (h : post (nI (dg_C2 q L))) : wpX_countCaptures post (f_drawLimit, f_logTotal, f_gameStatus, f_searchValue, a_neighbours, a_board, a_sides, a_counters, a_moveTotals, a_moveLengths, a_moveSquares, a_path, a_jumped, a_nextDirection, a_wentOn, a_nextMove, a_bestMove, a_bestValue, a_log) (nI s) := by
  have h0 := hq 0 (by omega)
  have h1 := hq 1 (by omega)
  have e13 : nI s * 13 = nI (s * 13) := pk_mul s 13
  have join : (q 0 / 4 + 2 = q 1 / 4 ∨ q 1 / 4 + 2 = q 0 / 4) → wX_countCaptures_38 post (nI s) f_drawLimit f_logTotal f_gameStatus f_searchValue a_neighbours a_board a_sides a_counters a_moveTotals a_moveLengths a_moveSquares a_path a_jumped a_nextDirection a_wentOn a_nextMove a_bestMove a_bestValue a_log := by
    intro hz
    refine ⟨vp_in_nI hs (by omega), ?_⟩
    rw [nI_clamp (by omega), hml]
    have e : nI L - 1 = nI (dg_C2 q L) := by
      unfold dg_C2
      rw [if_pos hz]
      exact pk_sub (b := 1) (by omega)
    rw [e]
    exact h
  refine nm_r e13 ?_
  rw [nI_1 (s * 13), nI_clamp (n := s * 13 + 1) (by omega), nI_clamp (n := s * 13) (by omega), h1.2]
  refine ⟨vp_in_nI (by omega) (by omega), xa_row h1.1 ⟨vp_in_nI (by omega) (by omega), ?_⟩⟩
  have h0' : a_moveSquares (s * 13) = nI (q 0) := h0.2
  rw [h0']
  refine xa_row h0.1 (nm_e (br_c (fun z => join (Or.inl ?_)) (fun z => br_c (fun z2 => join (Or.inr ?_)) (fun z2 => ?_))))
  · exact (dg_rows2 _ (by have := h0.1; omega) _ (by have := h1.1; omega)).mp z
  · exact (dg_rowsm2 _ (by have := h0.1; omega) _ (by have := h1.1; omega)).mp z2
  · have e : dg_C2 q L = 0 := by
      unfold dg_C2
      rw [if_neg]
      rintro (y | y)
      · exact z ((dg_rows2 _ (by have := h0.1; omega) _ (by have := h1.1; omega)).mpr y)
      · exact z2 ((dg_rowsm2 _ (by have := h0.1; omega) _ (by have := h1.1; omega)).mpr y)
    rw [e] at h
    exact h
theorem xa_copy_l {f_drawLimit f_logTotal f_gameStatus f_searchValue : Int32} {a_neighbours a_sides a_counters a_moveTotals a_moveLengths a_moveSquares a_path a_jumped a_nextDirection a_wentOn a_nextMove a_bestMove a_bestValue a_log : Nat → Int32} {post : St2 → Prop} {bd : Nat → Int32} {s t : Nat} (hs : s < 4) (ht : t < 4) (h : post (f_drawLimit, f_logTotal, f_gameStatus, f_searchValue, a_neighbours, dg_cb bd s t 32, a_sides, a_counters, a_moveTotals, a_moveLengths, a_moveSquares, a_path, a_jumped, a_nextDirection, a_wentOn, a_nextMove, a_bestMove, a_bestValue, a_log)) :
    ∀ m i n, i + m = 32 → m < n → wX_copyBoard_2 post (nI s) (nI t) f_drawLimit f_logTotal f_gameStatus f_searchValue n (nI i) a_neighbours (dg_cb bd s t i) a_sides a_counters a_moveTotals a_moveLengths a_moveSquares a_path a_jumped a_nextDirection a_wentOn a_nextMove a_bestMove a_bestValue a_log := by
  intro m
  induction m with
  | zero =>
    intro i n hi hn
    obtain ⟨n, rfl⟩ : ∃ g, n = g + 1 := ⟨n - 1, by omega⟩
    obtain rfl : i = 32 := by omega
    exact br_t (nI_le (a := 32) (Nat.le_refl 32) (by omega)) h
  | succ m ih =>
    intro i n hi hn
    obtain ⟨n, rfl⟩ : ∃ g, n = g + 1 := ⟨n - 1, by omega⟩
    have e1 : nI s * 32 + nI i = nI (s * 32 + i) := by rw [show (32 : Int32) = nI 32 from rfl, pk_mul, nI_add]
    have e2 : nI t * 32 + nI i = nI (t * 32 + i) := by rw [show (32 : Int32) = nI 32 from rfl, pk_mul, nI_add]
    refine br_f (nI_ge (b := 32) (by omega) (by omega)) ?_
    rw [e1, e2]
    refine ⟨vp_in_nI (by omega) (by omega), vp_in_nI (by omega) (by omega), nm_r (e' := dg_cb bd s t (i + 1)) ?_ (nm_r (nI_1 i) (ih (i + 1) n (by omega) (by omega)))⟩
    rw [nI_clamp (by omega), nI_clamp (by omega)]
    rfl
theorem xa_copy {f_drawLimit f_logTotal f_gameStatus f_searchValue : Int32} {a_neighbours a_board a_sides a_counters a_moveTotals a_moveLengths a_moveSquares a_path a_jumped a_nextDirection a_wentOn a_nextMove a_bestMove a_bestValue a_log : Nat → Int32} {post : St2 → Prop} {s t : Nat} (hs : s < 4) (ht : t < 4) (h : post (f_drawLimit, f_logTotal, f_gameStatus, f_searchValue, a_neighbours, dg_cb a_board s t 32, a_sides, a_counters, a_moveTotals, a_moveLengths, a_moveSquares, a_path, a_jumped, a_nextDirection, a_wentOn, a_nextMove, a_bestMove, a_bestValue, a_log)) : wpX_copyBoard post (f_drawLimit, f_logTotal, f_gameStatus, f_searchValue, a_neighbours, a_board, a_sides, a_counters, a_moveTotals, a_moveLengths, a_moveSquares, a_path, a_jumped, a_nextDirection, a_wentOn, a_nextMove, a_bestMove, a_bestValue, a_log) (nI s) (nI t) :=
  ⟨33, xa_copy_l (bd := a_board) hs ht h 32 0 33 (by omega) (by omega)⟩
theorem xa_201 {f_drawLimit f_logTotal f_gameStatus f_searchValue : Int32} {a_neighbours a_board a_sides a_counters a_moveTotals a_moveLengths a_moveSquares a_path a_jumped a_nextDirection a_wentOn a_nextMove a_bestMove a_bestValue a_log : Nat → Int32} {post : St2 → Prop} {s t : Nat} {z : Int32} (hs : s < 4) (ht : t < 4) (h : post (f_drawLimit, f_logTotal, f_gameStatus, f_searchValue, a_neighbours, a_board, dg_as a_sides s t, upd a_counters t z, a_moveTotals, a_moveLengths, a_moveSquares, a_path, a_jumped, a_nextDirection, a_wentOn, a_nextMove, a_bestMove, a_bestValue, a_log)) : wX_applyMove_201 post (nI s) (nI t) z (nI t) f_drawLimit f_logTotal f_gameStatus f_searchValue a_neighbours a_board a_sides a_counters a_moveTotals a_moveLengths a_moveSquares a_path a_jumped a_nextDirection a_wentOn a_nextMove a_bestMove a_bestValue a_log := by
  have es : (nI s).toNatClampNeg = s := nI_clamp (by omega)
  have et : (nI t).toNatClampNeg = t := nI_clamp (by omega)
  unfold dg_as at h
  refine ⟨vp_in_nI ht (by omega), nm_r (e' := upd a_counters t z) (by rw [et]) ⟨vp_in_nI hs (by omega), ?_⟩⟩
  rw [es]
  refine br_c (fun a => ⟨vp_in_nI ht (by omega), nm_r ?_ h⟩) (fun a => ⟨vp_in_nI ht (by omega), nm_r ?_ h⟩)
  · rw [et, if_pos a]
  · rw [et, if_neg a]
theorem xa_170 {f_drawLimit f_logTotal f_gameStatus f_searchValue : Int32} {a_neighbours a_board a_sides a_counters a_moveTotals a_moveLengths a_moveSquares a_path a_jumped a_nextDirection a_wentOn a_nextMove a_bestMove a_bestValue a_log : Nat → Int32} {post : St2 → Prop} {s t C c o : Nat} {z0 : Int32} (hs : s < 4) (ht : t < 4) (hC : C < 100) (hc : c ≤ 4) (ho : o < 32)
    (h : post (f_drawLimit, f_logTotal, f_gameStatus, f_searchValue, a_neighbours, upd a_board (t * 32 + o) z0, dg_as a_sides s t, upd a_counters t (if 0 < C ∨ c = 1 ∨ c = 3 then 0 else a_counters s + 1), a_moveTotals, a_moveLengths, a_moveSquares, a_path, a_jumped, a_nextDirection, a_wentOn, a_nextMove, a_bestMove, a_bestValue, a_log)) : wX_applyMove_170 post (nI s) (nI t) (nI C) (nI c) z0 (nI (t * 32 + o)) f_drawLimit f_logTotal f_gameStatus f_searchValue a_neighbours a_board a_sides a_counters a_moveTotals a_moveLengths a_moveSquares a_path a_jumped a_nextDirection a_wentOn a_nextMove a_bestMove a_bestValue a_log := by
  have es : (nI s).toNatClampNeg = s := nI_clamp (by omega)
  refine ⟨vp_in_nI (by omega) (by omega), nm_r (e' := upd a_board (t * 32 + o) z0) (by rw [nI_clamp (by omega)]) (pk_lt 0 C (fun a => ?_) (fun a => ?_))⟩
  · rw [if_pos (Or.inl a)] at h
    exact xa_201 hs ht h
  · refine pk_eq c 1 (fun e => br_f (by decide) ?_) (fun e => pk_eq c 3 (fun e3 => br_f (by decide) ?_) (fun e3 => br_t rfl ⟨vp_in_nI hs (by omega), ?_⟩))
    · rw [if_pos (Or.inr (Or.inl e))] at h
      exact xa_201 hs ht h
    · rw [if_pos (Or.inr (Or.inr e3))] at h
      exact xa_201 hs ht h
    · rw [if_neg (by omega)] at h
      rw [es]
      exact xa_201 hs ht h
theorem xa_87 {f_drawLimit f_logTotal f_gameStatus f_searchValue : Int32} {a_neighbours a_sides a_counters a_moveTotals a_moveLengths a_moveSquares a_path a_jumped a_nextDirection a_wentOn a_nextMove a_bestMove a_bestValue a_log : Nat → Int32} {post : St2 → Prop} {bd : Nat → Int32} {s t o C c sl L : Nat} {q : Nat → Nat} (hs : s < 4) (ht : t < 4) (hC : C < 13) (hC2 : C = 0 ∨ C + 1 = L) (hsl : sl < 192) (hc : c ≤ 4) (ho : o < 32) (hL : L ≤ 13) (hq : ∀ k, k < L → q k < 32 ∧ a_moveSquares (sl * 13 + k) = nI (q k))
    (h : post (f_drawLimit, f_logTotal, f_gameStatus, f_searchValue, a_neighbours, upd (dg_tk bd t q C) (t * 32 + o) (nI (c + dg_cro c o)), dg_as a_sides s t, upd a_counters t (if 0 < C ∨ c = 1 ∨ c = 3 then 0 else a_counters s + 1), a_moveTotals, a_moveLengths, a_moveSquares, a_path, a_jumped, a_nextDirection, a_wentOn, a_nextMove, a_bestMove, a_bestValue, a_log)) :
    ∀ m i n, i + m = C → m < n → wX_applyMove_87 post (nI s) (nI t) (nI (sl * 13)) (nI o) (nI C) (nI c) f_drawLimit f_logTotal f_gameStatus f_searchValue n (nI i) a_neighbours (dg_tk bd t q i) a_sides a_counters a_moveTotals a_moveLengths a_moveSquares a_path a_jumped a_nextDirection a_wentOn a_nextMove a_bestMove a_bestValue a_log := by
  have e2 : nI t * 32 + nI o = nI (t * 32 + o) := by rw [show (32 : Int32) = nI 32 from rfl, pk_mul, nI_add]
  intro m
  induction m with
  | zero =>
    intro i n hi hn
    obtain ⟨n, rfl⟩ : ∃ g, n = g + 1 := ⟨n - 1, by omega⟩
    obtain rfl : i = C := by omega
    refine br_t (nI_le (Nat.le_refl i) (by omega)) (wx_cro hc ho ?_)
    rw [e2]
    refine pk_eq (dg_cro c o) 0 (fun z => ?_) (fun z => ?_) (ha := by unfold dg_cro; split <;> omega)
    · rw [z] at h
      exact xa_170 hs ht (by omega) hc ho h
    · have e1 : dg_cro c o = 1 := by
        unfold dg_cro at z ⊢
        split at z
        · rw [if_pos ‹_›]
        · exact absurd rfl z
      rw [e1] at h
      rw [nI_1]
      exact xa_170 hs ht (by omega) hc ho h
  | succ m ih =>
    intro i n hi hn
    obtain ⟨n, rfl⟩ : ∃ g, n = g + 1 := ⟨n - 1, by omega⟩
    have e1 : nI (sl * 13) + nI i = nI (sl * 13 + i) := nI_add _ _
    have a1 := hq i (by omega)
    have a2 := hq (i + 1) (by omega)
    have hm := dg_mid_lt a1.1 a2.1
    have e3 : nI t * 32 + nI (dg_mid (q i) (q (i + 1))) = nI (t * 32 + dg_mid (q i) (q (i + 1))) := by rw [show (32 : Int32) = nI 32 from rfl, pk_mul, nI_add]
    have a2' : a_moveSquares (sl * 13 + i + 1) = nI (q (i + 1)) := a2.2
    refine br_f (nI_ge (by omega) (by omega)) ?_
    rw [e1, nI_1 (sl * 13 + i), nI_clamp (n := sl * 13 + i) (by omega), nI_clamp (n := sl * 13 + i + 1) (by omega), a1.2, a2']
    refine ⟨vp_in_nI (by omega) (by omega), vp_in_nI (by omega) (by omega), xa_mid a1.1 a2.1 ?_⟩
    rw [e3]
    refine ⟨vp_in_nI (by omega) (by omega), nm_r (e' := dg_tk bd t q (i + 1)) ?_ (nm_r (nI_1 i) (ih (i + 1) n (by omega) (by omega)))⟩
    rw [nI_clamp (by omega)]
    rfl
theorem dg_C2_c {q : Nat → Nat} {L : Nat} (hL : 2 ≤ L) : dg_C2 q L = 0 ∨ dg_C2 q L + 1 = L := by
  unfold dg_C2
  split
  · right; omega
  · left; rfl
theorem xa_apply {f_drawLimit f_logTotal f_gameStatus f_searchValue : Int32} {a_neighbours a_board a_sides a_counters a_moveTotals a_moveLengths a_moveSquares a_path a_jumped a_nextDirection a_wentOn a_nextMove a_bestMove a_bestValue a_log : Nat → Int32} {post : St2 → Prop} {s i t : Nat} (hB : dg_B a_board) (hs : s < 4) (ht : t < 4) (hi : i < 48) (hM : dg_M a_moveLengths a_moveSquares (s * 48 + i))
    (h : post (f_drawLimit, f_logTotal, f_gameStatus, f_searchValue, a_neighbours, dg_ab a_board s t (dg_l a_moveLengths (s * 48 + i)) (dg_q a_moveSquares (s * 48 + i)), dg_as a_sides s t, dg_ad a_counters a_board s t (dg_l a_moveLengths (s * 48 + i)) (dg_q a_moveSquares (s * 48 + i)), a_moveTotals, a_moveLengths, a_moveSquares, a_path, a_jumped, a_nextDirection, a_wentOn, a_nextMove, a_bestMove, a_bestValue, a_log)) : wpX_applyMove post (f_drawLimit, f_logTotal, f_gameStatus, f_searchValue, a_neighbours, a_board, a_sides, a_counters, a_moveTotals, a_moveLengths, a_moveSquares, a_path, a_jumped, a_nextDirection, a_wentOn, a_nextMove, a_bestMove, a_bestValue, a_log) (nI s) (nI i) (nI t) := by
  obtain ⟨hL, hL2, hml, hq, hk⟩ := dg_M_c hM
  generalize dg_l a_moveLengths (s * 48 + i) = L at *
  generalize dg_q a_moveSquares (s * 48 + i) = q at *
  have hC := dg_C2_c (q := q) hL
  have hq0 := hq 0 (by omega)
  have hqL := hq (L - 1) (by omega)
  have hq0' : a_moveSquares ((s * 48 + i) * 13) = nI (q 0) := hq0.2
  have e1 : nI s * 48 + nI i = nI (s * 48 + i) := by rw [show (48 : Int32) = nI 48 from rfl, pk_mul, nI_add]
  have e2 : nI ((s * 48 + i) * 13) + nI L - 1 = nI ((s * 48 + i) * 13 + (L - 1)) := by
    rw [nI_add]
    have : nI ((s * 48 + i) * 13 + L) - 1 = nI ((s * 48 + i) * 13 + L - 1) := pk_sub (b := 1) (by omega)
    rw [this]
    exact congrArg nI (by omega)
  have hv := dg_B_b hB (i := s * 32 + q 0) (by omega)
  have e3 : nI s * 32 + nI (q 0) = nI (s * 32 + q 0) := by rw [show (32 : Int32) = nI 32 from rfl, pk_mul, nI_add]
  have e4 : nI t * 32 + nI (q 0) = nI (t * 32 + q 0) := by rw [show (32 : Int32) = nI 32 from rfl, pk_mul, nI_add]
  refine nm_r e1 (nm_r (pk_mul (s * 48 + i) 13) ⟨vp_in_nI (by omega) (by omega), nm_r (e' := nI (q 0)) (by rw [nI_clamp (by omega), hq0']) ⟨vp_in_nI (by omega) (by omega), ?_⟩⟩)
  rw [nI_clamp (n := s * 48 + i) (by omega), hml, e2]
  refine ⟨vp_in_nI (by omega) (by omega), nm_r (e' := nI (q (L - 1))) (by rw [nI_clamp (by omega), hqL.2]) (xa_cap (by omega) hL hL2 hml hq ?_)⟩
  rw [e3]
  refine ⟨vp_in_nI (by omega) (by omega), nm_r (e' := nI (dg_b a_board (s * 32 + q 0))) (by rw [nI_clamp (by omega)]; exact hv.1) (xa_copy hs ht ?_)⟩
  rw [e4]
  refine ⟨vp_in_nI (by omega) (by omega), nm_r (e' := upd (dg_cb a_board s t 32) (t * 32 + q 0) 0) (by rw [nI_clamp (by omega)]) ⟨14, ?_⟩⟩
  exact xa_87 (bd := upd (dg_cb a_board s t 32) (t * 32 + q 0) 0) hs ht (by omega) hC (by omega) hv.2 hqL.1 hL2 hq h (dg_C2 q L) 0 14 (by omega) (by omega)
theorem xa_desc {f_drawLimit f_logTotal f_gameStatus f_searchValue : Int32} {a_neighbours a_board a_sides a_counters a_moveTotals a_moveLengths a_moveSquares a_path a_jumped a_nextDirection a_wentOn a_nextMove a_bestMove a_bestValue a_log : Nat → Int32} {post : Int32 → Prop} {i : Nat} (hB : dg_B a_board) (hi : i < 48) (hM : dg_M a_moveLengths a_moveSquares (0 * 48 + i))
    (h : post (dg_en a_board 0 (dg_l a_moveLengths (0 * 48 + i)) (dg_q a_moveSquares (0 * 48 + i)))) : wpX_describeMove post (f_drawLimit, f_logTotal, f_gameStatus, f_searchValue, a_neighbours, a_board, a_sides, a_counters, a_moveTotals, a_moveLengths, a_moveSquares, a_path, a_jumped, a_nextDirection, a_wentOn, a_nextMove, a_bestMove, a_bestValue, a_log) (nI i) := by
  obtain ⟨hL, hL2, hml, hq, hk⟩ := dg_M_c hM
  rw [show 0 * 48 + i = i by omega] at *
  generalize dg_l a_moveLengths i = L at *
  generalize dg_q a_moveSquares i = q at *
  have hC := dg_C2_c (q := q) hL
  have hq0 := hq 0 (by omega)
  have hqL := hq (L - 1) (by omega)
  have hq0' : a_moveSquares (i * 13) = nI (q 0) := hq0.2
  have e2 : nI (i * 13) + nI L - 1 = nI (i * 13 + (L - 1)) := by
    rw [nI_add]
    have : nI (i * 13 + L) - 1 = nI (i * 13 + L - 1) := pk_sub (b := 1) (by omega)
    rw [this]
    exact congrArg nI (by omega)
  have hv := dg_B_b hB (i := 0 * 32 + q 0) (by omega)
  have hv1 : a_board (q 0) = nI (dg_b a_board (0 * 32 + q 0)) := by
    have := hv.1
    rw [show 0 * 32 + q 0 = q 0 by omega] at this ⊢
    exact this
  refine nm_r (pk_mul i 13) ⟨vp_in_nI (by omega) (by omega), nm_r (e' := nI (q 0)) (by rw [nI_clamp (by omega), hq0']) ⟨vp_in_nI (by omega) (by omega), ?_⟩⟩
  rw [nI_clamp (n := i) (by omega), hml, e2]
  refine ⟨vp_in_nI (by omega) (by omega), nm_r (e' := nI (q (L - 1))) (by rw [nI_clamp (by omega), hqL.2]) ⟨vp_in_nI (by omega) (by omega), ?_⟩⟩
  rw [nI_clamp (n := q 0) (by omega), hv1]
  have go : ∀ z : Nat, z = dg_cro (dg_b a_board (0 * 32 + q 0)) (q (L - 1)) → wX_describeMove_48 post (nI i) (nI (q 0)) (nI (q (L - 1))) (nI z) f_drawLimit f_logTotal f_gameStatus f_searchValue a_neighbours a_board a_sides a_counters a_moveTotals a_moveLengths a_moveSquares a_path a_jumped a_nextDirection a_wentOn a_nextMove a_bestMove a_bestValue a_log := by
    intro z hz
    unfold wX_describeMove_48
    refine xa_cap (by omega) hL hL2 hml hq ?_
    unfold dg_en at h
    rw [← hz] at h
    rw [show (32 : Int32) = nI 32 from rfl, show (1024 : Int32) = nI 1024 from rfl, show (16384 : Int32) = nI 16384 from rfl, pk_mul, pk_mul, pk_mul, nI_add, nI_add, nI_add]
    exact h
  refine wx_cro hv.2 hqL.1 (pk_eq (dg_cro (dg_b a_board (0 * 32 + q 0)) (q (L - 1))) 0 (fun z => go 0 z.symm) (fun z => go 1 ?_) (ha := by unfold dg_cro; split <;> omega))
  unfold dg_cro at z ⊢
  split at z
  · rw [if_pos ‹_›]
  · exact absurd rfl z
