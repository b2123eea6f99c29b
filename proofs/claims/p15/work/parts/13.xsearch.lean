theorem xs_open {f_drawLimit f_logTotal f_gameStatus f_searchValue : Int32} {a_neighbours a_board a_sides a_counters a_moveTotals a_moveLengths a_moveSquares a_path a_jumped a_nextDirection a_wentOn a_nextMove a_bestMove a_bestValue a_log : Nat → Int32} {post : St2 → Prop} {l : Nat} (hl : l < 4) (h : post (f_drawLimit, f_logTotal, f_gameStatus, f_searchValue, a_neighbours, a_board, a_sides, a_counters, a_moveTotals, a_moveLengths, a_moveSquares, a_path, a_jumped, a_nextDirection, a_wentOn, upd a_nextMove l 0, a_bestMove, upd a_bestValue l (dg_i (-20000)), a_log)) : wpX_openLevel post (f_drawLimit, f_logTotal, f_gameStatus, f_searchValue, a_neighbours, a_board, a_sides, a_counters, a_moveTotals, a_moveLengths, a_moveSquares, a_path, a_jumped, a_nextDirection, a_wentOn, a_nextMove, a_bestMove, a_bestValue, a_log) (nI l) := by
  have ec : (nI l).toNatClampNeg = l := nI_clamp (by omega)
  exact ⟨vp_in_nI hl (by omega), nm_r (e' := upd a_nextMove l 0) (by rw [ec]) ⟨vp_in_nI hl (by omega), nm_r (e' := upd a_bestValue l (dg_i (-20000))) (by rw [ec]; rfl) h⟩⟩
theorem xs_take {f_drawLimit f_logTotal f_gameStatus f_searchValue : Int32} {a_neighbours a_board a_sides a_counters a_moveTotals a_moveLengths a_moveSquares a_path a_jumped a_nextDirection a_wentOn a_nextMove a_bestMove a_bestValue a_log : Nat → Int32} {post : St2 → Prop} {l i : Nat} {b v : Int} (hl : l < 4) (hn : a_nextMove l = nI i) (hb : a_bestValue l = dg_i b) (b1 : -30000 ≤ b) (b2 : b ≤ 30000) (v1 : -30000 ≤ v) (v2 : v ≤ 30000)
    (h : post (f_drawLimit, f_logTotal, f_gameStatus, f_searchValue, a_neighbours, a_board, a_sides, a_counters, a_moveTotals, a_moveLengths, a_moveSquares, a_path, a_jumped, a_nextDirection, a_wentOn, upd a_nextMove l (nI (i + 1)), (if b < v then upd a_bestMove l (nI i) else a_bestMove), (if b < v then upd a_bestValue l (dg_i v) else a_bestValue), a_log)) : wpX_takeReply post (f_drawLimit, f_logTotal, f_gameStatus, f_searchValue, a_neighbours, a_board, a_sides, a_counters, a_moveTotals, a_moveLengths, a_moveSquares, a_path, a_jumped, a_nextDirection, a_wentOn, a_nextMove, a_bestMove, a_bestValue, a_log) (nI l) (dg_i v) := by
  have ec : (nI l).toNatClampNeg = l := nI_clamp (by omega)
  have hin : vp_in (nI l) 4 := vp_in_nI hl (by omega)
  refine ⟨hin, ?_⟩
  rw [ec, hb]
  refine br_c (fun a => ?_) (fun a => ?_)
  · rw [dg_i_le (by omega) (by omega) (by omega) (by omega)] at a
    rw [if_neg (by omega), if_neg (by omega)] at h
    exact ⟨hin, hin, nm_r (by rw [ec, hn, nI_1]) h⟩
  · rw [dg_i_le (by omega) (by omega) (by omega) (by omega)] at a
    rw [if_pos (by omega), if_pos (by omega)] at h
    refine ⟨hin, nm_e ⟨hin, hin, nm_r (e' := upd a_bestMove l (nI i)) (by rw [hn]) ⟨hin, hin, nm_r (by rw [ec, hn, nI_1]) h⟩⟩⟩
def dg_SX (l : Nat) (ix : Nat → Nat) (vb : Nat → Int) (g : Nat) (nm bv bm : Nat → Int32) : Prop := (∀ i, i ≤ l → nm i = nI (ix i) ∧ bv i = dg_i (vb i)) ∧ (1 ≤ ix 0 → bm 0 = nI g)
theorem dg_SX_take {l g : Nat} {S : dg_Sh} {ix : Nat → Nat} {vb : Nat → Int} {nm bv bm : Nat → Int32} {v : Int} (hH : dg_H l S ix vb) (h : dg_SX l ix vb g nm bv bm) (v1 : -10000 ≤ v) :
    dg_SX l (dg_u ix l (ix l + 1)) (dg_tv l v vb) (dg_tg l v vb ix g) (upd nm l (nI (ix l + 1))) (if vb l < v then upd bv l (dg_i v) else bv) (if vb l < v then upd bm l (nI (ix l)) else bm) := by
  obtain ⟨h1, h2⟩ := h
  have hl := (hH.2.2 l (Nat.le_refl l)).2.2
  unfold dg_tv dg_tg
  by_cases c : vb l < v
  · rw [if_pos c, if_pos c, if_pos c, if_pos c]
    refine ⟨fun i hi => ?_, fun z => ?_⟩
    · by_cases e : i = l
      · subst e; rw [pk_us, pk_us, dg_us, dg_uIs]; exact ⟨rfl, rfl⟩
      · rw [pk_un e, pk_un e, dg_un e, dg_uIn e]; exact h1 i hi
    · by_cases e : l = 0
      · subst e; rw [pk_us, if_pos rfl]
      · rw [pk_un (fun y => e y.symm), if_neg e]
        rw [dg_un (fun y => e y.symm)] at z
        exact h2 z
  · rw [if_neg c, if_neg c, if_neg c, if_neg c]
    refine ⟨fun i hi => ?_, fun z => ?_⟩
    · by_cases e : i = l
      · subst e; rw [pk_us, dg_us]; exact ⟨rfl, (h1 i hi).2⟩
      · rw [pk_un e, dg_un e]; exact h1 i hi
    · by_cases e : l = 0
      · subst e
        rcases hl with y | y
        · omega
        · exact h2 y.1
      · rw [dg_un (fun y => e y.symm)] at z
        exact h2 z
theorem dg_pt_pos (M ix : Nat → Nat) (l : Nat) : 1 ≤ dg_pt M ix (l + 1) := by
  show 1 ≤ dg_sp M ix l + ((M l - ix l) * dg_c l + 1)
  omega
theorem dg_neg_i {x y : Int32} {v : Int} (h : x = dg_i v) (e : y = -x) : y = dg_i (-v) := by rw [e, h, dg_i_neg]
theorem xs_walk {f_drawLimit f_logTotal f_gameStatus f_searchValue : Int32} {a_neighbours a_log : Nat → Int32} {post : St2 → Prop} {pl : Nat} (hN : dg_N a_neighbours) (hpl : pl ≤ 3) :
    ∀ (n l : Nat) (S : dg_Sh) (ix : Nat → Nat) (vb : Nat → Int) (g : Nat) (nm bm bv p jx nd wo : Nat → Int32) (step m : Nat), dg_H l S ix vb → l < pl → dg_SX l ix vb g nm bv bm →
      dg_pt (dg_m S) ix (l + 1) ≤ n → step + dg_pt (dg_m S) ix (l + 1) ≤ 1000000 → dg_pt (dg_m S) ix (l + 1) < m →
      (∀ (S' : dg_Sh) (v' : Int) (g' : Nat) (nm' bm' bv' p' jx' nd' wo' : Nat → Int32), dg_se f_drawLimit pl n (l + 1) S ix vb g = (S', v', g') → bv' 0 = dg_i v' → bm' 0 = nI g' → post (f_drawLimit, f_logTotal, f_gameStatus, f_searchValue, a_neighbours, S'.1, S'.2.1, S'.2.2.1, S'.2.2.2.1, S'.2.2.2.2.1, S'.2.2.2.2.2, p', jx', nd', wo', nm', bm', bv', a_log)) →
      wX_walkTree_9 post (nI pl) m (nI l) (nI step) f_drawLimit f_logTotal f_gameStatus f_searchValue a_neighbours S.1 S.2.1 S.2.2.1 S.2.2.2.1 S.2.2.2.2.1 S.2.2.2.2.2 p jx nd wo nm bm bv a_log := by
  intro n
  induction n with
  | zero =>
    intro l S ix vb g nm bm bv p jx nd wo step m hH hl hA hn hstep hm hp
    have := dg_pt_pos (dg_m S) ix l
    omega
  | succ n ih =>
    intro l S ix vb g nm bm bv p jx nd wo step m hH hl hA hn hstep hm hp
    have hpos := dg_pt_pos (dg_m S) ix l
    obtain ⟨m, rfl⟩ : ∃ y, m = y + 1 := ⟨m - 1, by omega⟩
    have hO := hH.1
    have hLl := hO.2.2 l (Nat.le_refl l)
    obtain ⟨hM48, hMe⟩ := dg_L_m hLl
    obtain ⟨hM1, hixM, hvb⟩ := hH.2.2 l (Nat.le_refl l)
    have hA0 := hA.1 l (Nat.le_refl l)
    have ec : (nI l).toNatClampNeg = l := nI_clamp (by omega)
    have hin : vp_in (nI l) 4 := vp_in_nI (by omega) (by omega)
    refine br_f (nI_ge (b := 1000000) (by omega) (by decide)) (br_f (nI_pos (by omega)) ⟨hin, hin, ?_⟩)
    rw [ec, hMe, hA0.1]
    by_cases hlt : ix l < dg_m S l
    · refine br_f (nI_ge hlt (by omega)) ⟨hin, ?_⟩
      obtain ⟨hi48, hMM⟩ := dg_L_M hLl hlt
      have hap := dg_Ok_ap hO (by omega) hlt
      rw [nI_1 l]
      refine xa_apply hO.1 (by omega) (by omega) hi48 hMM (nm_e ?_)
      refine wx_gen hN hap.1 hap.2.1 (by omega) (fun p' jx' nd' wo' => ?_)
      obtain ⟨hO', hm'⟩ := dg_H_next hH (by omega) hlt rfl
      have ec1 : (nI (l + 1)).toNatClampNeg = l + 1 := nI_clamp (by omega)
      have hin1 : vp_in (nI (l + 1)) 4 := vp_in_nI (by omega) (by omega)
      refine xs_open (by omega) (xe_isLeaf (by omega) (by omega) (fun hlf => br_f (by decide) (xe_leafV hO'.1 hO'.2.1 (by omega) ?_)) (fun hlf => br_t rfl (nm_r (nI_1 step) ?_)))
      · have hlf' : dg_lf f_drawLimit pl (l + 1) (dg_gn (l + 1) (dg_ap l (ix l) (l + 1) S)) := hlf
        have hv := dg_lv_r (lim := f_drawLimit) (lv := l + 1) (S := (dg_gn (l + 1) (dg_ap l (ix l) (l + 1) S))) (by omega)
        have hpt := dg_pt_leaf (M := dg_m S) (M' := dg_m (dg_gn (l + 1) (dg_ap l (ix l) (l + 1) S))) (ix := ix) (l := l) hm' hlt
        have hpos2 := dg_pt_pos (dg_m (dg_gn (l + 1) (dg_ap l (ix l) (l + 1) S))) (dg_u ix l (ix l + 1)) l
        rw [dg_se_leaf hlt rfl hlf'] at hp
        obtain ⟨_, hMe'⟩ := dg_L_m (hO'.2.2 (l + 1) (Nat.le_refl _))
        have hM48' := (dg_L_m (hO'.2.2 (l + 1) (Nat.le_refl _))).1
        refine ⟨hin1, nm_r (e' := upd (upd bv (l + 1) (dg_i (-20000))) (l + 1) (dg_i (dg_lv f_drawLimit (l + 1) (dg_gn (l + 1) (dg_ap l (ix l) (l + 1) S))))) (by rw [ec1]; rfl) ⟨hin1, hin1, nm_r (e' := upd (upd nm (l + 1) 0) (l + 1) (nI (dg_m (dg_gn (l + 1) (dg_ap l (ix l) (l + 1) S)) (l + 1)))) (by rw [ec1]; exact congrArg (upd (upd nm (l + 1) 0) (l + 1)) hMe') (nm_r (nI_1 step) ?_)⟩⟩
        obtain ⟨m, rfl⟩ : ∃ y, m = y + 1 := ⟨m - 1, by omega⟩
        refine br_f (nI_ge (b := 1000000) (by omega) (by decide)) (br_f (nI_pos (by omega)) ⟨hin1, hin1, ?_⟩)
        have hle : (dg_gn (l + 1) (dg_ap l (ix l) (l + 1) S)).2.2.2.1 (nI (l + 1)).toNatClampNeg ≤ upd (upd nm (l + 1) 0) (l + 1) (nI (dg_m (dg_gn (l + 1) (dg_ap l (ix l) (l + 1) S)) (l + 1))) (nI (l + 1)).toNatClampNeg := by
          rw [ec1, hMe', pk_us]
          exact nI_le (Nat.le_refl _) (by omega)
        refine br_t hle (nm_r (pk_m1 l) (br_f (nI_pos (by omega)) ?_))
        rw [nI_1 l, ec1, pk_us, dg_i_neg]
        refine ⟨hin1, ?_⟩
        have hnm : upd (upd nm (l + 1) 0) (l + 1) (nI (dg_m (dg_gn (l + 1) (dg_ap l (ix l) (l + 1) S)) (l + 1))) l = nI (ix l) := by rw [pk_un (by omega), pk_un (by omega)]; exact hA0.1
        have hbv : upd (upd bv (l + 1) (dg_i (-20000))) (l + 1) (dg_i (dg_lv f_drawLimit (l + 1) (dg_gn (l + 1) (dg_ap l (ix l) (l + 1) S)))) l = dg_i (vb l) := by rw [pk_un (by omega), pk_un (by omega)]; exact hA0.2
        refine xs_take (b := vb l) (by omega) hnm hbv (by omega) (by omega) (by omega) (by omega) (nm_r (nI_1 (step + 1)) ?_)
        have hA' : dg_SX l ix vb g (upd (upd nm (l + 1) 0) (l + 1) (nI (dg_m (dg_gn (l + 1) (dg_ap l (ix l) (l + 1) S)) (l + 1)))) (upd (upd bv (l + 1) (dg_i (-20000))) (l + 1) (dg_i (dg_lv f_drawLimit (l + 1) (dg_gn (l + 1) (dg_ap l (ix l) (l + 1) S))))) bm :=
          ⟨fun i hi => by rw [pk_un (by omega), pk_un (by omega), pk_un (by omega), pk_un (by omega)]; exact hA.1 i hi, hA.2⟩
        exact ih l (dg_gn (l + 1) (dg_ap l (ix l) (l + 1) S)) _ _ _ _ _ _ _ _ _ _ (step + 1 + 1) m (dg_H_take hH (dg_Ok_le hO' (by omega)) hm' hlt (by omega) (by omega)) hl (dg_SX_take hH hA' (by omega)) (by omega) (by omega) (by omega) hp
      · have hlf' : ¬ dg_lf f_drawLimit pl (l + 1) (dg_gn (l + 1) (dg_ap l (ix l) (l + 1) S)) := hlf
        rw [dg_se_in hlt rfl hlf'] at hp
        have h0 : ¬ (dg_gn (l + 1) (dg_ap l (ix l) (l + 1) S)).2.2.2.1 (l + 1) = 0 := fun z => hlf' (Or.inl z)
        have hlp : l + 1 < pl := by
          apply Classical.byContradiction
          intro z
          exact hlf' (Or.inr (Or.inr (by omega)))
        have hM48' := (dg_L_m (hO'.2.2 (l + 1) (Nat.le_refl _))).1
        have hpt : dg_pt (dg_m (dg_gn (l + 1) (dg_ap l (ix l) (l + 1) S))) (dg_u ix (l + 1) 0) (l + 1 + 1) + 1 ≤ dg_pt (dg_m S) ix (l + 1) := dg_pt_in (by omega) hm' hlt hM48'
        refine ih (l + 1) (dg_gn (l + 1) (dg_ap l (ix l) (l + 1) S)) _ _ _ _ _ _ _ _ _ _ (step + 1) m (dg_H_in hH hlt hO' hm' h0) hlp ⟨fun i hi => ?_, fun z => ?_⟩ (by omega) (by omega) (by omega) hp
        · by_cases e : i = l + 1
          · subst e; rw [pk_us, pk_us, dg_us, dg_uIs]; exact ⟨nI_0.symm, rfl⟩
          · rw [pk_un e, pk_un e, dg_un e, dg_uIn e]; exact hA.1 i (by omega)
        · rw [dg_un (by omega)] at z; exact hA.2 z
    · have hge : dg_m S l ≤ ix l := by omega
      refine br_t (nI_le hge (by omega)) ?_
      cases l with
      | zero =>
        refine nm_r (dg_la_m 0) (br_t (show (-1 : Int32) < 0 by decide) (nm_r (nI_1 step) ?_))
        rw [dg_se_end hlt] at hp
        obtain ⟨m, rfl⟩ : ∃ y, m = y + 1 := ⟨m - 1, by omega⟩
        have fin := hp S (vb 0) g nm bm bv p jx nd wo rfl hA0.2 (hA.2 (by omega))
        exact br_c (fun _ => fin) (fun _ => br_t (show (-1 : Int32) < 0 by decide) fin)
      | succ l =>
        obtain ⟨hv, hH'⟩ := dg_H_out hH hlt
        have hB0 := hA.1 l (by omega)
        have ec1 : (nI (l + 1)).toNatClampNeg = l + 1 := nI_clamp (by omega)
        refine nm_r (pk_m1 l) (br_f (nI_pos (by omega)) ?_)
        rw [nI_1 l, ec1, hA0.2, dg_i_neg]
        refine ⟨vp_in_nI (by omega) (by omega), ?_⟩
        have hvl := (hH'.2.2 l (Nat.le_refl l)).2.2
        refine xs_take (b := vb l) (by omega) hB0.1 hB0.2 (by omega) (by omega) (by omega) (by omega) (nm_r (nI_1 step) ?_)
        rw [dg_se_out hlt] at hp
        have hpt : dg_pt (dg_m S) (dg_u ix l (ix l + 1)) (l + 1) + 1 ≤ dg_pt (dg_m S) ix (l + 1 + 1) := dg_pt_out
        have hA' : dg_SX l ix vb g nm bv bm := ⟨fun i hi => hA.1 i (by omega), hA.2⟩
        exact ih l S _ _ _ _ _ _ _ _ _ _ (step + 1) m (dg_H_take hH' hH'.1 (fun _ _ => rfl) (hH.2.1 l (by omega)) (by omega) (by omega)) (by omega) (dg_SX_take hH' hA' (by omega)) (by omega) (by omega) (by omega) hp
