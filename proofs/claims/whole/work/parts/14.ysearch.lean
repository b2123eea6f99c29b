/-! the reference's search is the pure machine -/
theorem ys_up {f_lim f_last f_logN f_bestIdx : Int32} {a_bd a_sd a_dc a_mc a_ml a_mv a_ps a_dr a_cp a_ex a_jp a_log a_idx a_best : Nat → Int32} {post : SY → Prop} {l i : Nat} {b v : Int} (hl : l < 4) (hn : a_idx l = nI i) (hb : a_best l = dg_i b) (b1 : -1000000000 ≤ b) (b2 : b ≤ 30000) (v1 : -30000 ≤ v) (v2 : v ≤ 30000)
    (h : post (f_lim, f_last, f_logN, (if b < v then (if l = 0 then nI i else f_bestIdx) else f_bestIdx), a_bd, a_sd, a_dc, a_mc, a_ml, a_mv, a_ps, a_dr, a_cp, a_ex, a_jp, a_log, upd a_idx l (nI (i + 1)), (if b < v then upd a_best l (dg_i v) else a_best))) : wpY_up post (f_lim, f_last, f_logN, f_bestIdx, a_bd, a_sd, a_dc, a_mc, a_ml, a_mv, a_ps, a_dr, a_cp, a_ex, a_jp, a_log, a_idx, a_best) (nI l) (dg_i v) := by
  have ec : (nI l).toNatClampNeg = l := nI_clamp (by omega)
  have hin : vp_in (nI l) 4 := vp_in_nI hl (by omega)
  refine ⟨hin, ?_⟩
  rw [ec, hb]
  refine br_c (fun a => ?_) (fun a => ?_)
  · rw [dg_i_le (by omega) (by omega) (by omega) (by omega)] at a
    rw [if_neg (by omega), if_neg (by omega)] at h
    exact ⟨hin, hin, nm_r (by rw [ec, hn, nI_1]) h⟩
  · rw [dg_i_le (by omega) (by omega) (by omega) (by omega)] at a
    have hbv : b < v := by omega
    rw [if_pos hbv, if_pos hbv] at h
    refine ⟨hin, nm_e (pk_eq l 0 (fun e => ?_) (fun e => ?_))⟩
    · rw [if_pos e] at h
      subst e
      exact nm_r hn ⟨hin, hin, nm_r (by rw [ec, hn, nI_1]) h⟩
    · rw [if_neg e] at h
      exact ⟨hin, hin, nm_r (by rw [ec, hn, nI_1]) h⟩
def dg_yb (ix : Nat → Nat) (vb : Nat → Int) (i : Nat) : Int := if ix i = 0 then -1000000000 else vb i
/-- the reference's cells hold the search -/
def dg_SY (l : Nat) (ix : Nat → Nat) (vb : Nat → Int) (g : Nat) (idx best : Nat → Int32) (bi : Int32) : Prop := (∀ i, i ≤ l → idx i = nI (ix i) ∧ best i = dg_i (dg_yb ix vb i)) ∧ (1 ≤ ix 0 → bi = nI g)
theorem dg_SY_take {l g : Nat} {S : dg_Sh} {ix : Nat → Nat} {vb : Nat → Int} {idx best : Nat → Int32} {bi : Int32} {v : Int} (hH : dg_H l S ix vb) (h : dg_SY l ix vb g idx best bi) (v1 : -10000 ≤ v) :
    dg_SY l (dg_u ix l (ix l + 1)) (dg_tv l v vb) (dg_tg l v vb ix g) (upd idx l (nI (ix l + 1))) (if dg_yb ix vb l < v then upd best l (dg_i v) else best) (if dg_yb ix vb l < v then (if l = 0 then nI (ix l) else bi) else bi) := by
  obtain ⟨h1, h2⟩ := h
  have hl := (hH.2.2 l (Nat.le_refl l)).2.2
  have hc : dg_yb ix vb l < v ↔ vb l < v := by
    unfold dg_yb
    rcases hl with y | y
    · rw [if_pos y.1]; omega
    · rw [if_neg (by omega)]
  unfold dg_tv dg_tg
  by_cases c : vb l < v
  · have c' := hc.mpr c
    rw [if_pos c, if_pos c, if_pos c', if_pos c']
    refine ⟨fun i hi => ?_, fun z => ?_⟩
    · by_cases e : i = l
      · subst e
        rw [pk_us, pk_us, dg_us]
        unfold dg_yb
        rw [dg_us, if_neg (by omega), dg_uIs]
        exact ⟨rfl, rfl⟩
      · rw [pk_un e, pk_un e, dg_un e]
        unfold dg_yb
        rw [dg_un e, dg_uIn e]
        exact h1 i hi
    · by_cases e : l = 0
      · subst e; rw [if_pos rfl, if_pos rfl]
      · rw [if_neg e, if_neg e]
        rw [dg_un (fun y => e y.symm)] at z
        exact h2 z
  · have c' : ¬ dg_yb ix vb l < v := fun y => c (hc.mp y)
    rw [if_neg c, if_neg c, if_neg c', if_neg c']
    have hi1 : 1 ≤ ix l := by
      rcases hl with y | y
      · omega
      · exact y.1
    refine ⟨fun i hi => ?_, fun z => ?_⟩
    · by_cases e : i = l
      · subst e
        rw [pk_us, dg_us]
        have := (h1 i hi).2
        unfold dg_yb at this ⊢
        rw [if_neg (by omega)] at this
        rw [dg_us, if_neg (by omega)]
        exact ⟨rfl, this⟩
      · rw [pk_un e, dg_un e]
        unfold dg_yb
        rw [dg_un e]
        exact h1 i hi
    · by_cases e : l = 0
      · subst e; exact h2 hi1
      · rw [dg_un (fun y => e y.symm)] at z
        exact h2 z
theorem dg_2e9 : (2000000000 : Int32) = dg_i 2000000000 := by decide
theorem ys_walk {f_lim f_last f_logN : Int32} {a_log : Nat → Int32} {post : Int32 → SY → Prop} {pl : Nat} (hpl : pl ≤ 3) :
    ∀ (n l : Nat) (S : dg_Sh) (ix : Nat → Nat) (vb : Nat → Int) (g : Nat) (bi : Int32) (idx best ps dr cp ex jp : Nat → Int32) (step m : Nat), dg_H l S ix vb → l < pl → dg_SY l ix vb g idx best bi →
      dg_pt (dg_m S) ix (l + 1) ≤ n → step + dg_pt (dg_m S) ix (l + 1) ≤ 1000000 → dg_pt (dg_m S) ix (l + 1) < m →
      (∀ (S' : dg_Sh) (v' : Int) (g' : Nat) (idx' best' ps' dr' cp' ex' jp' : Nat → Int32), dg_se f_lim pl n (l + 1) S ix vb g = (S', v', g') → post (nI g') (f_lim, dg_i v', f_logN, nI g', S'.1, S'.2.1, S'.2.2.1, S'.2.2.2.1, S'.2.2.2.2.1, S'.2.2.2.2.2, ps', dr', cp', ex', jp', a_log, idx', best')) →
      wY_search_54 post (nI pl) m (nI l) (nI step) f_lim f_last f_logN bi S.1 S.2.1 S.2.2.1 S.2.2.2.1 S.2.2.2.2.1 S.2.2.2.2.2 ps dr cp ex jp a_log idx best := by
  intro n
  induction n with
  | zero =>
    intro l S ix vb g bi idx best ps dr cp ex jp step m hH hl hA hn hstep hm hp
    have := dg_pt_pos (dg_m S) ix l
    omega
  | succ n ih =>
    intro l S ix vb g bi idx best ps dr cp ex jp step m hH hl hA hn hstep hm hp
    have hpos := dg_pt_pos (dg_m S) ix l
    obtain ⟨m, rfl⟩ : ∃ y, m = y + 1 := ⟨m - 1, by omega⟩
    have hO := hH.1
    have hLl := hO.2.2 l (Nat.le_refl l)
    obtain ⟨hM48, hMe⟩ := dg_L_m hLl
    obtain ⟨hM1, hixM, hvb⟩ := hH.2.2 l (Nat.le_refl l)
    have hA0 := hA.1 l (Nat.le_refl l)
    have ec : (nI l).toNatClampNeg = l := nI_clamp (by omega)
    have hin : vp_in (nI l) 4 := vp_in_nI (by omega) (by omega)
    have hyb : -1000000000 ≤ dg_yb ix vb l ∧ dg_yb ix vb l ≤ 10000 := by
      unfold dg_yb
      rcases hvb with y | y
      · rw [if_pos y.1]; omega
      · rw [if_neg (by omega)]; omega
    refine br_f (nI_ge (b := 4194304) (by omega) (by decide)) ⟨hin, hin, ?_⟩
    rw [ec, hMe, hA0.1]
    by_cases hlt : ix l < dg_m S l
    · refine br_f (nI_ge hlt (by omega)) ⟨hin, ?_⟩
      obtain ⟨hi48, hMM⟩ := dg_L_M hLl hlt
      have hap := dg_Ok_ap hO (by omega) hlt
      rw [nI_1 l]
      refine ya_apply hO.1 hO.2.1 (by omega) (by omega) hi48 hMM ?_
      refine yn_gen hap.1 hap.2.1 (by omega) (fun ps' dr' cp' ex' jp' => ?_)
      obtain ⟨hO', hm'⟩ := dg_H_next hH (by omega) hlt rfl
      have ec1 : (nI (l + 1)).toNatClampNeg = l + 1 := nI_clamp (by omega)
      have hin1 : vp_in (nI (l + 1)) 4 := vp_in_nI (by omega) (by omega)
      refine ye_term hO'.1 hO'.2.1 (by omega) (by omega) (fun hlf => br_f ?_ ?_) (fun hlf => br_t rfl (nm_e ?_))
      · have hv := dg_lv_r (lim := f_lim) (lv := l + 1) (S := (dg_gn (l + 1) (dg_ap l (ix l) (l + 1) S))) (by omega)
        rw [dg_2e9]
        intro z
        have z' : dg_i (dg_lv f_lim (l + 1) (dg_gn (l + 1) (dg_ap l (ix l) (l + 1) S))) = dg_i 2000000000 := z
        rw [dg_i_eq (by omega) (by omega) (by omega) (by omega)] at z'
        omega
      · have hlf' : dg_lf f_lim pl (l + 1) (dg_gn (l + 1) (dg_ap l (ix l) (l + 1) S)) := hlf
        have hv := dg_lv_r (lim := f_lim) (lv := l + 1) (S := (dg_gn (l + 1) (dg_ap l (ix l) (l + 1) S))) (by omega)
        have hpt := dg_pt_leaf (M := dg_m S) (M' := dg_m (dg_gn (l + 1) (dg_ap l (ix l) (l + 1) S))) (ix := ix) (l := l) hm' hlt
        rw [dg_se_leaf hlt rfl hlf'] at hp
        rw [dg_i_neg]
        refine ys_up (v := - dg_lv f_lim (l + 1) (dg_gn (l + 1) (dg_ap l (ix l) (l + 1) S))) (b := dg_yb ix vb l) (by omega) hA0.1 hA0.2 (by omega) (by omega) (by omega) (by omega) (nm_r (nI_1 step) ?_)
        exact ih l (dg_gn (l + 1) (dg_ap l (ix l) (l + 1) S)) _ _ _ _ _ _ _ _ _ _ _ (step + 1) m (dg_H_take hH (dg_Ok_le hO' (by omega)) hm' hlt (by omega) (by omega)) hl (dg_SY_take hH hA (by omega)) (by omega) (by omega) (by omega) hp
      · have hlf' : ¬ dg_lf f_lim pl (l + 1) (dg_gn (l + 1) (dg_ap l (ix l) (l + 1) S)) := hlf
        rw [dg_se_in hlt rfl hlf'] at hp
        have h0 : ¬ (dg_gn (l + 1) (dg_ap l (ix l) (l + 1) S)).2.2.2.1 (l + 1) = 0 := fun z => hlf' (Or.inl z)
        have hlp : l + 1 < pl := by
          apply Classical.byContradiction
          intro z
          exact hlf' (Or.inr (Or.inr (by omega)))
        have hM48' := (dg_L_m (hO'.2.2 (l + 1) (Nat.le_refl _))).1
        have hpt : dg_pt (dg_m (dg_gn (l + 1) (dg_ap l (ix l) (l + 1) S))) (dg_u ix (l + 1) 0) (l + 1 + 1) + 1 ≤ dg_pt (dg_m S) ix (l + 1) := dg_pt_in (by omega) hm' hlt hM48'
        refine ⟨hin1, nm_r (e' := upd idx (l + 1) 0) (by rw [ec1]) ⟨hin1, nm_r (e' := upd best (l + 1) (dg_i (-1000000000))) (by rw [ec1]; rfl) (nm_r (nI_1 step) ?_)⟩⟩
        refine ih (l + 1) (dg_gn (l + 1) (dg_ap l (ix l) (l + 1) S)) _ _ _ _ _ _ _ _ _ _ _ (step + 1) m (dg_H_in hH hlt hO' hm' h0) hlp ⟨fun i hi => ?_, fun z => ?_⟩ (by omega) (by omega) (by omega) hp
        · by_cases e : i = l + 1
          · subst e
            unfold dg_yb
            rw [pk_us, pk_us, dg_us, if_pos rfl]
            exact ⟨nI_0.symm, rfl⟩
          · unfold dg_yb
            rw [pk_un e, pk_un e, dg_un e, dg_uIn e]
            exact hA.1 i (by omega)
        · rw [dg_un (by omega)] at z; exact hA.2 z
    · have hge : dg_m S l ≤ ix l := by omega
      refine br_t (nI_le hge (by omega)) ?_
      have hyv : dg_yb ix vb l = vb l := by unfold dg_yb; rw [if_neg (by omega)]
      rw [hyv] at hA0
      cases l with
      | zero =>
        refine br_t rfl ?_
        rw [dg_se_end hlt] at hp
        have fin := hp S (vb 0) g idx best ps dr cp ex jp rfl
        have hbi := hA.2 (by omega)
        subst hbi
        exact nm_r hA0.2 fin
      | succ l =>
        obtain ⟨hv, hH'⟩ := dg_H_out hH hlt
        have hB0 := hA.1 l (by omega)
        have hvl := (hH'.2.2 l (Nat.le_refl l)).2.2
        have hyb2 : -1000000000 ≤ dg_yb ix vb l ∧ dg_yb ix vb l ≤ 10000 := by
          unfold dg_yb
          rcases hvl with y | y
          · rw [if_pos y.1]; omega
          · rw [if_neg (by omega)]; omega
        refine br_f (nI_ne0 (by omega) (by omega)) ⟨hin, nm_r hA0.2 (nm_r (pk_m1 l) ?_)⟩
        rw [dg_i_neg]
        refine ys_up (v := - vb (l + 1)) (b := dg_yb ix vb l) (by omega) hB0.1 hB0.2 (by omega) (by omega) (by omega) (by omega) (nm_r (nI_1 step) ?_)
        rw [dg_se_out hlt] at hp
        have hpt : dg_pt (dg_m S) (dg_u ix l (ix l + 1)) (l + 1) + 1 ≤ dg_pt (dg_m S) ix (l + 1 + 1) := dg_pt_out
        have hA' : dg_SY l ix vb g idx best bi := ⟨fun i hi => hA.1 i (by omega), hA.2⟩
        exact ih l S _ _ _ _ _ _ _ _ _ _ _ (step + 1) m (dg_H_take hH' hH'.1 (fun _ _ => rfl) (hH.2.1 l (by omega)) (by omega) (by omega)) (by omega) (dg_SY_take hH' hA' (by omega)) (by omega) (by omega) (by omega) hp
