theorem yn_caps_l {f_lim f_last f_logN f_bestIdx : Int32} {a_bd a_sd a_dc a_mc a_ml a_mv a_ps a_dr a_cp a_ex a_log a_idx a_best : Nat → Int32} {post : SY → Prop} {x1 x2 x3 : Int32} 
    (h : ∀ jp', (∀ i, i < 32 → jp' i = 0) → ∃ n63 : Nat, wY_capFrom_63 post x1 x3 n63 0 0 f_lim f_last f_logN f_bestIdx a_bd a_sd a_dc a_mc a_ml a_mv (upd a_ps 0 x2) (upd a_dr 0 0) a_cp (upd a_ex 0 0) jp' a_log a_idx a_best) :
    ∀ (m i n : Nat) (jp : Nat → Int32), i + m = 32 → m < n → (∀ e, e < i → jp e = 0) → wY_capFrom_15 post x1 x2 x3 f_lim f_last f_logN f_bestIdx n (nI i) a_bd a_sd a_dc a_mc a_ml a_mv a_ps a_dr a_cp a_ex jp a_log a_idx a_best := by
  have b0 : vp_nar .boolean 0 = 0 := by decide
  intro m
  induction m with
  | zero =>
    intro i n jp hi hn hz
    obtain ⟨n, rfl⟩ : ∃ g, n = g + 1 := ⟨n - 1, by omega⟩
    obtain rfl : i = 32 := by omega
    exact br_t (nI_le (a := 32) (Nat.le_refl 32) (by omega)) (nm_e (nm_e (nm_r (e' := upd a_ex 0 0) (by rw [b0]) (h jp hz))))
  | succ m ih =>
    intro i n jp hi hn hz
    obtain ⟨n, rfl⟩ : ∃ g, n = g + 1 := ⟨n - 1, by omega⟩
    refine br_f (nI_ge (b := 32) (by omega) (by omega)) ⟨vp_in_nI (by omega) (by omega), nm_r (e' := upd jp i 0) (by rw [nI_clamp (by omega), b0]) (nm_r (nI_1 i) (ih (i + 1) n _ (by omega) (by omega) fun e he => ?_))⟩
    by_cases z : e = i
    · subst z; exact pk_us
    · rw [pk_un z]; exact hz e (by omega)
theorem yn_caps {f_lim f_last f_logN f_bestIdx : Int32} {a_bd a_sd a_dc a_ps a_dr a_cp a_ex a_jp a_log a_idx a_best : Nat → Int32} {post : SY → Prop} {lv s : Nat} {T : (Nat → Int32) × (Nat → Int32) × (Nat → Int32)} (hB : dg_B a_bd) (hlv : lv < 4) (hs : s < 32) (hQ : dg_Q T lv)
    (h : ∀ ps' dr' cp' ex' jp', post (f_lim, f_last, f_logN, f_bestIdx, a_bd, a_sd, a_dc, ((dg_cap 700000 (dg_bl a_bd lv) (dg_bl a_bd lv s) s).foldl (dg_rec lv) T).1, ((dg_cap 700000 (dg_bl a_bd lv) (dg_bl a_bd lv s) s).foldl (dg_rec lv) T).2.1, ((dg_cap 700000 (dg_bl a_bd lv) (dg_bl a_bd lv s) s).foldl (dg_rec lv) T).2.2, ps', dr', cp', ex', jp', a_log, a_idx, a_best)) :
    wpY_capFrom post (f_lim, f_last, f_logN, f_bestIdx, a_bd, a_sd, a_dc, T.1, T.2.1, T.2.2, a_ps, a_dr, a_cp, a_ex, a_jp, a_log, a_idx, a_best) (nI lv) (nI s) := by
  have hv := dg_B_b hB (i := lv * 32 + s) (by omega)
  have e1 : nI lv * 32 + nI s = nI (lv * 32 + s) := by rw [show (32 : Int32) = nI 32 from rfl, pk_mul, nI_add]
  refine ⟨by rw [e1]; exact vp_in_nI (by omega) (by omega), nm_r (e' := nI (dg_bl a_bd lv s)) (by rw [e1, nI_clamp (by omega)]; exact hv.1) ⟨33, ?_⟩⟩
  refine yn_caps_l (fun jp' hz => ⟨700000, ?_⟩) 32 0 33 _ (by omega) (by omega) (fun e he => absurd he (Nat.not_lt_zero e))
  refine yn_walk hB hlv hv.2 hs 700000 1 (fun _ => s) (fun _ => 0) (fun _ => dg_fst (dg_bl a_bd lv s)) (fun _ => 0) (fun _ => 1) (fun _ => 0) T _ _ _ _ _ 0 700000 (dg_K_0 hs) (fun k e => ?_) hz hQ ?_ ?_ ?_ h
  · obtain rfl : k = 0 := by omega
    refine ⟨fun i hi => ?_, fun i hi => absurd hi (Nat.not_lt_zero i)⟩
    obtain rfl : i = 0 := by omega
    exact ⟨pk_us, pk_us, fun z => absurd z (by omega)⟩
  · have := dg_ps_0 (fun _ => dg_fst (dg_bl a_bd lv s)); omega
  · have := dg_ps_0 (fun _ => dg_fst (dg_bl a_bd lv s)); omega
  · have := dg_ps_0 (fun _ => dg_fst (dg_bl a_bd lv s)); omega
/-- the steps of one piece -/
theorem yn_sim_l {f_lim f_last f_logN f_bestIdx : Int32} {a_bd a_sd a_dc a_dr a_cp a_ex a_jp a_log a_idx a_best : Nat → Int32} {post : SY → Prop} {J63 : Int32 → Int32 → Int32 → Int32 → Int32 → (Nat → Int32) → (Nat → Int32) → (Nat → Int32) → (Nat → Int32) → (Nat → Int32) → (Nat → Int32) → (Nat → Int32) → (Nat → Int32) → (Nat → Int32) → (Nat → Int32) → (Nat → Int32) → (Nat → Int32) → (Nat → Int32) → (Nat → Int32) → Prop} {lv c s : Nat} (hB : dg_B a_bd) (hlv : lv < 4) (hs : s < 32) (hc : c ≤ 4) :
    ∀ (m d n : Nat) (T : (Nat → Int32) × (Nat → Int32) × (Nat → Int32)) (ps : Nat → Int32), d + m = 4 → m < n → dg_Q T lv →
      (∀ ps', J63 (nI (s + 1)) f_lim f_last f_logN f_bestIdx a_bd a_sd a_dc (((dg_sm (dg_bl a_bd lv) c s m d).foldl (dg_rec lv) T).1) (((dg_sm (dg_bl a_bd lv) c s m d).foldl (dg_rec lv) T).2.1) (((dg_sm (dg_bl a_bd lv) c s m d).foldl (dg_rec lv) T).2.2) ps' a_dr a_cp a_ex a_jp a_log a_idx a_best) →
      wY_gen_101 post J63 (nI lv) (nI s) (nI c) n (nI d) f_lim f_last f_logN f_bestIdx a_bd a_sd a_dc T.1 T.2.1 T.2.2 ps a_dr a_cp a_ex a_jp a_log a_idx a_best := by
  intro m
  induction m with
  | zero =>
    intro d n T ps hd hn hQ h
    obtain ⟨n, rfl⟩ : ∃ g, n = g + 1 := ⟨n - 1, by omega⟩
    obtain rfl : d = 4 := by omega
    exact br_t (nI_le (a := 4) (Nat.le_refl 4) (by omega)) (nm_r (nI_1 s) (h ps))
  | succ m ih =>
    intro d n T ps hd hn hQ h
    obtain ⟨n, rfl⟩ : ∃ g, n = g + 1 := ⟨n - 1, by omega⟩
    have nxt : ¬ dg_R (dg_bl a_bd lv) c s d → ∀ y, y = nI d + 1 → wY_gen_101 post J63 (nI lv) (nI s) (nI c) n y f_lim f_last f_logN f_bestIdx a_bd a_sd a_dc T.1 T.2.1 T.2.2 ps a_dr a_cp a_ex a_jp a_log a_idx a_best := by
      intro hP
      rw [dg_sm_n hP] at h
      exact nm_r (nI_1 d) (ih (d + 1) n T ps (by omega) (by omega) hQ h)
    refine br_f (nI_ge (b := 4) (by omega) (by omega)) (yn_nb hs (by omega) ?_)
    by_cases hT : dg_T s d < 32
    · rw [dg_enc_lt hT]
      refine br_f (dg_enc_n _ hT).2 (yn_ok hc (by omega) (fun hok => br_f (by decide) ?_) (fun hok => br_t rfl (nxt fun hP => hok hP.1)))
      have e2 : nI lv * 32 + nI (dg_T s d) = nI (lv * 32 + dg_T s d) := by rw [show (32 : Int32) = nI 32 from rfl, pk_mul, nI_add]
      rw [e2]
      refine ⟨vp_in_nI (by omega) (by omega), ?_⟩
      have hv := dg_B_b hB (i := lv * 32 + dg_T s d) (by omega)
      rw [nI_clamp (by omega), hv.1]
      refine pk_eq (dg_b a_bd (lv * 32 + dg_T s d)) 0 (fun z => ?_) (fun z => nxt fun hP => z hP.2.2) (ha := by have := hv.2; omega)
      rw [dg_sm_y ⟨hok, hT, z⟩] at h
      refine nm_e (nm_e ?_)
      refine yn_rec (L := 1) (q := dg_two s (dg_T s d)) hlv hQ (by omega) (fun i hi => ?_) ?_
      · have : i = 0 ∨ i = 1 := by omega
        rcases this with rfl | rfl
        · rw [pk_un (by omega)]; exact pk_us
        · exact pk_us
      · exact nm_r (nI_1 d) (ih (d + 1) n (dg_rec lv T (2, dg_two s (dg_T s d))) _ (by omega) (by omega) (dg_rec_Q _ hQ) h)
    · rw [dg_enc_ge hT]
      exact br_t (by decide) (nxt fun hP => hT hP.2.1)
theorem yn_lm2 {f_lim f_last f_logN f_bestIdx : Int32} {a_bd a_sd a_dc a_dr a_cp a_ex a_jp a_log a_idx a_best : Nat → Int32} {post : SY → Prop} {lv : Nat} (hB : dg_B a_bd) (hS : dg_S a_sd) (hlv : lv < 4) :
    ∀ (m s n : Nat) (T : (Nat → Int32) × (Nat → Int32) × (Nat → Int32)) (ps : Nat → Int32), s + m = 32 → m < n → dg_Q T lv →
      (∀ ps', post (f_lim, f_last, f_logN, f_bestIdx, a_bd, a_sd, a_dc, ((dg_sms (dg_bl a_bd lv) (a_sd lv) m s).foldl (dg_rec lv) T).1, ((dg_sms (dg_bl a_bd lv) (a_sd lv) m s).foldl (dg_rec lv) T).2.1, ((dg_sms (dg_bl a_bd lv) (a_sd lv) m s).foldl (dg_rec lv) T).2.2, ps', a_dr, a_cp, a_ex, a_jp, a_log, a_idx, a_best)) →
      wY_gen_63 post (nI lv) n (nI s) f_lim f_last f_logN f_bestIdx a_bd a_sd a_dc T.1 T.2.1 T.2.2 ps a_dr a_cp a_ex a_jp a_log a_idx a_best := by
  intro m
  induction m with
  | zero =>
    intro s n T ps hs hn hQ h
    obtain ⟨n, rfl⟩ : ∃ g, n = g + 1 := ⟨n - 1, by omega⟩
    obtain rfl : s = 32 := by omega
    exact br_t (nI_le (a := 32) (Nat.le_refl 32) (by omega)) (h ps)
  | succ m ih =>
    intro s n T ps hs hn hQ h
    obtain ⟨n, rfl⟩ : ∃ g, n = g + 1 := ⟨n - 1, by omega⟩
    have hv := dg_B_b hB (i := lv * 32 + s) (by omega)
    have e1 : nI lv * 32 + nI s = nI (lv * 32 + s) := by rw [show (32 : Int32) = nI 32 from rfl, pk_mul, nI_add]
    refine br_f (nI_ge (b := 32) (by omega) (by omega)) ?_
    rw [e1, nI_clamp (n := lv * 32 + s) (by omega), hv.1, nI_clamp (n := lv) (by omega)]
    refine ⟨vp_in_nI (by omega) (by omega), nm_e ⟨vp_in_nI hlv (by omega), yn_own hv.2 (hS lv hlv) (fun hw => br_f (by decide) ⟨5, ?_⟩) (fun hw => br_t rfl (nm_r (nI_1 s) ?_))⟩⟩
    · have hw' : dg_own (dg_bl a_bd lv s) (a_sd lv) := hw
      rw [dg_sms_y hw', List.foldl_append] at h
      refine yn_sim_l hB hlv (by omega) hv.2 4 0 5 T ps (by omega) (by omega) hQ fun ps' => ?_
      exact ih (s + 1) n _ ps' (by omega) (by omega) (dg_fold_Q _ hQ) h
    · have hw' : ¬ dg_own (dg_bl a_bd lv s) (a_sd lv) := hw
      rw [dg_sms_n hw'] at h
      exact ih (s + 1) n T ps (by omega) (by omega) hQ h
theorem yn_lm1 {f_lim f_last f_logN f_bestIdx : Int32} {a_bd a_sd a_dc a_log a_idx a_best : Nat → Int32} {post : SY → Prop} {lv : Nat} (hB : dg_B a_bd) (hS : dg_S a_sd) (hlv : lv < 4) :
    ∀ (m s n : Nat) (T : (Nat → Int32) × (Nat → Int32) × (Nat → Int32)) (ps dr cp ex jp : Nat → Int32), s + m = 32 → m < n → dg_Q T lv →
      (∀ (ps' dr' cp' ex' jp' : Nat → Int32) (T' : (Nat → Int32) × (Nat → Int32) × (Nat → Int32)), T' = (dg_caps 700000 (dg_bl a_bd lv) (a_sd lv) m s).foldl (dg_rec lv) T → ((T'.1 lv ≤ 0 → ∃ n63 : Nat, wY_gen_63 post (nI lv) n63 0 f_lim f_last f_logN f_bestIdx a_bd a_sd a_dc T'.1 T'.2.1 T'.2.2 ps' dr' cp' ex' jp' a_log a_idx a_best) ∧ (¬ T'.1 lv ≤ 0 → post (f_lim, f_last, f_logN, f_bestIdx, a_bd, a_sd, a_dc, T'.1, T'.2.1, T'.2.2, ps', dr', cp', ex', jp', a_log, a_idx, a_best)))) →
      wY_gen_9 post (nI lv) n (nI s) f_lim f_last f_logN f_bestIdx a_bd a_sd a_dc T.1 T.2.1 T.2.2 ps dr cp ex jp a_log a_idx a_best := by
  intro m
  induction m with
  | zero =>
    intro s n T ps dr cp ex jp hs hn hQ h
    obtain ⟨n, rfl⟩ : ∃ g, n = g + 1 := ⟨n - 1, by omega⟩
    obtain rfl : s = 32 := by omega
    refine br_t (nI_le (a := 32) (Nat.le_refl 32) (by omega)) ⟨vp_in_nI hlv (by omega), ?_⟩
    rw [nI_clamp (n := lv) (by omega)]
    exact h ps dr cp ex jp T rfl
  | succ m ih =>
    intro s n T ps dr cp ex jp hs hn hQ h
    obtain ⟨n, rfl⟩ : ∃ g, n = g + 1 := ⟨n - 1, by omega⟩
    have hv := dg_B_b hB (i := lv * 32 + s) (by omega)
    have e1 : nI lv * 32 + nI s = nI (lv * 32 + s) := by rw [show (32 : Int32) = nI 32 from rfl, pk_mul, nI_add]
    refine br_f (nI_ge (b := 32) (by omega) (by omega)) ?_
    rw [e1, nI_clamp (n := lv * 32 + s) (by omega), hv.1, nI_clamp (n := lv) (by omega)]
    refine ⟨vp_in_nI (by omega) (by omega), vp_in_nI hlv (by omega), yn_own hv.2 (hS lv hlv) (fun hw => br_f (by decide) ?_) (fun hw => br_t rfl (nm_r (nI_1 s) ?_))⟩
    · have hw' : dg_own (dg_bl a_bd lv s) (a_sd lv) := hw
      rw [dg_caps_y hw', List.foldl_append] at h
      refine yn_caps hB hlv (by omega) hQ fun ps' dr' cp' ex' jp' => nm_r (nI_1 s) ?_
      exact ih (s + 1) n _ ps' dr' cp' ex' jp' (by omega) (by omega) (dg_fold_Q _ hQ) h
    · have hw' : ¬ dg_own (dg_bl a_bd lv s) (a_sd lv) := hw
      rw [dg_caps_n hw'] at h
      exact ih (s + 1) n T ps dr cp ex jp (by omega) (by omega) hQ h
/-- all moves of a level -/
theorem yn_gen {f_lim f_last f_logN f_bestIdx : Int32} {a_bd a_sd a_dc a_mc a_ml a_mv a_ps a_dr a_cp a_ex a_jp a_log a_idx a_best : Nat → Int32} {post : SY → Prop} {lv : Nat} (hB : dg_B a_bd) (hS : dg_S a_sd) (hlv : lv < 4)
    (h : ∀ ps' dr' cp' ex' jp', post (f_lim, f_last, f_logN, f_bestIdx, a_bd, a_sd, a_dc, (dg_gen lv (dg_bl a_bd lv) (a_sd lv) a_mc a_ml a_mv).1, (dg_gen lv (dg_bl a_bd lv) (a_sd lv) a_mc a_ml a_mv).2.1, (dg_gen lv (dg_bl a_bd lv) (a_sd lv) a_mc a_ml a_mv).2.2, ps', dr', cp', ex', jp', a_log, a_idx, a_best)) :
    wpY_gen post (f_lim, f_last, f_logN, f_bestIdx, a_bd, a_sd, a_dc, a_mc, a_ml, a_mv, a_ps, a_dr, a_cp, a_ex, a_jp, a_log, a_idx, a_best) (nI lv) := by
  have hQ0 : dg_Q (upd a_mc lv 0, a_ml, a_mv) lv := ⟨0, by omega, pk_us⟩
  refine ⟨vp_in_nI hlv (by omega), nm_r (e' := upd a_mc lv 0) (by rw [nI_clamp (by omega)]) ⟨33, ?_⟩⟩
  refine yn_lm1 hB hS hlv 32 0 33 (upd a_mc lv 0, a_ml, a_mv) _ _ _ _ _ (by omega) (by omega) hQ0 ?_
  intro ps' dr' cp' ex' jp' T' eT
  have hQ' : dg_Q T' lv := by rw [eT]; exact dg_fold_Q _ hQ0
  obtain ⟨M, hM, eM⟩ := hQ'
  unfold dg_gen at h
  rw [← eT, eM] at h
  rw [eM]
  refine br_c (fun z => ⟨33, ?_⟩) (fun z => ?_)
  · rw [if_pos ((dg_le0 hM).mp z)] at h
    exact yn_lm2 hB hS hlv 32 0 33 T' ps' (by omega) (by omega) ⟨M, hM, eM⟩ fun ps'' => h ps'' dr' cp' ex' jp'
  · rw [if_neg (fun e => z ((dg_le0 hM).mpr e))] at h
    exact h ps' dr' cp' ex' jp'
