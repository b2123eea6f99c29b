/-! the reference's listing of moves -/
def dg_colE (s : Int32) : Int32 := if s / 4 - s / 4 / 2 * 2 = 0 then 2 * (s - s / 4 * 4) + 1 else 2 * (s - s / 4 * 4)
def dg_f34 (r z c : Int32) : Int32 := if r < 0 then -1 else if 7 < r then -1 else if c + z < 0 then -1 else if c + z ≤ 7 then r * 4 + (c + z) / 2 else -1
def dg_nbE (s d : Int32) : Int32 := dg_f34 (s / 4 + (if 2 ≤ d then 1 else -1)) (if d - d / 2 * 2 = 0 then -1 else 1) (dg_colE s)
theorem dg_nbE_T : ∀ s, s < 32 → ∀ d, d < 4 → dg_nbE (nI s) (nI d) = dg_enc (dg_T s d) := by decide +kernel
theorem yn_h4 : ¬ (4 : Int32) = 0 := by decide
theorem yn_h2 : ¬ (2 : Int32) = 0 := by decide
theorem yn_34 {f_lim f_last f_logN f_bestIdx : Int32} {a_bd a_sd a_dc a_mc a_ml a_mv a_ps a_dr a_cp a_ex a_jp a_log a_idx a_best : Nat → Int32} {post : Int32 → Prop} {r z c : Int32} (h : post (dg_f34 r z c)) : wY_nb_34 post r z c f_lim f_last f_logN f_bestIdx a_bd a_sd a_dc a_mc a_ml a_mv a_ps a_dr a_cp a_ex a_jp a_log a_idx a_best := by
  unfold dg_f34 at h
  refine nm_e (br_c (fun a => ?_) (fun a => br_c (fun b => ?_) (fun b => br_c (fun d => ?_) (fun d => br_c (fun e => ⟨yn_h2, ?_⟩) (fun e => ?_)))))
  · rw [if_pos a] at h; exact h
  · rw [if_neg a, if_pos b] at h; exact h
  · rw [if_neg a, if_neg b, if_pos d] at h; exact h
  · rw [if_neg a, if_neg b, if_neg d, if_pos e] at h; exact h
  · rw [if_neg a, if_neg b, if_neg d, if_neg e] at h; exact h
theorem yn_19 {f_lim f_last f_logN f_bestIdx : Int32} {a_bd a_sd a_dc a_mc a_ml a_mv a_ps a_dr a_cp a_ex a_jp a_log a_idx a_best : Nat → Int32} {post : Int32 → Prop} {d c z r : Int32} (h : post (dg_f34 (r + z) (if d - d / 2 * 2 = 0 then -1 else 1) c)) : wY_nb_19 post d c z r f_lim f_last f_logN f_bestIdx a_bd a_sd a_dc a_mc a_ml a_mv a_ps a_dr a_cp a_ex a_jp a_log a_idx a_best := by
  refine nm_e ⟨yn_h2, br_c (fun a => yn_34 ?_) (fun a => yn_34 ?_)⟩
  · rw [if_pos a] at h; exact h
  · rw [if_neg a] at h; exact h
theorem yn_col {f_lim f_last f_logN f_bestIdx : Int32} {a_bd a_sd a_dc a_mc a_ml a_mv a_ps a_dr a_cp a_ex a_jp a_log a_idx a_best : Nat → Int32} {post : Int32 → Prop} {s : Int32} (h : post (dg_colE s)) : wpY_col post (f_lim, f_last, f_logN, f_bestIdx, a_bd, a_sd, a_dc, a_mc, a_ml, a_mv, a_ps, a_dr, a_cp, a_ex, a_jp, a_log, a_idx, a_best) s := by
  unfold dg_colE at h
  refine ⟨yn_h4, nm_e ⟨yn_h2, br_c (fun a => ⟨yn_h4, ?_⟩) (fun a => ⟨yn_h4, ?_⟩)⟩⟩
  · rw [if_pos a] at h; exact h
  · rw [if_neg a] at h; exact h
theorem yn_nbE {f_lim f_last f_logN f_bestIdx : Int32} {a_bd a_sd a_dc a_mc a_ml a_mv a_ps a_dr a_cp a_ex a_jp a_log a_idx a_best : Nat → Int32} {post : Int32 → Prop} {s d : Int32} (h : post (dg_nbE s d)) : wpY_nb post (f_lim, f_last, f_logN, f_bestIdx, a_bd, a_sd, a_dc, a_mc, a_ml, a_mv, a_ps, a_dr, a_cp, a_ex, a_jp, a_log, a_idx, a_best) s d := by
  unfold dg_nbE at h
  unfold wpY_nb
  refine yn_col ?_
  refine ⟨yn_h4, br_c (fun a => yn_19 ?_) (fun a => yn_19 ?_)⟩
  · rw [if_pos a] at h; exact h
  · rw [if_neg a] at h; exact h
theorem yn_nb {f_lim f_last f_logN f_bestIdx : Int32} {a_bd a_sd a_dc a_mc a_ml a_mv a_ps a_dr a_cp a_ex a_jp a_log a_idx a_best : Nat → Int32} {post : Int32 → Prop} {s d : Nat} (hs : s < 32) (hd : d < 4) (h : post (dg_enc (dg_T s d))) : wpY_nb post (f_lim, f_last, f_logN, f_bestIdx, a_bd, a_sd, a_dc, a_mc, a_ml, a_mv, a_ps, a_dr, a_cp, a_ex, a_jp, a_log, a_idx, a_best) (nI s) (nI d) :=
  yn_nbE (by rw [dg_nbE_T s hs d hd]; exact h)
theorem yn_ok {f_lim f_last f_logN f_bestIdx : Int32} {a_bd a_sd a_dc a_mc a_ml a_mv a_ps a_dr a_cp a_ex a_jp a_log a_idx a_best : Nat → Int32} {post : Int32 → Prop} {c d : Nat} (hc : c ≤ 4) (hd : d ≤ 4) (h1 : dg_ok c d → post 1) (h0 : ¬ dg_ok c d → post 0) : wpY_dirOk post (f_lim, f_last, f_logN, f_bestIdx, a_bd, a_sd, a_dc, a_mc, a_ml, a_mv, a_ps, a_dr, a_cp, a_ex, a_jp, a_log, a_idx, a_best) (nI c) (nI d) := by
  unfold dg_ok at h1 h0
  refine pk_eq c 1 (fun e => pk_lt d 2 (fun l => h0 ?_) (fun l => h1 ?_)) (fun e => pk_eq c 3 (fun e3 => pk_le 2 d (fun l => h0 ?_) (fun l => h1 ?_)) (fun e3 => h1 ?_))
  · intro z; have := z.1 e; omega
  · exact ⟨fun _ => l, fun z => by omega⟩
  · intro z; have := z.2 e3; omega
  · exact ⟨fun z => by omega, fun _ => l⟩
  · exact ⟨fun z => absurd z e, fun z => absurd z e3⟩
theorem yn_own {f_lim f_last f_logN f_bestIdx : Int32} {a_bd a_sd a_dc a_mc a_ml a_mv a_ps a_dr a_cp a_ex a_jp a_log a_idx a_best : Nat → Int32} {post : Int32 → Prop} {c : Nat} {sd : Int32} (hc : c ≤ 4) (hs : sd = 0 ∨ sd = 1) (h1 : dg_own c sd → post 1) (h0 : ¬ dg_own c sd → post 0) : wpY_own post (f_lim, f_last, f_logN, f_bestIdx, a_bd, a_sd, a_dc, a_mc, a_ml, a_mv, a_ps, a_dr, a_cp, a_ex, a_jp, a_log, a_idx, a_best) (nI c) sd := by
  unfold dg_own at h1 h0
  have n01 : ¬ (0 : Int32) = 1 := by decide
  have n10 : ¬ (1 : Int32) = 0 := by decide
  refine pk_eq c 0 (fun e => h0 ?_) (fun e => pk_lt 2 c (fun l => ?_) (fun l => ?_))
  · rintro (z | z)
    · exact z.1 e
    · have := z.1; omega
  · rcases hs with rfl | rfl
    · refine br_t rfl (br_f n01 (h0 ?_))
      rintro (z | z)
      · have := z.2.1; omega
      · exact n01 z.2
    · exact br_f n10 (br_t rfl (h1 (Or.inr ⟨l, rfl⟩)))
  · rcases hs with rfl | rfl
    · exact br_t rfl (br_t rfl (h1 (Or.inl ⟨e, by omega, rfl⟩)))
    · refine br_f n10 (br_f n10 (h0 ?_))
      rintro (z | z)
      · exact n10 z.2.2
      · have := z.1; omega
theorem yn_le0 : ∀ n, n < 32 → (0 : Int32) ≤ nI n := by decide +kernel
/-- the search for a jump -/
theorem yn_fj_l {f_lim f_last f_logN f_bestIdx : Int32} {a_bd a_sd a_dc a_mc a_ml a_mv a_ps a_dr a_cp a_ex a_jp a_log a_idx a_best : Nat → Int32} {post : Int32 → Prop} {lv c s0 q : Nat} {J : Nat → Int32} (hB : dg_B a_bd) (hlv : lv < 4) (hc : c ≤ 4) (hq : q < 32) (hs0 : s0 < 32) (hJ : ∀ n, n < 32 → a_jp n = J n) :
    ∀ m d n, d + m = 4 → m < n → post (dg_r (dg_sc (dg_P (dg_bl a_bd lv) J c s0 q) m d)) → wY_findJump_30 post (nI c) (nI q) (nI s0) (nI (lv * 32)) f_lim f_last f_logN f_bestIdx a_bd a_sd a_dc a_mc a_ml a_mv a_ps a_dr a_cp a_ex a_jp a_log a_idx a_best n (nI d) := by
  intro m
  induction m with
  | zero =>
    intro d n hd hn hp
    obtain ⟨n, rfl⟩ : ∃ g, n = g + 1 := ⟨n - 1, by omega⟩
    obtain rfl : d = 4 := by omega
    exact br_t (nI_le (a := 4) (Nat.le_refl 4) (by omega)) hp
  | succ m ih =>
    intro d n hd hn hp
    obtain ⟨n, rfl⟩ : ∃ g, n = g + 1 := ⟨n - 1, by omega⟩
    have nxt : ¬ dg_P (dg_bl a_bd lv) J c s0 q d → ∀ y, y = nI d + 1 → wY_findJump_30 post (nI c) (nI q) (nI s0) (nI (lv * 32)) f_lim f_last f_logN f_bestIdx a_bd a_sd a_dc a_mc a_ml a_mv a_ps a_dr a_cp a_ex a_jp a_log a_idx a_best n y := by
      intro hP
      rw [dg_sc_n hP] at hp
      exact nm_r (nI_1 d) (ih (d + 1) n (by omega) (by omega) hp)
    have hit : dg_P (dg_bl a_bd lv) J c s0 q d → post (nI d) := by
      intro hP
      rw [dg_sc_y hP, dg_r_lt (by omega)] at hp
      exact hp
    refine br_f (nI_ge (b := 4) (by omega) (by omega)) (yn_ok hc (by omega) (fun hok => ?_) (fun hok => br_t rfl (nxt fun hP => hok hP.1)))
    refine br_f (by decide) (yn_nb hq (by omega) ?_)
    by_cases hT : dg_T q d < 32
    · rw [dg_enc_lt hT]
      refine br_t (yn_le0 _ hT) (yn_nb hT (by omega) ?_)
      by_cases hL : dg_T (dg_T q d) d < 32
      · rw [dg_enc_lt hL]
        refine br_f (dg_enc_n _ hL).2 ⟨vp_in_nI hT (by omega), ?_⟩
        rw [nI_clamp (by omega), hJ _ hT]
        refine br_c (fun j0 => ?_) (fun j1 => nxt fun hP => j1 hP.2.2.2.1)
        have e2 : nI (lv * 32) + nI (dg_T q d) = nI (lv * 32 + dg_T q d) := nI_add _ _
        have e4 : nI (lv * 32) + nI (dg_T (dg_T q d) d) = nI (lv * 32 + dg_T (dg_T q d) d) := nI_add _ _
        have hv := dg_B_b hB (i := lv * 32 + dg_T q d) (by omega)
        have hw := dg_B_b hB (i := lv * 32 + dg_T (dg_T q d) d) (by omega)
        rw [e2]
        refine ⟨vp_in_nI (by omega) (by omega), nm_r (e' := nI (dg_b a_bd (lv * 32 + dg_T q d))) (by rw [nI_clamp (by omega)]; exact hv.1) ?_⟩
        have go : ∀ z0 z1 : Int32, (¬ dg_b a_bd (lv * 32 + dg_T q d) = 0) → (z1 = z0 ↔ (dg_b a_bd (lv * 32 + dg_T q d) ≤ 2 ↔ c ≤ 2)) → wY_findJump_133 post (wY_findJump_30 post (nI c) (nI q) (nI s0) (nI (lv * 32)) f_lim f_last f_logN f_bestIdx a_bd a_sd a_dc a_mc a_ml a_mv a_ps a_dr a_cp a_ex a_jp a_log a_idx a_best n) (nI c) (nI q) (nI s0) (nI (lv * 32)) (nI d) (nI (dg_T (dg_T q d) d)) z0 z1 f_lim f_last f_logN f_bestIdx a_bd a_sd a_dc a_mc a_ml a_mv a_ps a_dr a_cp a_ex a_jp a_log a_idx a_best := by
          intro z0 z1 hv0 hz
          refine br_c (fun z => nxt fun hP => hP.2.2.2.2.1.2 (hz.mp z)) (fun z => ?_)
          rw [e4]
          refine ⟨vp_in_nI (by omega) (by omega), ?_⟩
          rw [nI_clamp (by omega), hw.1]
          refine pk_eq (dg_b a_bd (lv * 32 + dg_T (dg_T q d) d)) 0 (fun a => hit ⟨hok, hT, hL, j0, ⟨hv0, fun b => z (hz.mpr b)⟩, Or.inl a⟩) (fun a => pk_eq (dg_T (dg_T q d) d) s0 (fun b => hit ⟨hok, hT, hL, j0, ⟨hv0, fun b => z (hz.mpr b)⟩, Or.inr b⟩) (fun b => nxt fun hP => ?_))
          rcases hP.2.2.2.2.2 with h | h
          · exact a h
          · exact b h
        have n01 : ¬ (0 : Int32) = 1 := by decide
        have n10 : ¬ (1 : Int32) = 0 := by decide
        have hv4 := hv.2
        refine pk_eq (dg_b a_bd (lv * 32 + dg_T q d)) 0 (fun a => nxt fun hP => hP.2.2.2.2.1.1 a) (fun a => pk_lt 2 (dg_b a_bd (lv * 32 + dg_T q d)) (fun l => ?_) (fun l => ?_))
        · refine pk_lt 2 c (fun l2 => go 0 0 a ⟨fun _ => ⟨fun _ => by omega, fun _ => by omega⟩, fun _ => rfl⟩) (fun l2 => go 1 0 a ⟨fun z => absurd z n01, fun z => ?_⟩)
          have := z.mpr l2; omega
        · refine pk_lt 2 c (fun l2 => go 0 1 a ⟨fun z => absurd z n10, fun z => ?_⟩) (fun l2 => go 1 1 a ⟨fun _ => ⟨fun _ => l2, fun _ => l⟩, fun _ => rfl⟩)
          have := z.mp l; omega
      · rw [dg_enc_ge hL]
        exact br_t (by decide) (nxt fun hP => hL hP.2.2.1)
    · rw [dg_enc_ge hT]
      exact br_f (by decide) (nxt fun hP => hT hP.2.1)
theorem yn_fj {f_lim f_last f_logN f_bestIdx : Int32} {a_bd a_sd a_dc a_mc a_ml a_mv a_ps a_dr a_cp a_ex a_jp a_log a_idx a_best : Nat → Int32} {post : Int32 → Prop} {lv c k s0 q y : Nat} {J : Nat → Int32} (hB : dg_B a_bd) (hlv : lv < 4) (hc : c ≤ 4) (hk : k < 13) (hq : q < 32) (hs0 : s0 < 32) (hJ : ∀ n, n < 32 → a_jp n = J n) (hpk : a_ps k = nI q) (hp0 : a_ps 0 = nI s0) (hy : a_dr k = nI y) (hy4 : y ≤ 4)
    (hp : post (dg_r (dg_sc (dg_P (dg_bl a_bd lv) J c s0 q) (4 - y) y))) : wpY_findJump post (f_lim, f_last, f_logN, f_bestIdx, a_bd, a_sd, a_dc, a_mc, a_ml, a_mv, a_ps, a_dr, a_cp, a_ex, a_jp, a_log, a_idx, a_best) (nI lv) (nI c) (nI k) := by
  have ec : (nI k).toNatClampNeg = k := nI_clamp (by omega)
  refine ⟨vp_in_nI hk (by omega), nm_r (e' := nI q) (by rw [ec, hpk]) (nm_r hp0 (nm_r (e' := nI (lv * 32)) (pk_mul lv 32) ⟨vp_in_nI hk (by omega), nm_r (e' := nI y) (by rw [ec, hy]) ⟨5, ?_⟩⟩))⟩
  exact yn_fj_l hB hlv hc hq hs0 hJ (4 - y) y 5 (by omega) (by omega) hp
/-- a path is kept -/
theorem yn_rec_l {f_lim f_last f_logN f_bestIdx : Int32} {a_bd a_sd a_dc a_mc a_ml a_mv a_ps a_dr a_cp a_ex a_jp a_log a_idx a_best : Nat → Int32} {post : SY → Prop} {lv L s M : Nat} {q : Nat → Nat} (hlv : lv < 4) (hs : s < 192) (hL : L < 13) (hp : ∀ i, i ≤ L → a_ps i = nI (q i)) (hM : a_mc lv = nI M) (hsM : s = lv * 48 + M) (hM48 : M < 48)
    (h : post (f_lim, f_last, f_logN, f_bestIdx, a_bd, a_sd, a_dc, upd a_mc lv (nI (M + 1)), upd a_ml s (nI (L + 1)), dg_wr a_mv (s * 13) q (L + 1), a_ps, a_dr, a_cp, a_ex, a_jp, a_log, a_idx, a_best)) :
    ∀ m i n, i + m = L + 1 → m < n → wY_rec_30 post (nI lv) (nI L) (nI (s * 13)) f_lim f_last f_logN f_bestIdx n (nI i) a_bd a_sd a_dc a_mc a_ml (dg_wr a_mv (s * 13) q i) a_ps a_dr a_cp a_ex a_jp a_log a_idx a_best := by
  have ec : (nI lv).toNatClampNeg = lv := nI_clamp (by omega)
  intro m
  induction m with
  | zero =>
    intro i n hi hn
    obtain ⟨n, rfl⟩ : ∃ g, n = g + 1 := ⟨n - 1, by omega⟩
    obtain rfl : i = L + 1 := by omega
    have e1 : nI lv * 48 + a_mc (nI lv).toNatClampNeg = nI s := by rw [ec, hM, show (48 : Int32) = nI 48 from rfl, pk_mul, nI_add, hsM]
    refine br_t (nI_lt (by omega) (by omega)) ⟨vp_in_nI hlv (by omega), ?_⟩
    rw [e1]
    refine ⟨vp_in_nI hs (by omega), nm_r (e' := upd a_ml s (nI (L + 1))) (by rw [nI_clamp (by omega), nI_1]) ⟨vp_in_nI hlv (by omega), vp_in_nI hlv (by omega), nm_r (e' := upd a_mc lv (nI (M + 1))) (by rw [ec, hM, nI_1]) h⟩⟩
  | succ m ih =>
    intro i n hi hn
    obtain ⟨n, rfl⟩ : ∃ g, n = g + 1 := ⟨n - 1, by omega⟩
    have e1 : nI (s * 13) + nI i = nI (s * 13 + i) := nI_add _ _
    refine br_f (nI_nlt (by omega) (by omega)) ⟨vp_in_nI (by omega) (by omega), ?_⟩
    rw [e1]
    refine ⟨vp_in_nI (by omega) (by omega), nm_r (e' := dg_wr a_mv (s * 13) q (i + 1)) ?_ (nm_r (nI_1 i) (ih (i + 1) n (by omega) (by omega)))⟩
    rw [nI_clamp (by omega), nI_clamp (by omega), hp i (by omega)]
    rfl
theorem yn_rec {f_lim f_last f_logN f_bestIdx : Int32} {a_bd a_sd a_dc a_ps a_dr a_cp a_ex a_jp a_log a_idx a_best : Nat → Int32} {post : SY → Prop} {lv L : Nat} {q : Nat → Nat} {T : (Nat → Int32) × (Nat → Int32) × (Nat → Int32)} (hlv : lv < 4) (hQ : dg_Q T lv) (hL : L < 13) (hp : ∀ i, i ≤ L → a_ps i = nI (q i))
    (h : post (f_lim, f_last, f_logN, f_bestIdx, a_bd, a_sd, a_dc, (dg_rec lv T (L + 1, q)).1, (dg_rec lv T (L + 1, q)).2.1, (dg_rec lv T (L + 1, q)).2.2, a_ps, a_dr, a_cp, a_ex, a_jp, a_log, a_idx, a_best)) : wpY_rec post (f_lim, f_last, f_logN, f_bestIdx, a_bd, a_sd, a_dc, T.1, T.2.1, T.2.2, a_ps, a_dr, a_cp, a_ex, a_jp, a_log, a_idx, a_best) (nI lv) (nI L) := by
  obtain ⟨M, hM, eM⟩ := hQ
  have ec : (nI lv).toNatClampNeg = lv := nI_clamp (by omega)
  refine ⟨vp_in_nI hlv (by omega), ?_⟩
  rw [ec, eM]
  refine pk_lt M 48 (fun hlt => ⟨vp_in_nI hlv (by omega), ?_⟩) (fun hge => ?_)
  · rw [dg_rec_lt eM hlt] at h
    refine nm_r (e' := nI ((lv * 48 + M) * 13)) (by rw [show (48 : Int32) = nI 48 from rfl, show (13 : Int32) = nI 13 from rfl, pk_mul, nI_add, pk_mul]) ⟨L + 2, ?_⟩
    exact yn_rec_l hlv (by omega) hL hp eM rfl hlt h (L + 1) 0 (L + 2) (by omega) (by omega)
  · rw [dg_rec_ge eM hge hM] at h
    exact h
/-- the reference's walk of the captures is the pure machine -/
theorem yn_walk {f_lim f_last f_logN f_bestIdx : Int32} {a_bd a_sd a_dc a_log a_idx a_best : Nat → Int32} {post : SY → Prop} {lv c s0 : Nat} (hB : dg_B a_bd) (hlv : lv < 4) (hc : c ≤ 4) (hs0 : s0 < 32) :
    ∀ (n k1 : Nat) (q j x y : Nat → Nat) (w J : Nat → Int32) (T : (Nat → Int32) × (Nat → Int32) × (Nat → Int32)) (ps dr cp ex jp : Nat → Int32) (step m : Nat), dg_K c s0 k1 q j x y w J → (∀ k, k1 = k + 1 → dg_AY k q j y w ps dr cp ex) → (∀ n, n < 32 → jp n = J n) → dg_Q T lv →
      dg_ps x k1 ≤ n → step + dg_ps x k1 ≤ 1000000 → dg_ps x k1 < m →
      (∀ ps' dr' cp' ex' jp', post (f_lim, f_last, f_logN, f_bestIdx, a_bd, a_sd, a_dc, ((dg_run (dg_bl a_bd lv) c s0 n k1 q j x w J).foldl (dg_rec lv) T).1, ((dg_run (dg_bl a_bd lv) c s0 n k1 q j x w J).foldl (dg_rec lv) T).2.1, ((dg_run (dg_bl a_bd lv) c s0 n k1 q j x w J).foldl (dg_rec lv) T).2.2, ps', dr', cp', ex', jp', a_log, a_idx, a_best)) →
      wY_capFrom_63 post (nI lv) (nI c) m (dg_la k1) (nI step) f_lim f_last f_logN f_bestIdx a_bd a_sd a_dc T.1 T.2.1 T.2.2 ps dr cp ex jp a_log a_idx a_best := by
  have hend : ∀ (n : Nat) (q j x : Nat → Nat) (w J : Nat → Int32) (T : (Nat → Int32) × (Nat → Int32) × (Nat → Int32)) (ps dr cp ex jp : Nat → Int32) (step m : Nat), 0 < m →
      (∀ ps' dr' cp' ex' jp', post (f_lim, f_last, f_logN, f_bestIdx, a_bd, a_sd, a_dc, ((dg_run (dg_bl a_bd lv) c s0 n 0 q j x w J).foldl (dg_rec lv) T).1, ((dg_run (dg_bl a_bd lv) c s0 n 0 q j x w J).foldl (dg_rec lv) T).2.1, ((dg_run (dg_bl a_bd lv) c s0 n 0 q j x w J).foldl (dg_rec lv) T).2.2, ps', dr', cp', ex', jp', a_log, a_idx, a_best)) →
      wY_capFrom_63 post (nI lv) (nI c) m (dg_la 0) (nI step) f_lim f_last f_logN f_bestIdx a_bd a_sd a_dc T.1 T.2.1 T.2.2 ps dr cp ex jp a_log a_idx a_best := by
    intro n q j x w J T ps dr cp ex jp step m hm hp
    obtain ⟨m, rfl⟩ : ∃ g, m = g + 1 := ⟨m - 1, by omega⟩
    rw [dg_run_0] at hp
    exact br_c (fun _ => hp ps dr cp ex jp) (fun _ => br_t (show (-1 : Int32) < 0 by decide) (hp ps dr cp ex jp))
  have b1 : vp_nar .boolean 1 = 1 := by decide
  have b0 : vp_nar .boolean 0 = 0 := by decide
  intro n
  induction n with
  | zero =>
    intro k1 q j x y w J T ps dr cp ex jp step m hK hA hJ hQ hn hstep hm hp
    cases k1 with
    | zero => exact hend 0 q j x w J T ps dr cp ex jp step m (by omega) hp
    | succ k => have := dg_ps_pos x k; omega
  | succ n ih =>
    intro k1 q j x y w J T ps dr cp ex jp step m hK hA hJ hQ hn hstep hm hp
    cases k1 with
    | zero => exact hend (n + 1) q j x w J T ps dr cp ex jp step m (by omega) hp
    | succ k =>
      have hpos := dg_ps_pos x k
      obtain ⟨m, rfl⟩ : ∃ g, m = g + 1 := ⟨m - 1, by omega⟩
      obtain ⟨hI, hw⟩ := hK k rfl
      have hAk := hA k rfl
      have hk9 := dg_I_k hI
      obtain ⟨hq, hpar, hdr⟩ := hI.2.1 k (Nat.le_refl k)
      have hq0 := hI.1
      have hA0 := (hAk.1 0 (Nat.zero_le k)).1
      rw [hq0] at hA0
      have hAkk := hAk.1 k (Nat.le_refl k)
      rw [show dg_la (k + 1) = nI k from rfl]
      have ec : (nI k).toNatClampNeg = k := nI_clamp (by omega)
      have hin : vp_in (nI k) 13 := vp_in_nI (by omega) (by omega)
      refine br_f (nI_ge (b := 4194304) (by omega) (by decide)) (br_f (nI_pos (by omega)) (br_f (nI_ge (b := 12) (by omega) (by decide)) ?_))
      refine yn_fj (J := J) (s0 := s0) (q := q k) (y := y k) hB hlv hc (by omega) hq hs0 hJ hAkk.1 hA0 hAkk.2.1 hdr.2.2.1 ?_
      rw [← dg_DR_sc hq hdr]
      show wY_capFrom_94 post (wY_capFrom_63 post (nI lv) (nI c) m) (nI lv) (nI c) (nI k) (nI step) (dg_r (dg_D (dg_bl a_bd lv) c s0 J (q k) (x k))) f_lim f_last f_logN f_bestIdx a_bd a_sd a_dc T.1 T.2.1 T.2.2 ps dr cp ex jp a_log a_idx a_best
      by_cases hD : dg_D (dg_bl a_bd lv) c s0 J (q k) (x k) < 4
      · generalize eD : dg_D (dg_bl a_bd lv) c s0 J (q k) (x k) = D at hD
        rw [dg_r_lt hD]
        obtain ⟨hP, hxD, hk8, hK'⟩ := dg_K_push hK eD hD
        have hT := hP.2.1
        have hL := hP.2.2.1
        have ec1 : (nI (k + 1)).toNatClampNeg = k + 1 := nI_clamp (by omega)
        have hin1 : vp_in (nI (k + 1)) 13 := vp_in_nI (by omega) (by omega)
        refine br_f (dg_enc_n D (by omega)).2 ⟨hin, ?_⟩
        rw [ec, hAkk.1, nI_1 k, ec1]
        refine yn_nb hq hD ?_
        rw [dg_enc_lt hT]
        refine ⟨hin, nm_r (e' := upd dr k (nI (D + 1))) (by rw [nI_1]) ⟨hin, nm_r (e' := upd ex k 1) (by rw [b1]) ⟨hin, nm_e ⟨vp_in_nI hT (by omega), nm_r (e' := upd jp (dg_T (q k) D) 1) (by rw [nI_clamp (by omega), b1]) (yn_nb hT hD ?_)⟩⟩⟩⟩
        rw [dg_enc_lt hL]
        refine ⟨hin1, nm_e (nm_e ⟨hin1, nm_r (e' := upd (upd dr k (nI (D + 1))) (k + 1) 0) (by rw [ec1]) ⟨hin1, nm_r (e' := upd (upd ex k 1) (k + 1) 0) (by rw [ec1, b0]) (nm_r (nI_1 step) ?_)⟩⟩)⟩
        have hps := dg_ps_push (x := x) (k := k) (D := D) (x' := dg_x0 c (dg_T (dg_T (q k) D) D)) hk8 hxD hD
        rw [dg_run_push eD hD] at hp
        refine ih (k + 2) _ _ _ _ _ _ T _ _ _ _ _ (step + 1) m hK' (fun k' e => ?_) (fun i hi => ?_) hQ (by omega) (by omega) (by omega) hp
        · obtain rfl : k' = k + 1 := by omega
          exact dg_AY_push hAk
        · by_cases z : i = dg_T (q k) D
          · subst z; rw [pk_us, pk_us]
          · rw [pk_un z, pk_un z]; exact hJ i hi
      · rw [dg_r_ge hD]
        rw [dg_run_pop hD, List.foldl_append] at hp
        have pop : ∀ (T : (Nat → Int32) × (Nat → Int32) × (Nat → Int32)), dg_Q T lv → (∀ ps' dr' cp' ex' jp', post (f_lim, f_last, f_logN, f_bestIdx, a_bd, a_sd, a_dc, ((dg_run (dg_bl a_bd lv) c s0 n k q j x w (if k = 0 then J else upd J (j (k - 1)) 0)).foldl (dg_rec lv) T).1, ((dg_run (dg_bl a_bd lv) c s0 n k q j x w (if k = 0 then J else upd J (j (k - 1)) 0)).foldl (dg_rec lv) T).2.1, ((dg_run (dg_bl a_bd lv) c s0 n k q j x w (if k = 0 then J else upd J (j (k - 1)) 0)).foldl (dg_rec lv) T).2.2, ps', dr', cp', ex', jp', a_log, a_idx, a_best)) →
            wY_capFrom_213 post (wY_capFrom_63 post (nI lv) (nI c) m) (nI lv) (nI c) (nI k) (nI step) f_lim f_last f_logN f_bestIdx a_bd a_sd a_dc T.1 T.2.1 T.2.2 ps dr cp ex jp a_log a_idx a_best := by
          intro T hQ hp
          have hKp := dg_K_pop hK
          refine nm_r (dg_la_m k) ?_
          cases k with
          | zero =>
            refine br_t (show (-1 : Int32) < 0 by decide) (nm_r (nI_1 step) ?_)
            exact ih 0 q j x y w _ T ps dr cp ex jp (step + 1) m hKp (fun k' e => absurd e (by omega)) hJ hQ (by omega) (by omega) (by omega) hp
          | succ k =>
            have hcp := hAk.2 k (by omega)
            have hj32 := dg_C_lt _ _ (hI.2.2.1 k (by omega)).1
            have e5 : (dg_la (k + 1)).toNatClampNeg = k := nI_clamp (by omega)
            refine br_f (nI_pos (n := k) (by omega)) ⟨vp_in_nI (n := k) (by omega) (by omega), ?_⟩
            rw [e5, hcp]
            refine ⟨vp_in_nI hj32 (by omega), nm_r (e' := upd jp (j k) 0) (by rw [nI_clamp (by omega), b0]) (nm_r (nI_1 step) ?_)⟩
            refine ih (k + 1) q j x y w _ T ps dr cp ex _ (step + 1) m hKp (fun k' e => ?_) (fun i hi => ?_) hQ (by omega) (by omega) (by omega) hp
            · obtain rfl : k' = k := by omega
              exact dg_AY_pop hAk
            · rw [if_neg (by omega)]
              show upd jp (j k) 0 i = upd J (j k) 0 i
              by_cases z : i = j k
              · subst z; rw [pk_us, pk_us]
              · rw [pk_un z, pk_un z]; exact hJ i hi
        refine br_t (by decide) ?_
        by_cases hwk : w k = 0
        · rw [if_pos hwk] at hp
          have hk0 : ¬ k = 0 := fun z => hw (z ▸ hwk)
          refine br_f (nI_nle (by omega) (by omega)) ⟨hin, ?_⟩
          rw [ec, hAkk.2.2 (by omega)]
          refine br_t hwk (yn_rec (q := q) hlv hQ (by omega) (fun i hi => (hAk.1 i hi).1) ?_)
          exact pop (dg_rec lv T (k + 1, q)) (dg_rec_Q _ hQ) hp
        · rw [if_neg hwk] at hp
          refine br_c (fun _ => pop T hQ hp) (fun z => ⟨hin, ?_⟩)
          have hk1 : 1 ≤ k := by
            apply Classical.byContradiction
            intro h0
            obtain rfl : k = 0 := by omega
            exact z (by decide)
          rw [ec, hAkk.2.2 hk1]
          exact br_f hwk (pop T hQ hp)
