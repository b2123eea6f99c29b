/-! the reference applies a move -/
theorem ya_col {f_lim f_last f_logN f_bestIdx : Int32} {a_bd a_sd a_dc a_mc a_ml a_mv a_ps a_dr a_cp a_ex a_jp a_log a_idx a_best : Nat → Int32} {post : Int32 → Prop} {s : Nat} (hs : s < 32) (h : post (nI (dg_co s))) : wpY_col post (f_lim, f_last, f_logN, f_bestIdx, a_bd, a_sd, a_dc, a_mc, a_ml, a_mv, a_ps, a_dr, a_cp, a_ex, a_jp, a_log, a_idx, a_best) (nI s) :=
  yn_col (by rw [dg_colE_t s hs]; exact h)
theorem dg_as_1 {x : Int32} (h : x = 0 ∨ x = 1) : 1 - x = if x = 0 then 1 else 0 := by
  rcases h with rfl | rfl <;> decide
theorem ya_339 {f_lim f_last f_logN f_bestIdx : Int32} {a_bd a_sd a_dc a_mc a_ml a_mv a_ps a_dr a_cp a_ex a_jp a_log a_idx a_best : Nat → Int32} {post : Int32 → SY → Prop} {s t q0 o C cr : Nat} {z : Int32} (hS : dg_S a_sd) (hs : s < 4) (ht : t < 4)
    (h : post (nI (q0 + 32 * o + 1024 * C + 16384 * cr)) (f_lim, f_last, f_logN, f_bestIdx, a_bd, dg_as a_sd s t, upd a_dc t z, a_mc, a_ml, a_mv, a_ps, a_dr, a_cp, a_ex, a_jp, a_log, a_idx, a_best)) : wY_apply_339 post (nI s) (nI t) (nI q0) (nI o) (nI C) (nI cr) z (nI t) f_lim f_last f_logN f_bestIdx a_bd a_sd a_dc a_mc a_ml a_mv a_ps a_dr a_cp a_ex a_jp a_log a_idx a_best := by
  have es : (nI s).toNatClampNeg = s := nI_clamp (by omega)
  have et : (nI t).toNatClampNeg = t := nI_clamp (by omega)
  unfold dg_as at h
  refine ⟨vp_in_nI ht (by omega), nm_r (e' := upd a_dc t z) (by rw [et]) ⟨vp_in_nI hs (by omega), vp_in_nI ht (by omega), nm_r (e' := upd a_sd t (if a_sd s = 0 then 1 else 0)) (by rw [es, et, dg_as_1 (hS s hs)]) ?_⟩⟩
  rw [show (32 : Int32) = nI 32 from rfl, show (1024 : Int32) = nI 1024 from rfl, show (16384 : Int32) = nI 16384 from rfl, pk_mul, pk_mul, pk_mul, nI_add, nI_add, nI_add]
  exact h
theorem ya_300 {f_lim f_last f_logN f_bestIdx : Int32} {a_bd a_sd a_dc a_mc a_ml a_mv a_ps a_dr a_cp a_ex a_jp a_log a_idx a_best : Nat → Int32} {post : Int32 → SY → Prop} {s t q0 o C cr c : Nat} {x12 : Int32} (hS : dg_S a_sd) (hs : s < 4) (ht : t < 4) (hC : C < 100) (ho : o < 32)
    (h : post (nI (q0 + 32 * o + 1024 * C + 16384 * cr)) (f_lim, f_last, f_logN, f_bestIdx, upd a_bd (t * 32 + o) (nI c), dg_as a_sd s t, upd a_dc t (if 0 < C ∨ ¬ x12 = 0 then 0 else a_dc s + 1), a_mc, a_ml, a_mv, a_ps, a_dr, a_cp, a_ex, a_jp, a_log, a_idx, a_best)) : wY_apply_300 post (nI s) (nI t) (nI (t * 32)) (nI q0) (nI o) (nI c) (nI C) x12 (nI cr) f_lim f_last f_logN f_bestIdx a_bd a_sd a_dc a_mc a_ml a_mv a_ps a_dr a_cp a_ex a_jp a_log a_idx a_best := by
  have es : (nI s).toNatClampNeg = s := nI_clamp (by omega)
  have e1 : nI (t * 32) + nI o = nI (t * 32 + o) := nI_add _ _
  unfold wY_apply_300
  rw [e1]
  refine ⟨vp_in_nI (by omega) (by omega), nm_r (e' := upd a_bd (t * 32 + o) (nI c)) (by rw [nI_clamp (by omega)]) (pk_lt 0 C (fun a => ?_) (fun a => br_c (fun b => ⟨vp_in_nI hs (by omega), ?_⟩) (fun b => ?_)))⟩
  · rw [if_pos (Or.inl a)] at h
    exact ya_339 hS hs ht h
  · rw [if_neg (by
      rintro (z | z)
      · omega
      · exact z b)] at h
    rw [es]
    exact ya_339 hS hs ht h
  · rw [if_pos (Or.inr b)] at h
    exact ya_339 hS hs ht h
theorem ya_264 {f_lim f_last f_logN f_bestIdx : Int32} {a_bd a_sd a_dc a_mc a_ml a_mv a_ps a_dr a_cp a_ex a_jp a_log a_idx a_best : Nat → Int32} {post : Int32 → SY → Prop} {s t q0 o C c : Nat} {x12 : Int32} (hS : dg_S a_sd) (hs : s < 4) (ht : t < 4) (hC : C < 100) (ho : o < 32) (hc : c ≤ 4)
    (h : post (nI (q0 + 32 * o + 1024 * C + 16384 * dg_cro c o)) (f_lim, f_last, f_logN, f_bestIdx, upd a_bd (t * 32 + o) (nI (c + dg_cro c o)), dg_as a_sd s t, upd a_dc t (if 0 < C ∨ ¬ x12 = 0 then 0 else a_dc s + 1), a_mc, a_ml, a_mv, a_ps, a_dr, a_cp, a_ex, a_jp, a_log, a_idx, a_best)) : wY_apply_264 post (nI s) (nI t) (nI (t * 32)) (nI q0) (nI o) (nI c) (nI C) x12 f_lim f_last f_logN f_bestIdx a_bd a_sd a_dc a_mc a_ml a_mv a_ps a_dr a_cp a_ex a_jp a_log a_idx a_best := by
  have y : dg_cro c o = 1 → wY_apply_294 post (nI s) (nI t) (nI (t * 32)) (nI q0) (nI o) (nI c) (nI C) x12 f_lim f_last f_logN f_bestIdx a_bd a_sd a_dc a_mc a_ml a_mv a_ps a_dr a_cp a_ex a_jp a_log a_idx a_best := by
    intro e
    rw [e] at h
    exact nm_r (nI_1 c) (ya_300 (cr := 1) hS hs ht hC ho h)
  have n : dg_cro c o = 0 → wY_apply_300 post (nI s) (nI t) (nI (t * 32)) (nI q0) (nI o) (nI c) (nI C) x12 0 f_lim f_last f_logN f_bestIdx a_bd a_sd a_dc a_mc a_ml a_mv a_ps a_dr a_cp a_ex a_jp a_log a_idx a_best := by
    intro e
    rw [e] at h
    exact ya_300 (cr := 0) hS hs ht hC ho h
  have n2 : ¬ (c = 1 ∧ 28 ≤ o) → wY_apply_282 post (nI s) (nI t) (nI (t * 32)) (nI q0) (nI o) (nI c) (nI C) x12 0 f_lim f_last f_logN f_bestIdx a_bd a_sd a_dc a_mc a_ml a_mv a_ps a_dr a_cp a_ex a_jp a_log a_idx a_best := by
    intro e1
    refine pk_eq c 3 (fun e3 => pk_lt 3 o (fun l => n (if_neg (by omega))) (fun l => y (if_pos (by omega)))) (fun e3 => n (if_neg (by omega)))
  exact pk_eq c 1 (fun e => pk_le 28 o (fun l => y (if_pos (Or.inl ⟨e, l⟩))) (fun l => n2 (by omega))) (fun e => n2 (by omega))
/-- behind the loop of the takes -/
theorem ya_end {f_lim f_last f_logN f_bestIdx : Int32} {a_bd a_sd a_dc a_mc a_ml a_mv a_ps a_dr a_cp a_ex a_jp a_log a_idx a_best : Nat → Int32} {post : Int32 → SY → Prop} {s t q0 o C c : Nat} (hS : dg_S a_sd) (hs : s < 4) (ht : t < 4) (hC : C < 100) (ho : o < 32) (hc : c ≤ 4)
    (h : post (nI (q0 + 32 * o + 1024 * C + 16384 * dg_cro c o)) (f_lim, f_last, f_logN, f_bestIdx, upd a_bd (t * 32 + o) (nI (c + dg_cro c o)), dg_as a_sd s t, upd a_dc t (if 0 < C ∨ c = 1 ∨ c = 3 then 0 else a_dc s + 1), a_mc, a_ml, a_mv, a_ps, a_dr, a_cp, a_ex, a_jp, a_log, a_idx, a_best)) :
    ((nI c = 1 → wY_apply_259 post (nI s) (nI t) (nI (t * 32)) (nI q0) (nI o) (nI c) (nI C) f_lim f_last f_logN f_bestIdx a_bd a_sd a_dc a_mc a_ml a_mv a_ps a_dr a_cp a_ex a_jp a_log a_idx a_best) ∧ (¬ nI c = 1 → ((nI c = 3 → wY_apply_259 post (nI s) (nI t) (nI (t * 32)) (nI q0) (nI o) (nI c) (nI C) f_lim f_last f_logN f_bestIdx a_bd a_sd a_dc a_mc a_ml a_mv a_ps a_dr a_cp a_ex a_jp a_log a_idx a_best) ∧ (¬ nI c = 3 → wY_apply_264 post (nI s) (nI t) (nI (t * 32)) (nI q0) (nI o) (nI c) (nI C) 0 f_lim f_last f_logN f_bestIdx a_bd a_sd a_dc a_mc a_ml a_mv a_ps a_dr a_cp a_ex a_jp a_log a_idx a_best)))) := by
  have n1 : ¬ (1 : Int32) = 0 := by decide
  refine pk_eq c 1 (fun e => ?_) (fun e => pk_eq c 3 (fun e3 => ?_) (fun e3 => ?_))
  · rw [if_pos (by omega)] at h
    refine ya_264 (x12 := 1) hS hs ht hC ho hc ?_
    rw [if_pos (Or.inr n1)]
    exact h
  · rw [if_pos (by omega)] at h
    refine ya_264 (x12 := 1) hS hs ht hC ho hc ?_
    rw [if_pos (Or.inr n1)]
    exact h
  · refine ya_264 (x12 := 0) hS hs ht hC ho hc ?_
    have e : (if 0 < C ∨ c = 1 ∨ c = 3 then (0 : Int32) else a_dc s + 1) = (if 0 < C ∨ ¬ (0 : Int32) = 0 then 0 else a_dc s + 1) := by
      by_cases z : 0 < C
      · rw [if_pos (Or.inl z), if_pos (Or.inl z)]
      · rw [if_neg (by omega), if_neg (by
          rintro (a | a)
          · exact z a
          · exact a rfl)]
    rw [← e]
    exact h
theorem ya_129 {f_lim f_last f_logN f_bestIdx : Int32} {a_sd a_dc a_mc a_ml a_mv a_ps a_dr a_cp a_ex a_jp a_log a_idx a_best : Nat → Int32} {post : Int32 → SY → Prop} {bd : Nat → Int32} {s t q0 o c sl L : Nat} {q : Nat → Nat} (hS : dg_S a_sd) (hs : s < 4) (ht : t < 4) (hL : 2 ≤ L) (hL2 : L ≤ 13) (hsl : sl < 192) (hc : c ≤ 4) (ho : o < 32) (hq : ∀ k, k < L → q k < 32 ∧ a_mv (sl * 13 + k) = nI (q k)) (hD : ∀ k, k + 1 < L → dg_D2 (q k) (q (k + 1)))
    (h : post (nI (q0 + 32 * o + 1024 * (L - 1) + 16384 * dg_cro c o)) (f_lim, f_last, f_logN, f_bestIdx, upd (dg_tk bd t q (L - 1)) (t * 32 + o) (nI (c + dg_cro c o)), dg_as a_sd s t, upd a_dc t (if 0 < L - 1 ∨ c = 1 ∨ c = 3 then 0 else a_dc s + 1), a_mc, a_ml, a_mv, a_ps, a_dr, a_cp, a_ex, a_jp, a_log, a_idx, a_best)) :
    ∀ m i n, i + m = L - 1 → m < n → wY_apply_129 post (nI s) (nI t) (nI (sl * 13)) (nI L) (nI (t * 32)) (nI q0) (nI o) (nI c) f_lim f_last f_logN f_bestIdx n (nI i) (nI i) (dg_tk bd t q i) a_sd a_dc a_mc a_ml a_mv a_ps a_dr a_cp a_ex a_jp a_log a_idx a_best := by
  intro m
  induction m with
  | zero =>
    intro i n hi hn
    obtain ⟨n, rfl⟩ : ∃ g, n = g + 1 := ⟨n - 1, by omega⟩
    obtain rfl : i = L - 1 := by omega
    refine br_t ?_ (ya_end hS hs ht (by omega) ho hc h)
    rw [nI_1]
    exact nI_le (by omega) (by omega)
  | succ m ih =>
    intro i n hi hn
    obtain ⟨n, rfl⟩ : ∃ g, n = g + 1 := ⟨n - 1, by omega⟩
    have e1 : nI (sl * 13) + nI i = nI (sl * 13 + i) := nI_add _ _
    have a1 := hq i (by omega)
    have a2 := hq (i + 1) (by omega)
    have hm := dg_mid_lt a1.1 a2.1
    have a2' : a_mv (sl * 13 + i + 1) = nI (q (i + 1)) := a2.2
    have c1 := dg_co_lt (q i)
    have c2 := dg_co_lt (q (i + 1))
    have q1 := a1.1
    have q2 := a2.1
    have go : wY_apply_194 post (wY_apply_129 post (nI s) (nI t) (nI (sl * 13)) (nI L) (nI (t * 32)) (nI q0) (nI o) (nI c) f_lim f_last f_logN f_bestIdx n) (nI s) (nI t) (nI (sl * 13)) (nI L) (nI (t * 32)) (nI q0) (nI o) (nI c) (nI i) (nI i) (nI (q i)) (nI (q (i + 1))) (nI (q i / 4)) (nI (q (i + 1) / 4)) f_lim f_last f_logN f_bestIdx (dg_tk bd t q i) a_sd a_dc a_mc a_ml a_mv a_ps a_dr a_cp a_ex a_jp a_log a_idx a_best := by
      unfold wY_apply_194
      refine ya_col q1 (ya_col q2 ?_)
      have e5 : nI (t * 32) + (nI (q i / 4) + nI (q (i + 1) / 4)) / 2 * 4 + (nI (dg_co (q i)) + nI (dg_co (q (i + 1)))) / 2 / 2 = nI (t * 32 + dg_mid (q i) (q (i + 1))) := by
        unfold dg_mid
        rw [nI_add, nI_add, show (2 : Int32) = nI 2 from rfl, pk_div (by omega) (by omega) (by omega), pk_div (by omega) (by omega) (by omega), pk_div (by omega) (by omega) (by omega), wx_4, pk_mul, nI_add, nI_add]
        exact congrArg nI (by omega)
      rw [e5]
      refine ⟨yn_h2, yn_h2, yn_h2, vp_in_nI (by omega) (by omega), nm_r (e' := dg_tk bd t q (i + 1)) ?_ (nm_r (nI_1 i) (nm_r (nI_1 i) (ih (i + 1) n (by omega) (by omega))))⟩
      rw [nI_clamp (by omega)]
      rfl
    refine br_f ?_ ?_
    · rw [nI_1]
      exact nI_ge (by omega) (by omega)
    · rw [e1, nI_1 (sl * 13 + i), nI_clamp (n := sl * 13 + i) (by omega), nI_clamp (n := sl * 13 + i + 1) (by omega), a1.2, a2']
      refine ⟨vp_in_nI (by omega) (by omega), nm_e ⟨vp_in_nI (by omega) (by omega), nm_e ⟨yn_h4, nm_r (e' := nI (q i / 4)) (by rw [wx_4, pk_div (by omega) (by omega) (by omega)]) ⟨yn_h4, nm_r (e' := nI (q (i + 1) / 4)) (by rw [wx_4, pk_div (by omega) (by omega) (by omega)]) ?_⟩⟩⟩⟩
      refine br_c (fun _ => go) (fun z => br_t ?_ go)
      rcases hD i (by omega) with d | d
      · exact (dg_rows2 _ (by omega) _ (by omega)).mpr d
      · exact absurd ((dg_rows2 _ (by omega) _ (by omega)).mpr d) z
theorem ya_129s {f_lim f_last f_logN f_bestIdx : Int32} {a_bd a_sd a_dc a_mc a_ml a_mv a_ps a_dr a_cp a_ex a_jp a_log a_idx a_best : Nat → Int32} {post : Int32 → SY → Prop} {s t q0 o c sl : Nat} {q : Nat → Nat} (hS : dg_S a_sd) (hs : s < 4) (ht : t < 4) (hsl : sl < 192) (hc : c ≤ 4) (ho : o < 32) (hq : ∀ k, k < 2 → q k < 32 ∧ a_mv (sl * 13 + k) = nI (q k)) (hD : ¬ dg_D2 (q 0) (q 1))
    (h : post (nI (q0 + 32 * o + 1024 * 0 + 16384 * dg_cro c o)) (f_lim, f_last, f_logN, f_bestIdx, upd a_bd (t * 32 + o) (nI (c + dg_cro c o)), dg_as a_sd s t, upd a_dc t (if 0 < 0 ∨ c = 1 ∨ c = 3 then 0 else a_dc s + 1), a_mc, a_ml, a_mv, a_ps, a_dr, a_cp, a_ex, a_jp, a_log, a_idx, a_best)) :
    wY_apply_129 post (nI s) (nI t) (nI (sl * 13)) (nI 2) (nI (t * 32)) (nI q0) (nI o) (nI c) f_lim f_last f_logN f_bestIdx 2 (nI 0) (nI 0) a_bd a_sd a_dc a_mc a_ml a_mv a_ps a_dr a_cp a_ex a_jp a_log a_idx a_best := by
  have e1 : nI (sl * 13) + nI 0 = nI (sl * 13) := nI_add _ _
  have a1 := hq 0 (by omega)
  have a2 := hq 1 (by omega)
  have a1' : a_mv (sl * 13) = nI (q 0) := a1.2
  have q1 := a1.1
  have q2 := a2.1
  refine br_f (by decide) ?_
  rw [e1, nI_1 (sl * 13), nI_clamp (n := sl * 13) (by omega), nI_clamp (n := sl * 13 + 1) (by omega), a1', a2.2]
  refine ⟨vp_in_nI (by omega) (by omega), nm_e ⟨vp_in_nI (by omega) (by omega), nm_e ⟨yn_h4, nm_r (e' := nI (q 0 / 4)) (by rw [wx_4, pk_div (by omega) (by omega) (by omega)]) ⟨yn_h4, nm_r (e' := nI (q 1 / 4)) (by rw [wx_4, pk_div (by omega) (by omega) (by omega)]) ?_⟩⟩⟩⟩
  refine br_f (fun z => hD (Or.inr ((dg_rows2 _ (by omega) _ (by omega)).mp z))) (br_f (fun z => hD (Or.inl ((dg_rows2 _ (by omega) _ (by omega)).mp z))) (nm_r (nI_1 0) ?_))
  exact br_t (by decide) (ya_end (C := 0) hS hs ht (by omega) ho hc h)
theorem ya_77 {f_lim f_last f_logN f_bestIdx : Int32} {a_bd a_sd a_dc a_mc a_ml a_mv a_ps a_dr a_cp a_ex a_jp a_log a_idx a_best : Nat → Int32} {post : Int32 → SY → Prop} {bd0 : Nat → Int32} {s i t : Nat} (hB : dg_B bd0) (hS : dg_S a_sd) (hs : s < 4) (ht : t < 4) (hi : i < 48) (hM : dg_M a_ml a_mv (s * 48 + i)) (hbd : a_bd = dg_cb bd0 s t 32) (hpc : ∀ k, k < 32 → a_bd (t * 32 + k) = bd0 (s * 32 + k))
    (h : post (dg_en bd0 s (dg_l a_ml (s * 48 + i)) (dg_q a_mv (s * 48 + i))) (f_lim, f_last, f_logN, f_bestIdx, dg_ab bd0 s t (dg_l a_ml (s * 48 + i)) (dg_q a_mv (s * 48 + i)), dg_as a_sd s t, dg_ad a_dc bd0 s t (dg_l a_ml (s * 48 + i)) (dg_q a_mv (s * 48 + i)), a_mc, a_ml, a_mv, a_ps, a_dr, a_cp, a_ex, a_jp, a_log, a_idx, a_best)) :
    wY_apply_77 post (nI s) (nI t) (nI ((s * 48 + i) * 13)) (nI (dg_l a_ml (s * 48 + i))) (nI (t * 32)) f_lim f_last f_logN f_bestIdx a_bd a_sd a_dc a_mc a_ml a_mv a_ps a_dr a_cp a_ex a_jp a_log a_idx a_best := by
  obtain ⟨hL, hL2, hml, hq, hk⟩ := dg_M_c hM
  clear hM
  generalize dg_l a_ml (s * 48 + i) = L at *
  generalize dg_q a_mv (s * 48 + i) = q at *
  have hq0 := hq 0 (by omega)
  have hqL := hq (L - 1) (by omega)
  have hq0' : a_mv ((s * 48 + i) * 13) = nI (q 0) := hq0.2
  have e2 : nI ((s * 48 + i) * 13) + nI L - 1 = nI ((s * 48 + i) * 13 + (L - 1)) := by
    rw [nI_add]
    have : nI ((s * 48 + i) * 13 + L) - 1 = nI ((s * 48 + i) * 13 + L - 1) := pk_sub (b := 1) (by omega)
    rw [this]
    exact congrArg nI (by omega)
  have hv := dg_B_b hB (i := s * 32 + q 0) (by omega)
  have e4 : nI (t * 32) + nI (q 0) = nI (t * 32 + q 0) := nI_add _ _
  unfold wY_apply_77
  rw [e2]
  refine ⟨vp_in_nI (by omega) (by omega), nm_r (e' := nI (q 0)) (by rw [nI_clamp (by omega), hq0']) ⟨vp_in_nI (by omega) (by omega), nm_r (e' := nI (q (L - 1))) (by rw [nI_clamp (by omega), hqL.2]) ?_⟩⟩
  rw [e4]
  refine ⟨vp_in_nI (by omega) (by omega), nm_r (e' := nI (dg_b bd0 (s * 32 + q 0))) (by rw [nI_clamp (by omega), hpc _ hq0.1]; exact hv.1) ⟨vp_in_nI (by omega) (by omega), nm_r (e' := upd (dg_cb bd0 s t 32) (t * 32 + q 0) 0) (by rw [nI_clamp (by omega), hbd]) ?_⟩⟩
  unfold dg_en dg_ab dg_ad at h
  rcases hk with hD | ⟨rfl, hD⟩
  · have hC : dg_C2 q L = L - 1 := if_pos (hD 0 (by omega))
    rw [hC] at h
    exact ⟨L, ya_129 (bd := upd (dg_cb bd0 s t 32) (t * 32 + q 0) 0) hS hs ht hL hL2 (by omega) hv.2 hqL.1 hq hD h (L - 1) 0 L (by omega) (by omega)⟩
  · have hC : dg_C2 q 2 = 0 := if_neg hD
    rw [hC] at h
    exact ⟨2, ya_129s hS hs ht (by omega) hv.2 hqL.1 hq hD h⟩
theorem ya_44 {f_lim f_last f_logN f_bestIdx : Int32} {a_sd a_dc a_mc a_ml a_mv a_ps a_dr a_cp a_ex a_jp a_log a_idx a_best : Nat → Int32} {post : Int32 → SY → Prop} {bd : Nat → Int32} {s t : Nat} {x4 x5 : Int32} (hs : s < 4) (ht : t < 4) (h : wY_apply_77 post (nI s) (nI t) x4 x5 (nI (t * 32)) f_lim f_last f_logN f_bestIdx (dg_cb bd s t 32) a_sd a_dc a_mc a_ml a_mv a_ps a_dr a_cp a_ex a_jp a_log a_idx a_best) :
    ∀ m i n, i + m = 32 → m < n → wY_apply_44 post (nI s) (nI t) x4 x5 (nI (s * 32)) (nI (t * 32)) f_lim f_last f_logN f_bestIdx n (nI i) (dg_cb bd s t i) a_sd a_dc a_mc a_ml a_mv a_ps a_dr a_cp a_ex a_jp a_log a_idx a_best := by
  intro m
  induction m with
  | zero =>
    intro i n hi hn
    obtain ⟨n, rfl⟩ : ∃ g, n = g + 1 := ⟨n - 1, by omega⟩
    obtain rfl : i = 32 := by omega
    exact br_t (nI_le (a := 32) (Nat.le_refl 32) (by omega)) h
  | succ m ih =>
    intro i n hi hn
    obtain ⟨n, rfl⟩ : ∃ g, n = g + 1 := ⟨n - 1, by omega⟩
    have e1 : nI (s * 32) + nI i = nI (s * 32 + i) := nI_add _ _
    have e2 : nI (t * 32) + nI i = nI (t * 32 + i) := nI_add _ _
    refine br_f (nI_ge (b := 32) (by omega) (by omega)) ?_
    rw [e1, e2]
    refine ⟨vp_in_nI (by omega) (by omega), vp_in_nI (by omega) (by omega), nm_r (e' := dg_cb bd s t (i + 1)) ?_ (nm_r (nI_1 i) (ih (i + 1) n (by omega) (by omega)))⟩
    rw [nI_clamp (by omega), nI_clamp (by omega)]
    rfl
theorem ya_apply {f_lim f_last f_logN f_bestIdx : Int32} {a_bd a_sd a_dc a_mc a_ml a_mv a_ps a_dr a_cp a_ex a_jp a_log a_idx a_best : Nat → Int32} {post : Int32 → SY → Prop} {s i t : Nat} (hB : dg_B a_bd) (hS : dg_S a_sd) (hs : s < 4) (ht : t < 4) (hi : i < 48) (hM : dg_M a_ml a_mv (s * 48 + i))
    (h : post (dg_en a_bd s (dg_l a_ml (s * 48 + i)) (dg_q a_mv (s * 48 + i))) (f_lim, f_last, f_logN, f_bestIdx, dg_ab a_bd s t (dg_l a_ml (s * 48 + i)) (dg_q a_mv (s * 48 + i)), dg_as a_sd s t, dg_ad a_dc a_bd s t (dg_l a_ml (s * 48 + i)) (dg_q a_mv (s * 48 + i)), a_mc, a_ml, a_mv, a_ps, a_dr, a_cp, a_ex, a_jp, a_log, a_idx, a_best)) :
    wpY_apply post (f_lim, f_last, f_logN, f_bestIdx, a_bd, a_sd, a_dc, a_mc, a_ml, a_mv, a_ps, a_dr, a_cp, a_ex, a_jp, a_log, a_idx, a_best) (nI s) (nI i) (nI t) := by
  have hml := (dg_M_c hM).2.2.1
  have e1 : nI s * 48 + nI i = nI (s * 48 + i) := by rw [show (48 : Int32) = nI 48 from rfl, pk_mul, nI_add]
  unfold wpY_apply
  dsimp only
  rw [e1, nI_clamp (n := s * 48 + i) (by omega)]
  refine nm_r (pk_mul (s * 48 + i) 13) ⟨vp_in_nI (by omega) (by omega), nm_r hml (nm_r (pk_mul s 32) (nm_r (pk_mul t 32) (pk_eq s t (fun e => ?_) (fun e => ⟨33, ?_⟩))))⟩
  · subst e
    exact ya_77 hB hS hs ht hi hM (dg_cb_same a_bd s 32).symm (fun k hk => rfl) h
  · exact ya_44 (bd := a_bd) hs ht (ya_77 hB hS hs ht hi hM rfl (fun k hk => dg_cb_in a_bd s t 32 k e (by omega) hk) h) 32 0 33 (by omega) (by omega)
