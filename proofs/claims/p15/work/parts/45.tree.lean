/-! the second engine is laid anew and led to a node; the whole tree -/
theorem lb_play {sv : Int32} {G : eg_G} {b : St2} {post : Int32 → St2 → Prop} {P : pp_Pos} {c0 lv l0 i : Nat} (hB : eg_R (nI l0) G sv b) (hpr : pr_R c0 lv G.1 P) (hl0 : 4 ≤ l0) (hl1 : l0 ≤ 80) (hlv : lv ≤ 2) (hi : i < (pp_ls P).length)
    (h : ∀ r u' G', eg_R (nI l0) G' sv u' → pr_R c0 (lv + 1) G'.1 (pp_ap P (pp_mv P i)) → post r u') : wpX_play post b (nI i) := by
  have els := pr_ls hpr
  have h48 : (pp_ls P).length ≤ 48 := (pv_gen 0 P.1 P.2.1 (fun _ => 0) (fun _ => 0) (fun _ => 0)).1.1
  have hnl : ¬ nI l0 ≤ G.1.2.2 := by
    rcases hpr.2.2 with ⟨y, _⟩ | ⟨m, y0, y, _⟩
    · rw [y]; exact nI_ge (by omega) (by omega)
    · rw [y]; exact nI_ge (by omega) (by omega)
  have e0 : ¬ nI (pp_ls P).length = 0 := nI_ne0 (by omega) (by omega)
  have eM : eg_M (nI l0) G.1 = (pp_ls P).length := by
    unfold eg_M eg_st
    rw [els, dg_st_o e0 hnl, if_pos rfl]
  refine ex_play hB fun r u' hu' => ?_
  unfold eg_play at hu'
  rw [nI_clamp (by omega), eM, if_pos ⟨nI_pos (by omega), hi⟩] at hu'
  exact h r u' _ hu' (pr_ap hpr hi)
section
variable {L kc ks : Nat} {xs : Nat → Int32} {post : Int32 → Prop} {x2 x5 x7 x12 x13 x14 x15 x23 x24 x25 x26 x27 x28 x29 x30 x31 x32 x33 x34 lim sv svb : Int32} {a b : St2}
theorem lb_1263 {J48 J1247 : _} {G : eg_G} {Pl : pp_Pos} {c0 l0 lv j1 j2 j3 : Nat} (hA : eg_R (nI l0) G sv a) (hok : lo_ok G.1.1) (hc : G.1.2.2 = nI c0) (hl0 : 4 ≤ l0) (hl1 : l0 ≤ 80) (hj1 : j1 < (pp_ls G.1).length)
    (hlv : (lv = 1 ∧ Pl = pp_ap G.1 (pp_mv G.1 j1)) ∨ (lv = 2 ∧ ∃ P1, P1 = pp_ap G.1 (pp_mv G.1 j1) ∧ j2 < (pp_ls P1).length ∧ Pl = pp_ap P1 (pp_mv P1 j2)) ∨ (lv = 3 ∧ ∃ P1 P2, P1 = pp_ap G.1 (pp_mv G.1 j1) ∧ j2 < (pp_ls P1).length ∧ P2 = pp_ap P1 (pp_mv P1 j2) ∧ j3 < (pp_ls P2).length ∧ Pl = pp_ap P2 (pp_mv P2 j3)))
    (hx31 : 2 ≤ lv → x31 = nI j2) (hx32 : 3 ≤ lv → x32 = nI j3)
    (fin : ∀ b' G', eg_R (nI l0) G' svb b' → pr_R c0 lv G'.1 Pl → wL_law_1343 post L xs J48 J1247 x2 x5 x7 x12 x13 x14 G.1.2.1 x23 x24 x25 x26 x27 x28 x29 (nI j1) x31 x32 (nI lv) x34 kc ks a.1 a.2.1 a.2.2.1 a.2.2.2.1 a.2.2.2.2.1 a.2.2.2.2.2.1 a.2.2.2.2.2.2.1 a.2.2.2.2.2.2.2.1 a.2.2.2.2.2.2.2.2.1 a.2.2.2.2.2.2.2.2.2.1 a.2.2.2.2.2.2.2.2.2.2.1 a.2.2.2.2.2.2.2.2.2.2.2.1 a.2.2.2.2.2.2.2.2.2.2.2.2.1 a.2.2.2.2.2.2.2.2.2.2.2.2.2.1 a.2.2.2.2.2.2.2.2.2.2.2.2.2.2.1 a.2.2.2.2.2.2.2.2.2.2.2.2.2.2.2.1 a.2.2.2.2.2.2.2.2.2.2.2.2.2.2.2.2.1 a.2.2.2.2.2.2.2.2.2.2.2.2.2.2.2.2.2.1 a.2.2.2.2.2.2.2.2.2.2.2.2.2.2.2.2.2.2 b'.1 b'.2.1 b'.2.2.1 b'.2.2.2.1 b'.2.2.2.2.1 b'.2.2.2.2.2.1 b'.2.2.2.2.2.2.1 b'.2.2.2.2.2.2.2.1 b'.2.2.2.2.2.2.2.2.1 b'.2.2.2.2.2.2.2.2.2.1 b'.2.2.2.2.2.2.2.2.2.2.1 b'.2.2.2.2.2.2.2.2.2.2.2.1 b'.2.2.2.2.2.2.2.2.2.2.2.2.1 b'.2.2.2.2.2.2.2.2.2.2.2.2.2.1 b'.2.2.2.2.2.2.2.2.2.2.2.2.2.2.1 b'.2.2.2.2.2.2.2.2.2.2.2.2.2.2.2.1 b'.2.2.2.2.2.2.2.2.2.2.2.2.2.2.2.2.1 b'.2.2.2.2.2.2.2.2.2.2.2.2.2.2.2.2.2.1 b'.2.2.2.2.2.2.2.2.2.2.2.2.2.2.2.2.2.2) :
    ∀ (m q n : Nat) (b : St2) (GB : eg_G), q + m = 32 → m < n → eg_R (nI l0) GB svb b → (∀ r, r < 32 → GB.1.1 r = if r < q then G.1.1 r else 0) →
      wL_law_1263 post L xs J48 J1247 x2 x5 x7 x12 x13 x14 G.1.2.1 x23 x24 x25 x26 x27 x28 x29 (nI j1) x31 x32 (nI lv) x34 kc ks n (nI q) a.1 a.2.1 a.2.2.1 a.2.2.2.1 a.2.2.2.2.1 a.2.2.2.2.2.1 a.2.2.2.2.2.2.1 a.2.2.2.2.2.2.2.1 a.2.2.2.2.2.2.2.2.1 a.2.2.2.2.2.2.2.2.2.1 a.2.2.2.2.2.2.2.2.2.2.1 a.2.2.2.2.2.2.2.2.2.2.2.1 a.2.2.2.2.2.2.2.2.2.2.2.2.1 a.2.2.2.2.2.2.2.2.2.2.2.2.2.1 a.2.2.2.2.2.2.2.2.2.2.2.2.2.2.1 a.2.2.2.2.2.2.2.2.2.2.2.2.2.2.2.1 a.2.2.2.2.2.2.2.2.2.2.2.2.2.2.2.2.1 a.2.2.2.2.2.2.2.2.2.2.2.2.2.2.2.2.2.1 a.2.2.2.2.2.2.2.2.2.2.2.2.2.2.2.2.2.2 b.1 b.2.1 b.2.2.1 b.2.2.2.1 b.2.2.2.2.1 b.2.2.2.2.2.1 b.2.2.2.2.2.2.1 b.2.2.2.2.2.2.2.1 b.2.2.2.2.2.2.2.2.1 b.2.2.2.2.2.2.2.2.2.1 b.2.2.2.2.2.2.2.2.2.2.1 b.2.2.2.2.2.2.2.2.2.2.2.1 b.2.2.2.2.2.2.2.2.2.2.2.2.1 b.2.2.2.2.2.2.2.2.2.2.2.2.2.1 b.2.2.2.2.2.2.2.2.2.2.2.2.2.2.1 b.2.2.2.2.2.2.2.2.2.2.2.2.2.2.2.1 b.2.2.2.2.2.2.2.2.2.2.2.2.2.2.2.2.1 b.2.2.2.2.2.2.2.2.2.2.2.2.2.2.2.2.2.1 b.2.2.2.2.2.2.2.2.2.2.2.2.2.2.2.2.2.2 := by
  have hsd := eg_sd hA
  intro m
  induction m with
  | zero =>
    intro q n b GB hq hn hB hb
    obtain ⟨n, rfl⟩ : ∃ g, n = g + 1 := ⟨n - 1, by omega⟩
    obtain rfl : q = 32 := by omega
    refine br_t (nI_le (a := 32) (Nat.le_refl 32) (by omega)) (ex_side hB fun r u1 hu1 => ?_)
    unfold eg_side at hu1
    rw [if_pos hsd] at hu1
    have pr0 : pr_R c0 0 ((GB.1.1, G.1.2.1, 0) : pp_Pos) G.1 := ⟨fun r hr => by rw [hb r hr, if_pos hr], rfl, Or.inl ⟨rfl, hc⟩⟩
    refine lb_play hu1 pr0 hl0 hl1 (by omega) hj1 fun r u2 G2 hu2 pr1 => ?_
    rcases hlv with ⟨rfl, rfl⟩ | ⟨rfl, P1, rfl, hj2, rfl⟩ | ⟨rfl, P1, P2, rfl, hj2, rfl, hj3, rfl⟩
    · exact br_t (by decide) (br_t (by decide) (fin u2 G2 hu2 pr1))
    · rw [hx31 (by omega)]
      refine br_f (by decide) (lb_play hu2 pr1 hl0 hl1 (by omega) hj2 fun r u3 G3 hu3 pr2 => ?_)
      rw [hx31 (by omega)] at fin
      exact br_t (by decide) (fin u3 G3 hu3 pr2)
    · rw [hx31 (by omega)]
      refine br_f (by decide) (lb_play hu2 pr1 hl0 hl1 (by omega) hj2 fun r u3 G3 hu3 pr2 => ?_)
      rw [hx32 (by omega)]
      refine br_f (by decide) (lb_play hu3 pr2 hl0 hl1 (by omega) hj3 fun r u4 G4 hu4 pr3 => ?_)
      rw [hx31 (by omega), hx32 (by omega)] at fin
      exact fin u4 G4 hu4 pr3
  | succ m ih =>
    intro q n b GB hq hn hB hb
    obtain ⟨n, rfl⟩ : ∃ g, n = g + 1 := ⟨n - 1, by omega⟩
    have q32 : q < 32 := by omega
    have hcode := (hok.1 q q32)
    refine br_f (nI_ge (b := 32) (by omega) (by omega)) (ex_piece q32 hA (pk_eq (G.1.1 q) 0 (fun z => nm_r (nI_1 q) (ih (q + 1) n b GB (by omega) (by omega) hB ?_)) (fun z => ex_piece q32 hA (ex_place hB fun r u' hu' => nm_r (nI_1 q) (ih (q + 1) n u' _ (by omega) (by omega) hu' ?_)))))
    · intro r hr
      rw [hb r hr]
      by_cases e : r = q
      · subst e; rw [if_neg (by omega), if_pos (by omega)]; exact z.symm
      · by_cases l : r < q
        · rw [if_pos l, if_pos (by omega)]
        · rw [if_neg l, if_neg (by omega)]
    · unfold eg_place
      rw [nI_clamp (n := q) (by omega), nI_clamp (n := G.1.1 q) (by omega)]
      have hcan : eg_can GB.1.1 q (G.1.1 q) := by
        refine ⟨hcode.2, Or.inr ?_⟩
        have m1 := lo_mono (b := GB.1.1) (b' := G.1.1) (c := G.1.1 q) (s := q) 32 0 (fun r _ hr => by
          rw [hb r (by omega)]
          by_cases l : r < q
          · rw [if_pos l]; exact Or.inr rfl
          · rw [if_neg l]; exact Or.inl rfl)
        have m2 := lo_t_at (b := G.1.1) (c := G.1.1 q) q32
        have m3 := lo_t12 hok (G.1.1 q)
        have m4 : lo_w (G.1.1 q) (G.1.1 q) = 1 := if_pos ⟨z, Iff.rfl⟩
        omega
      rw [if_pos ⟨nI_pos (by omega), q32, nI_pos (by omega), hcode.1, hcan⟩]
      intro r hr
      show dg_u GB.1.1 q (G.1.1 q) r = _
      by_cases e : r = q
      · subst e; rw [dg_us, if_pos (by omega)]
      · rw [dg_un e, hb r hr]
        by_cases l : r < q
        · rw [if_pos l, if_pos (by omega)]
        · rw [if_neg l, if_neg (by omega)]
end
theorem lb_len (P : pp_Pos) : (pp_ls P).length ≤ 48 := (pv_gen 0 P.1 P.2.1 (fun _ => 0) (fun _ => 0) (fun _ => 0)).1.1
/-- the law's tree, from any state of its walk -/
theorem lb_main {L kc ks : Nat} {xs : Nat → Int32} {post : Int32 → Prop} {x5 x7 sv : Int32} {a : St2} {J48 : _} {G : eg_G} {c0 l0 D : Nat} (hA : eg_R (nI l0) G sv a) (hok : lo_ok G.1.1) (hc : G.1.2.2 = nI c0) (hc0 : c0 < 1000) (hl0 : 4 ≤ l0) (hl1 : l0 ≤ 80) (hD1 : 1 ≤ D) (hD3 : D ≤ 3) (hM : 0 < (pp_ls G.1).length)
    (hsv : sv = dg_i (pp_f (pp_ch (nI l0) D 0 G.1) (pp_ls G.1).length))
    (hend : ∀ b' GB' svb', eg_R (nI l0) (eg_reset 0 GB') svb' b' → J48 x5 1 x7 a.1 a.2.1 a.2.2.1 a.2.2.2.1 a.2.2.2.2.1 a.2.2.2.2.2.1 a.2.2.2.2.2.2.1 a.2.2.2.2.2.2.2.1 a.2.2.2.2.2.2.2.2.1 a.2.2.2.2.2.2.2.2.2.1 a.2.2.2.2.2.2.2.2.2.2.1 a.2.2.2.2.2.2.2.2.2.2.2.1 a.2.2.2.2.2.2.2.2.2.2.2.2.1 a.2.2.2.2.2.2.2.2.2.2.2.2.2.1 a.2.2.2.2.2.2.2.2.2.2.2.2.2.2.1 a.2.2.2.2.2.2.2.2.2.2.2.2.2.2.2.1 a.2.2.2.2.2.2.2.2.2.2.2.2.2.2.2.2.1 a.2.2.2.2.2.2.2.2.2.2.2.2.2.2.2.2.2.1 a.2.2.2.2.2.2.2.2.2.2.2.2.2.2.2.2.2.2 b'.1 b'.2.1 b'.2.2.1 b'.2.2.2.1 b'.2.2.2.2.1 b'.2.2.2.2.2.1 b'.2.2.2.2.2.2.1 b'.2.2.2.2.2.2.2.1 b'.2.2.2.2.2.2.2.2.1 b'.2.2.2.2.2.2.2.2.2.1 b'.2.2.2.2.2.2.2.2.2.2.1 b'.2.2.2.2.2.2.2.2.2.2.2.1 b'.2.2.2.2.2.2.2.2.2.2.2.2.1 b'.2.2.2.2.2.2.2.2.2.2.2.2.2.1 b'.2.2.2.2.2.2.2.2.2.2.2.2.2.2.1 b'.2.2.2.2.2.2.2.2.2.2.2.2.2.2.2.1 b'.2.2.2.2.2.2.2.2.2.2.2.2.2.2.2.2.1 b'.2.2.2.2.2.2.2.2.2.2.2.2.2.2.2.2.2.1 b'.2.2.2.2.2.2.2.2.2.2.2.2.2.2.2.2.2.2) :
    ∀ (u n : Nat), u ≤ n →
      (∀ (j1 : Nat) (x26 x27 x28 x29 x31 x32 svb : Int32) (b : St2) (GB : eg_G), j1 ≤ (pp_ls G.1).length → ((pp_ls G.1).length - j1) * 4706 < u → eg_R (nI l0) GB svb b →
        wL_law_1247 post L xs J48 (nI l0) x5 x7 (nI D) (nI (pp_a (pp_ch (nI l0) D 0 G.1) (pp_ls G.1).length)) (nI (pp_ls G.1).length) G.1.2.1 (-1000000) (nI c0) kc ks n (lb_acc (pp_ch (nI l0) D 0 G.1) j1) (lb_arg (pp_ch (nI l0) D 0 G.1) j1) x26 x27 x28 x29 (nI j1) x31 x32 1 a.1 a.2.1 a.2.2.1 a.2.2.2.1 a.2.2.2.2.1 a.2.2.2.2.2.1 a.2.2.2.2.2.2.1 a.2.2.2.2.2.2.2.1 a.2.2.2.2.2.2.2.2.1 a.2.2.2.2.2.2.2.2.2.1 a.2.2.2.2.2.2.2.2.2.2.1 a.2.2.2.2.2.2.2.2.2.2.2.1 a.2.2.2.2.2.2.2.2.2.2.2.2.1 a.2.2.2.2.2.2.2.2.2.2.2.2.2.1 a.2.2.2.2.2.2.2.2.2.2.2.2.2.2.1 a.2.2.2.2.2.2.2.2.2.2.2.2.2.2.2.1 a.2.2.2.2.2.2.2.2.2.2.2.2.2.2.2.2.1 a.2.2.2.2.2.2.2.2.2.2.2.2.2.2.2.2.2.1 a.2.2.2.2.2.2.2.2.2.2.2.2.2.2.2.2.2.2 b.1 b.2.1 b.2.2.1 b.2.2.2.1 b.2.2.2.2.1 b.2.2.2.2.2.1 b.2.2.2.2.2.2.1 b.2.2.2.2.2.2.2.1 b.2.2.2.2.2.2.2.2.1 b.2.2.2.2.2.2.2.2.2.1 b.2.2.2.2.2.2.2.2.2.2.1 b.2.2.2.2.2.2.2.2.2.2.2.1 b.2.2.2.2.2.2.2.2.2.2.2.2.1 b.2.2.2.2.2.2.2.2.2.2.2.2.2.1 b.2.2.2.2.2.2.2.2.2.2.2.2.2.2.1 b.2.2.2.2.2.2.2.2.2.2.2.2.2.2.2.1 b.2.2.2.2.2.2.2.2.2.2.2.2.2.2.2.2.1 b.2.2.2.2.2.2.2.2.2.2.2.2.2.2.2.2.2.1 b.2.2.2.2.2.2.2.2.2.2.2.2.2.2.2.2.2.2) ∧
      (∀ (j1 j2 : Nat) (P1 : pp_Pos) (x27 x29 x32 svb : Int32) (b : St2) (GB : eg_G), j1 < (pp_ls G.1).length → P1 = pp_ap G.1 (pp_mv G.1 j1) → ¬ pp_lf (nI l0) D 1 P1 → 1 < D → j2 < (pp_ls P1).length → ((pp_ls G.1).length - j1 - 1) * 4706 + ((pp_ls P1).length - j2) * 98 + 1 < u → eg_R (nI l0) GB svb b →
        wL_law_1247 post L xs J48 (nI l0) x5 x7 (nI D) (nI (pp_a (pp_ch (nI l0) D 0 G.1) (pp_ls G.1).length)) (nI (pp_ls G.1).length) G.1.2.1 (-1000000) (nI c0) kc ks n (lb_acc (pp_ch (nI l0) D 0 G.1) j1) (lb_arg (pp_ch (nI l0) D 0 G.1) j1) (lb_acc (pp_ch (nI l0) D 1 P1) j2) x27 (nI (pp_ls P1).length) x29 (nI j1) (nI j2) x32 2 a.1 a.2.1 a.2.2.1 a.2.2.2.1 a.2.2.2.2.1 a.2.2.2.2.2.1 a.2.2.2.2.2.2.1 a.2.2.2.2.2.2.2.1 a.2.2.2.2.2.2.2.2.1 a.2.2.2.2.2.2.2.2.2.1 a.2.2.2.2.2.2.2.2.2.2.1 a.2.2.2.2.2.2.2.2.2.2.2.1 a.2.2.2.2.2.2.2.2.2.2.2.2.1 a.2.2.2.2.2.2.2.2.2.2.2.2.2.1 a.2.2.2.2.2.2.2.2.2.2.2.2.2.2.1 a.2.2.2.2.2.2.2.2.2.2.2.2.2.2.2.1 a.2.2.2.2.2.2.2.2.2.2.2.2.2.2.2.2.1 a.2.2.2.2.2.2.2.2.2.2.2.2.2.2.2.2.2.1 a.2.2.2.2.2.2.2.2.2.2.2.2.2.2.2.2.2.2 b.1 b.2.1 b.2.2.1 b.2.2.2.1 b.2.2.2.2.1 b.2.2.2.2.2.1 b.2.2.2.2.2.2.1 b.2.2.2.2.2.2.2.1 b.2.2.2.2.2.2.2.2.1 b.2.2.2.2.2.2.2.2.2.1 b.2.2.2.2.2.2.2.2.2.2.1 b.2.2.2.2.2.2.2.2.2.2.2.1 b.2.2.2.2.2.2.2.2.2.2.2.2.1 b.2.2.2.2.2.2.2.2.2.2.2.2.2.1 b.2.2.2.2.2.2.2.2.2.2.2.2.2.2.1 b.2.2.2.2.2.2.2.2.2.2.2.2.2.2.2.1 b.2.2.2.2.2.2.2.2.2.2.2.2.2.2.2.2.1 b.2.2.2.2.2.2.2.2.2.2.2.2.2.2.2.2.2.1 b.2.2.2.2.2.2.2.2.2.2.2.2.2.2.2.2.2.2) ∧
      (∀ (j1 j2 j3 : Nat) (P1 P2 : pp_Pos) (svb : Int32) (b : St2) (GB : eg_G), j1 < (pp_ls G.1).length → P1 = pp_ap G.1 (pp_mv G.1 j1) → ¬ pp_lf (nI l0) D 1 P1 → 2 < D → j2 < (pp_ls P1).length → P2 = pp_ap P1 (pp_mv P1 j2) → ¬ pp_lf (nI l0) D 2 P2 → j3 < (pp_ls P2).length → ((pp_ls G.1).length - j1 - 1) * 4706 + ((pp_ls P1).length - j2 - 1) * 98 + ((pp_ls P2).length - j3) * 2 + 1 < u → eg_R (nI l0) GB svb b →
        wL_law_1247 post L xs J48 (nI l0) x5 x7 (nI D) (nI (pp_a (pp_ch (nI l0) D 0 G.1) (pp_ls G.1).length)) (nI (pp_ls G.1).length) G.1.2.1 (-1000000) (nI c0) kc ks n (lb_acc (pp_ch (nI l0) D 0 G.1) j1) (lb_arg (pp_ch (nI l0) D 0 G.1) j1) (lb_acc (pp_ch (nI l0) D 1 P1) j2) (lb_acc (pp_ch (nI l0) D 2 P2) j3) (nI (pp_ls P1).length) (nI (pp_ls P2).length) (nI j1) (nI j2) (nI j3) 3 a.1 a.2.1 a.2.2.1 a.2.2.2.1 a.2.2.2.2.1 a.2.2.2.2.2.1 a.2.2.2.2.2.2.1 a.2.2.2.2.2.2.2.1 a.2.2.2.2.2.2.2.2.1 a.2.2.2.2.2.2.2.2.2.1 a.2.2.2.2.2.2.2.2.2.2.1 a.2.2.2.2.2.2.2.2.2.2.2.1 a.2.2.2.2.2.2.2.2.2.2.2.2.1 a.2.2.2.2.2.2.2.2.2.2.2.2.2.1 a.2.2.2.2.2.2.2.2.2.2.2.2.2.2.1 a.2.2.2.2.2.2.2.2.2.2.2.2.2.2.2.1 a.2.2.2.2.2.2.2.2.2.2.2.2.2.2.2.2.1 a.2.2.2.2.2.2.2.2.2.2.2.2.2.2.2.2.2.1 a.2.2.2.2.2.2.2.2.2.2.2.2.2.2.2.2.2.2 b.1 b.2.1 b.2.2.1 b.2.2.2.1 b.2.2.2.2.1 b.2.2.2.2.2.1 b.2.2.2.2.2.2.1 b.2.2.2.2.2.2.2.1 b.2.2.2.2.2.2.2.2.1 b.2.2.2.2.2.2.2.2.2.1 b.2.2.2.2.2.2.2.2.2.2.1 b.2.2.2.2.2.2.2.2.2.2.2.1 b.2.2.2.2.2.2.2.2.2.2.2.2.1 b.2.2.2.2.2.2.2.2.2.2.2.2.2.1 b.2.2.2.2.2.2.2.2.2.2.2.2.2.2.1 b.2.2.2.2.2.2.2.2.2.2.2.2.2.2.2.1 b.2.2.2.2.2.2.2.2.2.2.2.2.2.2.2.2.1 b.2.2.2.2.2.2.2.2.2.2.2.2.2.2.2.2.2.1 b.2.2.2.2.2.2.2.2.2.2.2.2.2.2.2.2.2.2) := by
  have h48 := lb_len G.1
  have b0 : ∀ (GB : eg_G) (r : Nat), r < 32 → (eg_reset 1 GB).1.1 r = if r < 0 then G.1.1 r else 0 := by
    intro GB r hr
    rw [if_neg (by omega)]
    show eg_B0 1 r = 0
    unfold eg_B0
    rw [if_neg (by decide)]
  intro u
  induction u with
  | zero => intro n _; exact ⟨fun _ _ _ _ _ _ _ _ _ _ _ h => absurd h (Nat.not_lt_zero _), fun _ _ _ _ _ _ _ _ _ _ _ _ _ _ h => absurd h (Nat.not_lt_zero _), fun _ _ _ _ _ _ _ _ _ _ _ _ _ _ _ _ h => absurd h (Nat.not_lt_zero _)⟩
  | succ u ih =>
    intro n hn
    obtain ⟨n, rfl⟩ : ∃ g, n = g + 1 := ⟨n - 1, by omega⟩
    obtain ⟨K1, K2, K3⟩ := ih n (by omega)
    refine ⟨?_, ?_, ?_⟩
    · intro j1 x26 x27 x28 x29 x31 x32 svb b GB hj hmu hB
      by_cases he : j1 = (pp_ls G.1).length
      · subst he
        have ea : lb_acc (pp_ch (nI l0) D 0 G.1) (pp_ls G.1).length = sv := by unfold lb_acc; rw [if_neg (by omega), hsv]
        have eb : lb_arg (pp_ch (nI l0) D 0 G.1) (pp_ls G.1).length = nI (pp_a (pp_ch (nI l0) D 0 G.1) (pp_ls G.1).length) := by unfold lb_arg; rw [if_neg (by omega)]
        rw [ea, eb]
        exact br_t (nI_le (Nat.le_refl _) (by omega)) (ex_last hA (br_t rfl (br_t rfl (ex_reset hB fun u' hu' => hend u' GB svb hu'))))
      · have hj1 : j1 < (pp_ls G.1).length := by omega
        refine br_f (nI_ge (by omega) (by omega)) (ex_reset hB fun u' hu' => ⟨33, ?_⟩)
        have e3 : ((pp_ls G.1).length - j1) * 4706 = ((pp_ls G.1).length - j1 - 1) * 4706 + 4706 := by omega
        refine lb_1263 (lv := 1) (j2 := 0) (j3 := 0) hA hok hc hl0 hl1 hj1 (Or.inl ⟨rfl, rfl⟩) (fun z => absurd z (by omega)) (fun z => absurd z (by omega)) (fun b' G' hb' hpr => ?_) 32 0 33 u' _ (by omega) (by omega) hu' (b0 GB)
        have hlen := lb_len (pp_ap G.1 (pp_mv G.1 j1))
        refine lb_1343 hb' hpr (by omega) (by omega) hl0 hl1 hc0 hD3 (fun hlf => ?_) (fun hnf _ => ?_) (fun _ z => absurd rfl z)
        · refine br_f (by decide) (br_f (by decide) (lb_c1 (fun i _ => pp_ch_r (by omega) hD3 i) ?_ (K1 (j1 + 1) _ _ _ _ _ _ _ b' G' (by omega) (by omega) hb')))
          unfold pp_ch
          rw [pp_nv_leaf hlf]
        · have hne : ¬ (pp_ls (pp_ap G.1 (pp_mv G.1 j1))).length = 0 := fun z => hnf (Or.inl z)
          have hD : 1 < D := by
            apply Classical.byContradiction
            intro z
            exact hnf (Or.inr (Or.inr (by omega)))
          exact K2 j1 0 _ _ _ _ _ b' G' hj1 rfl hnf hD (by omega) (by omega) hb'
    · intro j1 j2 P1 x27 x29 x32 svb b GB hj1 eP1 hnf1 hD hj2 hmu hB
      have hl1' := lb_len P1
      refine br_f (nI_ge (by omega) (by omega)) (ex_reset hB fun u' hu' => ⟨33, ?_⟩)
      have e3 : ((pp_ls P1).length - j2) * 98 = ((pp_ls P1).length - j2 - 1) * 98 + 98 := by omega
      refine lb_1263 (lv := 2) (j2 := j2) (j3 := 0) hA hok hc hl0 hl1 hj1 (Or.inr (Or.inl ⟨rfl, P1, eP1, hj2, rfl⟩)) (fun _ => rfl) (fun z => absurd z (by omega)) (fun b' G' hb' hpr => ?_) 32 0 33 u' _ (by omega) (by omega) hu' (b0 GB)
      have hlen := lb_len (pp_ap P1 (pp_mv P1 j2))
      refine lb_1343 hb' hpr (by omega) (by omega) hl0 hl1 hc0 hD3 (fun hlf => ?_) (fun _ z => absurd z (by omega)) (fun hnf _ => ?_)
      · refine br_f (by decide) (lb_c2 (fun i _ => pp_ch_r hD hD3 i) ?_ hl1' hj2 (fun more => K2 j1 (j2 + 1) P1 _ _ _ _ b' G' hj1 eP1 hnf1 hD more (by omega) hb') (fun done => ?_))
        · unfold pp_ch
          rw [pp_nv_leaf hlf]
        · have ea : lb_acc (pp_ch (nI l0) D 1 P1) (j2 + 1) = dg_i (pp_f (pp_ch (nI l0) D 1 P1) (pp_ls P1).length) := by unfold lb_acc; rw [if_neg (by omega), done]
          have hv : pp_ch (nI l0) D 0 G.1 j1 = - pp_f (pp_ch (nI l0) D 1 P1) (pp_ls P1).length := by
            show - pp_nv (nI l0) D (D - 1) 1 (pp_ap G.1 (pp_mv G.1 j1)) = _
            rw [← eP1, pp_nv_in hnf1 hD]
          have r := lb_c1 (J48 := J48) (post := post) (L := L) (xs := xs) (kc := kc) (ks := ks) (a := a) (b := b') (x2 := nI l0) (x5 := x5) (x7 := x7) (x12 := nI D) (x13 := nI (pp_a (pp_ch (nI l0) D 0 G.1) (pp_ls G.1).length)) (x14 := nI (pp_ls G.1).length) (x15 := G.1.2.1) (x23 := -1000000) (x34 := nI c0) (fun i _ => pp_ch_r (lim := nI l0) (P := G.1) (lv := 0) (pl := D) (by omega) hD3 i) hv (K1 (j1 + 1) (lb_acc (pp_ch (nI l0) D 1 P1) (j2 + 1)) x27 (nI (pp_ls P1).length) x29 (nI (j2 + 1)) x32 _ b' G' (by omega) (by omega) hb')
          rw [← ea] at r
          exact r
      · have hne : ¬ (pp_ls (pp_ap P1 (pp_mv P1 j2))).length = 0 := fun z => hnf (Or.inl z)
        have hD2 : 2 < D := by
          apply Classical.byContradiction
          intro z
          exact hnf (Or.inr (Or.inr (by omega)))
        exact K3 j1 j2 0 P1 _ _ b' G' hj1 eP1 hnf1 hD2 hj2 rfl hnf (by omega) (by omega) hb'
    · intro j1 j2 j3 P1 P2 svb b GB hj1 eP1 hnf1 hD hj2 eP2 hnf2 hj3 hmu hB
      have hl1' := lb_len P1
      have hl2' := lb_len P2
      refine br_f (nI_ge (by omega) (by omega)) (ex_reset hB fun u' hu' => ⟨33, ?_⟩)
      refine lb_1263 (lv := 3) (j2 := j2) (j3 := j3) hA hok hc hl0 hl1 hj1 (Or.inr (Or.inr ⟨rfl, P1, P2, eP1, hj2, eP2, hj3, rfl⟩)) (fun _ => rfl) (fun _ => rfl) (fun b' G' hb' hpr => ?_) 32 0 33 u' _ (by omega) (by omega) hu' (b0 GB)
      have hD3' : D = 3 := by omega
      have hlf : pp_lf (nI l0) D 3 (pp_ap P2 (pp_mv P2 j3)) := Or.inr (Or.inr hD3'.symm)
      refine lb_1343 hb' hpr (by omega) (by omega) hl0 hl1 hc0 hD3 (fun _ => ?_) (fun hnf _ => absurd hlf hnf) (fun hnf _ => absurd hlf hnf)
      refine lb_c3 (fun i _ => pp_ch_r hD hD3 i) ?_ hl2' hj3 (fun more => K3 j1 j2 (j3 + 1) P1 P2 _ b' G' hj1 eP1 hnf1 hD hj2 eP2 hnf2 more (by omega) hb') (fun done => ?_)
      · unfold pp_ch
        rw [pp_nv_leaf hlf]
      · have ea2 : lb_acc (pp_ch (nI l0) D 2 P2) (j3 + 1) = dg_i (pp_f (pp_ch (nI l0) D 2 P2) (pp_ls P2).length) := by unfold lb_acc; rw [if_neg (by omega), done]
        have hv2 : pp_ch (nI l0) D 1 P1 j2 = - pp_f (pp_ch (nI l0) D 2 P2) (pp_ls P2).length := by
          show - pp_nv (nI l0) D (D - 2) 2 (pp_ap P1 (pp_mv P1 j2)) = _
          rw [← eP2, pp_nv_in hnf2 hD]
        have r2 := lb_c2 (post := post) (L := L) (xs := xs) (kc := kc) (ks := ks) (a := a) (b := b') (J48 := J48) (J1247 := wL_law_1247 post L xs J48 (nI l0) x5 x7 (nI D) (nI (pp_a (pp_ch (nI l0) D 0 G.1) (pp_ls G.1).length)) (nI (pp_ls G.1).length) G.1.2.1 (-1000000) (nI c0) kc ks n) (x2 := nI l0) (x5 := x5) (x7 := x7) (x12 := nI D) (x13 := nI (pp_a (pp_ch (nI l0) D 0 G.1) (pp_ls G.1).length)) (x14 := nI (pp_ls G.1).length) (x15 := G.1.2.1) (x23 := -1000000) (x24 := lb_acc (pp_ch (nI l0) D 0 G.1) j1) (x25 := lb_arg (pp_ch (nI l0) D 0 G.1) j1) (x27 := lb_acc (pp_ch (nI l0) D 2 P2) (j3 + 1)) (x29 := nI (pp_ls P2).length) (x30 := nI j1) (x32 := nI (j3 + 1)) (x34 := nI c0) (fun i _ => pp_ch_r (lim := nI l0) (P := P1) (lv := 1) (pl := D) (by omega) hD3 i) hv2 hl1' hj2 (fun more => K2 j1 (j2 + 1) P1 _ _ _ _ b' G' hj1 eP1 hnf1 (by omega) more (by omega) hb') (fun done2 => by
          have ea : lb_acc (pp_ch (nI l0) D 1 P1) (j2 + 1) = dg_i (pp_f (pp_ch (nI l0) D 1 P1) (pp_ls P1).length) := by unfold lb_acc; rw [if_neg (by omega), done2]
          have hv : pp_ch (nI l0) D 0 G.1 j1 = - pp_f (pp_ch (nI l0) D 1 P1) (pp_ls P1).length := by
            show - pp_nv (nI l0) D (D - 1) 1 (pp_ap G.1 (pp_mv G.1 j1)) = _
            rw [← eP1, pp_nv_in hnf1 (by omega)]
          have r := lb_c1 (J48 := J48) (post := post) (L := L) (xs := xs) (kc := kc) (ks := ks) (a := a) (b := b') (x2 := nI l0) (x5 := x5) (x7 := x7) (x12 := nI D) (x13 := nI (pp_a (pp_ch (nI l0) D 0 G.1) (pp_ls G.1).length)) (x14 := nI (pp_ls G.1).length) (x15 := G.1.2.1) (x23 := -1000000) (x34 := nI c0) (fun i _ => pp_ch_r (lim := nI l0) (P := G.1) (lv := 0) (pl := D) (by omega) hD3 i) hv (K1 (j1 + 1) (lb_acc (pp_ch (nI l0) D 1 P1) (j2 + 1)) (lb_acc (pp_ch (nI l0) D 2 P2) (j3 + 1)) (nI (pp_ls P1).length) (nI (pp_ls P2).length) (nI (j2 + 1)) (nI (j3 + 1)) _ b' G' (by omega) (by omega) hb')
          rw [← ea] at r
          exact r)
        rw [← ea2] at r2
        exact r2
