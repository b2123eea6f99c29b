abbrev dg_Sh : Type := (Nat → Int32) × (Nat → Int32) × (Nat → Int32) × (Nat → Int32) × (Nat → Int32) × (Nat → Int32)
def dg_l (ml : Nat → Int32) (s : Nat) : Nat := (ml s).toNatClampNeg
def dg_q (mv : Nat → Int32) (s : Nat) : Nat → Nat := fun k => (mv (s * 13 + k)).toNatClampNeg
theorem dg_M_c {ml mv : Nat → Int32} {s : Nat} (h : dg_M ml mv s) : 2 ≤ dg_l ml s ∧ dg_l ml s ≤ 13 ∧ ml s = nI (dg_l ml s) ∧ (∀ k, k < dg_l ml s → dg_q mv s k < 32 ∧ mv (s * 13 + k) = nI (dg_q mv s k)) ∧ ((∀ k, k + 1 < dg_l ml s → dg_D2 (dg_q mv s k) (dg_q mv s (k + 1))) ∨ (dg_l ml s = 2 ∧ ¬ dg_D2 (dg_q mv s 0) (dg_q mv s 1))) := by
  obtain ⟨L, q, h1, h2, h3, h4, h5⟩ := h
  have eL : dg_l ml s = L := by unfold dg_l; rw [h3]; exact nI_clamp (by omega)
  have eq : ∀ k, k < L → dg_q mv s k = q k := fun k hk => by
    unfold dg_q
    rw [(h4 k hk).2]
    exact nI_clamp (by have := (h4 k hk).1; omega)
  rw [eL]
  refine ⟨h1, h2, h3, fun k hk => ?_, ?_⟩
  · rw [eq k hk]; exact h4 k hk
  · rcases h5 with h5 | ⟨h5, h6⟩
    · refine Or.inl fun k hk => ?_
      rw [eq k (by omega), eq (k + 1) hk]; exact h5 k hk
    · refine Or.inr ⟨h5, ?_⟩
      rw [eq 0 (by omega), eq 1 (by omega)]; exact h6
def dg_C2 (q : Nat → Nat) (L : Nat) : Nat := if q 0 / 4 + 2 = q 1 / 4 ∨ q 1 / 4 + 2 = q 0 / 4 then L - 1 else 0
def dg_cro (c s : Nat) : Nat := if (c = 1 ∧ 28 ≤ s) ∨ (c = 3 ∧ s < 4) then 1 else 0
theorem dg_cro_le {c s : Nat} (h : c ≤ 4) : c + dg_cro c s ≤ 4 := by
  unfold dg_cro
  split <;> omega
def dg_ab (bd : Nat → Int32) (s t L : Nat) (q : Nat → Nat) : Nat → Int32 :=
  upd (dg_tk (upd (dg_cb bd s t 32) (t * 32 + q 0) 0) t q (dg_C2 q L)) (t * 32 + q (L - 1)) (nI (dg_b bd (s * 32 + q 0) + dg_cro (dg_b bd (s * 32 + q 0)) (q (L - 1))))
def dg_ad (dc : Nat → Int32) (bd : Nat → Int32) (s t L : Nat) (q : Nat → Nat) : Nat → Int32 :=
  upd dc t (if 0 < dg_C2 q L ∨ dg_b bd (s * 32 + q 0) = 1 ∨ dg_b bd (s * 32 + q 0) = 3 then 0 else dc s + 1)
def dg_as (sd : Nat → Int32) (s t : Nat) : Nat → Int32 := upd sd t (if sd s = 0 then 1 else 0)
def dg_en (bd : Nat → Int32) (s L : Nat) (q : Nat → Nat) : Int32 :=
  nI (q 0 + 32 * q (L - 1) + 1024 * dg_C2 q L + 16384 * dg_cro (dg_b bd (s * 32 + q 0)) (q (L - 1)))
theorem dg_ab_B {bd : Nat → Int32} {s t L : Nat} {q : Nat → Nat} (h : dg_B bd) (hs : s < 4) (hq : q 0 < 32) : dg_B (dg_ab bd s t L q) := by
  refine dg_B_upd (dg_tk_B (dg_B_upd (dg_cb_B h s t 32 hs (by omega)) _ 0 (by omega)) t q _) _ _ (dg_cro_le ?_)
  exact (dg_B_b h (by omega)).2
theorem dg_as_S {sd : Nat → Int32} {s t : Nat} (h : dg_S sd) : dg_S (dg_as sd s t) := by
  refine dg_S_upd h _ _ ?_
  split
  · exact Or.inr rfl
  · exact Or.inl rfl
def dg_ap (s i t : Nat) (S : dg_Sh) : dg_Sh :=
  (dg_ab S.1 s t (dg_l S.2.2.2.2.1 (s * 48 + i)) (dg_q S.2.2.2.2.2 (s * 48 + i)), dg_as S.2.1 s t, dg_ad S.2.2.1 S.1 s t (dg_l S.2.2.2.2.1 (s * 48 + i)) (dg_q S.2.2.2.2.2 (s * 48 + i)), S.2.2.2.1, S.2.2.2.2.1, S.2.2.2.2.2)
def dg_bl (bd : Nat → Int32) (lv : Nat) : Nat → Nat := fun n => dg_b bd (lv * 32 + n)
noncomputable def dg_gn (lv : Nat) (S : dg_Sh) : dg_Sh :=
  (S.1, S.2.1, S.2.2.1, (dg_gen lv (dg_bl S.1 lv) (S.2.1 lv) S.2.2.2.1 S.2.2.2.2.1 S.2.2.2.2.2).1, (dg_gen lv (dg_bl S.1 lv) (S.2.1 lv) S.2.2.2.1 S.2.2.2.2.1 S.2.2.2.2.2).2.1, (dg_gen lv (dg_bl S.1 lv) (S.2.1 lv) S.2.2.2.1 S.2.2.2.2.1 S.2.2.2.2.2).2.2)
def dg_Ok (lv : Nat) (S : dg_Sh) : Prop := dg_B S.1 ∧ dg_S S.2.1 ∧ ∀ l, l ≤ lv → dg_L S.2.2.2.1 S.2.2.2.2.1 S.2.2.2.2.2 l
theorem dg_L_M {mt ml mv : Nat → Int32} {lv i : Nat} (h : dg_L mt ml mv lv) (hi : i < (mt lv).toNatClampNeg) : i < 48 ∧ dg_M ml mv (lv * 48 + i) := by
  obtain ⟨M, h1, h2, h3⟩ := h
  rw [h2, nI_clamp (by omega)] at hi
  exact ⟨by omega, h3 i hi⟩
theorem dg_Ok_ap {lv i : Nat} {S : dg_Sh} (h : dg_Ok lv S) (hl : lv < 3) (hi : i < (S.2.2.2.1 lv).toNatClampNeg) : dg_Ok lv (dg_ap lv i (lv + 1) S) := by
  obtain ⟨h1, h2, h3⟩ := h
  have hm := dg_M_c (dg_L_M (h3 lv (Nat.le_refl lv)) hi).2
  exact ⟨dg_ab_B h1 (by omega) (hm.2.2.2.1 0 (by omega)).1, dg_as_S h2, h3⟩
theorem dg_Ok_gn {lv : Nat} {S : dg_Sh} (h : dg_Ok lv S) : dg_Ok (lv + 1) (dg_gn (lv + 1) S) := by
  obtain ⟨h1, h2, h3⟩ := h
  have g := dg_gen_L (lv + 1) (dg_bl S.1 (lv + 1)) (S.2.1 (lv + 1)) S.2.2.2.1 S.2.2.2.2.1 S.2.2.2.2.2
  refine ⟨h1, h2, fun l hl => ?_⟩
  by_cases e : l = lv + 1
  · subst e; exact g.1
  · exact dg_L_F (h3 l (by omega)) e g.2
def dg_lf (lim : Int32) (pl lv : Nat) (S : dg_Sh) : Prop := S.2.2.2.1 lv = 0 ∨ lim ≤ S.2.2.1 lv ∨ lv = pl
noncomputable def dg_lv (lim : Int32) (lv : Nat) (S : dg_Sh) : Int :=
  @ite _ (S.2.2.2.1 lv = 0) (Classical.propDecidable _) (-10000 + (lv : Int)) (@ite _ (lim ≤ S.2.2.1 lv) (Classical.propDecidable _) 0 (dg_ev (dg_bl S.1 lv) (S.2.1 lv) 32 0))
theorem dg_lv_r {lim : Int32} {lv : Nat} {S : dg_Sh} (h : lv < 4) : -10000 ≤ dg_lv lim lv S ∧ dg_lv lim lv S ≤ 10000 := by
  have g := dg_ev_r (dg_bl S.1 lv) (S.2.1 lv) 32 0 (by omega)
  unfold dg_lv
  split
  · omega
  · split <;> omega
def dg_uI (f : Nat → Int) (k : Nat) (x : Int) : Nat → Int := fun i => if i = k then x else f i
theorem dg_uIs {f : Nat → Int} {k : Nat} {x : Int} : dg_uI f k x k = x := if_pos rfl
theorem dg_uIn {f : Nat → Int} {k i : Nat} {x : Int} (h : i ≠ k) : dg_uI f k x i = f i := if_neg h
def dg_tv (l : Nat) (v : Int) (vb : Nat → Int) : Nat → Int := if vb l < v then dg_uI vb l v else vb
def dg_tg (l : Nat) (v : Int) (vb : Nat → Int) (ix : Nat → Nat) (g : Nat) : Nat := if vb l < v then (if l = 0 then ix 0 else g) else g
noncomputable def dg_se (lim : Int32) (pl : Nat) : Nat → Nat → dg_Sh → (Nat → Nat) → (Nat → Int) → Nat → dg_Sh × Int × Nat
  | 0, _, S, _, vb, g => (S, vb 0, g)
  | _ + 1, 0, S, _, vb, g => (S, vb 0, g)
  | n + 1, l + 1, S, ix, vb, g =>
    if ix l < (S.2.2.2.1 l).toNatClampNeg then
      @ite _ (dg_lf lim pl (l + 1) (dg_gn (l + 1) (dg_ap l (ix l) (l + 1) S))) (Classical.propDecidable _)
        (dg_se lim pl n (l + 1) (dg_gn (l + 1) (dg_ap l (ix l) (l + 1) S)) (dg_u ix l (ix l + 1))
          (dg_tv l (- dg_lv lim (l + 1) (dg_gn (l + 1) (dg_ap l (ix l) (l + 1) S))) vb) (dg_tg l (- dg_lv lim (l + 1) (dg_gn (l + 1) (dg_ap l (ix l) (l + 1) S))) vb ix g))
        (dg_se lim pl n (l + 2) (dg_gn (l + 1) (dg_ap l (ix l) (l + 1) S)) (dg_u ix (l + 1) 0) (dg_uI vb (l + 1) (-20000)) g)
    else if l = 0 then (S, vb 0, g)
    else dg_se lim pl n l S (dg_u ix (l - 1) (ix (l - 1) + 1)) (dg_tv (l - 1) (- vb l) vb) (dg_tg (l - 1) (- vb l) vb ix g)
theorem dg_se_leaf {lim : Int32} {pl n l g : Nat} {S S' : dg_Sh} {ix : Nat → Nat} {vb : Nat → Int} (h : ix l < (S.2.2.2.1 l).toNatClampNeg) (e : dg_gn (l + 1) (dg_ap l (ix l) (l + 1) S) = S') (hl : dg_lf lim pl (l + 1) S') :
    dg_se lim pl (n + 1) (l + 1) S ix vb g = dg_se lim pl n (l + 1) S' (dg_u ix l (ix l + 1)) (dg_tv l (- dg_lv lim (l + 1) S') vb) (dg_tg l (- dg_lv lim (l + 1) S') vb ix g) := by
  subst e
  rw [dg_se, if_pos h, if_pos hl]
theorem dg_se_in {lim : Int32} {pl n l g : Nat} {S S' : dg_Sh} {ix : Nat → Nat} {vb : Nat → Int} (h : ix l < (S.2.2.2.1 l).toNatClampNeg) (e : dg_gn (l + 1) (dg_ap l (ix l) (l + 1) S) = S') (hl : ¬ dg_lf lim pl (l + 1) S') :
    dg_se lim pl (n + 1) (l + 1) S ix vb g = dg_se lim pl n (l + 2) S' (dg_u ix (l + 1) 0) (dg_uI vb (l + 1) (-20000)) g := by
  subst e
  rw [dg_se, if_pos h, if_neg hl]
theorem dg_se_end {lim : Int32} {pl n g : Nat} {S : dg_Sh} {ix : Nat → Nat} {vb : Nat → Int} (h : ¬ ix 0 < (S.2.2.2.1 0).toNatClampNeg) :
    dg_se lim pl (n + 1) 1 S ix vb g = (S, vb 0, g) := by
  rw [dg_se, if_neg h, if_pos rfl]
theorem dg_se_out {lim : Int32} {pl n l g : Nat} {S : dg_Sh} {ix : Nat → Nat} {vb : Nat → Int} (h : ¬ ix (l + 1) < (S.2.2.2.1 (l + 1)).toNatClampNeg) :
    dg_se lim pl (n + 1) (l + 2) S ix vb g = dg_se lim pl n (l + 1) S (dg_u ix l (ix l + 1)) (dg_tv l (- vb (l + 1)) vb) (dg_tg l (- vb (l + 1)) vb ix g) := by
  rw [dg_se, if_neg h, if_neg (by omega)]; rfl
def dg_c (l : Nat) : Nat := if l = 0 then 4706 else if l = 1 then 98 else 2
def dg_sp (M ix : Nat → Nat) : Nat → Nat
  | 0 => 0
  | l + 1 => dg_sp M ix l + ((M l - ix l - 1) * dg_c l + 1)
def dg_pt (M ix : Nat → Nat) : Nat → Nat
  | 0 => 0
  | l + 1 => dg_sp M ix l + ((M l - ix l) * dg_c l + 1)
theorem dg_sp_congr {M ix M' ix' : Nat → Nat} (l : Nat) (h : ∀ i, i < l → M i = M' i ∧ ix i = ix' i) : dg_sp M ix l = dg_sp M' ix' l := by
  induction l with
  | zero => rfl
  | succ l ih =>
    show dg_sp M ix l + ((M l - ix l - 1) * dg_c l + 1) = dg_sp M' ix' l + ((M' l - ix' l - 1) * dg_c l + 1)
    rw [ih (fun i hi => h i (by omega)), (h l (by omega)).1, (h l (by omega)).2]
theorem dg_c_2 (l : Nat) : 2 ≤ dg_c l := by unfold dg_c; split <;> (try split) <;> omega
theorem dg_c_48 {l : Nat} (h : l < 2) : dg_c l = 48 * dg_c (l + 1) + 2 := by
  have : l = 0 ∨ l = 1 := by omega
  rcases this with rfl | rfl <;> rfl
theorem dg_pt_leaf {M M' ix : Nat → Nat} {l : Nat} (hM : ∀ i, i ≤ l → M' i = M i) (h : ix l < M l) : dg_pt M' (dg_u ix l (ix l + 1)) (l + 1) + 2 ≤ dg_pt M ix (l + 1) := by
  have e := dg_sp_congr (M := M') (ix := dg_u ix l (ix l + 1)) (M' := M) (ix' := ix) l (fun i hi => ⟨hM i (by omega), dg_un (by omega)⟩)
  show dg_sp M' (dg_u ix l (ix l + 1)) l + ((M' l - dg_u ix l (ix l + 1) l) * dg_c l + 1) + 2 ≤ dg_sp M ix l + ((M l - ix l) * dg_c l + 1)
  rw [e, dg_us, hM l (Nat.le_refl l)]
  have h2 := dg_c_2 l
  have h3 : (M l - (ix l + 1) + 1) * dg_c l = (M l - ix l) * dg_c l := congrArg (· * dg_c l) (by omega)
  rw [Nat.add_mul] at h3
  omega
theorem dg_pt_in {M M' ix : Nat → Nat} {l : Nat} (hl : l < 2) (hM : ∀ i, i ≤ l → M' i = M i) (h : ix l < M l) (h48 : M' (l + 1) ≤ 48) : dg_pt M' (dg_u ix (l + 1) 0) (l + 2) + 1 ≤ dg_pt M ix (l + 1) := by
  have e := dg_sp_congr (M := M') (ix := dg_u ix (l + 1) 0) (M' := M) (ix' := ix) l (fun i hi => ⟨hM i (by omega), dg_un (by omega)⟩)
  show dg_sp M' (dg_u ix (l + 1) 0) l + ((M' l - dg_u ix (l + 1) 0 l - 1) * dg_c l + 1) + ((M' (l + 1) - dg_u ix (l + 1) 0 (l + 1)) * dg_c (l + 1) + 1) + 1 ≤ dg_sp M ix l + ((M l - ix l) * dg_c l + 1)
  rw [e, dg_us, dg_un (by omega), hM l (Nat.le_refl l)]
  have h3 : (M l - ix l - 1 + 1) * dg_c l = (M l - ix l) * dg_c l := congrArg (· * dg_c l) (by omega)
  rw [Nat.add_mul] at h3
  have h4 : (M' (l + 1) - 0) * dg_c (l + 1) ≤ 48 * dg_c (l + 1) := Nat.mul_le_mul_right _ (by omega)
  have h5 := dg_c_48 hl
  omega
theorem dg_pt_out {M ix : Nat → Nat} {l : Nat} : dg_pt M (dg_u ix l (ix l + 1)) (l + 1) + 1 ≤ dg_pt M ix (l + 2) := by
  have e := dg_sp_congr (M := M) (ix := dg_u ix l (ix l + 1)) (M' := M) (ix' := ix) l (fun i hi => ⟨rfl, dg_un (by omega)⟩)
  show dg_sp M (dg_u ix l (ix l + 1)) l + ((M l - dg_u ix l (ix l + 1) l) * dg_c l + 1) + 1 ≤ dg_sp M ix l + ((M l - ix l - 1) * dg_c l + 1) + ((M (l + 1) - ix (l + 1)) * dg_c (l + 1) + 1)
  rw [e, dg_us]
  have h3 : M l - (ix l + 1) = M l - ix l - 1 := by omega
  rw [h3]
  omega
theorem dg_pt_0 {M ix : Nat → Nat} (h : M 0 ≤ 48) : dg_pt M ix 1 ≤ 225889 := by
  show 0 + ((M 0 - ix 0) * 4706 + 1) ≤ 225889
  have : (M 0 - ix 0) * 4706 ≤ 48 * 4706 := Nat.mul_le_mul_right _ (by omega)
  omega
def dg_m (S : dg_Sh) : Nat → Nat := fun i => (S.2.2.2.1 i).toNatClampNeg
def dg_H (l : Nat) (S : dg_Sh) (ix : Nat → Nat) (vb : Nat → Int) : Prop := dg_Ok l S ∧ (∀ i, i < l → ix i < dg_m S i) ∧ ∀ i, i ≤ l → 1 ≤ dg_m S i ∧ ix i ≤ dg_m S i ∧ ((ix i = 0 ∧ vb i = -20000) ∨ (1 ≤ ix i ∧ -10000 ≤ vb i ∧ vb i ≤ 10000))
theorem dg_L_m {S : dg_Sh} {l : Nat} (h : dg_L S.2.2.2.1 S.2.2.2.2.1 S.2.2.2.2.2 l) : dg_m S l ≤ 48 ∧ S.2.2.2.1 l = nI (dg_m S l) := by
  obtain ⟨M, h1, h2, _⟩ := h
  unfold dg_m
  rw [h2, nI_clamp (by omega)]
  exact ⟨h1, rfl⟩
theorem dg_m_next {l i : Nat} {S : dg_Sh} (h : i ≤ l) (k : Nat) : (dg_gn (l + 1) (dg_ap l k (l + 1) S)).2.2.2.1 i = S.2.2.2.1 i := by
  have g := dg_gen_L (l + 1) (dg_bl (dg_ap l k (l + 1) S).1 (l + 1)) ((dg_ap l k (l + 1) S).2.1 (l + 1)) S.2.2.2.1 S.2.2.2.2.1 S.2.2.2.2.2
  exact g.2.1 i (by omega)
theorem dg_Ok_le {l l' : Nat} {S : dg_Sh} (h : dg_Ok l S) (hl : l' ≤ l) : dg_Ok l' S := ⟨h.1, h.2.1, fun i hi => h.2.2 i (by omega)⟩
theorem dg_H_take {l : Nat} {S S' : dg_Sh} {ix : Nat → Nat} {vb : Nat → Int} {v : Int} (h : dg_H l S ix vb) (hO : dg_Ok l S') (hm : ∀ i, i ≤ l → dg_m S' i = dg_m S i) (hi : ix l < dg_m S l) (h1 : -10000 ≤ v) (h2 : v ≤ 10000) : dg_H l S' (dg_u ix l (ix l + 1)) (dg_tv l v vb) := by
  obtain ⟨g0, g1, g2⟩ := h
  refine ⟨hO, fun i hil => ?_, fun i hil => ?_⟩
  · rw [dg_un (by omega), hm i (by omega)]; exact g1 i hil
  · rw [hm i hil]
    have k := g2 i hil
    unfold dg_tv
    by_cases e : i = l
    · subst e
      rw [dg_us]
      refine ⟨k.1, by omega, Or.inr ⟨by omega, ?_⟩⟩
      by_cases c : vb i < v
      · rw [if_pos c, dg_uIs]; exact ⟨h1, h2⟩
      · rw [if_neg c]
        rcases k.2.2 with k | k
        · omega
        · exact k.2
    · rw [dg_un e]
      refine ⟨k.1, k.2.1, ?_⟩
      split
      · rw [dg_uIn e]; exact k.2.2
      · exact k.2.2
theorem dg_H_next {l : Nat} {S S' : dg_Sh} {ix : Nat → Nat} {vb : Nat → Int} (h : dg_H l S ix vb) (hl : l < 3) (hi : ix l < dg_m S l) (e : dg_gn (l + 1) (dg_ap l (ix l) (l + 1) S) = S') : dg_Ok (l + 1) S' ∧ ∀ i, i ≤ l → dg_m S' i = dg_m S i := by
  subst e
  refine ⟨dg_Ok_gn (dg_Ok_ap h.1 hl hi), fun i hil => ?_⟩
  unfold dg_m
  rw [dg_m_next hil]
theorem dg_H_in {l : Nat} {S S' : dg_Sh} {ix : Nat → Nat} {vb : Nat → Int} (h : dg_H l S ix vb) (hi : ix l < dg_m S l) (hO : dg_Ok (l + 1) S') (hm : ∀ i, i ≤ l → dg_m S' i = dg_m S i) (h0 : ¬ S'.2.2.2.1 (l + 1) = 0) : dg_H (l + 1) S' (dg_u ix (l + 1) 0) (dg_uI vb (l + 1) (-20000)) := by
  obtain ⟨g0, g1, g2⟩ := h
  refine ⟨hO, fun i hil => ?_, fun i hil => ?_⟩
  · rw [dg_un (by omega), hm i (by omega)]
    by_cases e : i = l
    · subst e; exact hi
    · exact g1 i (by omega)
  · by_cases e : i = l + 1
    · subst e
      rw [dg_us, dg_uIs]
      have k := dg_L_m (hO.2.2 (l + 1) (Nat.le_refl _))
      refine ⟨?_, Nat.zero_le _, Or.inl ⟨rfl, rfl⟩⟩
      by_cases z : dg_m S' (l + 1) = 0
      · rw [z] at k; exact absurd k.2 h0
      · omega
    · rw [dg_un e, dg_uIn e, hm i (by omega)]
      exact g2 i (by omega)
theorem dg_H_out {l : Nat} {S : dg_Sh} {ix : Nat → Nat} {vb : Nat → Int} (h : dg_H (l + 1) S ix vb) (hi : ¬ ix (l + 1) < dg_m S (l + 1)) : (1 ≤ ix (l + 1) ∧ -10000 ≤ vb (l + 1) ∧ vb (l + 1) ≤ 10000) ∧ dg_H l S ix vb := by
  obtain ⟨g0, g1, g2⟩ := h
  have k := g2 (l + 1) (Nat.le_refl _)
  refine ⟨?_, dg_Ok_le g0 (by omega), fun i hil => g1 i (by omega), fun i hil => g2 i (by omega)⟩
  rcases k.2.2 with k2 | k2
  · omega
  · exact k2
