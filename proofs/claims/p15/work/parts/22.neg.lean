/-! a move applied to a board of naturals -/
def pb_tk (b q : Nat → Nat) : Nat → (Nat → Nat)
  | 0 => b
  | n + 1 => dg_u (pb_tk b q n) (dg_mid (q n) (q (n + 1))) 0
def pb_ap (b : Nat → Nat) (L : Nat) (q : Nat → Nat) : Nat → Nat := dg_u (pb_tk (dg_u b (q 0) 0) q (dg_C2 q L)) (q (L - 1)) (b (q 0) + dg_cro (b (q 0)) (q (L - 1)))
theorem pb_upd {f : Nat → Int32} {g : Nat → Nat} {t m v : Nat} (hv : v < 100) (h : ∀ n, n < 32 → dg_b f (t * 32 + n) = g n) : ∀ n, n < 32 → dg_b (upd f (t * 32 + m) (nI v)) (t * 32 + n) = dg_u g m v n := by
  intro n hn
  by_cases e : n = m
  · subst e
    rw [dg_us]
    unfold dg_b
    rw [pk_us]
    exact nI_clamp (by omega)
  · rw [dg_un e]
    unfold dg_b
    rw [pk_un (by omega)]
    exact h n hn
theorem pb_tk_e {f : Nat → Int32} {g q : Nat → Nat} {t : Nat} (h : ∀ n, n < 32 → dg_b f (t * 32 + n) = g n) : ∀ i n, n < 32 → dg_b (dg_tk f t q i) (t * 32 + n) = pb_tk g q i n := by
  intro i
  induction i with
  | zero => exact h
  | succ i ih => exact pb_upd (v := 0) (by omega) ih
theorem pb_ab {bd : Nat → Int32} {s t L : Nat} {q : Nat → Nat} (hB : dg_B bd) (hs : s < 4) (hq : q 0 < 32) : ∀ n, n < 32 → dg_b (dg_ab bd s t L q) (t * 32 + n) = pb_ap (dg_bl bd s) L q n := by
  have h4 := (dg_B_b hB (i := s * 32 + q 0) (by omega)).2
  have h5 := dg_cro_le (s := q (L - 1)) h4
  refine pb_upd (by omega) (pb_tk_e (pb_upd (v := 0) (by omega) fun n hn => ?_) _)
  by_cases e : s = t
  · subst e; rw [dg_cb_same]; rfl
  · unfold dg_b
    rw [dg_cb_in bd s t 32 n e (by omega) hn]
    rfl
theorem pb_tk_congr {b b' q q' : Nat → Nat} (h : ∀ n, n < 32 → b n = b' n) : ∀ i, (∀ k, k ≤ i → q k = q' k) → ∀ n, n < 32 → pb_tk b q i n = pb_tk b' q' i n := by
  intro i
  induction i with
  | zero => intro _ n hn; exact h n hn
  | succ i ih =>
    intro hq n hn
    show dg_u (pb_tk b q i) (dg_mid (q i) (q (i + 1))) 0 n = dg_u (pb_tk b' q' i) (dg_mid (q' i) (q' (i + 1))) 0 n
    rw [hq i (by omega), hq (i + 1) (by omega)]
    by_cases e : n = dg_mid (q' i) (q' (i + 1))
    · rw [e, dg_us, dg_us]
    · rw [dg_un e, dg_un e]; exact ih (fun k hk => hq k (by omega)) n hn
theorem pb_ap_congr {b b' q q' : Nat → Nat} {L : Nat} (h : ∀ n, n < 32 → b n = b' n) (hL : 2 ≤ L) (hq : ∀ k, k < L → q k = q' k) (h0 : q 0 < 32) : (∀ n, n < 32 → pb_ap b L q n = pb_ap b' L q' n) ∧ dg_C2 q L = dg_C2 q' L ∧ b (q 0) = b' (q' 0) := by
  have e0 := hq 0 (by omega)
  have e1 := hq 1 (by omega)
  have eL := hq (L - 1) (by omega)
  have eC : dg_C2 q L = dg_C2 q' L := by unfold dg_C2; rw [e0, e1]
  have eb : b (q 0) = b' (q' 0) := by rw [h _ h0, e0]
  refine ⟨fun n hn => ?_, eC, eb⟩
  have hC := dg_C2_c (q := q') hL
  unfold pb_ap
  rw [eC, eb, eL]
  have g := pb_tk_congr (b := dg_u b (q 0) 0) (b' := dg_u b' (q' 0) 0) (q := q) (q' := q') (fun m hm => by
    rw [e0]
    by_cases e : m = q' 0
    · rw [e, dg_us, dg_us]
    · rw [dg_un e, dg_un e]; exact h m hm) (dg_C2 q' L) (fun k hk => hq k (by omega)) n hn
  by_cases e : n = q' (L - 1)
  · rw [e, dg_us, dg_us]
  · rw [dg_un e, dg_un e]; exact g
/-! positions: board, side, counter -/
abbrev pp_Pos : Type := (Nat → Nat) × Int32 × Int32
def pp_ap (P : pp_Pos) (e : Nat × (Nat → Nat)) : pp_Pos := (pb_ap P.1 e.1 e.2, (if P.2.1 = 0 then 1 else 0), (if 0 < dg_C2 e.2 e.1 ∨ P.1 (e.2 0) = 1 ∨ P.1 (e.2 0) = 3 then 0 else P.2.2 + 1))
noncomputable def pp_ls (P : pp_Pos) : List (Nat × (Nat → Nat)) := pv_ls P.1 P.2.1
noncomputable def pp_mv (P : pp_Pos) (i : Nat) : Nat × (Nat → Nat) := (pp_ls P)[i]?.getD (0, fun _ => 0)
theorem pp_mv_some {P : pp_Pos} {i : Nat} (h : i < (pp_ls P).length) : (pp_ls P)[i]? = some (pp_mv P i) := by
  unfold pp_mv
  rw [List.getElem?_eq_getElem h]
  rfl
theorem pp_mv_E {P : pp_Pos} {i : Nat} (h : i < (pp_ls P).length) : dg_E (pp_mv P i) ∧ pp_mv P i ∈ pp_ls P := by
  have g := List.mem_of_getElem? (pp_mv_some h)
  exact ⟨(pv_gen 0 P.1 P.2.1 (fun _ => 0) (fun _ => 0) (fun _ => 0)).2 _ g, g⟩
def pp_at (S : dg_Sh) (lv : Nat) (P : pp_Pos) : Prop := (∀ n, n < 32 → dg_bl S.1 lv n = P.1 n) ∧ S.2.1 lv = P.2.1 ∧ S.2.2.1 lv = P.2.2 ∧ pv_V S.2.2.2 lv (pp_ls P)
theorem pp_m {S : dg_Sh} {lv : Nat} {P : pp_Pos} (h : pp_at S lv P) : dg_m S lv = (pp_ls P).length := by
  unfold dg_m
  rw [h.2.2.2.2.1]
  exact nI_clamp (by have := h.2.2.2.1; omega)
/-- the cells of a listed move say the move -/
theorem pp_cells {S : dg_Sh} {lv i : Nat} {P : pp_Pos} (h : pp_at S lv P) (hi : i < (pp_ls P).length) : dg_l S.2.2.2.2.1 (lv * 48 + i) = (pp_mv P i).1 ∧ ∀ k, k < (pp_mv P i).1 → dg_q S.2.2.2.2.2 (lv * 48 + i) k = (pp_mv P i).2 k := by
  have g := h.2.2.2.2.2 i _ (pp_mv_some hi)
  have hE := (pp_mv_E hi).1
  refine ⟨?_, fun k hk => ?_⟩
  · unfold dg_l
    rw [g.1]
    exact nI_clamp (by have := hE.2.1; omega)
  · unfold dg_q
    rw [g.2 k hk]
    exact nI_clamp (by have := hE.2.2.1 k hk; omega)
theorem pp_next {S : dg_Sh} {l t i : Nat} {P : pp_Pos} (hB : dg_B S.1) (hl : l < 4) (h : pp_at S l P) (hi : i < (pp_ls P).length) : pp_at (dg_gn t (dg_ap l i t S)) t (pp_ap P (pp_mv P i)) := by
  obtain ⟨c1, c2⟩ := pp_cells h hi
  have hE := (pp_mv_E hi).1
  have hq0 : dg_q S.2.2.2.2.2 (l * 48 + i) 0 < 32 := by rw [c2 0 (by have := hE.1; omega)]; exact hE.2.2.1 0 (by have := hE.1; omega)
  have hc := pb_ap_congr (b := dg_bl S.1 l) (b' := P.1) (q := dg_q S.2.2.2.2.2 (l * 48 + i)) (q' := (pp_mv P i).2) (L := (pp_mv P i).1) h.1 hE.1 c2 hq0
  have hb : ∀ n, n < 32 → dg_bl (dg_ap l i t S).1 t n = (pp_ap P (pp_mv P i)).1 n := by
    intro n hn
    show dg_b (dg_ab S.1 l t (dg_l S.2.2.2.2.1 (l * 48 + i)) (dg_q S.2.2.2.2.2 (l * 48 + i))) (t * 32 + n) = _
    rw [pb_ab hB hl hq0 n hn, c1]
    exact hc.1 n hn
  have hs : (dg_ap l i t S).2.1 t = (pp_ap P (pp_mv P i)).2.1 := by
    show dg_as S.2.1 l t t = (if P.2.1 = 0 then 1 else 0)
    unfold dg_as
    rw [pk_us, h.2.1]
  have hd : (dg_ap l i t S).2.2.1 t = (pp_ap P (pp_mv P i)).2.2 := by
    show dg_ad S.2.2.1 S.1 l t (dg_l S.2.2.2.2.1 (l * 48 + i)) (dg_q S.2.2.2.2.2 (l * 48 + i)) t = (if 0 < dg_C2 (pp_mv P i).2 (pp_mv P i).1 ∨ P.1 ((pp_mv P i).2 0) = 1 ∨ P.1 ((pp_mv P i).2 0) = 3 then 0 else P.2.2 + 1)
    unfold dg_ad
    have hb0 : dg_b S.1 (l * 32 + dg_q S.2.2.2.2.2 (l * 48 + i) 0) = P.1 ((pp_mv P i).2 0) := hc.2.2
    rw [pk_us, c1, hc.2.1, hb0, h.2.2.1]
  refine ⟨hb, hs, hd, ?_⟩
  have g := (pv_gen t (dg_bl (dg_ap l i t S).1 t) ((dg_ap l i t S).2.1 t) S.2.2.2.1 S.2.2.2.2.1 S.2.2.2.2.2).1
  have e : pv_ls (dg_bl (dg_ap l i t S).1 t) ((dg_ap l i t S).2.1 t) = pp_ls (pp_ap P (pp_mv P i)) := by
    rw [hs, pv_ls_congr hb]
    rfl
  rw [e] at g
  exact g
theorem pb_ab_out {bd : Nat → Int32} {s t L m : Nat} {q : Nat → Nat} (hL : 2 ≤ L) (hq : ∀ k, k < L → q k < 32) (hm : m < t * 32 ∨ t * 32 + 32 ≤ m) : dg_ab bd s t L q m = bd m := by
  have htk : ∀ (f : Nat → Int32) (i : Nat), i < L → dg_tk f t q i m = f m := by
    intro f i
    induction i with
    | zero => intro _; rfl
    | succ i ih =>
      intro hi
      have := dg_mid_lt (hq i (by omega)) (hq (i + 1) hi)
      show upd (dg_tk f t q i) (t * 32 + dg_mid (q i) (q (i + 1))) 0 m = f m
      rw [pk_un (by omega)]
      exact ih (by omega)
  have hC := dg_C2_c (q := q) hL
  have h0 := hq 0 (by omega)
  have hl := hq (L - 1) (by omega)
  unfold dg_ab
  rw [pk_un (by omega), htk _ _ (by omega), pk_un (by omega), dg_cb_out _ _ _ _ _ (by omega)]
theorem pp_keep {S : dg_Sh} {l i k : Nat} {P Q : pp_Pos} (hP : pp_at S l P) (hi : i < (pp_ls P).length) (hk : k ≤ l) (h : pp_at S k Q) : pp_at (dg_gn (l + 1) (dg_ap l i (l + 1) S)) k Q := by
  obtain ⟨c1, c2⟩ := pp_cells hP hi
  have hE := (pp_mv_E hi).1
  obtain ⟨h1, h2, h3, h4⟩ := h
  have hF := (dg_gen_L (l + 1) (dg_bl (dg_ap l i (l + 1) S).1 (l + 1)) ((dg_ap l i (l + 1) S).2.1 (l + 1)) S.2.2.2.1 S.2.2.2.2.1 S.2.2.2.2.2).2
  refine ⟨fun n hn => ?_, ?_, ?_, ?_⟩
  · rw [← h1 n hn]
    show dg_b (dg_ab S.1 l (l + 1) (dg_l S.2.2.2.2.1 (l * 48 + i)) (dg_q S.2.2.2.2.2 (l * 48 + i))) (k * 32 + n) = dg_b S.1 (k * 32 + n)
    unfold dg_b
    rw [pb_ab_out (by rw [c1]; exact hE.1) (fun j hj => by rw [c1] at hj; rw [c2 j hj]; exact hE.2.2.1 j hj) (by omega)]
  · rw [← h2]
    show dg_as S.2.1 l (l + 1) k = S.2.1 k
    unfold dg_as
    exact pk_un (by omega)
  · rw [← h3]
    show dg_ad S.2.2.1 S.1 l (l + 1) (dg_l S.2.2.2.2.1 (l * 48 + i)) (dg_q S.2.2.2.2.2 (l * 48 + i)) k = S.2.2.1 k
    unfold dg_ad
    exact pk_un (by omega)
  · refine ⟨h4.1, (hF.1 k (by omega)).trans h4.2.1, fun j e hj => ?_⟩
    have g := h4.2.2 j e hj
    have hj48 : j < (pp_ls Q).length := (List.getElem?_eq_some_iff.mp hj).1
    have h48 := h4.1
    have hE2 := (pv_gen 0 Q.1 Q.2.1 (fun _ => 0) (fun _ => 0) (fun _ => 0)).2 e (List.mem_of_getElem? hj)
    have h13 := hE2.2.1
    exact ⟨(hF.2.1 _ (by omega)).trans g.1, fun m hm => (hF.2.2 _ (by omega)).trans (g.2 m hm)⟩
/-! the value of a position -/
def pp_f (f : Nat → Int) : Nat → Int
  | 0 => -20000
  | i + 1 => if pp_f f i < f i then f i else pp_f f i
def pp_a (f : Nat → Int) : Nat → Nat
  | 0 => 0
  | i + 1 => if pp_f f i < f i then i else pp_a f i
def pp_lf (lim : Int32) (pl lv : Nat) (P : pp_Pos) : Prop := (pp_ls P).length = 0 ∨ lim ≤ P.2.2 ∨ lv = pl
noncomputable def pp_lv (lim : Int32) (lv : Nat) (P : pp_Pos) : Int :=
  @ite _ ((pp_ls P).length = 0) (Classical.propDecidable _) (-10000 + (lv : Int)) (@ite _ (lim ≤ P.2.2) (Classical.propDecidable _) 0 (dg_ev P.1 P.2.1 32 0))
noncomputable def pp_nv (lim : Int32) (pl : Nat) : Nat → Nat → pp_Pos → Int
  | 0, lv, P => pp_lv lim lv P
  | r + 1, lv, P => @ite _ (pp_lf lim pl lv P) (Classical.propDecidable _) (pp_lv lim lv P) (pp_f (fun i => - pp_nv lim pl r (lv + 1) (pp_ap P (pp_mv P i))) (pp_ls P).length)
/-- the values of a position's moves -/
noncomputable def pp_ch (lim : Int32) (pl lv : Nat) (P : pp_Pos) (i : Nat) : Int := - pp_nv lim pl (pl - (lv + 1)) (lv + 1) (pp_ap P (pp_mv P i))
theorem pp_nv_leaf {lim : Int32} {pl lv r : Nat} {P : pp_Pos} (h : pp_lf lim pl lv P) : pp_nv lim pl r lv P = pp_lv lim lv P := by
  cases r with
  | zero => rw [pp_nv]
  | succ r => rw [pp_nv, if_pos h]
theorem pp_nv_in {lim : Int32} {pl lv : Nat} {P : pp_Pos} (h : ¬ pp_lf lim pl lv P) (hl : lv < pl) : pp_nv lim pl (pl - lv) lv P = pp_f (pp_ch lim pl lv P) (pp_ls P).length := by
  obtain ⟨r, hr⟩ : ∃ r, pl - lv = r + 1 := ⟨pl - lv - 1, by omega⟩
  have hr2 : pl - (lv + 1) = r := by omega
  rw [hr, pp_nv, if_neg h]
  unfold pp_ch
  rw [hr2]
theorem pp_zero {S : dg_Sh} {lv : Nat} {P : pp_Pos} (h : pp_at S lv P) : S.2.2.2.1 lv = 0 ↔ (pp_ls P).length = 0 := by
  rw [h.2.2.2.2.1, ← nI_0, nI_eq (by have := h.2.2.2.1; omega) (by omega)]
theorem pp_lf_at {lim : Int32} {pl lv : Nat} {S : dg_Sh} {P : pp_Pos} (h : pp_at S lv P) : dg_lf lim pl lv S ↔ pp_lf lim pl lv P := by
  unfold dg_lf pp_lf
  rw [pp_zero h, h.2.2.1]
theorem pp_lv_at {lim : Int32} {lv : Nat} {S : dg_Sh} {P : pp_Pos} (h : pp_at S lv P) : dg_lv lim lv S = pp_lv lim lv P := by
  unfold dg_lv pp_lv
  have hz := pp_zero h
  have hd := h.2.2.1
  by_cases a : (pp_ls P).length = 0
  · rw [if_pos (hz.mpr a), if_pos a]
  · rw [if_neg (fun z => a (hz.mp z)), if_neg a, hd]
    by_cases b : lim ≤ P.2.2
    · rw [if_pos b, if_pos b]
    · rw [if_neg b, if_neg b, h.2.1]
      exact pv_ev_congr h.1 _ 32 0 (by omega)
def pp_uP (P : Nat → pp_Pos) (k : Nat) (x : pp_Pos) : Nat → pp_Pos := fun i => if i = k then x else P i
theorem pp_uPs {P : Nat → pp_Pos} {k : Nat} {x : pp_Pos} : pp_uP P k x k = x := if_pos rfl
theorem pp_uPn {P : Nat → pp_Pos} {k i : Nat} {x : pp_Pos} (h : i ≠ k) : pp_uP P k x i = P i := if_neg h
def pp_H (lim : Int32) (pl l : Nat) (S : dg_Sh) (ix : Nat → Nat) (vb : Nat → Int) (g : Nat) (P : Nat → pp_Pos) : Prop :=
  (∀ i, i ≤ l → pp_at S i (P i)) ∧ (∀ i, i < l → P (i + 1) = pp_ap (P i) (pp_mv (P i) (ix i)) ∧ ¬ pp_lf lim pl (i + 1) (P (i + 1))) ∧ (∀ i, i ≤ l → vb i = pp_f (pp_ch lim pl i (P i)) (ix i)) ∧ g = pp_a (pp_ch lim pl 0 (P 0)) (ix 0)
theorem pp_H_take {lim : Int32} {pl l g : Nat} {S S' : dg_Sh} {ix : Nat → Nat} {vb : Nat → Int} {P : Nat → pp_Pos} {v : Int} (h : pp_H lim pl l S ix vb g P) (hS : ∀ i, i ≤ l → pp_at S' i (P i)) (hv : v = pp_ch lim pl l (P l) (ix l)) :
    pp_H lim pl l S' (dg_u ix l (ix l + 1)) (dg_tv l v vb) (dg_tg l v vb ix g) P := by
  obtain ⟨h1, h2, h3, h4⟩ := h
  have hl := h3 l (Nat.le_refl l)
  refine ⟨hS, fun i hi => ?_, fun i hi => ?_, ?_⟩
  · rw [dg_un (by omega)]; exact h2 i hi
  · unfold dg_tv
    by_cases e : i = l
    · subst e
      rw [dg_us]
      show _ = if pp_f (pp_ch lim pl i (P i)) (ix i) < pp_ch lim pl i (P i) (ix i) then pp_ch lim pl i (P i) (ix i) else pp_f (pp_ch lim pl i (P i)) (ix i)
      rw [← hl, ← hv]
      split
      · exact dg_uIs
      · exact rfl
    · rw [dg_un e, ← h3 i hi]
      split
      · exact dg_uIn e
      · exact rfl
  · unfold dg_tg
    by_cases e : l = 0
    · subst e
      rw [dg_us]
      show _ = if pp_f (pp_ch lim pl 0 (P 0)) (ix 0) < pp_ch lim pl 0 (P 0) (ix 0) then ix 0 else pp_a (pp_ch lim pl 0 (P 0)) (ix 0)
      rw [← hl, ← hv, ← h4, if_pos rfl]
    · rw [dg_un (fun y => e y.symm), if_neg e, ← h4]
      split <;> rfl
/-- the machine of the search finds the value and the first best move -/
theorem pp_se {lim : Int32} {pl : Nat} (hpl : pl ≤ 3) : ∀ (n l : Nat) (S : dg_Sh) (ix : Nat → Nat) (vb : Nat → Int) (g : Nat) (P : Nat → pp_Pos), dg_H l S ix vb → l < pl → pp_H lim pl l S ix vb g P → dg_pt (dg_m S) ix (l + 1) ≤ n →
    (dg_se lim pl n (l + 1) S ix vb g).2 = (pp_f (pp_ch lim pl 0 (P 0)) (pp_ls (P 0)).length, pp_a (pp_ch lim pl 0 (P 0)) (pp_ls (P 0)).length) ∧ pp_at (dg_se lim pl n (l + 1) S ix vb g).1 0 (P 0) := by
  intro n
  induction n with
  | zero => intro l S ix vb g P _ _ _ hn; have := dg_pt_pos (dg_m S) ix l; omega
  | succ n ih =>
    intro l S ix vb g P hH hl hP hn
    have hat := hP.1 l (Nat.le_refl l)
    have hm := pp_m hat
    by_cases hlt : ix l < dg_m S l
    · obtain ⟨hO', hm'⟩ := dg_H_next hH (by omega) hlt rfl
      have hi : ix l < (pp_ls (P l)).length := by rw [← hm]; exact hlt
      have hnx := pp_next (t := l + 1) hH.1.1 (by omega) hat hi
      have hkp : ∀ i, i ≤ l → pp_at (dg_gn (l + 1) (dg_ap l (ix l) (l + 1) S)) i (P i) := fun i hil => pp_keep hat hi hil (hP.1 i hil)
      have hlfi := pp_lf_at (lim := lim) (pl := pl) hnx
      have hlvi := pp_lv_at (lim := lim) hnx
      by_cases hlf : dg_lf lim pl (l + 1) (dg_gn (l + 1) (dg_ap l (ix l) (l + 1) S))
      · rw [dg_se_leaf hlt rfl hlf]
        have hv := dg_lv_r (lim := lim) (lv := l + 1) (S := dg_gn (l + 1) (dg_ap l (ix l) (l + 1) S)) (by omega)
        have hpt := dg_pt_leaf (M := dg_m S) (M' := dg_m (dg_gn (l + 1) (dg_ap l (ix l) (l + 1) S))) (ix := ix) (l := l) hm' hlt
        refine ih l _ _ _ _ P (dg_H_take (v := - dg_lv lim (l + 1) (dg_gn (l + 1) (dg_ap l (ix l) (l + 1) S))) hH (dg_Ok_le hO' (by omega)) hm' hlt (by omega) (by omega)) hl (pp_H_take hP hkp ?_) (by omega)
        unfold pp_ch
        rw [pp_nv_leaf (hlfi.mp hlf), hlvi]
      · rw [dg_se_in hlt rfl hlf]
        have hlp : l + 1 < pl := by
          apply Classical.byContradiction
          intro z
          exact hlf (Or.inr (Or.inr (by omega)))
        have hM48' := (dg_L_m (hO'.2.2 (l + 1) (Nat.le_refl _))).1
        have hpt : dg_pt (dg_m (dg_gn (l + 1) (dg_ap l (ix l) (l + 1) S))) (dg_u ix (l + 1) 0) (l + 1 + 1) + 1 ≤ dg_pt (dg_m S) ix (l + 1) := dg_pt_in (by omega) hm' hlt hM48'
        have r := ih (l + 1) (dg_gn (l + 1) (dg_ap l (ix l) (l + 1) S)) (dg_u ix (l + 1) 0) (dg_uI vb (l + 1) (-20000)) g (pp_uP P (l + 1) (pp_ap (P l) (pp_mv (P l) (ix l)))) (dg_H_in hH hlt hO' hm' (fun z => hlf (Or.inl z))) hlp ?_ (by omega)
        · rw [pp_uPn (by omega)] at r; exact r
        · refine ⟨fun i hi2 => ?_, fun i hi2 => ?_, fun i hi2 => ?_, ?_⟩
          · by_cases e : i = l + 1
            · subst e; rw [pp_uPs]; exact hnx
            · rw [pp_uPn e]; exact hkp i (by omega)
          · rw [pp_uPn (i := i) (by omega), dg_un (by omega)]
            by_cases e : i = l
            · subst e
              rw [pp_uPs]
              exact ⟨rfl, fun z => hlf (hlfi.mpr z)⟩
            · rw [pp_uPn (by omega)]
              exact hP.2.1 i (by omega)
          · by_cases e : i = l + 1
            · subst e; rw [pp_uPs, dg_us, dg_uIs]; rfl
            · rw [pp_uPn e, dg_un e, dg_uIn e]; exact hP.2.2.1 i (by omega)
          · rw [pp_uPn (by omega), dg_un (by omega)]; exact hP.2.2.2
    · have hix := (hH.2.2 l (Nat.le_refl l)).2.1
      have hfull : ix l = (pp_ls (P l)).length := by omega
      cases l with
      | zero =>
        rw [dg_se_end hlt]
        refine ⟨?_, hP.1 0 (Nat.le_refl 0)⟩
        rw [hP.2.2.1 0 (Nat.le_refl 0), hP.2.2.2, hfull]
      | succ l =>
        obtain ⟨hv, hH'⟩ := dg_H_out hH hlt
        rw [dg_se_out hlt]
        have hpt : dg_pt (dg_m S) (dg_u ix l (ix l + 1)) (l + 1) + 1 ≤ dg_pt (dg_m S) ix (l + 1 + 1) := dg_pt_out
        have hP' : pp_H lim pl l S ix vb g P := ⟨fun i hi => hP.1 i (by omega), fun i hi => hP.2.1 i (by omega), fun i hi => hP.2.2.1 i (by omega), hP.2.2.2⟩
        refine ih l S _ _ _ P (dg_H_take (v := - vb (l + 1)) hH' hH'.1 (fun _ _ => rfl) (hH.2.1 l (by omega)) (by omega) (by omega)) (by omega) (pp_H_take hP' hP'.1 ?_) (by omega)
        have k1 := hP.2.1 l (by omega)
        have k2 := hP.2.2.1 (l + 1) (Nat.le_refl _)
        rw [k2, hfull]
        show _ = - pp_nv lim pl (pl - (l + 1)) (l + 1) (pp_ap (P l) (pp_mv (P l) (ix l)))
        rw [← k1.1, pp_nv_in k1.2 (by omega)]
