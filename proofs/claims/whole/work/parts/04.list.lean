/-! the move list of a level: cells that both sides hold alike -/
def dg_M (ml mv : Nat → Int32) (s : Nat) : Prop := ∃ (L : Nat) (q : Nat → Nat), 2 ≤ L ∧ L ≤ 13 ∧ ml s = nI L ∧ (∀ k, k < L → q k < 32 ∧ mv (s * 13 + k) = nI (q k)) ∧ ((∀ k, k + 1 < L → dg_D2 (q k) (q (k + 1))) ∨ (L = 2 ∧ ¬ dg_D2 (q 0) (q 1)))
def dg_L (mt ml mv : Nat → Int32) (lv : Nat) : Prop := ∃ M, M ≤ 48 ∧ mt lv = nI M ∧ ∀ i, i < M → dg_M ml mv (lv * 48 + i)
/-- a level's list may have changed, no other's -/
def dg_F (lv : Nat) (mt ml mv mt' ml' mv' : Nat → Int32) : Prop := (∀ i, i ≠ lv → mt' i = mt i) ∧ (∀ i, i < lv * 48 ∨ lv * 48 + 48 ≤ i → ml' i = ml i) ∧ (∀ i, i < lv * 624 ∨ lv * 624 + 624 ≤ i → mv' i = mv i)
theorem dg_F_rfl {lv : Nat} {mt ml mv : Nat → Int32} : dg_F lv mt ml mv mt ml mv := ⟨fun _ _ => rfl, fun _ _ => rfl, fun _ _ => rfl⟩
theorem dg_F_tr {lv : Nat} {a b c a1 b1 c1 a2 b2 c2 : Nat → Int32} (h : dg_F lv a b c a1 b1 c1) (g : dg_F lv a1 b1 c1 a2 b2 c2) : dg_F lv a b c a2 b2 c2 :=
  ⟨fun i hi => (g.1 i hi).trans (h.1 i hi), fun i hi => (g.2.1 i hi).trans (h.2.1 i hi), fun i hi => (g.2.2 i hi).trans (h.2.2 i hi)⟩
theorem dg_M_congr {ml mv ml' mv' : Nat → Int32} {s : Nat} (h : dg_M ml mv s) (h1 : ml' s = ml s) (h2 : ∀ k, k < 13 → mv' (s * 13 + k) = mv (s * 13 + k)) : dg_M ml' mv' s := by
  obtain ⟨L, q, a1, a2, a3, a4, a5⟩ := h
  exact ⟨L, q, a1, a2, h1.trans a3, fun k hk => ⟨(a4 k hk).1, (h2 k (by omega)).trans (a4 k hk).2⟩, a5⟩
/-- another level's list stands -/
theorem dg_L_F {lv l : Nat} {mt ml mv mt' ml' mv' : Nat → Int32} (h : dg_L mt ml mv l) (hl : l ≠ lv) (hf : dg_F lv mt ml mv mt' ml' mv') : dg_L mt' ml' mv' l := by
  obtain ⟨M, h1, h2, h3⟩ := h
  refine ⟨M, h1, (hf.1 l hl).trans h2, fun i hi => dg_M_congr (h3 i hi) (hf.2.1 _ (by omega)) fun k hk => hf.2.2 _ (by omega)⟩
def dg_wr (mv : Nat → Int32) (o : Nat) (q : Nat → Nat) : Nat → (Nat → Int32)
  | 0 => mv
  | n + 1 => upd (dg_wr mv o q n) (o + n) (nI (q n))
theorem dg_wr_in (mv : Nat → Int32) (o : Nat) (q : Nat → Nat) (n k : Nat) (h : k < n) : dg_wr mv o q n (o + k) = nI (q k) := by
  induction n with
  | zero => exact absurd h (Nat.not_lt_zero k)
  | succ n ih =>
    show upd (dg_wr mv o q n) (o + n) (nI (q n)) (o + k) = nI (q k)
    by_cases e : k = n
    · subst e; rw [pk_us]
    · rw [pk_un (by omega)]; exact ih (by omega)
theorem dg_wr_out (mv : Nat → Int32) (o : Nat) (q : Nat → Nat) (n i : Nat) (h : i < o ∨ o + n ≤ i) : dg_wr mv o q n i = mv i := by
  induction n with
  | zero => rfl
  | succ n ih =>
    show upd (dg_wr mv o q n) (o + n) (nI (q n)) i = mv i
    rw [pk_un (by omega)]; exact ih (by omega)
/-- a path is kept -/
theorem dg_L_rec {lv M L : Nat} {mt ml mv : Nat → Int32} {q : Nat → Nat} (hM : M < 48) (h : ∀ i, i < M → dg_M ml mv (lv * 48 + i)) (hL : 2 ≤ L) (hL2 : L ≤ 13) (hq : ∀ k, k < L → q k < 32)
    (hk : (∀ k, k + 1 < L → dg_D2 (q k) (q (k + 1))) ∨ (L = 2 ∧ ¬ dg_D2 (q 0) (q 1))) :
    dg_L (upd mt lv (nI (M + 1))) (upd ml (lv * 48 + M) (nI L)) (dg_wr mv ((lv * 48 + M) * 13) q L) lv ∧
    dg_F lv mt ml mv (upd mt lv (nI (M + 1))) (upd ml (lv * 48 + M) (nI L)) (dg_wr mv ((lv * 48 + M) * 13) q L) := by
  refine ⟨⟨M + 1, by omega, pk_us, fun i hi => ?_⟩, fun i hi => pk_un hi, fun i hi => pk_un (by omega), fun i hi => dg_wr_out _ _ _ _ _ (by omega)⟩
  by_cases e : i = M
  · subst e
    exact ⟨L, q, hL, hL2, pk_us, fun k hk => ⟨hq k hk, dg_wr_in _ _ _ _ _ hk⟩, hk⟩
  · exact dg_M_congr (h i (by omega)) (pk_un (by omega)) fun k hk => dg_wr_out _ _ _ _ _ (by omega)
/-! boards -/
def dg_B (bd : Nat → Int32) : Prop := ∀ i, i < 128 → ∃ c, c ≤ 4 ∧ bd i = nI c
def dg_b (bd : Nat → Int32) (i : Nat) : Nat := (bd i).toNatClampNeg
theorem dg_B_b {bd : Nat → Int32} (h : dg_B bd) {i : Nat} (hi : i < 128) : bd i = nI (dg_b bd i) ∧ dg_b bd i ≤ 4 := by
  obtain ⟨c, hc, e⟩ := h i hi
  unfold dg_b
  rw [e, nI_clamp (by omega)]
  exact ⟨rfl, hc⟩
theorem dg_B_upd {bd : Nat → Int32} (h : dg_B bd) (k c : Nat) (hc : c ≤ 4) : dg_B (upd bd k (nI c)) := by
  intro i hi
  by_cases e : i = k
  · subst e; exact ⟨c, hc, pk_us⟩
  · rw [pk_un e]; exact h i hi
/-- the sides to move -/
def dg_S (sd : Nat → Int32) : Prop := ∀ i, i < 4 → sd i = 0 ∨ sd i = 1
theorem dg_S_upd {sd : Nat → Int32} (h : dg_S sd) (k : Nat) (x : Int32) (hx : x = 0 ∨ x = 1) : dg_S (upd sd k x) := by
  intro i hi
  by_cases e : i = k
  · subst e; rw [pk_us]; exact hx
  · rw [pk_un e]; exact h i hi
/-- the component's table of neighbours -/
def dg_N (nb : Nat → Int32) : Prop := ∀ s, s < 32 → ∀ d, d < 4 → nb (s * 4 + d) = dg_enc (dg_T s d)
/-! copying a level's board, n cells -/
def dg_cb (bd : Nat → Int32) (s t : Nat) : Nat → (Nat → Int32)
  | 0 => bd
  | n + 1 => upd (dg_cb bd s t n) (t * 32 + n) (dg_cb bd s t n (s * 32 + n))
theorem dg_cb_src (bd : Nat → Int32) (s t n i : Nat) (h : s ≠ t) (hn : n ≤ 32) (hi : i < 32) : dg_cb bd s t n (s * 32 + i) = bd (s * 32 + i) := by
  induction n with
  | zero => rfl
  | succ n ih =>
    show upd (dg_cb bd s t n) (t * 32 + n) (dg_cb bd s t n (s * 32 + n)) (s * 32 + i) = bd (s * 32 + i)
    rw [pk_un (by omega)]; exact ih (by omega)
theorem dg_cb_in (bd : Nat → Int32) (s t n i : Nat) (h : s ≠ t) (hn : n ≤ 32) (hi : i < n) : dg_cb bd s t n (t * 32 + i) = bd (s * 32 + i) := by
  induction n with
  | zero => exact absurd hi (Nat.not_lt_zero i)
  | succ n ih =>
    show upd (dg_cb bd s t n) (t * 32 + n) (dg_cb bd s t n (s * 32 + n)) (t * 32 + i) = bd (s * 32 + i)
    by_cases e : i = n
    · subst e; rw [pk_us]; exact dg_cb_src bd s t i i h (by omega) (by omega)
    · rw [pk_un (by omega)]; exact ih (by omega) (by omega)
theorem dg_cb_out (bd : Nat → Int32) (s t n i : Nat) (h : i < t * 32 ∨ t * 32 + n ≤ i) : dg_cb bd s t n i = bd i := by
  induction n with
  | zero => rfl
  | succ n ih =>
    show upd (dg_cb bd s t n) (t * 32 + n) (dg_cb bd s t n (s * 32 + n)) i = bd i
    rw [pk_un (by omega)]; exact ih (by omega)
theorem dg_upd_same (f : Nat → Int32) (k : Nat) : upd f k (f k) = f := by
  funext i
  by_cases e : i = k
  · subst e; rw [pk_us]
  · rw [pk_un e]
theorem dg_cb_same (bd : Nat → Int32) (s n : Nat) : dg_cb bd s s n = bd := by
  induction n with
  | zero => rfl
  | succ n ih =>
    show upd (dg_cb bd s s n) (s * 32 + n) (dg_cb bd s s n (s * 32 + n)) = bd
    rw [ih]; exact dg_upd_same bd _
theorem dg_cb_B {bd : Nat → Int32} (h : dg_B bd) (s t n : Nat) (hs : s < 4) (hn : n ≤ 32) : dg_B (dg_cb bd s t n) := by
  induction n with
  | zero => exact h
  | succ n ih =>
    intro i hi
    have g := ih (by omega)
    show ∃ c, c ≤ 4 ∧ upd (dg_cb bd s t n) (t * 32 + n) (dg_cb bd s t n (s * 32 + n)) i = nI c
    by_cases e : i = t * 32 + n
    · rw [e, pk_us]; exact g _ (by omega)
    · rw [pk_un e]; exact g i hi
/-! the squares that the steps of a path jump over are emptied, n steps -/
def dg_co (s : Nat) : Nat := 2 * (s % 4) + (if s / 4 % 2 = 0 then 1 else 0)
def dg_mid (a z : Nat) : Nat := (a / 4 + z / 4) / 2 * 4 + (dg_co a + dg_co z) / 2 / 2
theorem dg_co_lt (s : Nat) : dg_co s ≤ 7 := by unfold dg_co; split <;> omega
theorem dg_mid_lt {a z : Nat} (ha : a < 32) (hz : z < 32) : dg_mid a z < 32 := by
  have h1 := dg_co_lt a
  have h2 := dg_co_lt z
  unfold dg_mid
  omega
def dg_tk (bd : Nat → Int32) (t : Nat) (q : Nat → Nat) : Nat → (Nat → Int32)
  | 0 => bd
  | n + 1 => upd (dg_tk bd t q n) (t * 32 + dg_mid (q n) (q (n + 1))) 0
theorem dg_tk_B {bd : Nat → Int32} (h : dg_B bd) (t : Nat) (q : Nat → Nat) (n : Nat) : dg_B (dg_tk bd t q n) := by
  induction n with
  | zero => exact h
  | succ n ih => exact dg_B_upd ih _ 0 (by omega)
/-! values -/
def dg_i (z : Int) : Int32 := Int32.ofInt z
theorem dg_i_add (a b : Int) : dg_i a + dg_i b = dg_i (a + b) := (Int32.ofInt_add a b).symm
theorem dg_i_sub (a b : Int) : dg_i a - dg_i b = dg_i (a - b) := (Int32.ofInt_sub a b).symm
theorem dg_i_neg (a : Int) : - dg_i a = dg_i (- a) := (Int32.ofInt_neg a).symm
theorem dg_i_nI (n : Nat) : nI n = dg_i (n : Int) := Int32.ofInt_eq_ofNat.symm
theorem dg_i_t {a : Int} (h : -2000000000 ≤ a) (h2 : a ≤ 2000000000) : (dg_i a).toInt = a := Int32.toInt_ofInt_of_le (by omega) (by omega)
theorem dg_i_lt {a b : Int} (h : -2000000000 ≤ a) (h2 : a ≤ 2000000000) (g : -2000000000 ≤ b) (g2 : b ≤ 2000000000) : dg_i a < dg_i b ↔ a < b := by
  rw [Int32.lt_iff_toInt_lt, dg_i_t h h2, dg_i_t g g2]
theorem dg_i_le {a b : Int} (h : -2000000000 ≤ a) (h2 : a ≤ 2000000000) (g : -2000000000 ≤ b) (g2 : b ≤ 2000000000) : dg_i a ≤ dg_i b ↔ a ≤ b := by
  rw [Int32.le_iff_toInt_le, dg_i_t h h2, dg_i_t g g2]
theorem dg_i_eq {a b : Int} (h : -2000000000 ≤ a) (h2 : a ≤ 2000000000) (g : -2000000000 ≤ b) (g2 : b ≤ 2000000000) : dg_i a = dg_i b ↔ a = b := by
  rw [← Int32.toInt_inj, dg_i_t h h2, dg_i_t g g2]
