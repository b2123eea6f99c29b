/-! the law's own small methods -/
theorem ll_own {post : Int32 → Prop} {c : Nat} {sd : Int32} (hc : c ≤ 4) (hs : sd = 0 ∨ sd = 1) (h1 : dg_own c sd → post 1) (h0 : ¬ dg_own c sd → post 0) : wpL_own post () (nI c) sd := by
  have n01 : ¬ (0 : Int32) = 1 := by decide
  have n10 : ¬ (1 : Int32) = 0 := by decide
  have hh : dg_own c sd ↔ ((sd = 0 ∧ (c = 1 ∨ c = 2)) ∨ (sd = 1 ∧ (c = 3 ∨ c = 4))) := by
    unfold dg_own
    constructor
    · rintro (⟨a, b, e⟩ | ⟨a, e⟩)
      · exact Or.inl ⟨e, by omega⟩
      · exact Or.inr ⟨e, by omega⟩
    · rintro (⟨e, a⟩ | ⟨e, a⟩)
      · exact Or.inl ⟨by omega, by omega, e⟩
      · exact Or.inr ⟨by omega, e⟩
  rw [hh] at h1 h0
  rcases hs with rfl | rfl
  · refine br_t rfl (pk_eq c 1 (fun e => h1 (Or.inl ⟨rfl, Or.inl e⟩)) (fun e => pk_eq c 2 (fun e2 => h1 (Or.inl ⟨rfl, Or.inr e2⟩)) (fun e2 => h0 ?_)))
    rintro (⟨_, a⟩ | ⟨a, _⟩)
    · omega
    · exact n01 a
  · refine br_f n10 (pk_eq c 3 (fun e => h1 (Or.inr ⟨rfl, Or.inl e⟩)) (fun e => pk_eq c 4 (fun e2 => h1 (Or.inr ⟨rfl, Or.inr e2⟩)) (fun e2 => h0 ?_)))
    rintro (⟨a, _⟩ | ⟨_, a⟩)
    · exact n10 a
    · omega
def ll_kg (c : Nat) : Int32 := if c = 2 ∨ c = 4 then 1 else 0
theorem ll_king {post : Int32 → Prop} {c : Nat} (hc : c ≤ 4) (h : post (ll_kg c)) : wpL_king post () (nI c) := by
  unfold ll_kg at h
  refine pk_eq c 2 (fun e => ?_) (fun e => pk_eq c 4 (fun e2 => ?_) (fun e2 => ?_))
  · rw [if_pos (Or.inl e)] at h; exact h
  · rw [if_pos (Or.inr e2)] at h; exact h
  · rw [if_neg (by omega)] at h; exact h
def ll_dr (d : Nat) : Int32 := if d < 2 then 1 else -1
def ll_dc (d : Nat) : Int32 := if d % 2 = 0 then 1 else -1
theorem ll_dR {post : Int32 → Prop} {d : Nat} (hd : d < 4) (h : post (ll_dr d)) : wpL_dR post () (nI d) := by
  unfold ll_dr at h
  refine pk_le 2 d (fun e => ?_) (fun e => ?_)
  · rw [if_neg (by omega)] at h; exact h
  · rw [if_pos e] at h; exact h
theorem ll_and1 : ∀ d, d < 4 → ((nI d &&& 1) = 0 ↔ d % 2 = 0) := by decide +kernel
theorem ll_dC {post : Int32 → Prop} {d : Nat} (hd : d < 4) (h : post (ll_dc d)) : wpL_dC post () (nI d) := by
  unfold ll_dc at h
  refine br_c (fun a => ?_) (fun a => ?_)
  · rw [if_pos ((ll_and1 d hd).mp a)] at h; exact h
  · rw [if_neg (fun z => a ((ll_and1 d hd).mpr z))] at h; exact h
def ll_f32 (x1 x2 x3 z0 z1 : Int32) : Int32 := if x3 + x1 < 0 then -1 else if 7 < x3 + x1 then -1 else if z1 + z0 + x2 < 0 then -1 else if z1 + z0 + x2 ≤ 7 then (x3 + x1) * 4 + (z1 + z0 + x2) / 2 else -1
def ll_nbE (s r c : Int32) : Int32 := ll_f32 r c (s >>> ((2 : Int32) &&& 31)) (if ((s >>> ((2 : Int32) &&& 31)) &&& 1) = 0 then 1 else 0) (2 * (s &&& 3))
theorem ll_nbE_T : ∀ s, s < 32 → ∀ d, d < 4 → ll_nbE (nI s) (ll_dr d) (ll_dc d) = dg_enc (dg_T s (3 - d)) := by decide +kernel
theorem ll_32 {post : Int32 → Prop} {x1 x2 x3 z0 z1 : Int32} (h : post (ll_f32 x1 x2 x3 z0 z1)) : wL_nb_32 post x1 x2 x3 z0 z1 := by
  unfold ll_f32 at h
  refine nm_e (nm_e (nm_e (br_c (fun a => ?_) (fun a => br_c (fun b => ?_) (fun b => br_c (fun d => ?_) (fun d => br_c (fun e => ⟨yn_h2, ?_⟩) (fun e => ?_)))))))
  · rw [if_pos a] at h; exact h
  · rw [if_neg a, if_pos b] at h; exact h
  · rw [if_neg a, if_neg b, if_pos d] at h; exact h
  · rw [if_neg a, if_neg b, if_neg d, if_pos e] at h; exact h
  · rw [if_neg a, if_neg b, if_neg d, if_neg e] at h; exact h
theorem ll_nb {post : Int32 → Prop} {s d : Nat} (hs : s < 32) (hd : d < 4) (h : post (dg_enc (dg_T s (3 - d)))) : wpL_nb post () (nI s) (ll_dr d) (ll_dc d) := by
  rw [← ll_nbE_T s hs d hd] at h
  unfold ll_nbE at h
  refine br_f (nI_pos (by omega)) (br_t (nI_le (b := 31) (by omega) (by omega)) (nm_e (br_c (fun a => ll_32 ?_) (fun a => ll_32 ?_))))
  · rw [if_pos a] at h; exact h
  · rw [if_neg a] at h; exact h
theorem ll_nbm {post : Int32 → Prop} {r c : Int32} (h : post (-1)) : wpL_nb post () (-1) r c := br_t (by decide) h
/-- the square behind the neighbour, or none -/
def ll_T2 (s d : Nat) : Nat := if dg_T s d < 32 then dg_T (dg_T s d) d else 32
theorem ll_nb2 {post : Int32 → Prop} {s d : Nat} (hs : s < 32) (hd : d < 4) (h : post (dg_enc (ll_T2 s (3 - d)))) : wpL_nb post () (dg_enc (dg_T s (3 - d))) (ll_dr d) (ll_dc d) := by
  unfold ll_T2 at h
  by_cases hT : dg_T s (3 - d) < 32
  · rw [if_pos hT] at h
    rw [dg_enc_lt hT]
    exact ll_nb hT hd h
  · rw [if_neg hT] at h
    rw [dg_enc_ge hT]
    exact ll_nbm h
theorem dg_mid_T : ∀ s, s < 32 → ∀ d, d < 4 → dg_T s d < 32 → dg_T (dg_T s d) d < 32 → dg_T s d = dg_mid s (dg_T (dg_T s d) d) := by decide +kernel
/-- the square between two squares that a jump joins -/
theorem ll_mid {post : Int32 → Prop} {a z : Nat} (ha : a < 32) (hz : z < 32) (hj : ∃ d, d < 4 ∧ dg_T a d < 32 ∧ dg_T (dg_T a d) d = z) (h : post (nI (dg_mid a z))) : wpL_mid post () (nI a) (nI z) := by
  have loop : ∀ m d n, d + m = 4 → m < n → (∃ e, d ≤ e ∧ e < 4 ∧ dg_T a (3 - e) < 32 ∧ dg_T (dg_T a (3 - e)) (3 - e) = z) → wL_mid_12 post (nI a) (nI z) n (nI d) := by
    intro m
    induction m with
    | zero =>
      rintro d n hd hn ⟨e, h1, h2, _⟩
      omega
    | succ m ih =>
      rintro d n hd hn ⟨e, h1, h2, h3, h4⟩
      obtain ⟨n, rfl⟩ : ∃ g, n = g + 1 := ⟨n - 1, by omega⟩
      refine br_f (nI_ge (b := 4) (by omega) (by omega)) (ll_dR (by omega) (ll_dC (by omega) (ll_nb ha (by omega) ?_)))
      have nxt : ¬ (dg_T a (3 - d) < 32 ∧ dg_T (dg_T a (3 - d)) (3 - d) = z) → ∀ y, y = nI d + 1 → wL_mid_12 post (nI a) (nI z) n y := by
        intro hno
        refine nm_r (nI_1 d) (ih (d + 1) n (by omega) (by omega) ⟨e, ?_, h2, h3, h4⟩)
        by_cases hed : e = d
        · subst hed; exact absurd ⟨h3, h4⟩ hno
        · omega
      by_cases hT : dg_T a (3 - d) < 32
      · rw [dg_enc_lt hT]
        refine br_f (dg_enc_n _ hT).2 (ll_dR (by omega) (ll_dC (by omega) (ll_nb hT (by omega) ?_)))
        by_cases hL : dg_T (dg_T a (3 - d)) (3 - d) < 32
        · rw [dg_enc_lt hL]
          refine pk_eq (dg_T (dg_T a (3 - d)) (3 - d)) z (fun e' => ?_) (fun e' => nxt fun y => e' y.2)
          have hm := dg_mid_T a ha (3 - d) (by omega) hT hL
          rw [e'] at hm
          rw [hm]
          exact h
        · rw [dg_enc_ge hL]
          exact br_f (fun y => (dg_enc_n z hz).1 y.symm) (nxt fun y => hL (by rw [y.2]; exact hz))
      · rw [dg_enc_ge hT]
        exact br_t (by decide) (nxt fun y => hT y.1)
  obtain ⟨d, h1, h2, h3⟩ := hj
  refine br_f (nI_pos (by omega)) (br_t (nI_pos' (by omega)) ⟨5, loop 4 0 5 (by omega) (by omega) ⟨3 - d, by omega, by omega, ?_⟩⟩)
  rw [show 3 - (3 - d) = d by omega]
  exact ⟨h2, h3⟩
def ll_cr (sd : Int32) (s : Nat) : Int32 := if sd = 0 then (if 28 ≤ s then 1 else 0) else (if s < 4 then 1 else 0)
theorem ll_crown {post : Int32 → Prop} {sd : Int32} {s : Nat} (hs : s < 32) (h : post (ll_cr sd s)) : wpL_crown post () sd (nI s) := by
  unfold ll_cr at h
  refine br_c (fun a => pk_lt s 28 (fun b => ?_) (fun b => ?_)) (fun a => br_f (nI_pos (by omega)) (pk_lt 3 s (fun b => ?_) (fun b => ?_)))
  · rw [if_pos a, if_neg (by omega)] at h; exact h
  · rw [if_pos a, if_pos b] at h; exact h
  · rw [if_neg a, if_neg (by omega)] at h; exact h
  · rw [if_neg a, if_pos (by omega)] at h; exact h
/-! the engine as it is made -/
theorem ex_init {post : St2 → Prop} {raw lim : Int32} {mc ms : Nat} (hmc : 15 ≤ mc) (hms : 3084 ≤ ms) (hlim : ∀ post : Int32 → Prop, post lim → wpX_clamp post () raw 4 80) (hp : ∀ u', eg_R lim ((eg_B0 0, 0, 0), (fun _ => 0), 0) 0 u' → post u') : wpX_init post mc ms (0, 0, 0, 0) raw := by
  have hB0 : dg_B (fun _ => 0) := fun i _ => ⟨0, by omega, rfl⟩
  have hS0 : dg_S (upd (fun _ => 0) 0 0) := dg_S_upd (fun i _ => Or.inl rfl) 0 0 (Or.inl rfl)
  have hB1 := dg_su_B hB0 0 32
  unfold wpX_init
  refine ⟨by omega, by omega, by omega, by omega, by omega, by omega, by omega, by omega, by omega, by omega, by omega, by omega, by omega, by omega, by omega, by omega, by omega, by omega, by omega, by omega, by omega, by omega, by omega, by omega, by omega, by omega, by omega, by omega, by omega, by omega, hlim _ ?_⟩
  refine xn_fill fun nb' hN => xr_setup (nm_e (xr_refresh hN hB1 hS0 rfl fun p' jx' nd' wo' => hp _ ?_))
  exact eg_mk (P := (eg_B0 0, 0, 0)) (n := 0) hN hB1 hS0 eg_su_b rfl rfl ⟨_, _, _, rfl⟩ (fun i hi => absurd hi (Nat.not_lt_zero i)) (by omega)
