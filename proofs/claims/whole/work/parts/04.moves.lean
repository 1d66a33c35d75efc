/-! what addRow, dropRow and learn do to the tables -/
theorem nn_n_s {rc : Nat → Int32} {t k : Nat} (hk : k < 2 ^ 31) : nn_n (upd rc t (nI k)) t = k := by
  unfold nn_n
  rw [pk_us, nI_clamp hk]
theorem nn_n_n {rc : Nat → Int32} {t s : Nat} {x : Int32} (h : s ≠ t) : nn_n (upd rc t x) s = nn_n rc s := by
  unfold nn_n
  rw [pk_un h]
theorem nn_n_e {rc : Nat → Int32} {t k : Nat} (h : rc t = nI k) (hk : k < 2 ^ 31) : nn_n rc t = k := by
  unfold nn_n
  rw [h, nI_clamp hk]
theorem nn_Wt_n {rc rx ry : Nat → Int32} (h : nn_Wt rc rx ry) {t : Nat} (ht : t < 2) : rc t = nI (nn_n rc t) ∧ nn_n rc t ≤ 5 := nn_is_e (h.1 t ht)
theorem nn_rc_u {rc : Nat → Int32} {t k : Nat} (h : ∀ t, t < 2 → nn_is (rc t) (fun a => a ≤ 5)) (hk : k ≤ 5) : ∀ s, s < 2 → nn_is (upd rc t (nI k) s) (fun a => a ≤ 5) := by
  intro s hs
  by_cases e : s = t
  · rw [e, pk_us]; exact nn_is_i (by omega) hk
  · rw [pk_un e]; exact h s hs
theorem nn_add_W {rc rx ry : Nat → Int32} {t k x y : Nat} (hW : nn_Wt rc rx ry) (ht : t < 2) (hk : nn_n rc t = k) (k5 : k < 5) (hx : nn_pv x) (hy : nn_pv y) :
    nn_Wt (upd rc t (nI (k + 1))) (upd rx (5 * t + k) (nI x)) (upd ry (5 * t + k) (nI y)) := by
  have hx9 := nn_pv_lt hx
  have hy9 := nn_pv_lt hy
  refine ⟨nn_rc_u hW.1 (by omega), fun s hs i hi => ?_⟩
  by_cases e : s = t
  · subst e
    rw [nn_n_s (by omega)] at hi
    by_cases f : i = k
    · subst f
      rw [pk_us, pk_us]
      exact ⟨nn_is_i (by omega) hx, nn_is_i (by omega) hy⟩
    · rw [pk_un (by omega), pk_un (by omega)]
      exact hW.2 s hs i (by omega)
  · rw [nn_n_n e] at hi
    have := (nn_Wt_n hW hs).2
    rw [pk_un (by omega), pk_un (by omega)]
    exact hW.2 s hs i hi
theorem nn_add_Y {rc rx ry va : Nat → Int32} {t k x y : Nat} (hW : nn_Wt rc rx ry) (hY : nn_Yt rc rx ry va) (ht : t < 2) (hk : nn_n rc t = k) (k5 : k < 5) :
    nn_Yt (upd rc t (nI (k + 1))) (upd rx (5 * t + k) (nI x)) (upd ry (5 * t + k) (nI y)) (upd (upd va (10 * t + 2 * k) (nI x)) (10 * t + 2 * k + 1) (nI y)) := by
  intro s hs i hi
  by_cases e : s = t
  · subst e
    rw [nn_n_s (by omega)] at hi
    by_cases f : i = k
    · subst f
      rw [pk_un (by omega), pk_us, pk_us, pk_us, pk_us]
      exact ⟨rfl, rfl⟩
    · rw [pk_un (by omega), pk_un (by omega), pk_un (by omega), pk_un (by omega), pk_un (by omega), pk_un (by omega)]
      exact hY s hs i (by omega)
  · rw [nn_n_n e] at hi
    have := (nn_Wt_n hW hs).2
    rw [pk_un (by omega), pk_un (by omega), pk_un (by omega), pk_un (by omega), pk_un (by omega), pk_un (by omega)]
    exact hY s hs i hi
/-- a run of an array moved down by w -/
def nn_mv (a : Nat → Int32) (f n w : Nat) : Nat → Int32 := fun s => if f ≤ s ∧ s < f + n then a (s + w) else a s
theorem nn_mv_0 {a : Nat → Int32} {f w : Nat} : nn_mv a f 0 w = a := by
  funext s
  exact if_neg (by omega)
theorem nn_mv_i {a : Nat → Int32} {f n w s : Nat} (h1 : f ≤ s) (h2 : s < f + n) : nn_mv a f n w s = a (s + w) := if_pos ⟨h1, h2⟩
theorem nn_mv_o {a : Nat → Int32} {f n w s : Nat} (h : s < f ∨ f + n ≤ s) : nn_mv a f n w s = a s := if_neg (by omega)
theorem nn_mv_s {a : Nat → Int32} {f n w : Nat} (hw : 0 < w) : upd (nn_mv a f n w) (f + n) (nn_mv a f n w (f + n + w)) = nn_mv a f (n + 1) w := by
  funext s
  by_cases e : s = f + n
  · rw [e, pk_us, nn_mv_o (by omega), nn_mv_i (by omega) (by omega)]
  · rw [pk_un e]
    by_cases h : f ≤ s ∧ s < f + n
    · rw [nn_mv_i h.1 h.2, nn_mv_i h.1 (by omega)]
    · rw [nn_mv_o (by omega), nn_mv_o (by omega)]
theorem nn_drop_W {rc rx ry : Nat → Int32} {t k : Nat} (hW : nn_Wt rc rx ry) (ht : t < 2) (hk : nn_n rc t = k + 1) :
    nn_Wt (upd rc t (nI k)) (nn_mv rx (5 * t) k 1) (nn_mv ry (5 * t) k 1) := by
  have hk5 := (nn_Wt_n hW ht).2
  refine ⟨nn_rc_u hW.1 (by omega), fun s hs i hi => ?_⟩
  by_cases e : s = t
  · subst e
    rw [nn_n_s (by omega)] at hi
    rw [nn_mv_i (by omega) (by omega), nn_mv_i (by omega) (by omega)]
    exact hW.2 s hs (i + 1) (by omega)
  · rw [nn_n_n e] at hi
    have := (nn_Wt_n hW hs).2
    rw [nn_mv_o (by omega), nn_mv_o (by omega)]
    exact hW.2 s hs i hi
theorem nn_drop_Y {rc rx ry va : Nat → Int32} {t k : Nat} (hW : nn_Wt rc rx ry) (hY : nn_Yt rc rx ry va) (ht : t < 2) (hk : nn_n rc t = k + 1) :
    nn_Yt (upd rc t (nI k)) (nn_mv rx (5 * t) k 1) (nn_mv ry (5 * t) k 1) (nn_mv va (10 * t) 8 2) := by
  have hk5 := (nn_Wt_n hW ht).2
  intro s hs i hi
  by_cases e : s = t
  · subst e
    rw [nn_n_s (by omega)] at hi
    rw [nn_mv_i (by omega) (by omega), nn_mv_i (by omega) (by omega), nn_mv_i (by omega) (by omega), nn_mv_i (by omega) (by omega)]
    have := hY s hs (i + 1) (by omega)
    rw [show 10 * s + 2 * i + 2 = 10 * s + 2 * (i + 1) by omega, show 10 * s + 2 * i + 1 + 2 = 10 * s + 2 * (i + 1) + 1 by omega]
    exact this
  · rw [nn_n_n e] at hi
    have := (nn_Wt_n hW hs).2
    rw [nn_mv_o (by omega), nn_mv_o (by omega), nn_mv_o (by omega), nn_mv_o (by omega)]
    exact hY s hs i hi
/-- an array in which the places of p hold c -/
noncomputable def nn_pl (a : Nat → Int32) (p : Nat → Prop) (c : Int32) : Nat → Int32 := fun s => match Classical.propDecidable (p s) with | .isTrue _ => c | .isFalse _ => a s
theorem nn_pl_t {a : Nat → Int32} {p : Nat → Prop} {c : Int32} {s : Nat} (h : p s) : nn_pl a p c s = c := by
  unfold nn_pl
  cases Classical.propDecidable (p s) with
  | isTrue _ => rfl
  | isFalse z => exact absurd h z
theorem nn_pl_f {a : Nat → Int32} {p : Nat → Prop} {c : Int32} {s : Nat} (h : ¬ p s) : nn_pl a p c s = a s := by
  unfold nn_pl
  cases Classical.propDecidable (p s) with
  | isTrue z => exact absurd z h
  | isFalse _ => rfl
theorem nn_pl_e {a : Nat → Int32} {p q : Nat → Prop} {c : Int32} (h : ∀ s, p s ↔ q s) : nn_pl a p c = nn_pl a q c := by
  funext s
  by_cases e : p s
  · rw [nn_pl_t e, nn_pl_t ((h s).mp e)]
  · rw [nn_pl_f e, nn_pl_f (fun z => e ((h s).mpr z))]
theorem nn_pl_0 {a : Nat → Int32} {p : Nat → Prop} {c : Int32} (h : ∀ s, ¬ p s) : nn_pl a p c = a := by
  funext s
  exact nn_pl_f (h s)
theorem nn_pl_u {a : Nat → Int32} {p q : Nat → Prop} {c : Int32} {j : Nat} (h : ∀ s, q s ↔ (p s ∨ s = j)) : upd (nn_pl a p c) j c = nn_pl a q c := by
  funext s
  by_cases e : s = j
  · rw [e, pk_us, nn_pl_t ((h j).mpr (Or.inr rfl))]
  · rw [pk_un e]
    by_cases f : p s
    · rw [nn_pl_t f, nn_pl_t ((h s).mpr (Or.inl f))]
    · rw [nn_pl_f f, nn_pl_f (fun z => ((h s).mp z).elim f e)]
/-- the places of the reference's table that learn fills -/
def nn_ht (rc va : Nat → Int32) (U : Int32) (j : Nat) : Prop := j % 10 < 2 * nn_n rc (j / 10) ∧ va j = U
/-- .. and of the component's, by column -/
def nn_hx (rc rx : Nat → Int32) (U : Int32) (s : Nat) : Prop := s % 5 < nn_n rc (s / 5) ∧ rx s = U
noncomputable def nn_lc (rc va : Nat → Int32) (U : Int32) (j : Nat) : Nat := nn_cn (nn_ht rc va U) (fun i => Classical.propDecidable _) j
theorem nn_lc_t {rc va : Nat → Int32} {U : Int32} {j : Nat} (h : nn_ht rc va U j) : nn_lc rc va U (j + 1) = nn_lc rc va U j + 1 := nn_cn_t h
theorem nn_lc_f {rc va : Nat → Int32} {U : Int32} {j : Nat} (h : ¬ nn_ht rc va U j) : nn_lc rc va U (j + 1) = nn_lc rc va U j := nn_cn_f h
theorem nn_lc_le {rc va : Nat → Int32} {U : Int32} : ∀ j, nn_lc rc va U j ≤ j := by
  intro j
  induction j with
  | zero => exact Nat.le_refl 0
  | succ j ih =>
    by_cases h : nn_ht rc va U j
    · rw [nn_lc_t h]; omega
    · rw [nn_lc_f h]; omega
theorem nn_lc_gap {rc va : Nat → Int32} {U : Int32} {t : Nat} : ∀ d, 2 * nn_n rc t + d ≤ 10 → nn_lc rc va U (10 * t + 2 * nn_n rc t + d) = nn_lc rc va U (10 * t + 2 * nn_n rc t) := by
  intro d
  induction d with
  | zero => exact fun _ => rfl
  | succ d ih =>
    intro h
    have hh : ¬ nn_ht rc va U (10 * t + 2 * nn_n rc t + d) := by
      intro z
      have z1 := z.1
      rw [show (10 * t + 2 * nn_n rc t + d) / 10 = t by omega] at z1
      omega
    rw [show 10 * t + 2 * nn_n rc t + (d + 1) = 10 * t + 2 * nn_n rc t + d + 1 by omega, nn_lc_f hh]
    exact ih (by omega)
theorem nn_lc_next {rc va : Nat → Int32} {U : Int32} {t : Nat} (h : nn_n rc t ≤ 5) : nn_lc rc va U (10 * (t + 1)) = nn_lc rc va U (10 * t + 2 * nn_n rc t) := by
  rw [← nn_lc_gap (rc := rc) (va := va) (U := U) (t := t) (10 - 2 * nn_n rc t) (by omega)]
  congr 1
  omega
theorem nn_learn_is {rc rx : Nat → Int32} {U : Int32} {C s : Nat} (hC : C ≤ 3) (h : nn_is (rx s) nn_pv) : nn_is (nn_pl rx (nn_hx rc rx U) (nI C) s) nn_pv := by
  by_cases e : nn_hx rc rx U s
  · rw [nn_pl_t e]; exact nn_is_i (by omega) (Or.inl hC)
  · rw [nn_pl_f e]; exact h
theorem nn_learn_W {rc rx ry : Nat → Int32} {U : Int32} {C : Nat} (hW : nn_Wt rc rx ry) (hC : C ≤ 3) :
    nn_Wt rc (nn_pl rx (nn_hx rc rx U) (nI C)) (nn_pl ry (nn_hx rc ry U) (nI C)) :=
  ⟨hW.1, fun s hs i hi => ⟨nn_learn_is hC (hW.2 s hs i hi).1, nn_learn_is hC (hW.2 s hs i hi).2⟩⟩
theorem nn_learn_1 {rc rx va : Nat → Int32} {U c : Int32} {s j : Nat} (e : va j = rx s) (h1 : s % 5 < nn_n rc (s / 5)) (h2 : j % 10 < 2 * nn_n rc (j / 10)) : nn_pl va (nn_ht rc va U) c j = nn_pl rx (nn_hx rc rx U) c s := by
  by_cases h : rx s = U
  · rw [nn_pl_t (show nn_hx rc rx U s from ⟨h1, h⟩), nn_pl_t (show nn_ht rc va U j from ⟨h2, e.trans h⟩)]
  · rw [nn_pl_f (fun z : nn_hx rc rx U s => h z.2), nn_pl_f (fun z : nn_ht rc va U j => h (e.symm.trans z.2)), e]
theorem nn_learn_Y {rc rx ry va : Nat → Int32} {U c : Int32} (hW : nn_Wt rc rx ry) (hY : nn_Yt rc rx ry va) :
    nn_Yt rc (nn_pl rx (nn_hx rc rx U) c) (nn_pl ry (nn_hx rc ry U) c) (nn_pl va (nn_ht rc va U) c) := by
  intro t ht i hi
  have h5 := (nn_Wt_n hW ht).2
  have y := hY t ht i hi
  have d1 : (5 * t + i) / 5 = t := by omega
  have d2 : (10 * t + 2 * i) / 10 = t := by omega
  have d3 : (10 * t + 2 * i + 1) / 10 = t := by omega
  exact ⟨nn_learn_1 y.1 (by rw [d1]; omega) (by rw [d2]; omega), nn_learn_1 y.2 (by rw [d1]; omega) (by rw [d3]; omega)⟩
