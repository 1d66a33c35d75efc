/-! the checks of arguments, and what rule and atom do -/
theorem nn_Di (p : Int32) : (¬ p < 0 ∧ ¬ 2 ≤ p) ↔ nn_D p := by
  constructor
  · intro ⟨h0, h7⟩
    obtain ⟨j, hj, rfl⟩ := nI_of h0
    have h7 : ¬ nI 2 ≤ nI j := h7
    rw [nI_leI (by decide) hj] at h7
    exact ⟨j, by omega, rfl⟩
  · intro ⟨a, ha, e⟩
    rw [e]
    exact ⟨nI_pos (by omega), nI_ge (b := 2) ha (by decide)⟩
theorem nn_Ci (p : Int32) : (¬ p < 0 ∧ ¬ 3 < p) ↔ nn_C p := (nn_gr p 0 3 (by decide) (by decide)).trans ⟨fun ⟨a, _, h, e⟩ => ⟨a, h, e⟩, fun ⟨a, h, e⟩ => ⟨a, Nat.zero_le _, h, e⟩⟩
theorem nn_Ui (p : Int32) : (¬ p < 10 ∧ ¬ 12 < p) ↔ nn_U p := nn_gr p 10 12 (by decide) (by decide)
def nn_Vr (x : Int32) : Prop := ∃ a, 20 ≤ a ∧ a ≤ 23 ∧ x = nI a
theorem nn_Vri (p : Int32) : (¬ p < 20 ∧ ¬ 23 < p) ↔ nn_Vr p := nn_gr p 20 23 (by decide) (by decide)
theorem nn_Vi (p : Int32) : nn_V p ↔ (nn_C p ∨ nn_U p) := by
  constructor
  · intro ⟨a, ha, e⟩
    cases ha with
    | inl h => exact Or.inl ⟨a, h, e⟩
    | inr h => exact Or.inr ⟨a, h.1, h.2, e⟩
  · intro h
    cases h with
    | inl h => obtain ⟨a, h, e⟩ := h; exact ⟨a, Or.inl h, e⟩
    | inr h => obtain ⟨a, h1, h2, e⟩ := h; exact ⟨a, Or.inr ⟨h1, h2⟩, e⟩
theorem nn_Mi (p : Int32) : nn_M p ↔ (nn_C p ∨ nn_Vr p) := by
  constructor
  · intro ⟨a, ha, e⟩
    cases ha with
    | inl h => exact Or.inl ⟨a, h, e⟩
    | inr h => exact Or.inr ⟨a, h.1, h.2, e⟩
  · intro h
    cases h with
    | inl h => obtain ⟨a, h, e⟩ := h; exact ⟨a, Or.inl h, e⟩
    | inr h => obtain ⟨a, h1, h2, e⟩ := h; exact ⟨a, Or.inr ⟨h1, h2⟩, e⟩
theorem nn_xD {post : Int32 → Prop} {p : Int32} (h1 : nn_D p → post 1) (h0 : ¬ nn_D p → post 0) : wpX_isTable post p := by
  rw [← nn_Di] at h1 h0
  exact br_c (fun a => h0 fun z => z.1 a) fun a => br_c (fun b => h0 fun z => z.2 b) fun b => h1 ⟨a, b⟩
theorem nn_xC {post : Int32 → Prop} {p : Int32} (h1 : nn_C p → post 1) (h0 : ¬ nn_C p → post 0) : wpX_isWrittenConstant post p := by
  rw [← nn_Ci] at h1 h0
  exact br_c (fun a => h0 fun z => z.1 a) fun a => br_c (fun b => h0 fun z => z.2 b) fun b => h1 ⟨a, b⟩
theorem nn_xU {post : Int32 → Prop} {p : Int32} (h1 : nn_U p → post 1) (h0 : ¬ nn_U p → post 0) : wpX_isUnknown post p := by
  rw [← nn_Ui] at h1 h0
  exact br_c (fun a => h0 fun z => z.1 a) fun a => br_c (fun b => h0 fun z => z.2 b) fun b => h1 ⟨a, b⟩
theorem nn_xVr {post : Int32 → Prop} {p : Int32} (h1 : nn_Vr p → post 1) (h0 : ¬ nn_Vr p → post 0) : wpX_isVariable post p := by
  rw [← nn_Vri] at h1 h0
  exact br_c (fun a => h0 fun z => z.1 a) fun a => br_c (fun b => h0 fun z => z.2 b) fun b => h1 ⟨a, b⟩
theorem nn_xV {post : Int32 → Prop} {p : Int32} (h1 : nn_V p → post 1) (h0 : ¬ nn_V p → post 0) : wpX_isRowValue post p := by
  rw [nn_Vi] at h1 h0
  unfold wpX_isRowValue
  refine nn_xC (fun c => br_f nn_10 (h1 (Or.inl c))) (fun c => br_t rfl ?_)
  exact nn_xU (fun d => br_f nn_10 (h1 (Or.inr d))) (fun d => br_t rfl (h0 fun z => z.elim c d))
theorem nn_xM {post : Int32 → Prop} {p : Int32} (h1 : nn_M p → post 1) (h0 : ¬ nn_M p → post 0) : wpX_isTerm post p := by
  rw [nn_Mi] at h1 h0
  unfold wpX_isTerm
  refine nn_xC (fun c => br_f nn_10 (h1 (Or.inl c))) (fun c => br_t rfl ?_)
  exact nn_xVr (fun d => br_f nn_10 (h1 (Or.inr d))) (fun d => br_t rfl (h0 fun z => z.elim c d))
section
variable {rl sm : Int32} {rc va qe ac ta te kn bo hr al on : Nat → Int32}
theorem nn_yD {post : Int32 → Prop} {p : Int32} (h1 : nn_D p → post 1) (h0 : ¬ nn_D p → post 0) : wpY_isTable post (rl, sm, rc, va, qe, ac, ta, te, kn, bo, hr, al, on) p := by
  refine br_c (fun a => h1 ⟨0, by decide, a⟩) fun a => br_c (fun b => h1 ⟨1, by decide, b⟩) fun b => h0 ?_
  intro ⟨j, hj, e⟩
  match j, hj with
  | 0, _ => exact a e
  | 1, _ => exact b e
theorem nn_yV9 {post : Int32 → Prop} {p : Int32} (h1 : nn_U p → post 1) (h0 : ¬ nn_U p → post 0) : wY_isValue_9 post p rl sm rc va qe ac ta te kn bo hr al on := by
  rw [← nn_Ui] at h1 h0
  exact br_c (fun a => h0 fun z => z.1 a) fun a => br_c (fun b => h0 fun z => z.2 b) fun b => h1 ⟨a, b⟩
theorem nn_yM9 {post : Int32 → Prop} {p : Int32} (h1 : nn_Vr p → post 1) (h0 : ¬ nn_Vr p → post 0) : wY_isTerm_9 post p rl sm rc va qe ac ta te kn bo hr al on := by
  rw [← nn_Vri] at h1 h0
  exact br_c (fun a => h0 fun z => z.1 a) fun a => br_c (fun b => h0 fun z => z.2 b) fun b => h1 ⟨a, b⟩
theorem nn_yV {post : Int32 → Prop} {p : Int32} (h1 : nn_V p → post 1) (h0 : ¬ nn_V p → post 0) : wpY_isValue post (rl, sm, rc, va, qe, ac, ta, te, kn, bo, hr, al, on) p := by
  rw [nn_Vi] at h1 h0
  refine br_c (fun a => nn_yV9 (fun d => h1 (Or.inr d)) (fun d => h0 fun z => z.elim (fun c => ((nn_Ci p).mpr c).1 a) d)) fun a => br_c (fun b => h1 (Or.inl ((nn_Ci p).mp ⟨a, Int32.not_lt.mpr b⟩))) fun b => nn_yV9 (fun d => h1 (Or.inr d)) (fun d => h0 fun z => z.elim (fun c => b (Int32.not_lt.mp ((nn_Ci p).mpr c).2)) d)
theorem nn_yM {post : Int32 → Prop} {p : Int32} (h1 : nn_M p → post 1) (h0 : ¬ nn_M p → post 0) : wpY_isTerm post (rl, sm, rc, va, qe, ac, ta, te, kn, bo, hr, al, on) p := by
  rw [nn_Mi] at h1 h0
  refine br_c (fun a => nn_yM9 (fun d => h1 (Or.inr d)) (fun d => h0 fun z => z.elim (fun c => ((nn_Ci p).mpr c).1 a) d)) fun a => br_c (fun b => h1 (Or.inl ((nn_Ci p).mp ⟨a, Int32.not_lt.mpr b⟩))) fun b => nn_yM9 (fun d => h1 (Or.inr d)) (fun d => h0 fun z => z.elim (fun c => b (Int32.not_lt.mp ((nn_Ci p).mpr c).2)) d)
end
theorem nn_u_is {a : Nat → Int32} {j s x : Nat} {p : Nat → Prop} (h : nn_is (a s) p) (hx : x < 2 ^ 31) (hp : p x) : nn_is (upd a j (nI x) s) p := by
  by_cases e : s = j
  · rw [e, pk_us]; exact nn_is_i hx hp
  · rw [pk_un e]; exact h
theorem nn_rule_W {qx qy ac ta ax ay : Nat → Int32} {R x y : Nat} (h : nn_Wr qx qy ac ta ax ay) (hx : nn_pt x) (hy : nn_pt y) : nn_Wr (upd qx R (nI x)) (upd qy R (nI y)) (upd ac R (nI 0)) ta ax ay := by
  have hx9 := nn_pt_lt hx
  have hy9 := nn_pt_lt hy
  refine ⟨fun r hr => ?_, h.2⟩
  have := h.1 r hr
  exact ⟨nn_u_is this.1 (by omega) (by omega), nn_u_is this.2.1 (by omega) hx, nn_u_is this.2.2 (by omega) hy⟩
theorem nn_rule_Y {qx qy ax ay qe te : Nat → Int32} {R : Nat} {x y : Int32} (h : nn_Yr qx qy ax ay qe te) : nn_Yr (upd qx R x) (upd qy R y) ax ay (upd (upd qe (2 * R) x) (2 * R + 1) y) te := by
  refine ⟨fun r hr => ?_, h.2⟩
  have := h.1 r hr
  by_cases e : r = R
  · subst e
    rw [pk_un (by omega), pk_us, pk_us, pk_us, pk_us]
    exact ⟨rfl, rfl⟩
  · rw [pk_un (by omega), pk_un (by omega), pk_un (by omega), pk_un (by omega), pk_un (by omega), pk_un (by omega)]
    exact this
theorem nn_atom_W {qx qy ac ta ax ay : Nat → Int32} {r s m t x y : Nat} (h : nn_Wr qx qy ac ta ax ay) (hm : m ≤ 3) (ht : t < 2) (hx : nn_pt x) (hy : nn_pt y) : nn_Wr qx qy (upd ac r (nI m)) (upd ta s (nI t)) (upd ax s (nI x)) (upd ay s (nI y)) := by
  have hx9 := nn_pt_lt hx
  have hy9 := nn_pt_lt hy
  refine ⟨fun r' hr => ?_, fun s' hs => ?_⟩
  · have := h.1 r' hr
    exact ⟨nn_u_is this.1 (by omega) hm, this.2⟩
  · have := h.2 s' hs
    exact ⟨nn_u_is this.1 (by omega) ht, nn_u_is this.2.1 (by omega) hx, nn_u_is this.2.2 (by omega) hy⟩
theorem nn_atom_Y {qx qy ax ay qe te : Nat → Int32} {s : Nat} {x y : Int32} (h : nn_Yr qx qy ax ay qe te) : nn_Yr qx qy (upd ax s x) (upd ay s y) qe (upd (upd te (2 * s) x) (2 * s + 1) y) := by
  refine ⟨h.1, fun r hr => ?_⟩
  have := h.2 r hr
  by_cases e : r = s
  · subst e
    rw [pk_un (by omega), pk_us, pk_us, pk_us, pk_us]
    exact ⟨rfl, rfl⟩
  · rw [pk_un (by omega), pk_un (by omega), pk_un (by omega), pk_un (by omega), pk_un (by omega), pk_un (by omega)]
    exact this
