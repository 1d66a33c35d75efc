/-! the walks of the component's queries -/
theorem nn_10 : ¬ (1 : Int32) = 0 := by decide
theorem nn_gr (x : Int32) (lo hi : Nat) (hl : lo < 2 ^ 31) (hh : hi < 2 ^ 31) : (¬ x < nI lo ∧ ¬ nI hi < x) ↔ ∃ a, lo ≤ a ∧ a ≤ hi ∧ x = nI a := by
  rw [Int32.not_lt, Int32.not_lt]
  exact nn_rg x lo hi hl hh
theorem nn_Wr_m {qx qy ac ta ax ay : Nat → Int32} (h : nn_Wr qx qy ac ta ax ay) {r : Nat} (hr : r < 2) : ac r = nI (nn_n ac r) ∧ nn_n ac r ≤ 3 := nn_is_e (h.1 r hr).1
theorem nn_Wr_x {qx qy ac ta ax ay : Nat → Int32} (h : nn_Wr qx qy ac ta ax ay) {r : Nat} (hr : r < 2) : qx r = nI (nn_n qx r) ∧ nn_pt (nn_n qx r) := nn_is_e (h.1 r hr).2.1
theorem nn_Wr_y {qx qy ac ta ax ay : Nat → Int32} (h : nn_Wr qx qy ac ta ax ay) {r : Nat} (hr : r < 2) : qy r = nI (nn_n qy r) ∧ nn_pt (nn_n qy r) := nn_is_e (h.1 r hr).2.2
theorem nn_Wr_t {qx qy ac ta ax ay : Nat → Int32} (h : nn_Wr qx qy ac ta ax ay) {r i : Nat} (hr : r < 2) (hi : i < 3) : ta (3 * r + i) = nI (nn_S ta r i) ∧ nn_S ta r i < 2 := nn_is_e (h.2 (3 * r + i) (by omega)).1
theorem nn_Wr_a {qx qy ac ta ax ay : Nat → Int32} (h : nn_Wr qx qy ac ta ax ay) {r i : Nat} (hr : r < 2) (hi : i < 3) : ax (3 * r + i) = nI (nn_S ax r i) ∧ nn_pt (nn_S ax r i) := nn_is_e (h.2 (3 * r + i) (by omega)).2.1
theorem nn_Wr_b {qx qy ac ta ax ay : Nat → Int32} (h : nn_Wr qx qy ac ta ax ay) {r i : Nat} (hr : r < 2) (hi : i < 3) : ay (3 * r + i) = nI (nn_S ay r i) ∧ nn_pt (nn_S ay r i) := nn_is_e (h.2 (3 * r + i) (by omega)).2.2
section
variable {rC : Int32} {rc rx ry qx qy ac ta ax ay gi fu fv bd : Nat → Int32}
theorem nn_xcd {post : Int32 → Prop} {c : Nat} {p : Int32} (hg : ∀ i, i < 3 → gi i = nI (nn_dg c i)) (h : ∀ r, (∀ v, nn_pv v → p = nI v → r = nI (nn_cv c v)) → post r) : wpX_completed post (rC, rc, rx, ry, qx, qy, ac, ta, ax, ay, gi, fu, fv, bd) p := by
  intro x ex
  by_cases h0 : x < 0
  · refine br_t h0 (h p fun v hv e => ?_)
    have hv9 := nn_pv_lt hv
    have h10 : ¬ 10 ≤ v := fun z => by
      rw [ex, e, nn_s10 z] at h0
      exact nI_pos (by omega) h0
    rw [e]
    unfold nn_cv
    rw [if_neg h10]
  · refine br_f h0 ?_
    by_cases h3 : 3 ≤ x
    · refine br_t h3 (h p fun v hv e => ?_)
      have hv9 := nn_pv_lt hv
      by_cases z : 10 ≤ v
      · rw [ex, e, nn_s10 z] at h3
        exact absurd h3 (nI_ge (b := 3) (by omega) (by decide))
      · rw [ex, e] at h0
        exact absurd (nn_neg10 (by omega)) h0
    · refine br_f h3 ?_
      obtain ⟨j, hj, rfl⟩ := nI_of h0
      have j3 : j < 3 := by
        have h3 : ¬ nI 3 ≤ nI j := h3
        rw [nI_leI (by decide) hj] at h3
        omega
      refine ⟨vp_in_nI j3 (by decide), ?_⟩
      rw [nI_clamp hj, hg j j3]
      refine h _ fun v hv e => ?_
      have hv9 := nn_pv_lt hv
      by_cases z : 10 ≤ v
      · rw [e, nn_s10 z, nI_eq hj (by omega)] at ex
        unfold nn_cv
        rw [if_pos z, ex]
      · rw [ex, e] at h0
        exact absurd (nn_neg10 (by omega)) h0
/-- what completeTables leaves in a slot -/
def nn_Fs (c : Nat) (rx fu : Nat → Int32) (s : Nat) : Prop := ∀ v, nn_pv v → rx s = nI v → fu s = nI (nn_cv c v)
theorem nn_Fs_u {c s i : Nat} {x : Int32} (h : nn_Fs c rx fu s) (e : s ≠ i) : nn_Fs c rx (upd fu i x) s := fun v hv ev => (pk_un e).trans (h v hv ev)
theorem nn_x32 {post : SX → Prop} {c : Nat} (hg : ∀ i, i < 3 → gi i = nI (nn_dg c i)) (h : ∀ fu fv, (∀ s, s < 10 → nn_Fs c rx fu s ∧ nn_Fs c ry fv s) → post (rC, rc, rx, ry, qx, qy, ac, ta, ax, ay, gi, fu, fv, bd)) :
    ∀ (n i : Nat) (fu fv : Nat → Int32), i ≤ 10 → 10 < n + i → (∀ s, s < i → nn_Fs c rx fu s ∧ nn_Fs c ry fv s) → wX_completeTables_32 post rC n (nI i) rc rx ry qx qy ac ta ax ay gi fu fv bd := by
  intro n
  induction n with
  | zero => intro i fu fv h1 h2; omega
  | succ n ih =>
    intro i fu fv h1 h2 hI
    refine pk_le 10 i (fun hi => ?_) (fun hi => ?_)
    · exact h fu fv (fun s hs => hI s (by omega))
    · have hc : (nI i).toNatClampNeg = i := nI_clamp (by omega)
      refine ⟨vp_in_nI hi (by decide), nn_xcd hg fun r hr => ⟨vp_in_nI hi (by decide), nm_e ⟨vp_in_nI hi (by decide), nn_xcd hg fun r' hr' => ⟨vp_in_nI hi (by decide), nm_e (nm_r (nI_1 i) ?_)⟩⟩⟩⟩
      rw [hc] at hr hr' ⊢
      refine ih (i + 1) _ _ (by omega) (by omega) fun s hs => ?_
      by_cases e : s = i
      · subst e
        exact ⟨fun v hv ev => pk_us.trans (hr v hv ev), fun v hv ev => pk_us.trans (hr' v hv ev)⟩
      · have := hI s (by omega)
        exact ⟨nn_Fs_u this.1 e, nn_Fs_u this.2 e⟩
theorem nn_x4 {post : SX → Prop} {c : Nat} (hc : c < 343) (h : ∀ gi fu fv, (∀ s, s < 10 → nn_Fs c rx fu s ∧ nn_Fs c ry fv s) → post (rC, rc, rx, ry, qx, qy, ac, ta, ax, ay, gi, fu, fv, bd)) :
    ∀ (n i : Nat) (gi : Nat → Int32), i ≤ 3 → 3 < n + i → (∀ j, j < i → gi j = nI (nn_dg c j)) → wX_completeTables_4 post rC n (nI (nn_q c i)) (nI i) rc rx ry qx qy ac ta ax ay gi fu fv bd := by
  intro n
  induction n with
  | zero => intro i gi h1 h2; omega
  | succ n ih =>
    intro i gi h1 h2 hI
    have hq := nn_q_le c i
    refine pk_le 3 i (fun hi => ?_) (fun hi => ?_)
    · exact ⟨11, nn_x32 (fun j hj => hI j (by omega)) (h gi) 11 0 fu fv (by omega) (by omega) (fun s hs => absurd hs (by omega))⟩
    · refine ⟨by decide, vp_in_nI hi (by decide), nm_e ⟨by decide, nm_r (nn_d7 (by omega)) (nm_r (nI_1 i) ?_)⟩⟩
      rw [nI_clamp (by omega), nn_m7 (by omega)]
      refine ih (i + 1) _ (by omega) (by omega) fun j hj => ?_
      by_cases e : j = i
      · subst e; exact pk_us
      · exact (pk_un e).trans (hI j (by omega))
theorem nn_xct {post : SX → Prop} {c : Nat} (hc : c < 343) (h : ∀ gi fu fv, (∀ s, s < 10 → nn_Fs c rx fu s ∧ nn_Fs c ry fv s) → post (rC, rc, rx, ry, qx, qy, ac, ta, ax, ay, gi, fu, fv, bd)) : wpX_completeTables post (rC, rc, rx, ry, qx, qy, ac, ta, ax, ay, gi, fu, fv, bd) (nI c) :=
  ⟨4, nn_x4 hc h 4 0 gi (by omega) (by omega) (fun j hj => absurd hj (by omega))⟩
theorem nn_xst10 {post : Int32 → Prop} {r t : Nat} (hr : r < 2) (hW : nn_Wr qx qy ac ta ax ay) (ht : nn_pt t) (h1 : nn_sf (nn_S ax r) (nn_S ay r) (nn_n ac r) t → post 1) (h0 : (∀ a, a < nn_n ac r → nn_S ax r a ≠ t ∧ nn_S ay r a ≠ t) → post 0) :
    ∀ (n i : Nat), i ≤ nn_n ac r → nn_n ac r < n + i → (∀ a, a < i → nn_S ax r a ≠ t ∧ nn_S ay r a ≠ t) → wX_isSafeTerm_10 post (nI r) (nI t) rC rc rx ry qx qy ac ta ax ay gi fu fv bd n (nI i) := by
  have hm := nn_Wr_m hW hr
  have ht9 := nn_pt_lt ht
  intro n
  induction n with
  | zero => intro i h1 h2; omega
  | succ n ih =>
    intro i h1' h2 hI
    refine ⟨vp_in_nI hr (by decide), pk_le (nn_n ac r) i (fun hi => ?_) (fun hi => ?_) (by rw [nI_clamp (by omega)]; exact hm.1)⟩
    · exact h0 (fun a ha => hI a (by omega))
    · have hx := nn_Wr_a hW hr (i := i) (by omega)
      have hy := nn_Wr_b hW hr (i := i) (by omega)
      have hx9 := nn_pt_lt hx.2
      have hy9 := nn_pt_lt hy.2
      refine nm_r (by rw [nn_r3, nI_add]) ⟨vp_in_nI (by omega) (by decide), ?_⟩
      rw [nI_clamp (by omega)]
      refine pk_eq (nn_S ax r i) t (fun e => ?_) (fun e => ?_) hx.1
      · exact h1 (Or.inr ⟨i, hi, Or.inl e⟩)
      · refine ⟨vp_in_nI (by omega) (by decide), pk_eq (nn_S ay r i) t (fun e2 => ?_) (fun e2 => ?_) hy.1⟩
        · exact h1 (Or.inr ⟨i, hi, Or.inr e2⟩)
        · refine nm_r (nI_1 i) (ih (i + 1) (by omega) (by omega) fun a ha => ?_)
          by_cases e3 : a = i
          · rw [e3]; exact ⟨e, e2⟩
          · exact hI a (by omega)
theorem nn_xst {post : Int32 → Prop} {r t : Nat} (hr : r < 2) (hW : nn_Wr qx qy ac ta ax ay) (ht : nn_pt t) (h1 : nn_sf (nn_S ax r) (nn_S ay r) (nn_n ac r) t → post 1) (h0 : ¬ nn_sf (nn_S ax r) (nn_S ay r) (nn_n ac r) t → post 0) : wpX_isSafeTerm post (rC, rc, rx, ry, qx, qy, ac, ta, ax, ay, gi, fu, fv, bd) (nI r) (nI t) := by
  have ht9 := nn_pt_lt ht
  refine pk_le 20 t (fun h => ?_) (fun h => ?_)
  · refine ⟨nn_n ac r + 1, nn_xst10 hr hW ht h1 (fun z => h0 fun y => ?_) _ 0 (by omega) (by omega) (fun a ha => absurd ha (by omega))⟩
    cases y with
    | inl y => omega
    | inr y =>
      obtain ⟨a, ha, y⟩ := y
      have := z a ha
      cases y with
      | inl y => exact this.1 y
      | inr y => exact this.2 y
  · exact h1 (Or.inl h)
def nn_safe (qx qy ac ax ay : Nat → Int32) (r : Nat) : Prop := nn_sf (nn_S ax r) (nn_S ay r) (nn_n ac r) (nn_n qx r) ∧ nn_sf (nn_S ax r) (nn_S ay r) (nn_n ac r) (nn_n qy r)
theorem nn_xsf {post : Int32 → Prop} {r : Nat} (hr : r < 2) (hW : nn_Wr qx qy ac ta ax ay) (h1 : nn_safe qx qy ac ax ay r → post 1) (h0 : ¬ nn_safe qx qy ac ax ay r → post 0) : wpX_isSafe post (rC, rc, rx, ry, qx, qy, ac, ta, ax, ay, gi, fu, fv, bd) (nI r) := by
  refine ⟨vp_in_nI hr (by decide), ?_⟩
  rw [nI_clamp (by omega), (nn_Wr_x hW hr).1, (nn_Wr_y hW hr).1]
  refine nn_xst hr hW (nn_Wr_x hW hr).2 (fun s1 => br_f nn_10 ⟨vp_in_nI hr (by decide), ?_⟩) (fun s1 => br_t rfl (h0 fun z => s1 z.1))
  exact nn_xst hr hW (nn_Wr_y hW hr).2 (fun s2 => br_f nn_10 (h1 ⟨s1, s2⟩)) (fun s2 => br_t rfl (h0 fun z => s2 z.2))
theorem nn_xro {post : Int32 → Prop} {t : Nat} (ht : t < 2) (hW : nn_Wt rc rx ry) (h : post (nI (nn_n rc t))) : wpX_rowsOf post (rC, rc, rx, ry, qx, qy, ac, ta, ax, ay, gi, fu, fv, bd) (nI t) := by
  refine br_f (nI_pos (by omega)) (br_f (nI_ge (b := 2) ht (by decide)) ⟨vp_in_nI ht (by decide), ?_⟩)
  rw [nI_clamp (by omega), (nn_Wt_n hW ht).1]
  exact h
theorem nn_pr_le {n T : Nat → Nat} {M : Nat} (hn : ∀ i, i < M → n (T i) ≤ 5) : ∀ d i, i + d ≤ M → nn_pr n T d i ≤ 5 ^ d := by
  intro d
  induction d with
  | zero => exact fun i _ => Nat.le_refl 1
  | succ d ih =>
    intro i h
    have h1 := ih (i + 1) (by omega)
    have h2 := hn i (by omega)
    rw [Nat.pow_succ, Nat.mul_comm]
    exact Nat.mul_le_mul h2 h1
theorem nn_xrc4 {post : Int32 → Prop} {r : Nat} (hr : r < 2) (hW : nn_Wt rc rx ry) (hR : nn_Wr qx qy ac ta ax ay) (h : post (nI (nn_pr (nn_n rc) (nn_S ta r) (nn_n ac r) 0))) :
    ∀ (n i q : Nat), i ≤ nn_n ac r → nn_n ac r < n + i → q * nn_pr (nn_n rc) (nn_S ta r) (nn_n ac r - i) i = nn_pr (nn_n rc) (nn_S ta r) (nn_n ac r) 0 → wX_rowChoices_4 post (nI r) rC rc rx ry qx qy ac ta ax ay gi fu fv bd n (nI q) (nI i) := by
  have hm := nn_Wr_m hR hr
  intro n
  induction n with
  | zero => intro i q h1 h2; omega
  | succ n ih =>
    intro i q h1 h2 hI
    refine ⟨vp_in_nI hr (by decide), pk_le (nn_n ac r) i (fun hi => ?_) (fun hi => ?_) (by rw [nI_clamp (by omega)]; exact hm.1)⟩
    · rw [show nn_n ac r - i = 0 by omega] at hI
      have hI : q * 1 = _ := hI
      rw [Nat.mul_one] at hI
      rw [hI]; exact h
    · have ht := nn_Wr_t hR hr (i := i) (by omega)
      rw [nn_r3, nI_add]
      refine ⟨vp_in_nI (by omega) (by decide), ?_⟩
      rw [nI_clamp (by omega), ht.1]
      refine nn_xro ht.2 hW (nm_r (pk_mul _ _) (nm_r (nI_1 i) (ih (i + 1) _ (by omega) (by omega) ?_)))
      rw [← hI, Nat.mul_assoc, show nn_n ac r - i = (nn_n ac r - (i + 1)) + 1 by omega]
      rfl
theorem nn_xrc {post : Int32 → Prop} {r : Nat} (hr : r < 2) (hW : nn_Wt rc rx ry) (hR : nn_Wr qx qy ac ta ax ay) (h : post (nI (nn_pr (nn_n rc) (nn_S ta r) (nn_n ac r) 0))) : wpX_rowChoices post (rC, rc, rx, ry, qx, qy, ac, ta, ax, ay, gi, fu, fv, bd) (nI r) :=
  ⟨nn_n ac r + 1, nn_xrc4 hr hW hR h _ 0 1 (by omega) (by omega) (by rw [Nat.one_mul]; rfl)⟩
end
