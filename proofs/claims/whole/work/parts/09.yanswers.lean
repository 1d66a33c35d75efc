/-! the reference's answers -/
section
variable {rl sm : Int32} {rc va qe ac ta te kn bo hr al on rx ry qx qy ax ay : Nat → Int32}
theorem nn_y79 {post : Int32 → SY → Prop} {H Al On : Nat → Prop} (hH : ∀ k, k < 49 → nn_bo (hr k) (H k))
    (h : ∀ x al on, nn_bo x (∃ k, k < 49 ∧ H k) → (∀ k, k < 49 → nn_bo (al k) (Al k ∧ H k)) → (∀ k, k < 49 → nn_bo (on k) (On k ∨ H k)) → post x (rl, sm, rc, va, qe, ac, ta, te, kn, bo, hr, al, on)) :
    ∀ (n i : Nat) (x : Int32) (al on : Nat → Int32), i ≤ 49 → 49 < n + i → nn_bo x (∃ k, k < i ∧ H k) → (∀ k, k < 49 → nn_bo (al k) (Al k ∧ (k < i → H k))) → (∀ k, k < 49 → nn_bo (on k) (On k ∨ (k < i ∧ H k))) → wY_complete_79 post rl sm n x (nI i) rc va qe ac ta te kn bo hr al on := by
  intro n
  induction n with
  | zero => intro i x al on h1 h2; omega
  | succ n ih =>
    intro i x al on hi hn hx ha ho
    refine pk_le 49 i (fun hi => ?_) (fun hi => ?_)
    · have : i = 49 := by omega
      subst this
      exact ⟨nn_bo_n hx, h x al on hx (fun k hk => nn_bo_c (ha k hk) ⟨fun z => ⟨z.1, z.2 hk⟩, fun z => ⟨z.1, fun _ => z.2⟩⟩) (fun k hk => nn_bo_c (ho k hk) (or_congr Iff.rfl ⟨fun z => z.2, fun z => ⟨hk, z⟩⟩))⟩
    · have hin : vp_in (nI i) 49 := vp_in_nI hi (by decide)
      have hcl : (nI i).toNatClampNeg = i := nI_clamp (by omega)
      have hb := nn_bo_0 (hH i hi)
      refine ⟨hin, ?_⟩
      rw [hcl, hb, nn_vb0, nn_vb1]
      refine br_c (fun z => ⟨hin, nm_e (nm_r (nI_1 i) (ih (i + 1) x _ on (by omega) (by omega) ?_ (fun k hk => ?_) (fun k hk => ?_)))⟩) (fun z => ⟨hin, nm_e (nm_r (nI_1 i) (ih (i + 1) 1 al _ (by omega) (by omega) ?_ (fun k hk => ?_) (fun k hk => ?_)))⟩)
      · refine nn_bo_c hx ?_
        rw [nn_ex_s]
        exact ⟨Or.inl, fun y => y.elim id fun y => absurd y z⟩
      · by_cases e : k = i
        · rw [e, pk_us]
          exact nn_bo_f fun y => z (y.2 (by omega))
        · rw [pk_un e]
          exact nn_bo_c (ha k hk) ⟨fun y => ⟨y.1, fun w => y.2 (by omega)⟩, fun y => ⟨y.1, fun w => y.2 (by omega)⟩⟩
      · refine nn_bo_c (ho k hk) (or_congr Iff.rfl ⟨fun y => ⟨by omega, y.2⟩, fun y => ⟨?_, y.2⟩⟩)
        by_cases e : k = i
        · exact absurd (e ▸ y.2) z
        · omega
      · have z : H i := Classical.byContradiction z
        exact nn_bo_t ⟨i, by omega, z⟩
      · have z : H i := Classical.byContradiction z
        refine nn_bo_c (ha k hk) ⟨fun y => ⟨y.1, fun w => ?_⟩, fun y => ⟨y.1, fun w => y.2 (by omega)⟩⟩
        by_cases e : k = i
        · exact e ▸ z
        · exact y.2 (by omega)
      · have z : H i := Classical.byContradiction z
        by_cases e : k = i
        · rw [e, pk_us]
          exact nn_bo_t (Or.inr ⟨by omega, z⟩)
        · rw [pk_un e]
          exact nn_bo_c (ho k hk) (or_congr Iff.rfl ⟨fun y => ⟨by omega, y.2⟩, fun y => ⟨by omega, y.2⟩⟩)
theorem nn_y56 {post : Int32 → SY → Prop} {R c : Nat} {Al On : Nat → Prop} (hRL : rl = nI R) (hR2 : R ≤ 2) (hW : nn_Wt rc rx ry) (hR : nn_Wr qx qy ac ta ax ay) (hY : nn_Yt rc rx ry va) (hZ : nn_Yr qx qy ax ay qe te) (hk : ∀ i, i < 3 → kn i = nI (nn_dg c i))
    (ha : ∀ k, k < 49 → nn_bo (al k) (Al k)) (ho : ∀ k, k < 49 → nn_bo (on k) (On k))
    (h : ∀ x bo hr al on, nn_bo x (∃ k, k < 49 ∧ nn_A R rc rx ry qx qy ac ta ax ay c k) → (∀ k, k < 49 → nn_bo (al k) (Al k ∧ nn_A R rc rx ry qx qy ac ta ax ay c k)) → (∀ k, k < 49 → nn_bo (on k) (On k ∨ nn_A R rc rx ry qx qy ac ta ax ay c k)) → post x (rl, sm, rc, va, qe, ac, ta, te, kn, bo, hr, al, on)) :
    ∀ (n r : Nat) (bo hr : Nat → Int32), r ≤ R → R < n + r → (∀ k, k < 49 → nn_bo (hr k) (∃ r', r' < r ∧ nn_Ar rc rx ry qx qy ac ta ax ay c r' k)) → wY_complete_56 post n (nI r) rl sm rc va qe ac ta te kn bo hr al on := by
  intro n
  induction n with
  | zero => intro r bo hr h1 h2; omega
  | succ n ih =>
    intro r bo hr hr9 hn hH
    refine pk_le R r (fun hi => ?_) (fun hi => ?_) hRL
    · have : r = R := by omega
      subst this
      exact ⟨50, nn_y79 hH (fun x al on => h x bo hr al on) 50 0 0 al on (by omega) (by omega) (nn_bo_f nn_ex_0) (fun k hk => nn_bo_c (ha k hk) ⟨fun z => ⟨z, fun w => absurd w (by omega)⟩, fun z => z.1⟩) (fun k hk => nn_bo_c (ho k hk) ⟨Or.inl, fun z => z.elim id fun y => absurd y.1 (by omega)⟩)⟩
    · refine nn_yap (by omega) hW hR hY hZ hk hH fun bo hr hH => ?_
      dsimp only
      exact nm_r (nI_1 r) (ih (r + 1) bo hr (by omega) (by omega) fun k hk9 => nn_bo_c (hH k hk9) nn_ex_s.symm)
theorem nn_y35c {post : Int32 → SY → Prop} {R c : Nat} {Al On : Nat → Prop} (hRL : rl = nI R) (hR2 : R ≤ 2) (hW : nn_Wt rc rx ry) (hR : nn_Wr qx qy ac ta ax ay) (hY : nn_Yt rc rx ry va) (hZ : nn_Yr qx qy ax ay qe te) (hk : ∀ i, i < 3 → kn i = nI (nn_dg c i))
    (ha : ∀ k, k < 49 → nn_bo (al k) (Al k)) (ho : ∀ k, k < 49 → nn_bo (on k) (On k))
    (h : ∀ x bo hr al on, nn_bo x (∃ k, k < 49 ∧ nn_A R rc rx ry qx qy ac ta ax ay c k) → (∀ k, k < 49 → nn_bo (al k) (Al k ∧ nn_A R rc rx ry qx qy ac ta ax ay c k)) → (∀ k, k < 49 → nn_bo (on k) (On k ∨ nn_A R rc rx ry qx qy ac ta ax ay c k)) → post x (rl, sm, rc, va, qe, ac, ta, te, kn, bo, hr, al, on)) :
    ∀ (n i : Nat) (hr : Nat → Int32), i ≤ 49 → 49 < n + i → (∀ k, k < i → hr k = 0) → wY_complete_35 post rl sm n (nI i) rc va qe ac ta te kn bo hr al on := by
  intro n
  induction n with
  | zero => intro i hr h1 h2; omega
  | succ n ih =>
    intro i hr hi hn hI
    refine pk_le 49 i (fun hi => ?_) (fun hi => ?_)
    · exact ⟨R + 1, nn_y56 hRL hR2 hW hR hY hZ hk ha ho h _ 0 bo hr (by omega) (by omega) fun k hk9 => by rw [hI k (by omega)]; exact nn_bo_f nn_ex_0⟩
    · refine ⟨vp_in_nI hi (by decide), nm_e (nm_r (nI_1 i) ?_)⟩
      rw [nI_clamp (by omega), nn_vb0]
      refine ih (i + 1) _ (by omega) (by omega) fun k hk9 => ?_
      by_cases e : k = i
      · subst e; exact pk_us
      · exact (pk_un e).trans (hI k (by omega))
theorem nn_yco {post : Int32 → SY → Prop} {R c : Nat} {Al On : Nat → Prop} (hc : c < 343) (hRL : rl = nI R) (hR2 : R ≤ 2) (hW : nn_Wt rc rx ry) (hR : nn_Wr qx qy ac ta ax ay) (hY : nn_Yt rc rx ry va) (hZ : nn_Yr qx qy ax ay qe te)
    (ha : ∀ k, k < 49 → nn_bo (al k) (Al k)) (ho : ∀ k, k < 49 → nn_bo (on k) (On k))
    (h : ∀ x kn bo hr al on, nn_bo x (∃ k, k < 49 ∧ nn_A R rc rx ry qx qy ac ta ax ay c k) → (∀ k, k < 49 → nn_bo (al k) (Al k ∧ nn_A R rc rx ry qx qy ac ta ax ay c k)) → (∀ k, k < 49 → nn_bo (on k) (On k ∨ nn_A R rc rx ry qx qy ac ta ax ay c k)) → post x (rl, sm, rc, va, qe, ac, ta, te, kn, bo, hr, al, on)) : wpY_complete post (rl, sm, rc, va, qe, ac, ta, te, kn, bo, hr, al, on) (nI c) := by
  refine ⟨by decide, nm_e ⟨by decide, by decide, nm_e ⟨by decide, nm_e ⟨50, nn_y35c (c := c) hRL hR2 hW hR hY hZ (fun i hi => ?_) ha ho (fun x => h x _) 50 0 hr (by omega) (by omega) (fun k hk => absurd hk (by omega))⟩⟩⟩⟩
  by_cases h2 : i = 2
  · subst h2
    rw [pk_us, nn_d49 (by omega)]
    exact congrArg nI (show c / 49 = c / 7 / 7 % 7 by omega)
  · rw [pk_un h2]
    by_cases h1 : i = 1
    · subst h1
      rw [pk_us, nn_d7 (by omega), nn_m7 (by omega)]
      rfl
    · rw [pk_un h1]
      obtain rfl : i = 0 := by omega
      rw [pk_us, nn_m7 (by omega)]
      rfl
theorem nn_y35 {post : SY → Prop} {R : Nat} (hRL : rl = nI R) (hR2 : R ≤ 2) (hW : nn_Wt rc rx ry) (hR : nn_Wr qx qy ac ta ax ay) (hY : nn_Yt rc rx ry va) (hZ : nn_Yr qx qy ax ay qe te)
    (h : ∀ sm kn bo hr al on, nn_bo sm (∀ c, c < 343 → ∃ k, k < 49 ∧ nn_A R rc rx ry qx qy ac ta ax ay c k) → (∀ k, k < 49 → nn_bo (al k) (∀ c, c < 343 → nn_A R rc rx ry qx qy ac ta ax ay c k)) → (∀ k, k < 49 → nn_bo (on k) (∃ c, c < 343 ∧ nn_A R rc rx ry qx qy ac ta ax ay c k)) → post (rl, sm, rc, va, qe, ac, ta, te, kn, bo, hr, al, on)) :
    ∀ (n i : Nat) (sm : Int32) (kn bo hr al on : Nat → Int32), i ≤ 343 → 343 < n + i → nn_bo sm (∀ c, c < i → ∃ k, k < 49 ∧ nn_A R rc rx ry qx qy ac ta ax ay c k) → (∀ k, k < 49 → nn_bo (al k) (∀ c, c < i → nn_A R rc rx ry qx qy ac ta ax ay c k)) → (∀ k, k < 49 → nn_bo (on k) (∃ c, c < i ∧ nn_A R rc rx ry qx qy ac ta ax ay c k)) → wY_evaluate_35 post n (nI i) rl sm rc va qe ac ta te kn bo hr al on := by
  intro n
  induction n with
  | zero => intro i sm kn bo hr al on h1 h2; omega
  | succ n ih =>
    intro i sm kn bo hr al on hi hn hs ha ho
    refine pk_le 343 i (fun hi => ?_) (fun hi => ?_)
    · have : i = 343 := by omega
      subst this
      exact h sm kn bo hr al on hs ha ho
    · refine nn_yco hi hRL hR2 hW hR hY hZ ha ho fun x kn bo hr al on hx ha ho => ?_
      dsimp only
      have ha' : ∀ k, k < 49 → nn_bo (al k) (∀ c, c < i + 1 → nn_A R rc rx ry qx qy ac ta ax ay c k) := fun k hk => nn_bo_c (ha k hk) nn_al_s.symm
      have ho' : ∀ k, k < 49 → nn_bo (on k) (∃ c, c < i + 1 ∧ nn_A R rc rx ry qx qy ac ta ax ay c k) := fun k hk => nn_bo_c (ho k hk) nn_ex_s.symm
      have hx0 := nn_bo_0 hx
      refine br_c (fun z => nm_r (nI_1 i) (ih (i + 1) 0 kn bo hr al on (by omega) (by omega) (nn_bo_f fun y => hx0.mp z (y i (by omega))) ha' ho')) (fun z => nm_r (nI_1 i) (ih (i + 1) sm kn bo hr al on (by omega) (by omega) (nn_bo_c hs ?_) ha' ho'))
      rw [nn_al_s]
      exact ⟨fun y => ⟨y, Classical.byContradiction fun w => z (hx0.mpr w)⟩, fun y => y.1⟩
theorem nn_y7 {post : SY → Prop} {R : Nat} (hRL : rl = nI R) (hR2 : R ≤ 2) (hW : nn_Wt rc rx ry) (hR : nn_Wr qx qy ac ta ax ay) (hY : nn_Yt rc rx ry va) (hZ : nn_Yr qx qy ax ay qe te)
    (h : ∀ sm kn bo hr al on, nn_bo sm (∀ c, c < 343 → ∃ k, k < 49 ∧ nn_A R rc rx ry qx qy ac ta ax ay c k) → (∀ k, k < 49 → nn_bo (al k) (∀ c, c < 343 → nn_A R rc rx ry qx qy ac ta ax ay c k)) → (∀ k, k < 49 → nn_bo (on k) (∃ c, c < 343 ∧ nn_A R rc rx ry qx qy ac ta ax ay c k)) → post (rl, sm, rc, va, qe, ac, ta, te, kn, bo, hr, al, on)) :
    ∀ (n i : Nat) (al on : Nat → Int32), i ≤ 49 → 49 < n + i → (∀ k, k < i → al k = 1 ∧ on k = 0) → wY_evaluate_7 post rl 1 n (nI i) rc va qe ac ta te kn bo hr al on := by
  intro n
  induction n with
  | zero => intro i al on h1 h2; omega
  | succ n ih =>
    intro i al on hi hn hI
    refine pk_le 49 i (fun hi => ?_) (fun hi => ?_)
    · exact ⟨344, nn_y35 hRL hR2 hW hR hY hZ h 344 0 1 kn bo hr al on (by omega) (by omega) (nn_bo_t fun c hc => absurd hc (by omega)) (fun k hk => by rw [(hI k (by omega)).1]; exact nn_bo_t fun c hc => absurd hc (by omega)) (fun k hk => by rw [(hI k (by omega)).2]; exact nn_bo_f nn_ex_0)⟩
    · refine ⟨vp_in_nI hi (by decide), nm_e ⟨vp_in_nI hi (by decide), nm_e (nm_r (nI_1 i) ?_)⟩⟩
      rw [nI_clamp (by omega), nn_vb0, nn_vb1]
      refine ih (i + 1) _ _ (by omega) (by omega) fun k hk9 => ?_
      by_cases e : k = i
      · subst e; exact ⟨pk_us, pk_us⟩
      · have := hI k (by omega)
        exact ⟨(pk_un e).trans this.1, (pk_un e).trans this.2⟩
theorem nn_yev {post : SY → Prop} {R : Nat} (hRL : rl = nI R) (hR2 : R ≤ 2) (hW : nn_Wt rc rx ry) (hR : nn_Wr qx qy ac ta ax ay) (hY : nn_Yt rc rx ry va) (hZ : nn_Yr qx qy ax ay qe te)
    (h : ∀ sm kn bo hr al on, nn_bo sm (∀ c, c < 343 → ∃ k, k < 49 ∧ nn_A R rc rx ry qx qy ac ta ax ay c k) → (∀ k, k < 49 → nn_bo (al k) (∀ c, c < 343 → nn_A R rc rx ry qx qy ac ta ax ay c k)) → (∀ k, k < 49 → nn_bo (on k) (∃ c, c < 343 ∧ nn_A R rc rx ry qx qy ac ta ax ay c k)) → post (rl, sm, rc, va, qe, ac, ta, te, kn, bo, hr, al, on)) : wpY_evaluate post (rl, sm, rc, va, qe, ac, ta, te, kn, bo, hr, al, on) :=
  ⟨50, nn_y7 hRL hR2 hW hR hY hZ h 50 0 al on (by omega) (by omega) (fun k hk => absurd hk (by omega))⟩
theorem nn_K6 (p : Int32) : nn_K p ↔ (¬ p < 0 ∧ ¬ 6 < p) := by
  constructor
  · intro ⟨a, ha, e⟩
    rw [e]
    exact ⟨nI_pos (by omega), nI_nlt (a := 6) (by omega) (by decide)⟩
  · intro ⟨h0, h7⟩
    obtain ⟨j, hj, rfl⟩ := nI_of h0
    have h7 : ¬ nI 6 < nI j := h7
    rw [nI_ltI (by decide) hj] at h7
    exact ⟨j, by omega, rfl⟩
theorem nn_yK {post : Int32 → Prop} {p q : Int32} (h1 : nn_K p ∧ nn_K q → post 1) (h0 : ¬ (nn_K p ∧ nn_K q) → post 0) : wpY_isCouple post (rl, sm, rc, va, qe, ac, ta, te, kn, bo, hr, al, on) p q := by
  rw [nn_K6, nn_K6] at h1 h0
  exact br_c (fun a => h0 fun z => z.1.1 a) fun a => br_c (fun b => h0 fun z => z.1.2 b) fun b => br_c (fun c => h0 fun z => z.2.1 c) fun c => br_c (fun d => h0 fun z => z.2.2 d) fun d => h1 ⟨⟨a, b⟩, ⟨c, d⟩⟩
theorem nn_ycer {post : Int32 → SY → Prop} {R a b : Nat} (ha7 : a < 7) (hb7 : b < 7) (hRL : rl = nI R) (hR2 : R ≤ 2) (hW : nn_Wt rc rx ry) (hR : nn_Wr qx qy ac ta ax ay) (hY : nn_Yt rc rx ry va) (hZ : nn_Yr qx qy ax ay qe te)
    (h : ∀ x sm kn bo hr al on, nn_bo x (∀ c, c < 343 → nn_A R rc rx ry qx qy ac ta ax ay c (7 * a + b)) → post x (rl, sm, rc, va, qe, ac, ta, te, kn, bo, hr, al, on)) : wpY_certain post (rl, sm, rc, va, qe, ac, ta, te, kn, bo, hr, al, on) (nI a) (nI b) := by
  unfold wpY_certain
  dsimp only
  refine nn_yK (fun _ => br_f nn_10 ?_) (fun z => absurd ⟨⟨a, ha7, rfl⟩, ⟨b, hb7, rfl⟩⟩ z)
  refine nn_yev hRL hR2 hW hR hY hZ fun sm kn bo hr al on _ ha _ => ?_
  dsimp only
  rw [nn_l7, nI_add, nI_clamp (show 7 * a + b < 2 ^ 31 by omega)]
  have hx := ha (7 * a + b) (by omega)
  exact ⟨vp_in_nI (by omega) (by decide), nn_bo_n hx, h _ sm kn bo hr al on hx⟩
theorem nn_ypos {post : Int32 → SY → Prop} {R a b : Nat} (ha7 : a < 7) (hb7 : b < 7) (hRL : rl = nI R) (hR2 : R ≤ 2) (hW : nn_Wt rc rx ry) (hR : nn_Wr qx qy ac ta ax ay) (hY : nn_Yt rc rx ry va) (hZ : nn_Yr qx qy ax ay qe te)
    (h : ∀ x sm kn bo hr al on, nn_bo x (∃ c, c < 343 ∧ nn_A R rc rx ry qx qy ac ta ax ay c (7 * a + b)) → post x (rl, sm, rc, va, qe, ac, ta, te, kn, bo, hr, al, on)) : wpY_possible post (rl, sm, rc, va, qe, ac, ta, te, kn, bo, hr, al, on) (nI a) (nI b) := by
  unfold wpY_possible
  dsimp only
  refine nn_yK (fun _ => br_f nn_10 ?_) (fun z => absurd ⟨⟨a, ha7, rfl⟩, ⟨b, hb7, rfl⟩⟩ z)
  refine nn_yev hRL hR2 hW hR hY hZ fun sm kn bo hr al on _ _ ho => ?_
  dsimp only
  rw [nn_l7, nI_add, nI_clamp (show 7 * a + b < 2 ^ 31 by omega)]
  have hx := ho (7 * a + b) (by omega)
  exact ⟨vp_in_nI (by omega) (by decide), nn_bo_n hx, h _ sm kn bo hr al on hx⟩
theorem nn_ycer0 {post : Int32 → SY → Prop} {p q : Int32} (hn : ¬ (nn_K p ∧ nn_K q)) (h : post 0 (rl, sm, rc, va, qe, ac, ta, te, kn, bo, hr, al, on)) : wpY_certain post (rl, sm, rc, va, qe, ac, ta, te, kn, bo, hr, al, on) p q := by
  unfold wpY_certain
  dsimp only
  exact nn_yK (fun z => absurd z hn) (fun _ => br_t rfl h)
theorem nn_ypos0 {post : Int32 → SY → Prop} {p q : Int32} (hn : ¬ (nn_K p ∧ nn_K q)) (h : post 0 (rl, sm, rc, va, qe, ac, ta, te, kn, bo, hr, al, on)) : wpY_possible post (rl, sm, rc, va, qe, ac, ta, te, kn, bo, hr, al, on) p q := by
  unfold wpY_possible
  dsimp only
  exact nn_yK (fun z => absurd z hn) (fun _ => br_t rfl h)
theorem nn_ycc8 {post : Int32 → SY → Prop} {p : Nat → Prop} (ha : ∀ k, k < 49 → nn_bo (al k) (p k)) (h : post (nI (nn_cc p 49)) (rl, sm, rc, va, qe, ac, ta, te, kn, bo, hr, al, on)) : ∀ (n i : Nat), i ≤ 49 → 49 < n + i → wY_certainCount_8 post rl sm rc va qe ac ta te kn bo hr al on n (nI (nn_cc p i)) (nI i) := by
  intro n
  induction n with
  | zero => intro i h1 h2; omega
  | succ n ih =>
    intro i hi hn
    refine pk_le 49 i (fun hi => ?_) (fun hi => ?_)
    · have : i = 49 := by omega
      subst this
      exact h
    · refine ⟨vp_in_nI hi (by decide), ?_⟩
      rw [nI_clamp (show i < 2 ^ 31 by omega), nn_bo_0 (ha i hi)]
      refine br_c (fun z => nm_r (nI_1 i) ?_) (fun z => nm_r (nI_1 _) (nm_r (nI_1 i) ?_))
      · rw [← nn_cc_f z]
        exact ih (i + 1) (by omega) (by omega)
      · rw [← nn_cc_t (Classical.byContradiction z)]
        exact ih (i + 1) (by omega) (by omega)
theorem nn_ycc {post : Int32 → SY → Prop} {R : Nat} (hRL : rl = nI R) (hR2 : R ≤ 2) (hW : nn_Wt rc rx ry) (hR : nn_Wr qx qy ac ta ax ay) (hY : nn_Yt rc rx ry va) (hZ : nn_Yr qx qy ax ay qe te)
    (h : ∀ sm kn bo hr al on, post (nI (nn_cc (fun k => ∀ c, c < 343 → nn_A R rc rx ry qx qy ac ta ax ay c k) 49)) (rl, sm, rc, va, qe, ac, ta, te, kn, bo, hr, al, on)) : wpY_certainCount post (rl, sm, rc, va, qe, ac, ta, te, kn, bo, hr, al, on) := by
  unfold wpY_certainCount
  dsimp only
  refine nn_yev hRL hR2 hW hR hY hZ fun sm kn bo hr al on _ ha _ => ?_
  exact ⟨50, nn_ycc8 ha (h sm kn bo hr al on) 50 0 (by omega) (by omega)⟩
theorem nn_yas {post : Int32 → SY → Prop} {R : Nat} (hRL : rl = nI R) (hR2 : R ≤ 2) (hW : nn_Wt rc rx ry) (hR : nn_Wr qx qy ac ta ax ay) (hY : nn_Yt rc rx ry va) (hZ : nn_Yr qx qy ax ay qe te)
    (h : ∀ x kn bo hr al on, nn_bo x (∀ c, c < 343 → ∃ k, k < 49 ∧ nn_A R rc rx ry qx qy ac ta ax ay c k) → post x (rl, x, rc, va, qe, ac, ta, te, kn, bo, hr, al, on)) : wpY_alwaysSome post (rl, sm, rc, va, qe, ac, ta, te, kn, bo, hr, al, on) := by
  unfold wpY_alwaysSome
  dsimp only
  refine nn_yev hRL hR2 hW hR hY hZ fun sm kn bo hr al on hs _ _ => ?_
  exact ⟨nn_bo_n hs, h sm kn bo hr al on hs⟩
end
