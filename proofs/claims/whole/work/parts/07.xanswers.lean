/-! the component's answers -/
section
variable {rC : Int32} {rc rx ry qx qy ac ta ax ay gi fu fv bd : Nat → Int32}
theorem nn_Ar_x {c r k : Nat} : nn_Ar rc rx ry qx qy ac ta ax ay c r k ↔ nn_xs rc rx ry qx qy ac ta ax ay c r (nn_pr (nn_n rc) (nn_S ta r) (nn_n ac r) 0) k := nn_RA_x
theorem nn_x10 {post : Int64 → SX → Prop} {R c : Nat} (hRC : rC = nI R) (hR2 : R ≤ 2) (hW : nn_Wt rc rx ry) (hR : nn_Wr qx qy ac ta ax ay) (hF : ∀ s, s < 10 → nn_Fs c rx fu s ∧ nn_Fs c ry fv s)
    (h : ∀ L bd, nn_L L (nn_A R rc rx ry qx qy ac ta ax ay c) → post L (rC, rc, rx, ry, qx, qy, ac, ta, ax, ay, gi, fu, fv, bd)) :
    ∀ (n r : Nat) (L : Int64) (bd : Nat → Int32), r ≤ R → R < n + r → nn_L L (fun k => ∃ r', r' < r ∧ nn_Ar rc rx ry qx qy ac ta ax ay c r' k) → wX_answersIn_10 post n L (nI r) rC rc rx ry qx qy ac ta ax ay gi fu fv bd := by
  intro n
  induction n with
  | zero => intro r L bd h1 h2; omega
  | succ n ih =>
    intro r L bd hr hn hL
    refine pk_le R r (fun hi => ?_) (fun hi => ?_) hRC
    · have : r = R := by omega
      subst this
      exact h L bd hL
    · have hr2 : r < 2 := by omega
      refine nn_xsf hr2 hR (fun hs => br_f nn_10 ?_) (fun hs => br_t rfl ⟨1, br_t (nI_le (a := 0) (b := 0) (by omega) (by decide)) (nm_r (nI_1 r) (ih (r + 1) L bd (by omega) (by omega) (nn_Lc hL fun k _ => ?_)))⟩)
      · refine nn_xrc hr2 hW hR ⟨_, nn_x43 (A := fun k => ∃ r', r' < r ∧ nn_Ar rc rx ry qx qy ac ta ax ay c r' k) hr2 hW hR hF hs rfl ?_ (fun L bd hL => ih (r + 1) L bd (by omega) (by omega) (nn_Lc hL fun k _ => ?_)) (nn_pr (nn_n rc) (nn_S ta r) (nn_n ac r) 0 + 1) 0 L bd (by omega) (by omega) (nn_Lc hL fun k _ => ?_)⟩
        · have h3 := (nn_Wr_m hR hr2).2
          have h1 := nn_pr_le (nn_n_5 hr2 hW hR) (nn_n ac r) 0 (by omega)
          have h2 : 5 ^ nn_n ac r ≤ 5 ^ 3 := Nat.pow_le_pow_right (by decide) h3
          omega
        · rw [nn_ex_s, nn_Ar_x (r := r)]
        · exact ⟨Or.inl, fun z => z.elim id fun y => absurd y nn_ex_0⟩
      · rw [nn_ex_s]
        exact ⟨Or.inl, fun z => z.elim id fun y => absurd y (nn_RA_u hs)⟩
theorem nn_xan {post : Int64 → SX → Prop} {R c : Nat} (hc : c < 343) (hRC : rC = nI R) (hR2 : R ≤ 2) (hW : nn_Wt rc rx ry) (hR : nn_Wr qx qy ac ta ax ay)
    (h : ∀ L gi fu fv bd, nn_L L (nn_A R rc rx ry qx qy ac ta ax ay c) → post L (rC, rc, rx, ry, qx, qy, ac, ta, ax, ay, gi, fu, fv, bd)) : wpX_answersIn post (rC, rc, rx, ry, qx, qy, ac, ta, ax, ay, gi, fu, fv, bd) (nI c) :=
  nn_xct hc fun gi fu fv hF => ⟨R + 1, nn_x10 hRC hR2 hW hR hF (fun L bd => h L gi fu fv bd) _ 0 0 bd (by omega) (by omega) (nn_Lc nn_L0 fun _ _ => ⟨(fun z => nomatch z), fun z => absurd z nn_ex_0⟩)⟩
theorem nn_xca6 {post : Int64 → SX → Prop} {R : Nat} (hRC : rC = nI R) (hR2 : R ≤ 2) (hW : nn_Wt rc rx ry) (hR : nn_Wr qx qy ac ta ax ay)
    (h : ∀ L gi fu fv bd, nn_L L (fun k => ∀ c, c < 343 → nn_A R rc rx ry qx qy ac ta ax ay c k) → post L (rC, rc, rx, ry, qx, qy, ac, ta, ax, ay, gi, fu, fv, bd)) :
    ∀ (n i : Nat) (L : Int64) (gi fu fv bd : Nat → Int32), i ≤ 343 → 343 < n + i → nn_L L (fun k => ∀ c, c < i → nn_A R rc rx ry qx qy ac ta ax ay c k) → wX_certainAnswers_6 post n L (nI i) rC rc rx ry qx qy ac ta ax ay gi fu fv bd := by
  intro n
  induction n with
  | zero => intro i L gi fu fv bd h1 h2; omega
  | succ n ih =>
    intro i L gi fu fv bd hi hn hL
    refine pk_le 343 i (fun hi => ?_) (fun hi => ?_)
    · have : i = 343 := by omega
      subst this
      exact h L gi fu fv bd hL
    · exact nn_xan hi hRC hR2 hW hR fun M gi fu fv bd hM => nm_e (nm_r (nI_1 i) (ih (i + 1) _ gi fu fv bd (by omega) (by omega) (nn_Lc (nn_Land hL hM) fun k _ => nn_al_s.symm)))
theorem nn_xca {post : Int64 → SX → Prop} {R : Nat} (hRC : rC = nI R) (hR2 : R ≤ 2) (hW : nn_Wt rc rx ry) (hR : nn_Wr qx qy ac ta ax ay)
    (h : ∀ L gi fu fv bd, nn_L L (fun k => ∀ c, c < 343 → nn_A R rc rx ry qx qy ac ta ax ay c k) → post L (rC, rc, rx, ry, qx, qy, ac, ta, ax, ay, gi, fu, fv, bd)) : wpX_certainAnswers post (rC, rc, rx, ry, qx, qy, ac, ta, ax, ay, gi, fu, fv, bd) :=
  ⟨344, nn_xca6 hRC hR2 hW hR h 344 0 (lN (2 ^ 49 - 1)) gi fu fv bd (by omega) (by omega) (nn_Lc nn_Lall fun _ _ => ⟨fun _ c hc => absurd hc (by omega), fun _ => trivial⟩)⟩
theorem nn_xpa4 {post : Int64 → SX → Prop} {R : Nat} (hRC : rC = nI R) (hR2 : R ≤ 2) (hW : nn_Wt rc rx ry) (hR : nn_Wr qx qy ac ta ax ay)
    (h : ∀ L gi fu fv bd, nn_L L (fun k => ∃ c, c < 343 ∧ nn_A R rc rx ry qx qy ac ta ax ay c k) → post L (rC, rc, rx, ry, qx, qy, ac, ta, ax, ay, gi, fu, fv, bd)) :
    ∀ (n i : Nat) (L : Int64) (gi fu fv bd : Nat → Int32), i ≤ 343 → 343 < n + i → nn_L L (fun k => ∃ c, c < i ∧ nn_A R rc rx ry qx qy ac ta ax ay c k) → wX_possibleAnswers_4 post n L (nI i) rC rc rx ry qx qy ac ta ax ay gi fu fv bd := by
  intro n
  induction n with
  | zero => intro i L gi fu fv bd h1 h2; omega
  | succ n ih =>
    intro i L gi fu fv bd hi hn hL
    refine pk_le 343 i (fun hi => ?_) (fun hi => ?_)
    · have : i = 343 := by omega
      subst this
      exact h L gi fu fv bd hL
    · exact nn_xan hi hRC hR2 hW hR fun M gi fu fv bd hM => nm_e (nm_r (nI_1 i) (ih (i + 1) _ gi fu fv bd (by omega) (by omega) (nn_Lc (nn_Lor hL hM) fun k _ => nn_ex_s.symm)))
theorem nn_xpa {post : Int64 → SX → Prop} {R : Nat} (hRC : rC = nI R) (hR2 : R ≤ 2) (hW : nn_Wt rc rx ry) (hR : nn_Wr qx qy ac ta ax ay)
    (h : ∀ L gi fu fv bd, nn_L L (fun k => ∃ c, c < 343 ∧ nn_A R rc rx ry qx qy ac ta ax ay c k) → post L (rC, rc, rx, ry, qx, qy, ac, ta, ax, ay, gi, fu, fv, bd)) : wpX_possibleAnswers post (rC, rc, rx, ry, qx, qy, ac, ta, ax, ay, gi, fu, fv, bd) :=
  ⟨344, nn_xpa4 hRC hR2 hW hR h 344 0 0 gi fu fv bd (by omega) (by omega) (nn_Lc nn_L0 fun _ _ => ⟨(fun z => nomatch z), fun z => absurd z nn_ex_0⟩)⟩
theorem nn_K_iff (p : Int32) : nn_K p ↔ (¬ p < 0 ∧ ¬ 7 ≤ p) := by
  constructor
  · intro ⟨a, ha, e⟩
    rw [e]
    exact ⟨nI_pos (by omega), nI_ge (b := 7) ha (by decide)⟩
  · intro ⟨h0, h7⟩
    obtain ⟨j, hj, rfl⟩ := nI_of h0
    have h7 : ¬ nI 7 ≤ nI j := h7
    rw [nI_leI (by decide) hj] at h7
    exact ⟨j, by omega, rfl⟩
theorem nn_xK {post : Int32 → Prop} {p : Int32} (h1 : nn_K p → post 1) (h0 : ¬ nn_K p → post 0) : wpX_isConstant post p := by
  rw [nn_K_iff] at h1 h0
  exact br_c (fun a => h0 fun z => z.1 a) fun a => br_c (fun b => h0 fun z => z.2 b) fun b => h1 ⟨a, b⟩
theorem nn_xcer {post : Int32 → SX → Prop} {R a b : Nat} (ha : a < 7) (hb : b < 7) (hRC : rC = nI R) (hR2 : R ≤ 2) (hW : nn_Wt rc rx ry) (hR : nn_Wr qx qy ac ta ax ay)
    (h : ∀ x gi fu fv bd, nn_bo x (∀ c, c < 343 → nn_A R rc rx ry qx qy ac ta ax ay c (7 * a + b)) → post x (rC, rc, rx, ry, qx, qy, ac, ta, ax, ay, gi, fu, fv, bd)) : wpX_certain post (rC, rc, rx, ry, qx, qy, ac, ta, ax, ay, gi, fu, fv, bd) (nI a) (nI b) := by
  unfold wpX_certain
  dsimp only
  refine nn_xK (fun _ => br_f nn_10 ?_) (fun z => absurd ⟨a, ha, rfl⟩ z)
  refine nn_xK (fun _ => br_f nn_10 ?_) (fun z => absurd ⟨b, hb, rfl⟩ z)
  refine nn_xca hRC hR2 hW hR fun L gi fu fv bd hL => ?_
  dsimp only
  refine nn_xcb ha hb ?_
  have hk := nn_Lbit hL (j := 7 * a + b) (by omega)
  exact br_c (fun z => h 0 gi fu fv bd (nn_bo_f (hk.mp z))) (fun z => h 1 gi fu fv bd (nn_bo_t (Classical.byContradiction fun y => z (hk.mpr y))))
theorem nn_xpos {post : Int32 → SX → Prop} {R a b : Nat} (ha : a < 7) (hb : b < 7) (hRC : rC = nI R) (hR2 : R ≤ 2) (hW : nn_Wt rc rx ry) (hR : nn_Wr qx qy ac ta ax ay)
    (h : ∀ x gi fu fv bd, nn_bo x (∃ c, c < 343 ∧ nn_A R rc rx ry qx qy ac ta ax ay c (7 * a + b)) → post x (rC, rc, rx, ry, qx, qy, ac, ta, ax, ay, gi, fu, fv, bd)) : wpX_possible post (rC, rc, rx, ry, qx, qy, ac, ta, ax, ay, gi, fu, fv, bd) (nI a) (nI b) := by
  unfold wpX_possible
  dsimp only
  refine nn_xK (fun _ => br_f nn_10 ?_) (fun z => absurd ⟨a, ha, rfl⟩ z)
  refine nn_xK (fun _ => br_f nn_10 ?_) (fun z => absurd ⟨b, hb, rfl⟩ z)
  refine nn_xpa hRC hR2 hW hR fun L gi fu fv bd hL => ?_
  dsimp only
  refine nn_xcb ha hb ?_
  have hk := nn_Lbit hL (j := 7 * a + b) (by omega)
  exact br_c (fun z => h 0 gi fu fv bd (nn_bo_f (hk.mp z))) (fun z => h 1 gi fu fv bd (nn_bo_t (Classical.byContradiction fun y => z (hk.mpr y))))
theorem nn_xcer0 {post : Int32 → SX → Prop} {p q : Int32} (hn : ¬ (nn_K p ∧ nn_K q)) (h : post 0 (rC, rc, rx, ry, qx, qy, ac, ta, ax, ay, gi, fu, fv, bd)) : wpX_certain post (rC, rc, rx, ry, qx, qy, ac, ta, ax, ay, gi, fu, fv, bd) p q := by
  unfold wpX_certain
  dsimp only
  refine nn_xK (fun y => br_f nn_10 ?_) (fun _ => br_t rfl h)
  exact nn_xK (fun z => absurd ⟨y, z⟩ hn) (fun _ => br_t rfl h)
theorem nn_xpos0 {post : Int32 → SX → Prop} {p q : Int32} (hn : ¬ (nn_K p ∧ nn_K q)) (h : post 0 (rC, rc, rx, ry, qx, qy, ac, ta, ax, ay, gi, fu, fv, bd)) : wpX_possible post (rC, rc, rx, ry, qx, qy, ac, ta, ax, ay, gi, fu, fv, bd) p q := by
  unfold wpX_possible
  dsimp only
  refine nn_xK (fun y => br_f nn_10 ?_) (fun _ => br_t rfl h)
  exact nn_xK (fun z => absurd ⟨y, z⟩ hn) (fun _ => br_t rfl h)
noncomputable def nn_cc (p : Nat → Prop) (i : Nat) : Nat := nn_cn p (fun _ => Classical.propDecidable _) i
theorem nn_cc_t {p : Nat → Prop} {i : Nat} (h : p i) : nn_cc p (i + 1) = nn_cc p i + 1 := nn_cn_t h
theorem nn_cc_f {p : Nat → Prop} {i : Nat} (h : ¬ p i) : nn_cc p (i + 1) = nn_cc p i := nn_cn_f h
theorem nn_xcc10 {post : Int32 → SX → Prop} {L : Int64} {p : Nat → Prop} (hL : nn_L L p) (h : post (nI (nn_cc p 49)) (rC, rc, rx, ry, qx, qy, ac, ta, ax, ay, gi, fu, fv, bd)) : ∀ (n i : Nat), i ≤ 49 → 49 < n + i → wX_certainCount_10 post L rC rc rx ry qx qy ac ta ax ay gi fu fv bd n (nI (nn_cc p i)) (nI i) := by
  intro n
  induction n with
  | zero => intro i h1 h2; omega
  | succ n ih =>
    intro i hi hn
    refine pk_le 49 i (fun hi => ?_) (fun hi => ?_)
    · have : i = 49 := by omega
      subst this
      exact h
    · have hk := nn_Lsh hL hi
      refine br_c (fun z => nm_r (nI_1 i) ?_) (fun z => nm_r (nI_1 _) (nm_r (nI_1 i) ?_))
      · rw [← nn_cc_f (hk.mp z)]
        exact ih (i + 1) (by omega) (by omega)
      · rw [← nn_cc_t (Classical.byContradiction fun y => z (hk.mpr y))]
        exact ih (i + 1) (by omega) (by omega)
theorem nn_xcc {post : Int32 → SX → Prop} {R : Nat} (hRC : rC = nI R) (hR2 : R ≤ 2) (hW : nn_Wt rc rx ry) (hR : nn_Wr qx qy ac ta ax ay)
    (h : ∀ gi fu fv bd, post (nI (nn_cc (fun k => ∀ c, c < 343 → nn_A R rc rx ry qx qy ac ta ax ay c k) 49)) (rC, rc, rx, ry, qx, qy, ac, ta, ax, ay, gi, fu, fv, bd)) : wpX_certainCount post (rC, rc, rx, ry, qx, qy, ac, ta, ax, ay, gi, fu, fv, bd) :=
  nn_xca hRC hR2 hW hR fun L gi fu fv bd hL => ⟨50, nn_xcc10 hL (h gi fu fv bd) 50 0 (by omega) (by omega)⟩
theorem nn_xas2 {post : Int32 → SX → Prop} {R : Nat} (hRC : rC = nI R) (hR2 : R ≤ 2) (hW : nn_Wt rc rx ry) (hR : nn_Wr qx qy ac ta ax ay)
    (h : ∀ x gi fu fv bd, nn_bo x (∀ c, c < 343 → ∃ k, k < 49 ∧ nn_A R rc rx ry qx qy ac ta ax ay c k) → post x (rC, rc, rx, ry, qx, qy, ac, ta, ax, ay, gi, fu, fv, bd)) :
    ∀ (n i : Nat) (gi fu fv bd : Nat → Int32), i ≤ 343 → 343 < n + i → (∀ c, c < i → ∃ k, k < 49 ∧ nn_A R rc rx ry qx qy ac ta ax ay c k) → wX_alwaysSome_2 post n (nI i) rC rc rx ry qx qy ac ta ax ay gi fu fv bd := by
  intro n
  induction n with
  | zero => intro i gi fu fv bd h1 h2; omega
  | succ n ih =>
    intro i gi fu fv bd hi hn hI
    refine pk_le 343 i (fun hi => ?_) (fun hi => ?_)
    · have : i = 343 := by omega
      subst this
      exact h 1 gi fu fv bd (nn_bo_t hI)
    · refine nn_xan hi hRC hR2 hW hR fun M gi fu fv bd hM => ?_
      have hk := nn_Leq hM
      refine br_c (fun z => h 0 gi fu fv bd (nn_bo_f fun y => ?_)) (fun z => nm_r (nI_1 i) (ih (i + 1) gi fu fv bd (by omega) (by omega) (nn_al_s.mpr ⟨hI, ?_⟩)))
      · obtain ⟨k, hk9, hA⟩ := y i hi
        exact hk.mp z k hk9 hA
      · exact Classical.byContradiction fun y => z (hk.mpr fun k hk9 hA => y ⟨k, hk9, hA⟩)
theorem nn_xas {post : Int32 → SX → Prop} {R : Nat} (hRC : rC = nI R) (hR2 : R ≤ 2) (hW : nn_Wt rc rx ry) (hR : nn_Wr qx qy ac ta ax ay)
    (h : ∀ x gi fu fv bd, nn_bo x (∀ c, c < 343 → ∃ k, k < 49 ∧ nn_A R rc rx ry qx qy ac ta ax ay c k) → post x (rC, rc, rx, ry, qx, qy, ac, ta, ax, ay, gi, fu, fv, bd)) : wpX_alwaysSome post (rC, rc, rx, ry, qx, qy, ac, ta, ax, ay, gi, fu, fv, bd) :=
  ⟨344, nn_xas2 hRC hR2 hW hR h 344 0 gi fu fv bd (by omega) (by omega) (fun c hc => absurd hc (by omega))⟩
end
