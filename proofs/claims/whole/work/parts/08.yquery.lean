/-! the reference's queries against the same picture -/
section
variable {n T P Q : Nat → Nat} {F G : Nat → Nat → Nat} {d i rest : Nat} {b e1 e2 : Nat → Option Nat}
theorem nn_fy_s0 (h : n (T i) ≤ rest % 5) : nn_fy n T P Q F G (d + 1) i rest b = none := if_pos h
theorem nn_fy_s1 (h1 : nn_ag b (P i) (F (T i) (rest % 5)) = none) : nn_fy n T P Q F G (d + 1) i rest b = none := by
  show (if n (T i) ≤ rest % 5 then none else (nn_st T P Q F G i (rest % 5) b).bind fun b1 => nn_fy n T P Q F G d (i + 1) (rest / 5) b1) = none
  unfold nn_st
  rw [h1]
  split <;> rfl
theorem nn_fy_s2 (h1 : nn_ag b (P i) (F (T i) (rest % 5)) = some e1) (h2 : nn_ag e1 (Q i) (G (T i) (rest % 5)) = none) : nn_fy n T P Q F G (d + 1) i rest b = none := by
  show (if n (T i) ≤ rest % 5 then none else (nn_st T P Q F G i (rest % 5) b).bind fun b1 => nn_fy n T P Q F G d (i + 1) (rest / 5) b1) = none
  unfold nn_st
  rw [h1, Option.bind_some, h2]
  split <;> rfl
theorem nn_fy_s3 (h : ¬ n (T i) ≤ rest % 5) (h1 : nn_ag b (P i) (F (T i) (rest % 5)) = some e1) (h2 : nn_ag e1 (Q i) (G (T i) (rest % 5)) = some e2) : nn_fy n T P Q F G (d + 1) i rest b = nn_fy n T P Q F G d (i + 1) (rest / 5) e2 := by
  show (if n (T i) ≤ rest % 5 then none else (nn_st T P Q F G i (rest % 5) b).bind fun b1 => nn_fy n T P Q F G d (i + 1) (rest / 5) b1) = _
  unfold nn_st
  rw [h1, Option.bind_some, h2, Option.bind_some, if_neg h]
end
section
variable {rl sm : Int32} {rc va qe ac ta te kn bo hr al on rx ry qx qy ax ay : Nat → Int32}
theorem nn_yca {post : Int32 → Prop} {c s v : Nat} (hs : s < 20) (hv : va s = nI v) (hp : nn_pv v) (hk : ∀ i, i < 3 → kn i = nI (nn_dg c i)) (h : post (nI (nn_cv c v))) : wpY_constantAt post (rl, sm, rc, va, qe, ac, ta, te, kn, bo, hr, al, on) (nI s) := by
  have hv9 := nn_pv_lt hp
  unfold nn_pv at hp
  unfold nn_cv at h
  refine ⟨vp_in_nI hs (by decide), ?_⟩
  rw [nI_clamp (by omega), hv]
  refine pk_lt v 10 (fun z => ⟨vp_in_nI hs (by decide), ?_⟩) (fun z => ⟨vp_in_nI hs (by decide), ?_⟩)
  · rw [if_neg (by omega)] at h; exact h
  · rw [nn_s10 z, nI_clamp (by omega), hk _ (by omega)]
    rw [if_pos z] at h
    exact ⟨vp_in_nI (by omega) (by decide), h⟩
theorem nn_yfi {post : Int32 → SY → Prop} {t c : Nat} {b : Nat → Option Nat} (ht : nn_pt t) (hc : c < 7) (hb : nn_ok b) (hB : nn_Bd bo b)
    (h1 : ∀ e bo, nn_ag b t c = some e → nn_Bd bo e → post 1 (rl, sm, rc, va, qe, ac, ta, te, kn, bo, hr, al, on)) (h0 : nn_ag b t c = none → post 0 (rl, sm, rc, va, qe, ac, ta, te, kn, bo, hr, al, on)) : wpY_fit post (rl, sm, rc, va, qe, ac, ta, te, kn, bo, hr, al, on) (nI t) (nI c) := by
  have ht9 := nn_pt_lt ht
  refine pk_le 20 t (fun h => ?_) (fun h => ?_)
  · have hcl : (nI (t - 20)).toNatClampNeg = t - 20 := nI_clamp (by omega)
    have hin : vp_in (nI (t - 20)) 4 := vp_in_nI (by omega) (by decide)
    have hn : ¬ t < 20 := by omega
    have hj : bo (t - 20) = nn_en (b (t - 20)) := hB _ (by omega)
    have hk := hb (t - 20)
    rw [nn_s20 h, hcl]
    refine ⟨hin, ?_⟩
    by_cases h2 : b (t - 20) = none
    · refine br_f (by rw [hj, h2]; decide) ⟨hin, nm_e ?_⟩
      unfold wY_fit_39
      rw [nn_s20 h, hcl]
      refine ⟨hin, br_t pk_us (h1 (nn_set b (t - 20) c) _ ?_ (nn_Bd_set hB))⟩
      unfold nn_ag
      rw [if_neg hn, if_pos h2]
    · refine br_t (by rw [hj, ← Int32.not_lt, nn_en_neg hk]; exact h2) ?_
      unfold wY_fit_39
      rw [nn_s20 h, hcl]
      refine ⟨hin, ?_⟩
      rw [hj, nn_en_eq hk hc]
      by_cases h3 : b (t - 20) = some c
      · refine br_t h3 (h1 b bo ?_ hB)
        unfold nn_ag; rw [if_neg hn, if_neg h2, if_pos h3]
      · refine br_f h3 (h0 ?_)
        unfold nn_ag; rw [if_neg hn, if_neg h2, if_neg h3]
  · refine pk_eq t c (fun e => h1 b bo ?_ hB) (fun e => h0 ?_)
    · unfold nn_ag; rw [if_pos h, if_pos e]
    · unfold nn_ag; rw [if_pos h, if_neg e]
theorem nn_yf28 {post : Int32 → SY → Prop} {r c : Nat} (hr2 : r < 2) (hW : nn_Wt rc rx ry) (hR : nn_Wr qx qy ac ta ax ay) (hY : nn_Yt rc rx ry va) (hZ : nn_Yr qx qy ax ay qe te) (hk : ∀ i, i < 3 → kn i = nI (nn_dg c i)) :
    ∀ (d n i rest : Nat) (b : Nat → Option Nat) (bo : Nat → Int32), i + d = nn_n ac r → d < n → rest < 2 ^ 31 → nn_ok b → nn_Bd bo b →
      (∀ e bo, nn_fy (nn_n rc) (nn_S ta r) (nn_S ax r) (nn_S ay r) (nn_F rx c) (nn_F ry c) d i rest b = some e → nn_Bd bo e → post 1 (rl, sm, rc, va, qe, ac, ta, te, kn, bo, hr, al, on)) →
      (nn_fy (nn_n rc) (nn_S ta r) (nn_S ax r) (nn_S ay r) (nn_F rx c) (nn_F ry c) d i rest b = none → ∀ bo, post 0 (rl, sm, rc, va, qe, ac, ta, te, kn, bo, hr, al, on)) →
      wY_fits_28 post (nI r) n (nI rest) (nI i) rl sm rc va qe ac ta te kn bo hr al on := by
  have hm := nn_Wr_m hR hr2
  intro d
  induction d with
  | zero =>
    intro n i rest b bo hd hn hr9 hb hB h1 h0
    obtain ⟨n, rfl⟩ : ∃ k, n = k + 1 := ⟨n - 1, by omega⟩
    refine ⟨vp_in_nI hr2 (by decide), pk_le (nn_n ac r) i (fun hi => ?_) (fun hi => absurd hi (by omega)) (by rw [nI_clamp (by omega)]; exact hm.1)⟩
    exact pk_eq rest 0 (fun z => h1 b bo (if_pos z) hB) (fun z => h0 (if_neg z) bo)
  | succ d ih =>
    intro n i rest b bo hd hn hr9 hb hB h1 h0
    obtain ⟨n, rfl⟩ : ∃ k, n = k + 1 := ⟨n - 1, by omega⟩
    have hx := nn_Wr_a hR hr2 (i := i) (by omega)
    have hy := nn_Wr_b hR hr2 (i := i) (by omega)
    have ht := nn_Wr_t hR hr2 (i := i) (by omega)
    have hn5 := nn_Wt_n hW ht.2
    have ht2 := ht.2
    have hin : vp_in (nI (3 * r + i)) 6 := vp_in_nI (by omega) (by decide)
    have hcl : (nI (3 * r + i)).toNatClampNeg = 3 * r + i := nI_clamp (by omega)
    have hrow5 : rest % 5 < 5 := Nat.mod_lt _ (by decide)
    have hte := hZ.2 (3 * r + i) (by omega)
    refine ⟨vp_in_nI hr2 (by decide), pk_le (nn_n ac r) i (fun hi => absurd hi (by omega)) (fun hi => ?_) (by rw [nI_clamp (by omega)]; exact hm.1)⟩
    refine nm_r (by rw [nn_l3, nI_add]) ⟨by decide, nm_r (nn_m5 hr9) ⟨by decide, nm_r (nn_d5 hr9) ⟨hin, ?_⟩⟩⟩
    rw [hcl, ht.1, nI_clamp (show nn_S ta r i < 2 ^ 31 by omega)]
    refine nm_r (by rw [nn_l10, nn_l2, nI_add]) ⟨hin, vp_in_nI ht.2 (by decide), ?_⟩
    refine pk_lt (rest % 5) (nn_n rc (nn_S ta r i)) (fun hrow => ?_) (fun hrow => h0 (nn_fy_s0 hrow) bo) rfl hn5.1
    have hv := hW.2 _ ht.2 _ hrow
    have hvx := nn_is_e hv.1
    have hvy := nn_is_e hv.2
    have hva := hY _ ht.2 _ hrow
    have hF1 : nn_F rx c (nn_S ta r i) (rest % 5) < 7 := nn_cv_lt hvx.2
    have hF2 : nn_F ry c (nn_S ta r i) (rest % 5) < 7 := nn_cv_lt hvy.2
    refine nn_yca (v := (rx (5 * nn_S ta r i + rest % 5)).toNatClampNeg) (by omega) (hva.1.trans hvx.1) hvx.2 hk ?_
    rw [nI_1 (10 * nn_S ta r i + 2 * (rest % 5))]
    refine nn_yca (v := (ry (5 * nn_S ta r i + rest % 5)).toNatClampNeg) (by omega) (hva.2.trans hvy.1) hvy.2 hk ?_
    rw [nn_l2, nI_clamp (show 2 * (3 * r + i) < 2 ^ 31 by omega), hte.1, hx.1]
    refine ⟨vp_in_nI (by omega) (by decide), ?_⟩
    refine nn_yfi hx.2 hF1 hb hB (fun e1 bo a1 hB1 => br_f nn_10 ?_) (fun a1 => br_t rfl (h0 (nn_fy_s1 a1) bo))
    rw [nI_1 (2 * (3 * r + i)), nI_clamp (show 2 * (3 * r + i) + 1 < 2 ^ 31 by omega), hte.2, hy.1]
    refine ⟨vp_in_nI (by omega) (by decide), ?_⟩
    have hok := nn_ag_ok hb hF1 a1
    refine nn_yfi hy.2 hF2 hok hB1 (fun e2 bo a2 hB2 => br_f nn_10 (nm_r (nI_1 i) ?_)) (fun a2 => br_t rfl (h0 (nn_fy_s2 a1 a2) bo))
    have es := nn_fy_s3 (n := nn_n rc) (T := nn_S ta r) (P := nn_S ax r) (Q := nn_S ay r) (F := nn_F rx c) (G := nn_F ry c) (d := d) (i := i) (by omega) a1 a2
    rw [es] at h1 h0
    exact ih n (i + 1) _ e2 bo (by omega) (by omega) (Nat.lt_of_le_of_lt (Nat.div_le_self _ _) hr9) (nn_ag_ok hok hF2 a2) hB2 h1 h0
def nn_fY (rc rx ry ac ta ax ay : Nat → Int32) (c r p : Nat) : Option (Nat → Option Nat) := nn_fy (nn_n rc) (nn_S ta r) (nn_S ax r) (nn_S ay r) (nn_F rx c) (nn_F ry c) (nn_n ac r) 0 p (fun _ => none)
theorem nn_yf5 {post : Int32 → SY → Prop} {r c p : Nat} (hr2 : r < 2) (hW : nn_Wt rc rx ry) (hR : nn_Wr qx qy ac ta ax ay) (hY : nn_Yt rc rx ry va) (hZ : nn_Yr qx qy ax ay qe te) (hk : ∀ i, i < 3 → kn i = nI (nn_dg c i)) (hp : p < 2 ^ 31)
    (h1 : ∀ e bo, nn_fY rc rx ry ac ta ax ay c r p = some e → nn_Bd bo e → post 1 (rl, sm, rc, va, qe, ac, ta, te, kn, bo, hr, al, on)) (h0 : nn_fY rc rx ry ac ta ax ay c r p = none → ∀ bo, post 0 (rl, sm, rc, va, qe, ac, ta, te, kn, bo, hr, al, on)) :
    ∀ (n i : Nat) (bo : Nat → Int32), i ≤ 4 → 4 < n + i → (∀ j, j < i → bo j = -1) → wY_fits_5 post (nI r) (nI p) rl sm n (nI i) rc va qe ac ta te kn bo hr al on := by
  intro n
  induction n with
  | zero => intro i bo h1 h2; omega
  | succ n ih =>
    intro i bo hi4 hn hI
    refine pk_le 4 i (fun hi => ?_) (fun hi => ?_)
    · exact ⟨nn_n ac r + 1, nn_yf28 hr2 hW hR hY hZ hk (nn_n ac r) _ 0 p _ bo (by omega) (by omega) hp nn_ok0 (fun j hj => hI j (by omega)) h1 h0⟩
    · refine ⟨vp_in_nI hi (by decide), nm_e (nm_r (nI_1 i) ?_)⟩
      rw [nI_clamp (by omega)]
      refine ih (i + 1) _ (by omega) (by omega) fun j hj => ?_
      by_cases e : j = i
      · subst e; exact pk_us
      · exact (pk_un e).trans (hI j (by omega))
theorem nn_yfits {post : Int32 → SY → Prop} {r c p : Nat} (hr2 : r < 2) (hW : nn_Wt rc rx ry) (hR : nn_Wr qx qy ac ta ax ay) (hY : nn_Yt rc rx ry va) (hZ : nn_Yr qx qy ax ay qe te) (hk : ∀ i, i < 3 → kn i = nI (nn_dg c i)) (hp : p < 2 ^ 31)
    (h1 : ∀ e bo, nn_fY rc rx ry ac ta ax ay c r p = some e → nn_Bd bo e → post 1 (rl, sm, rc, va, qe, ac, ta, te, kn, bo, hr, al, on)) (h0 : nn_fY rc rx ry ac ta ax ay c r p = none → ∀ bo, post 0 (rl, sm, rc, va, qe, ac, ta, te, kn, bo, hr, al, on)) : wpY_fits post (rl, sm, rc, va, qe, ac, ta, te, kn, bo, hr, al, on) (nI r) (nI p) :=
  ⟨5, nn_yf5 hr2 hW hR hY hZ hk hp h1 h0 5 0 bo (by omega) (by omega) (fun j hj => absurd hj (by omega))⟩
theorem nn_yho {post : Int32 → Prop} {t : Nat} {e : Nat → Option Nat} (ht : nn_pt t) (hB : nn_Bd bo e) (h : post (nn_en (nn_hd e t))) : wpY_headOf post (rl, sm, rc, va, qe, ac, ta, te, kn, bo, hr, al, on) (nI t) := by
  have ht9 := nn_pt_lt ht
  unfold nn_hd at h
  refine pk_le 20 t (fun h2 => ?_) (fun h2 => ?_)
  · rw [if_neg (by omega)] at h
    rw [nn_s20 h2, nI_clamp (by omega), hB _ (by omega)]
    exact ⟨vp_in_nI (by omega) (by decide), h⟩
  · rw [if_pos h2] at h
    exact h
def nn_ys (rc rx ry qx qy ac ta ax ay : Nat → Int32) (c r i k : Nat) : Prop := ∃ p, p < i ∧ ∃ e, nn_fY rc rx ry ac ta ax ay c r p = some e ∧ nn_cp e (nn_n qx r) (nn_n qy r) k
theorem nn_Ar_y {c r k : Nat} (hr2 : r < 2) (hW : nn_Wt rc rx ry) (hR : nn_Wr qx qy ac ta ax ay) : nn_Ar rc rx ry qx qy ac ta ax ay c r k ↔ nn_ys rc rx ry qx qy ac ta ax ay c r 125 k := nn_RA_y (nn_n_5 hr2 hW hR) (nn_Wr_m hR hr2).2
theorem nn_fY_run {c r p : Nat} {e : Nat → Option Nat} (hr2 : r < 2) (hW : nn_Wt rc rx ry) (hR : nn_Wr qx qy ac ta ax ay) (h : nn_fY rc rx ry ac ta ax ay c r p = some e) : nn_Run (nn_n rc) (nn_S ta r) (nn_S ax r) (nn_S ay r) (nn_F rx c) (nn_F ry c) (nn_n ac r) 0 (fun _ => none) e :=
  (nn_fy_run _ _ _ _ _ _ _ (nn_n_5 hr2 hW hR) _ _ _ e (by omega)).mp ⟨p, h⟩
theorem nn_ys_0 {c r i k : Nat} (h : ∀ e, nn_fY rc rx ry ac ta ax ay c r i = some e → ¬ nn_cp e (nn_n qx r) (nn_n qy r) k) : nn_ys rc rx ry qx qy ac ta ax ay c r i k ↔ nn_ys rc rx ry qx qy ac ta ax ay c r (i + 1) k := by
  unfold nn_ys
  rw [nn_ex_s]
  exact ⟨Or.inl, fun z => z.elim id fun ⟨e, he, y⟩ => absurd y (h e he)⟩
theorem nn_ya2 {post : SY → Prop} {r c : Nat} {A : Nat → Prop} (hr2 : r < 2) (hW : nn_Wt rc rx ry) (hR : nn_Wr qx qy ac ta ax ay) (hY : nn_Yt rc rx ry va) (hZ : nn_Yr qx qy ax ay qe te) (hk : ∀ i, i < 3 → kn i = nI (nn_dg c i))
    (h : ∀ bo hr, (∀ k, k < 49 → nn_bo (hr k) (A k ∨ nn_ys rc rx ry qx qy ac ta ax ay c r 125 k)) → post (rl, sm, rc, va, qe, ac, ta, te, kn, bo, hr, al, on)) :
    ∀ (n i : Nat) (bo hr : Nat → Int32), i ≤ 125 → 125 < n + i → (∀ k, k < 49 → nn_bo (hr k) (A k ∨ nn_ys rc rx ry qx qy ac ta ax ay c r i k)) → wY_apply_2 post (nI r) n (nI i) rl sm rc va qe ac ta te kn bo hr al on := by
  have hx := nn_Wr_x hR hr2
  have hy := nn_Wr_y hR hr2
  have hz := hZ.1 r hr2
  intro n
  induction n with
  | zero => intro i bo hr h1 h2; omega
  | succ n ih =>
    intro i bo hr hi hn hI
    refine pk_le 125 i (fun hi => ?_) (fun hi => ?_)
    · have : i = 125 := by omega
      subst this
      exact h bo hr hI
    · refine nn_yfits hr2 hW hR hY hZ hk (by omega) (fun e bo he hB => br_f nn_10 ?_) (fun he bo => br_t rfl (nm_r (nI_1 i) (ih (i + 1) bo hr (by omega) (by omega) fun k hk9 => nn_bo_c (hI k hk9) (or_congr Iff.rfl (nn_ys_0 fun e he' => ?_)))))
      · have hok := nn_run_ok (nn_n ac r) (nn_F_lt hr2 hW hR) _ 0 _ e (by omega) nn_ok0 (nn_fY_run hr2 hW hR he)
        rw [nn_l2, nI_clamp (show 2 * r < 2 ^ 31 by omega), hz.1, hx.1]
        refine ⟨vp_in_nI (by omega) (by decide), nn_yho hx.2 hB ?_⟩
        rw [nI_1, nI_clamp (show 2 * r + 1 < 2 ^ 31 by omega), hz.2, hy.1]
        refine ⟨vp_in_nI (by omega) (by decide), nn_yho hy.2 hB ?_⟩
        have hlx : ∀ a, nn_hd e (nn_n qx r) = some a → a < 7 := fun a => nn_hd_lt hok hx.2
        have hly : ∀ a, nn_hd e (nn_n qy r) = some a → a < 7 := fun a => nn_hd_lt hok hy.2
        rw [nn_en_neg hlx, nn_en_neg hly]
        refine br_c (fun z => nm_r (nI_1 i) (ih (i + 1) bo hr (by omega) (by omega) fun k hk9 => nn_bo_c (hI k hk9) (or_congr Iff.rfl (nn_ys_0 fun e' he' => ?_)))) (fun z => br_c (fun z2 => nm_r (nI_1 i) (ih (i + 1) bo hr (by omega) (by omega) fun k hk9 => nn_bo_c (hI k hk9) (or_congr Iff.rfl (nn_ys_0 fun e' he' => ?_)))) (fun z2 => ?_))
        · rw [he] at he'; cases he'
          intro ⟨a, b, h1, h2, _⟩
          rw [z] at h1; cases h1
        · rw [he] at he'; cases he'
          intro ⟨a, b, h1, h2, _⟩
          rw [z2] at h2; cases h2
        · obtain ⟨a, ha⟩ := nn_some z
          obtain ⟨b, hb⟩ := nn_some z2
          have ha7 := hlx a ha
          have hb7 := hly b hb
          rw [ha, hb]
          show vp_in (7 * nI a + nI b) 49 ∧ _
          rw [show nn_en (some a) = nI a from rfl, show nn_en (some b) = nI b from rfl, nn_l7, nI_add, nI_clamp (show 7 * a + b < 2 ^ 31 by omega), nn_vb1]
          refine ⟨vp_in_nI (by omega) (by decide), nm_e (nm_r (nI_1 i) (ih (i + 1) bo _ (by omega) (by omega) fun k hk9 => ?_))⟩
          have es : nn_ys rc rx ry qx qy ac ta ax ay c r (i + 1) k ↔ (nn_ys rc rx ry qx qy ac ta ax ay c r i k ∨ k = 7 * a + b) := by
            unfold nn_ys
            rw [nn_ex_s]
            refine or_congr Iff.rfl ⟨?_, fun y => ⟨e, he, a, b, ha, hb, y⟩⟩
            intro ⟨e', he', a', b', ha', hb', y⟩
            rw [he] at he'
            cases he'
            rw [ha] at ha'
            rw [hb] at hb'
            cases ha'
            cases hb'
            exact y
          by_cases ek : k = 7 * a + b
          · rw [ek, pk_us]
            exact nn_bo_t (Or.inr (ek ▸ es.mpr (Or.inr ek)))
          · rw [pk_un ek]
            exact nn_bo_c (hI k hk9) (or_congr Iff.rfl ⟨fun y => es.mpr (Or.inl y), fun y => (es.mp y).elim id fun y => absurd y ek⟩)
      · rw [he] at he'; cases he'
theorem nn_yap {post : SY → Prop} {r c : Nat} {A : Nat → Prop} (hr2 : r < 2) (hW : nn_Wt rc rx ry) (hR : nn_Wr qx qy ac ta ax ay) (hY : nn_Yt rc rx ry va) (hZ : nn_Yr qx qy ax ay qe te) (hk : ∀ i, i < 3 → kn i = nI (nn_dg c i))
    (hH : ∀ k, k < 49 → nn_bo (hr k) (A k)) (h : ∀ bo hr, (∀ k, k < 49 → nn_bo (hr k) (A k ∨ nn_Ar rc rx ry qx qy ac ta ax ay c r k)) → post (rl, sm, rc, va, qe, ac, ta, te, kn, bo, hr, al, on)) : wpY_apply post (rl, sm, rc, va, qe, ac, ta, te, kn, bo, hr, al, on) (nI r) :=
  ⟨126, nn_ya2 hr2 hW hR hY hZ hk (fun bo hr hB => h bo hr fun k hk9 => nn_bo_c (hB k hk9) (or_congr Iff.rfl (nn_Ar_y hr2 hW hR).symm)) 126 0 bo hr (by omega) (by omega) fun k hk9 => nn_bo_c (hH k hk9) ⟨Or.inl, fun z => z.elim id fun y => absurd y nn_ex_0⟩⟩
end
