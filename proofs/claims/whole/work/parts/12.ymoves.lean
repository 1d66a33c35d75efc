/-! rule and atom of the component; the reference's calls that change the state -/
section
variable {rc rx ry qx qy ac ta ax ay gi fu fv bd : Nat → Int32}
theorem nn_xruB {post : Int32 → SX → Prop} {rC p q : Int32} (hn : ¬ (nn_M p ∧ nn_M q)) (h : post (-1) (rC, rc, rx, ry, qx, qy, ac, ta, ax, ay, gi, fu, fv, bd)) : wpX_rule post (rC, rc, rx, ry, qx, qy, ac, ta, ax, ay, gi, fu, fv, bd) p q := by
  unfold wpX_rule
  dsimp only
  refine nn_xM (fun a => br_f nn_10 ?_) (fun _ => br_t rfl h)
  exact nn_xM (fun b => absurd ⟨a, b⟩ hn) (fun _ => br_t rfl h)
theorem nn_xru {post : Int32 → SX → Prop} {R : Nat} {p q : Int32} (hp : nn_M p) (hq : nn_M q) (hR : R ≤ 2) (h2 : R = 2 → post (-2) (nI R, rc, rx, ry, qx, qy, ac, ta, ax, ay, gi, fu, fv, bd))
    (h : R < 2 → post (nI (R + 1)) (nI (R + 1), rc, rx, ry, upd qx R p, upd qy R q, upd ac R (nI 0), ta, ax, ay, gi, fu, fv, bd)) : wpX_rule post (nI R, rc, rx, ry, qx, qy, ac, ta, ax, ay, gi, fu, fv, bd) p q := by
  unfold wpX_rule
  dsimp only
  refine nn_xM (fun _ => br_f nn_10 ?_) (fun z => absurd hp z)
  refine nn_xM (fun _ => br_f nn_10 ?_) (fun z => absurd hq z)
  refine pk_lt R 2 (fun z => ?_) (fun z => h2 (by omega))
  have hin : vp_in (nI R) 2 := vp_in_nI z (by decide)
  rw [nI_clamp (show R < 2 ^ 31 by omega)]
  exact ⟨hin, nm_e ⟨hin, nm_e ⟨hin, nm_e (nm_r (nI_1 R) (h z))⟩⟩⟩
theorem nn_xatB {post : Int32 → SX → Prop} {rC p q s : Int32} (hn : ¬ (nn_D p ∧ nn_M q ∧ nn_M s)) (h : post (-1) (rC, rc, rx, ry, qx, qy, ac, ta, ax, ay, gi, fu, fv, bd)) : wpX_atom post (rC, rc, rx, ry, qx, qy, ac, ta, ax, ay, gi, fu, fv, bd) p q s := by
  unfold wpX_atom
  dsimp only
  refine nn_xD (fun a => br_f nn_10 ?_) (fun _ => br_t rfl h)
  refine nn_xM (fun b => br_f nn_10 ?_) (fun _ => br_t rfl h)
  exact nn_xM (fun c => absurd ⟨a, b, c⟩ hn) (fun _ => br_t rfl h)
theorem nn_xat {post : Int32 → SX → Prop} {R : Nat} {p q s : Int32} (hp : nn_D p) (hq : nn_M q) (hs : nn_M s) (hR : nn_Wr qx qy ac ta ax ay) (hR2 : R ≤ 2) (h0 : R = 0 → post (-3) (nI R, rc, rx, ry, qx, qy, ac, ta, ax, ay, gi, fu, fv, bd))
    (h3 : ∀ r, R = r + 1 → nn_n ac r = 3 → post (-2) (nI R, rc, rx, ry, qx, qy, ac, ta, ax, ay, gi, fu, fv, bd))
    (h : ∀ r, R = r + 1 → nn_n ac r < 3 → post (nI (nn_n ac r + 1)) (nI R, rc, rx, ry, qx, qy, upd ac r (nI (nn_n ac r + 1)), upd ta (3 * r + nn_n ac r) p, upd ax (3 * r + nn_n ac r) q, upd ay (3 * r + nn_n ac r) s, gi, fu, fv, bd)) : wpX_atom post (nI R, rc, rx, ry, qx, qy, ac, ta, ax, ay, gi, fu, fv, bd) p q s := by
  unfold wpX_atom
  dsimp only
  refine nn_xD (fun _ => br_f nn_10 ?_) (fun z => absurd hp z)
  refine nn_xM (fun _ => br_f nn_10 ?_) (fun z => absurd hq z)
  refine nn_xM (fun _ => br_f nn_10 ?_) (fun z => absurd hs z)
  refine pk_eq R 0 h0 (fun z => ?_)
  obtain ⟨r, rfl⟩ : ∃ r, R = r + 1 := ⟨R - 1, by omega⟩
  have hr : r < 2 := by omega
  have hm := nn_Wr_m hR hr
  have hin : vp_in (nI r) 2 := vp_in_nI hr (by decide)
  have hac : ac (nI r).toNatClampNeg = nI (nn_n ac r) := by rw [nI_clamp (show r < 2 ^ 31 by omega)]; exact hm.1
  refine nm_r (nI_pred r) ⟨hin, nm_r hac (pk_lt (nn_n ac r) 3 (fun y => ?_) (fun y => h3 r rfl (by omega)))⟩
  have hin2 : vp_in (nI (3 * r + nn_n ac r)) 6 := vp_in_nI (by omega) (by decide)
  refine nm_r (by rw [nn_r3, nI_add]) ⟨hin2, nm_e ⟨hin2, nm_e ⟨hin2, nm_e ⟨hin, nm_e ?_⟩⟩⟩⟩
  rw [nI_1 (nn_n ac r), nI_clamp (show 3 * r + nn_n ac r < 2 ^ 31 by omega), nI_clamp (show r < 2 ^ 31 by omega)]
  exact h r rfl y
end
section
variable {rl sm : Int32} {rc va qe ac ta te kn bo hr al on rx ry qx qy ax ay : Nat → Int32}
theorem nn_yaddB {post : Int32 → SY → Prop} {p q s : Int32} (hn : ¬ (nn_D p ∧ nn_V q ∧ nn_V s)) (h : post (-1) (rl, sm, rc, va, qe, ac, ta, te, kn, bo, hr, al, on)) : wpY_addRow post (rl, sm, rc, va, qe, ac, ta, te, kn, bo, hr, al, on) p q s := by
  unfold wpY_addRow
  dsimp only
  refine nn_yD (fun a => br_f nn_10 ?_) (fun _ => br_t rfl h)
  refine nn_yV (fun b => br_f nn_10 ?_) (fun _ => br_t rfl h)
  exact nn_yV (fun c => absurd ⟨a, b, c⟩ hn) (fun _ => br_t rfl h)
theorem nn_yadd {post : Int32 → SY → Prop} {t : Nat} {p q : Int32} (hW : nn_Wt rc rx ry) (ht : t < 2) (hp : nn_V p) (hq : nn_V q) (h5 : nn_n rc t = 5 → post (-2) (rl, sm, rc, va, qe, ac, ta, te, kn, bo, hr, al, on))
    (h : nn_n rc t < 5 → post (nI (nn_n rc t + 1)) (rl, sm, upd rc t (nI (nn_n rc t + 1)), upd (upd va (10 * t + 2 * nn_n rc t) p) (10 * t + 2 * nn_n rc t + 1) q, qe, ac, ta, te, kn, bo, hr, al, on)) : wpY_addRow post (rl, sm, rc, va, qe, ac, ta, te, kn, bo, hr, al, on) (nI t) p q := by
  have hn := nn_Wt_n hW ht
  have hin : vp_in (nI t) 2 := vp_in_nI ht (by decide)
  have hcl : (nI t).toNatClampNeg = t := nI_clamp (by omega)
  unfold wpY_addRow
  dsimp only
  refine nn_yD (fun _ => br_f nn_10 ?_) (fun z => absurd ⟨t, ht, rfl⟩ z)
  refine nn_yV (fun _ => br_f nn_10 ?_) (fun z => absurd hp z)
  refine nn_yV (fun _ => br_f nn_10 ?_) (fun z => absurd hq z)
  rw [hcl, hn.1]
  refine ⟨hin, pk_eq (nn_n rc t) 5 h5 (fun z => ?_)⟩
  have hin2 : vp_in (nI (10 * t + 2 * nn_n rc t)) 20 := vp_in_nI (by omega) (by decide)
  have hin3 : vp_in (nI (10 * t + 2 * nn_n rc t + 1)) 20 := vp_in_nI (by omega) (by decide)
  refine ⟨hin, nm_r (by rw [nn_l10, nn_l2, nI_add]) ⟨hin2, nm_e ?_⟩⟩
  rw [nI_1 (10 * t + 2 * nn_n rc t), nI_clamp (show 10 * t + 2 * nn_n rc t < 2 ^ 31 by omega), nI_clamp (show 10 * t + 2 * nn_n rc t + 1 < 2 ^ 31 by omega)]
  refine ⟨hin3, nm_e ⟨hin, hin, nm_r (congrArg (upd rc t) (nI_1 _)) ⟨hin, ?_⟩⟩⟩
  rw [pk_us]
  exact h (by omega)
theorem nn_y21 {post : Int32 → SY → Prop} {t k : Nat} (ht : t < 2) (hk : rc t = nI (k + 1)) (h : post (nI k) (rl, sm, upd rc t (nI k), nn_mv va (10 * t) 8 2, qe, ac, ta, te, kn, bo, hr, al, on)) :
    ∀ (n i : Nat), i ≤ 8 → 8 < n + i → wY_dropRow_21 post (nI t) rl sm n (nI i) rc (nn_mv va (10 * t) i 2) qe ac ta te kn bo hr al on := by
  intro n
  induction n with
  | zero => intro i h1 h2; omega
  | succ n ih =>
    intro i hi hn
    have hin : vp_in (nI t) 2 := vp_in_nI ht (by decide)
    refine pk_le 8 i (fun z => ?_) (fun z => ?_)
    · have : i = 8 := by omega
      subst this
      rw [nI_clamp (show t < 2 ^ 31 by omega), hk, nI_pred]
      refine ⟨hin, hin, nm_e ⟨hin, ?_⟩⟩
      rw [pk_us]
      exact h
    · rw [nn_l10, nI_add, nn_p2, nI_clamp (show 10 * t + i < 2 ^ 31 by omega), nI_clamp (show 10 * t + i + 2 < 2 ^ 31 by omega)]
      refine ⟨vp_in_nI (by omega) (by decide), vp_in_nI (by omega) (by decide), nm_r (nn_mv_s (by decide)) (nm_r (nI_1 i) ?_)⟩
      exact ih (i + 1) (by omega) (by omega)
theorem nn_ydrB {post : Int32 → SY → Prop} {p : Int32} (hn : ¬ nn_D p) (h : post (-1) (rl, sm, rc, va, qe, ac, ta, te, kn, bo, hr, al, on)) : wpY_dropRow post (rl, sm, rc, va, qe, ac, ta, te, kn, bo, hr, al, on) p := by
  unfold wpY_dropRow
  dsimp only
  exact nn_yD (fun a => absurd a hn) (fun _ => br_t rfl h)
theorem nn_ydr {post : Int32 → SY → Prop} {t : Nat} (hW : nn_Wt rc rx ry) (ht : t < 2) (h0 : nn_n rc t = 0 → post (-1) (rl, sm, rc, va, qe, ac, ta, te, kn, bo, hr, al, on))
    (h : ∀ k, nn_n rc t = k + 1 → post (nI k) (rl, sm, upd rc t (nI k), nn_mv va (10 * t) 8 2, qe, ac, ta, te, kn, bo, hr, al, on)) : wpY_dropRow post (rl, sm, rc, va, qe, ac, ta, te, kn, bo, hr, al, on) (nI t) := by
  have hn := nn_Wt_n hW ht
  unfold wpY_dropRow
  dsimp only
  refine nn_yD (fun _ => br_f nn_10 ?_) (fun z => absurd ⟨t, ht, rfl⟩ z)
  rw [nI_clamp (show t < 2 ^ 31 by omega)]
  refine ⟨vp_in_nI ht (by decide), pk_eq (nn_n rc t) 0 h0 (fun z => ?_) hn.1⟩
  obtain ⟨k, hk⟩ : ∃ k, nn_n rc t = k + 1 := ⟨nn_n rc t - 1, by omega⟩
  have := nn_y21 (rl := rl) (sm := sm) (post := post) ht (by rw [← hk]; exact hn.1) (h k hk) 9 0 (by omega) (by omega)
  rw [nn_mv_0] at this
  exact ⟨9, this⟩
def nn_tp (rc va : Nat → Int32) (U : Int32) (p s : Nat) : Prop := nn_ht rc va U s ∧ s < p
theorem nn_tp_at {U c : Int32} {p : Nat} : nn_pl va (nn_tp rc va U p) c p = va p := nn_pl_f fun z => absurd z.2 (by omega)
theorem nn_tp_t {U c : Int32} {p : Nat} (h : nn_ht rc va U p) : upd (nn_pl va (nn_tp rc va U p) c) p c = nn_pl va (nn_tp rc va U (p + 1)) c :=
  nn_pl_u fun s => ⟨fun z => if e : s = p then Or.inr e else Or.inl ⟨z.1, by have := z.2; omega⟩, fun z => z.elim (fun y => ⟨y.1, by have := y.2; omega⟩) (fun y => ⟨y ▸ h, by omega⟩)⟩
theorem nn_tp_f {U c : Int32} {p : Nat} (h : ¬ nn_ht rc va U p) : nn_pl va (nn_tp rc va U p) c = nn_pl va (nn_tp rc va U (p + 1)) c :=
  nn_pl_e fun s => ⟨fun z => ⟨z.1, by have := z.2; omega⟩, fun z => ⟨z.1, by
    have z2 := z.2
    by_cases e : s = p
    · exact absurd (e ▸ z.1) h
    · omega⟩⟩
theorem nn_y28 {post : Int32 → SY → Prop} {U c : Int32} (hW : nn_Wt rc rx ry) (h : post (nI (nn_lc rc va U 20)) (rl, sm, rc, nn_pl va (nn_tp rc va U 20) c, qe, ac, ta, te, kn, bo, hr, al, on)) :
    ∀ (n j : Nat), j ≤ 20 → 20 < n + j → wY_learn_28 post U c rl sm n (nI (nn_lc rc va U j)) (nI j) rc (nn_pl va (nn_tp rc va U j) c) qe ac ta te kn bo hr al on := by
  intro n
  induction n with
  | zero => intro j h1 h2; omega
  | succ n ih =>
    intro j hj hn
    refine pk_le 20 j (fun z => ?_) (fun z => ?_)
    · have : j = 20 := by omega
      subst this
      exact h
    · have ht : j / 10 < 2 := by omega
      have hr := nn_Wt_n hW ht
      have hin : vp_in (nI j) 20 := vp_in_nI z (by decide)
      rw [nn_m10 (by omega), nn_d10 (by omega), nI_clamp (show j / 10 < 2 ^ 31 by omega), hr.1, nn_l2]
      refine ⟨by decide, by decide, vp_in_nI ht (by decide), pk_le (2 * nn_n rc (j / 10)) (j % 10) (fun y => ?_) (fun y => ?_)⟩
      · refine br_t rfl (nm_r (nI_1 j) ?_)
        have hf : ¬ nn_ht rc va U j := fun w => by have := w.1; omega
        rw [← nn_lc_f hf, nn_tp_f hf]
        exact ih (j + 1) (by omega) (by omega)
      · refine br_f nn_10 ⟨hin, ?_⟩
        rw [nI_clamp (show j < 2 ^ 31 by omega), nn_tp_at]
        refine br_c (fun w => ⟨hin, nm_r (nn_tp_t ⟨y, w⟩) (nm_r (nI_1 _) (nm_r (nI_1 j) ?_))⟩) (fun w => nm_r (nI_1 j) ?_)
        · rw [← nn_lc_t ⟨y, w⟩]
          exact ih (j + 1) (by omega) (by omega)
        · have hf : ¬ nn_ht rc va U j := fun q => w q.2
          rw [← nn_lc_f hf, nn_tp_f hf]
          exact ih (j + 1) (by omega) (by omega)
theorem nn_yleB {post : Int32 → SY → Prop} {p q : Int32} (hn : ¬ (nn_U p ∧ nn_C q)) (h : post (-1) (rl, sm, rc, va, qe, ac, ta, te, kn, bo, hr, al, on)) : wpY_learn post (rl, sm, rc, va, qe, ac, ta, te, kn, bo, hr, al, on) p q := by
  rw [← nn_Ui, ← nn_Ci] at hn
  exact br_c (fun _ => h) fun a => br_c (fun _ => h) fun b => br_c (fun _ => h) fun c => br_c (fun d => absurd ⟨⟨a, b⟩, ⟨c, Int32.not_lt.mpr d⟩⟩ hn) (fun _ => h)
theorem nn_yle {post : Int32 → SY → Prop} {p q : Int32} (hp : nn_U p) (hq : nn_C q) (hW : nn_Wt rc rx ry)
    (h : post (nI (nn_lc rc va p 20)) (rl, sm, rc, nn_pl va (nn_tp rc va p 20) q, qe, ac, ta, te, kn, bo, hr, al, on)) : wpY_learn post (rl, sm, rc, va, qe, ac, ta, te, kn, bo, hr, al, on) p q := by
  rw [← nn_Ui] at hp
  rw [← nn_Ci] at hq
  have := nn_y28 (rl := rl) (sm := sm) (post := post) hW h 21 0 (by omega) (by omega)
  rw [nn_pl_0 (fun s z => absurd z.2 (by omega))] at this
  exact br_f hp.1 (br_f hp.2 (br_f hq.1 (br_t (Int32.not_lt.mp hq.2) ⟨21, this⟩)))
theorem nn_yruB {post : Int32 → SY → Prop} {p q : Int32} (hn : ¬ (nn_M p ∧ nn_M q)) (h : post (-1) (rl, sm, rc, va, qe, ac, ta, te, kn, bo, hr, al, on)) : wpY_rule post (rl, sm, rc, va, qe, ac, ta, te, kn, bo, hr, al, on) p q := by
  unfold wpY_rule
  dsimp only
  refine nn_yM (fun a => br_f nn_10 ?_) (fun _ => br_t rfl h)
  exact nn_yM (fun b => absurd ⟨a, b⟩ hn) (fun _ => br_t rfl h)
theorem nn_yru {post : Int32 → SY → Prop} {R : Nat} {p q : Int32} (hp : nn_M p) (hq : nn_M q) (hR : R ≤ 2) (h2 : R = 2 → post (-2) (nI R, sm, rc, va, qe, ac, ta, te, kn, bo, hr, al, on))
    (h : R < 2 → post (nI (R + 1)) (nI (R + 1), sm, rc, va, upd (upd qe (2 * R) p) (2 * R + 1) q, upd ac R (nI 0), ta, te, kn, bo, hr, al, on)) : wpY_rule post (nI R, sm, rc, va, qe, ac, ta, te, kn, bo, hr, al, on) p q := by
  unfold wpY_rule
  dsimp only
  refine nn_yM (fun _ => br_f nn_10 ?_) (fun z => absurd hp z)
  refine nn_yM (fun _ => br_f nn_10 ?_) (fun z => absurd hq z)
  refine pk_eq R 2 h2 (fun z => ?_)
  rw [nn_l2, nI_1 (2 * R), nI_clamp (show 2 * R < 2 ^ 31 by omega), nI_clamp (show 2 * R + 1 < 2 ^ 31 by omega), nI_clamp (show R < 2 ^ 31 by omega)]
  exact ⟨vp_in_nI (by omega) (by decide), nm_e ⟨vp_in_nI (by omega) (by decide), nm_e ⟨vp_in_nI (by omega) (by decide), nm_e (nm_r (nI_1 R) (h (by omega)))⟩⟩⟩
theorem nn_yatB {post : Int32 → SY → Prop} {p q s : Int32} (hn : ¬ (nn_D p ∧ nn_M q ∧ nn_M s)) (h : post (-1) (rl, sm, rc, va, qe, ac, ta, te, kn, bo, hr, al, on)) : wpY_atom post (rl, sm, rc, va, qe, ac, ta, te, kn, bo, hr, al, on) p q s := by
  unfold wpY_atom
  dsimp only
  refine nn_yD (fun a => br_f nn_10 ?_) (fun _ => br_t rfl h)
  refine nn_yM (fun b => br_f nn_10 ?_) (fun _ => br_t rfl h)
  exact nn_yM (fun c => absurd ⟨a, b, c⟩ hn) (fun _ => br_t rfl h)
theorem nn_yat {post : Int32 → SY → Prop} {R : Nat} {p q s : Int32} (hp : nn_D p) (hq : nn_M q) (hs : nn_M s) (hR : nn_Wr qx qy ac ta ax ay) (hR2 : R ≤ 2) (h0 : R = 0 → post (-3) (nI R, sm, rc, va, qe, ac, ta, te, kn, bo, hr, al, on))
    (h3 : ∀ r, R = r + 1 → nn_n ac r = 3 → post (-2) (nI R, sm, rc, va, qe, ac, ta, te, kn, bo, hr, al, on))
    (h : ∀ r, R = r + 1 → nn_n ac r < 3 → post (nI (nn_n ac r + 1)) (nI R, sm, rc, va, qe, upd ac r (nI (nn_n ac r + 1)), upd ta (3 * r + nn_n ac r) p, upd (upd te (2 * (3 * r + nn_n ac r)) q) (2 * (3 * r + nn_n ac r) + 1) s, kn, bo, hr, al, on)) : wpY_atom post (nI R, sm, rc, va, qe, ac, ta, te, kn, bo, hr, al, on) p q s := by
  unfold wpY_atom
  dsimp only
  refine nn_yD (fun _ => br_f nn_10 ?_) (fun z => absurd hp z)
  refine nn_yM (fun _ => br_f nn_10 ?_) (fun z => absurd hq z)
  refine nn_yM (fun _ => br_f nn_10 ?_) (fun z => absurd hs z)
  refine pk_eq R 0 h0 (fun z => ?_)
  obtain ⟨r, rfl⟩ : ∃ r, R = r + 1 := ⟨R - 1, by omega⟩
  have hr2 : r < 2 := by omega
  have hm := nn_Wr_m hR hr2
  have hin : vp_in (nI r) 2 := vp_in_nI hr2 (by decide)
  refine nm_r (nI_pred r) ⟨hin, ?_⟩
  rw [nI_clamp (show r < 2 ^ 31 by omega), hm.1]
  refine pk_eq (nn_n ac r) 3 (fun y => h3 r rfl y) (fun y => ⟨hin, nm_r (by rw [nn_l3, nI_add]) ?_⟩)
  rw [nn_l2, nI_1 (2 * (3 * r + nn_n ac r)), nI_clamp (show 3 * r + nn_n ac r < 2 ^ 31 by omega), nI_clamp (show 2 * (3 * r + nn_n ac r) < 2 ^ 31 by omega), nI_clamp (show 2 * (3 * r + nn_n ac r) + 1 < 2 ^ 31 by omega)]
  refine ⟨vp_in_nI (by omega) (by decide), nm_e ⟨vp_in_nI (by omega) (by decide), nm_e ⟨vp_in_nI (by omega) (by decide), nm_e ⟨hin, hin, nm_r (congrArg (upd ac r) (nI_1 _)) ⟨hin, ?_⟩⟩⟩⟩⟩
  rw [pk_us]
  exact h r rfl (by omega)
end
