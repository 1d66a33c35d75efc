/-! what is owed -/
def i_Rel (_ : Nat) (u : SX) (v : SY) : Prop :=
  ∃ (R : Nat) (rc rx ry qx qy ac ta ax ay gi fu fv bd : Nat → Int32) (sm : Int32) (va qe te kn bo hr al on : Nat → Int32),
    u = (nI R, rc, rx, ry, qx, qy, ac, ta, ax, ay, gi, fu, fv, bd) ∧ v = (nI R, sm, rc, va, qe, ac, ta, te, kn, bo, hr, al, on) ∧ R ≤ 2 ∧ nn_Wt rc rx ry ∧ nn_Wr qx qy ac ta ax ay ∧ nn_Yt rc rx ry va ∧ nn_Yr qx qy ax ay qe te
theorem nn_rel {k R : Nat} {rc rx ry qx qy ac ta ax ay gi fu fv bd : Nat → Int32} {sm : Int32} {va qe te kn bo hr al on : Nat → Int32} (h2 : R ≤ 2) (hW : nn_Wt rc rx ry) (hR : nn_Wr qx qy ac ta ax ay) (hY : nn_Yt rc rx ry va) (hZ : nn_Yr qx qy ax ay qe te) :
    i_Rel k (nI R, rc, rx, ry, qx, qy, ac, ta, ax, ay, gi, fu, fv, bd) (nI R, sm, rc, va, qe, ac, ta, te, kn, bo, hr, al, on) :=
  ⟨R, rc, rx, ry, qx, qy, ac, ta, ax, ay, gi, fu, fv, bd, sm, va, qe, te, kn, bo, hr, al, on, rfl, rfl, h2, hW, hR, hY, hZ⟩
theorem i_up {k : Nat} {u : SX} {v : SY} (h : i_Rel k u v) : i_Rel (k + 4) u v := h
theorem i_vc0 : wpX_init (fun u => wpY_init (fun v => i_Rel 0 u v)) :=
  nn_rel (k := 0) (R := 0) (by decide)
    ⟨fun _ _ => nn_is_i (a := 0) (by decide) (by decide), fun t _ i hi => absurd hi (by rw [show nn_n (fun _ => 0) t = 0 from nI_clamp (n := 0) (by decide)]; omega)⟩
    ⟨fun _ _ => ⟨nn_is_i (a := 0) (by decide) (by decide), nn_is_i (a := 0) (by decide) (Or.inl (by decide)), nn_is_i (a := 0) (by decide) (Or.inl (by decide))⟩, fun _ _ => ⟨nn_is_i (a := 0) (by decide) (by decide), nn_is_i (a := 0) (by decide) (Or.inl (by decide)), nn_is_i (a := 0) (by decide) (Or.inl (by decide))⟩⟩
    (fun _ _ _ _ => ⟨rfl, rfl⟩) ⟨fun _ _ => ⟨rfl, rfl⟩, fun _ _ => ⟨rfl, rfl⟩⟩
theorem i_vc_addRow {k : Nat} {u : SX} {v : SY} (I : i_Rel k u v) (hk : k + 4 ≤ 2048) (v1 : Int32) (v2 : Int32) (v3 : Int32) : wpX_addRow (fun r u' => wpY_addRow (fun r' v' => r' = r ∧ i_Rel (k + 4) u' v') v v1 v2 v3) u v1 v2 v3 := by
  obtain ⟨R, rc, rx, ry, qx, qy, ac, ta, ax, ay, gi, fu, fv, bd, sm, va, qe, te, kn, bo, hr, al, on, rfl, rfl, h2, hW, hR, hY, hZ⟩ := I
  by_cases d : nn_D v1 ∧ nn_V v2 ∧ nn_V v3
  · obtain ⟨⟨t, ht, rfl⟩, ⟨x, hx, rfl⟩, ⟨y, hy, rfl⟩⟩ := d
    refine nn_xadd hW ht hx hy (fun n5 => ?_) (fun n5 => ?_)
    · exact nn_yadd hW ht ⟨x, hx, rfl⟩ ⟨y, hy, rfl⟩ (fun _ => ⟨rfl, nn_rel h2 hW hR hY hZ⟩) (fun z => absurd z (by omega))
    · exact nn_yadd hW ht ⟨x, hx, rfl⟩ ⟨y, hy, rfl⟩ (fun z => absurd z (by omega)) (fun _ => ⟨rfl, nn_rel h2 (nn_add_W hW ht rfl n5 hx hy) hR (nn_add_Y hW hY ht rfl n5) hZ⟩)
  · exact nn_xaddB d (nn_yaddB d ⟨rfl, nn_rel h2 hW hR hY hZ⟩)
theorem i_vc_dropRow {k : Nat} {u : SX} {v : SY} (I : i_Rel k u v) (hk : k + 4 ≤ 2048) (v1 : Int32) : wpX_dropRow (fun r u' => wpY_dropRow (fun r' v' => r' = r ∧ i_Rel (k + 4) u' v') v v1) u v1 := by
  obtain ⟨R, rc, rx, ry, qx, qy, ac, ta, ax, ay, gi, fu, fv, bd, sm, va, qe, te, kn, bo, hr, al, on, rfl, rfl, h2, hW, hR, hY, hZ⟩ := I
  by_cases d : nn_D v1
  · obtain ⟨t, ht, rfl⟩ := d
    refine nn_xdr hW ht (fun n0 => ?_) (fun j n0 => ?_)
    · exact nn_ydr hW ht (fun _ => ⟨rfl, nn_rel h2 hW hR hY hZ⟩) (fun i z => absurd z (by omega))
    · refine nn_ydr hW ht (fun z => absurd z (by omega)) (fun i z => ?_)
      obtain rfl : i = j := by omega
      exact ⟨rfl, nn_rel h2 (nn_drop_W hW ht z) hR (nn_drop_Y hW hY ht z) hZ⟩
  · exact nn_xdrB d (nn_ydrB d ⟨rfl, nn_rel h2 hW hR hY hZ⟩)
theorem nn_Wt_c {rc rx ry rx' ry' : Nat → Int32} (h : nn_Wt rc rx ry) (ex : ∀ s, s < 10 → rx' s = rx s) (ey : ∀ s, s < 10 → ry' s = ry s) : nn_Wt rc rx' ry' := by
  refine ⟨h.1, fun t ht i hi => ?_⟩
  have h5 := (nn_Wt_n h ht).2
  rw [ex _ (by omega), ey _ (by omega)]
  exact h.2 t ht i hi
theorem nn_Yt_c {rc rx ry va rx' ry' va' : Nat → Int32} (hW : nn_Wt rc rx ry) (h : nn_Yt rc rx ry va) (ex : ∀ s, s < 10 → rx' s = rx s) (ey : ∀ s, s < 10 → ry' s = ry s) (ev : ∀ s, s < 20 → va' s = va s) : nn_Yt rc rx' ry' va' := by
  intro t ht i hi
  have h5 := (nn_Wt_n hW ht).2
  rw [ex _ (by omega), ey _ (by omega), ev _ (by omega), ev _ (by omega)]
  exact h t ht i hi
theorem nn_pl_c {a : Nat → Int32} {p q : Nat → Prop} {c : Int32} {s : Nat} (h : p s ↔ q s) : nn_pl a p c s = nn_pl a q c s := by
  by_cases e : p s
  · rw [nn_pl_t e, nn_pl_t (h.mp e)]
  · rw [nn_pl_f e, nn_pl_f (fun z => e (h.mpr z))]
theorem i_vc_learn {k : Nat} {u : SX} {v : SY} (I : i_Rel k u v) (hk : k + 4 ≤ 2048) (v1 : Int32) (v2 : Int32) : wpX_learn (fun r u' => wpY_learn (fun r' v' => r' = r ∧ i_Rel (k + 4) u' v') v v1 v2) u v1 v2 := by
  obtain ⟨R, rc, rx, ry, qx, qy, ac, ta, ax, ay, gi, fu, fv, bd, sm, va, qe, te, kn, bo, hr, al, on, rfl, rfl, h2, hW, hR, hY, hZ⟩ := I
  by_cases d : nn_U v1 ∧ nn_C v2
  · obtain ⟨hu, hc⟩ := d
    refine nn_xle hu hc hW hY (nn_yle hu hc hW ⟨rfl, ?_⟩)
    have ex : ∀ s, s < 10 → nn_pl rx (nn_hp rc rx v1 10) v2 s = nn_pl rx (nn_hx rc rx v1) v2 s := fun s hs => nn_pl_c ⟨fun z => z.1, fun z => ⟨z, hs⟩⟩
    have ey : ∀ s, s < 10 → nn_pl ry (nn_hp rc ry v1 10) v2 s = nn_pl ry (nn_hx rc ry v1) v2 s := fun s hs => nn_pl_c ⟨fun z => z.1, fun z => ⟨z, hs⟩⟩
    have ev : ∀ s, s < 20 → nn_pl va (nn_tp rc va v1 20) v2 s = nn_pl va (nn_ht rc va v1) v2 s := fun s hs => nn_pl_c ⟨fun z => z.1, fun z => ⟨z, hs⟩⟩
    obtain ⟨c, hc3, rfl⟩ := hc
    have hW' := nn_learn_W (U := v1) hW hc3
    exact nn_rel h2 (nn_Wt_c hW' ex ey) hR (nn_Yt_c hW' (nn_learn_Y hW hY) ex ey ev) hZ
  · exact nn_xleB d (nn_yleB d ⟨rfl, nn_rel h2 hW hR hY hZ⟩)
theorem i_vc_rule {k : Nat} {u : SX} {v : SY} (I : i_Rel k u v) (hk : k + 4 ≤ 2048) (v1 : Int32) (v2 : Int32) : wpX_rule (fun r u' => wpY_rule (fun r' v' => r' = r ∧ i_Rel (k + 4) u' v') v v1 v2) u v1 v2 := by
  obtain ⟨R, rc, rx, ry, qx, qy, ac, ta, ax, ay, gi, fu, fv, bd, sm, va, qe, te, kn, bo, hr, al, on, rfl, rfl, h2, hW, hR, hY, hZ⟩ := I
  by_cases d : nn_M v1 ∧ nn_M v2
  · obtain ⟨⟨x, hx, rfl⟩, ⟨y, hy, rfl⟩⟩ := d
    refine nn_xru ⟨x, hx, rfl⟩ ⟨y, hy, rfl⟩ h2 (fun z => ?_) (fun z => ?_)
    · exact nn_yru ⟨x, hx, rfl⟩ ⟨y, hy, rfl⟩ h2 (fun _ => ⟨rfl, nn_rel h2 hW hR hY hZ⟩) (fun w => absurd w (by omega))
    · exact nn_yru ⟨x, hx, rfl⟩ ⟨y, hy, rfl⟩ h2 (fun w => absurd w (by omega)) (fun _ => ⟨rfl, nn_rel (by omega) hW (nn_rule_W hR hx hy) hY (nn_rule_Y hZ)⟩)
  · exact nn_xruB d (nn_yruB d ⟨rfl, nn_rel h2 hW hR hY hZ⟩)
theorem i_vc_atom {k : Nat} {u : SX} {v : SY} (I : i_Rel k u v) (hk : k + 4 ≤ 2048) (v1 : Int32) (v2 : Int32) (v3 : Int32) : wpX_atom (fun r u' => wpY_atom (fun r' v' => r' = r ∧ i_Rel (k + 4) u' v') v v1 v2 v3) u v1 v2 v3 := by
  obtain ⟨R, rc, rx, ry, qx, qy, ac, ta, ax, ay, gi, fu, fv, bd, sm, va, qe, te, kn, bo, hr, al, on, rfl, rfl, h2, hW, hR, hY, hZ⟩ := I
  by_cases d : nn_D v1 ∧ nn_M v2 ∧ nn_M v3
  · obtain ⟨⟨t, ht, rfl⟩, ⟨x, hx, rfl⟩, ⟨y, hy, rfl⟩⟩ := d
    refine nn_xat ⟨t, ht, rfl⟩ ⟨x, hx, rfl⟩ ⟨y, hy, rfl⟩ hR h2 (fun z => ?_) (fun r z z3 => ?_) (fun r z z3 => ?_)
    · exact nn_yat ⟨t, ht, rfl⟩ ⟨x, hx, rfl⟩ ⟨y, hy, rfl⟩ hR h2 (fun _ => ⟨rfl, nn_rel h2 hW hR hY hZ⟩) (fun r w => absurd w (by omega)) (fun r w => absurd w (by omega))
    · refine nn_yat ⟨t, ht, rfl⟩ ⟨x, hx, rfl⟩ ⟨y, hy, rfl⟩ hR h2 (fun w => absurd w (by omega)) (fun r' w w3 => ⟨rfl, nn_rel h2 hW hR hY hZ⟩) (fun r' w w3 => ?_)
      obtain rfl : r' = r := by omega
      exact absurd w3 (by omega)
    · refine nn_yat ⟨t, ht, rfl⟩ ⟨x, hx, rfl⟩ ⟨y, hy, rfl⟩ hR h2 (fun w => absurd w (by omega)) (fun r' w w3 => ?_) (fun r' w w3 => ?_)
      · obtain rfl : r' = r := by omega
        exact absurd w3 (by omega)
      · obtain rfl : r' = r := by omega
        exact ⟨rfl, nn_rel h2 hW (nn_atom_W hR (by omega) ht hx hy) hY (nn_atom_Y hZ)⟩
  · exact nn_xatB d (nn_yatB d ⟨rfl, nn_rel h2 hW hR hY hZ⟩)
theorem i_vc_dropRules {k : Nat} {u : SX} {v : SY} (I : i_Rel k u v) (hk : k + 4 ≤ 2048) : wpX_dropRules (fun r u' => wpY_dropRules (fun r' v' => r' = r ∧ i_Rel (k + 4) u' v') v) u := by
  obtain ⟨R, rc, rx, ry, qx, qy, ac, ta, ax, ay, gi, fu, fv, bd, sm, va, qe, te, kn, bo, hr, al, on, rfl, rfl, h2, hW, hR, hY, hZ⟩ := I
  exact ⟨rfl, nn_rel (R := 0) (by decide) hW hR hY hZ⟩
theorem i_vc_certain {k : Nat} {u : SX} {v : SY} (I : i_Rel k u v) (hk : k + 4 ≤ 2048) (v1 : Int32) (v2 : Int32) : wpX_certain (fun r u' => wpY_certain (fun r' v' => r' = r ∧ i_Rel (k + 4) u' v') v v1 v2) u v1 v2 := by
  obtain ⟨R, rc, rx, ry, qx, qy, ac, ta, ax, ay, gi, fu, fv, bd, sm, va, qe, te, kn, bo, hr, al, on, rfl, rfl, h2, hW, hR, hY, hZ⟩ := I
  by_cases d : nn_K v1 ∧ nn_K v2
  · obtain ⟨⟨a, ha, rfl⟩, ⟨b, hb, rfl⟩⟩ := d
    exact nn_xcer ha hb rfl h2 hW hR fun x gi fu fv bd hx => nn_ycer ha hb rfl h2 hW hR hY hZ fun y sm kn bo hr al on hy => ⟨nn_bo_u hx hy, nn_rel h2 hW hR hY hZ⟩
  · exact nn_xcer0 d (nn_ycer0 d ⟨rfl, nn_rel h2 hW hR hY hZ⟩)
theorem i_vc_possible {k : Nat} {u : SX} {v : SY} (I : i_Rel k u v) (hk : k + 4 ≤ 2048) (v1 : Int32) (v2 : Int32) : wpX_possible (fun r u' => wpY_possible (fun r' v' => r' = r ∧ i_Rel (k + 4) u' v') v v1 v2) u v1 v2 := by
  obtain ⟨R, rc, rx, ry, qx, qy, ac, ta, ax, ay, gi, fu, fv, bd, sm, va, qe, te, kn, bo, hr, al, on, rfl, rfl, h2, hW, hR, hY, hZ⟩ := I
  by_cases d : nn_K v1 ∧ nn_K v2
  · obtain ⟨⟨a, ha, rfl⟩, ⟨b, hb, rfl⟩⟩ := d
    exact nn_xpos ha hb rfl h2 hW hR fun x gi fu fv bd hx => nn_ypos ha hb rfl h2 hW hR hY hZ fun y sm kn bo hr al on hy => ⟨nn_bo_u hx hy, nn_rel h2 hW hR hY hZ⟩
  · exact nn_xpos0 d (nn_ypos0 d ⟨rfl, nn_rel h2 hW hR hY hZ⟩)
theorem i_vc_certainCount {k : Nat} {u : SX} {v : SY} (I : i_Rel k u v) (hk : k + 4 ≤ 2048) : wpX_certainCount (fun r u' => wpY_certainCount (fun r' v' => r' = r ∧ i_Rel (k + 4) u' v') v) u := by
  obtain ⟨R, rc, rx, ry, qx, qy, ac, ta, ax, ay, gi, fu, fv, bd, sm, va, qe, te, kn, bo, hr, al, on, rfl, rfl, h2, hW, hR, hY, hZ⟩ := I
  exact nn_xcc rfl h2 hW hR fun gi fu fv bd => nn_ycc rfl h2 hW hR hY hZ fun sm kn bo hr al on => ⟨rfl, nn_rel h2 hW hR hY hZ⟩
theorem i_vc_alwaysSome {k : Nat} {u : SX} {v : SY} (I : i_Rel k u v) (hk : k + 4 ≤ 2048) : wpX_alwaysSome (fun r u' => wpY_alwaysSome (fun r' v' => r' = r ∧ i_Rel (k + 4) u' v') v) u := by
  obtain ⟨R, rc, rx, ry, qx, qy, ac, ta, ax, ay, gi, fu, fv, bd, sm, va, qe, te, kn, bo, hr, al, on, rfl, rfl, h2, hW, hR, hY, hZ⟩ := I
  exact nn_xas rfl h2 hW hR fun x gi fu fv bd hx => nn_yas rfl h2 hW hR hY hZ fun y kn bo hr al on hy => ⟨nn_bo_u hx hy, nn_rel h2 hW hR hY hZ⟩
