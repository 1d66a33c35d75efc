/-! the component's calls that change the state -/
section
variable {rC : Int32} {rc rx ry qx qy ac ta ax ay gi fu fv bd : Nat → Int32}
theorem nn_xaddB {post : Int32 → SX → Prop} {p q s : Int32} (hn : ¬ (nn_D p ∧ nn_V q ∧ nn_V s)) (h : post (-1) (rC, rc, rx, ry, qx, qy, ac, ta, ax, ay, gi, fu, fv, bd)) : wpX_addRow post (rC, rc, rx, ry, qx, qy, ac, ta, ax, ay, gi, fu, fv, bd) p q s := by
  unfold wpX_addRow
  dsimp only
  refine nn_xD (fun a => br_f nn_10 ?_) (fun _ => br_t rfl h)
  refine nn_xV (fun b => br_f nn_10 ?_) (fun _ => br_t rfl h)
  exact nn_xV (fun c => absurd ⟨a, b, c⟩ hn) (fun _ => br_t rfl h)
theorem nn_xadd {post : Int32 → SX → Prop} {t x y : Nat} (hW : nn_Wt rc rx ry) (ht : t < 2) (hx : nn_pv x) (hy : nn_pv y) (h5 : nn_n rc t = 5 → post (-2) (rC, rc, rx, ry, qx, qy, ac, ta, ax, ay, gi, fu, fv, bd))
    (h : nn_n rc t < 5 → post (nI (nn_n rc t + 1)) (rC, upd rc t (nI (nn_n rc t + 1)), upd rx (5 * t + nn_n rc t) (nI x), upd ry (5 * t + nn_n rc t) (nI y), qx, qy, ac, ta, ax, ay, gi, fu, fv, bd)) : wpX_addRow post (rC, rc, rx, ry, qx, qy, ac, ta, ax, ay, gi, fu, fv, bd) (nI t) (nI x) (nI y) := by
  have hn := nn_Wt_n hW ht
  have hin : vp_in (nI t) 2 := vp_in_nI ht (by decide)
  have hcl : (nI t).toNatClampNeg = t := nI_clamp (by omega)
  unfold wpX_addRow
  dsimp only
  refine nn_xD (fun _ => br_f nn_10 ?_) (fun z => absurd ⟨t, ht, rfl⟩ z)
  refine nn_xV (fun _ => br_f nn_10 ?_) (fun z => absurd ⟨x, hx, rfl⟩ z)
  refine nn_xV (fun _ => br_f nn_10 ?_) (fun z => absurd ⟨y, hy, rfl⟩ z)
  rw [hcl]
  refine ⟨hin, nm_r hn.1 (pk_lt (nn_n rc t) 5 (fun k5 => ?_) (fun k5 => h5 (by omega)))⟩
  have hin2 : vp_in (nI (5 * t + nn_n rc t)) 10 := vp_in_nI (by omega) (by decide)
  refine nm_r (by rw [nn_r5, nI_add]) ⟨hin2, nm_e ⟨hin2, nm_e ⟨hin, nm_e ?_⟩⟩⟩
  rw [nI_1, nI_clamp (show 5 * t + nn_n rc t < 2 ^ 31 by omega)]
  exact h k5
theorem nn_x34 {post : Int32 → SX → Prop} {t k : Nat} (ht : t < 2) (hk : k < 5) (h : post (nI k) (rC, upd rc t (nI k), nn_mv rx (5 * t) k 1, nn_mv ry (5 * t) k 1, qx, qy, ac, ta, ax, ay, gi, fu, fv, bd)) :
    ∀ (n i : Nat), i ≤ k → k < n + i → wX_dropRow_34 post (nI t) (nI k) (nI (5 * t)) rC n (nI i) rc (nn_mv rx (5 * t) i 1) (nn_mv ry (5 * t) i 1) qx qy ac ta ax ay gi fu fv bd := by
  intro n
  induction n with
  | zero => intro i h1 h2; omega
  | succ n ih =>
    intro i hi hn
    refine pk_le k i (fun hik => ?_) (fun hik => ?_)
    · have : i = k := by omega
      subst this
      refine ⟨vp_in_nI ht (by decide), nm_e ?_⟩
      rw [nI_clamp (show t < 2 ^ 31 by omega)]
      exact h
    · have hin : vp_in (nI (5 * t + i)) 10 := vp_in_nI (by omega) (by decide)
      have hin1 : vp_in (nI (5 * t + i + 1)) 10 := vp_in_nI (by omega) (by decide)
      rw [nI_add, nI_1 (5 * t + i), nI_clamp (show 5 * t + i < 2 ^ 31 by omega), nI_clamp (show 5 * t + i + 1 < 2 ^ 31 by omega)]
      refine ⟨hin1, hin, nm_r (nn_mv_s (by decide)) ⟨hin1, hin, nm_r (nn_mv_s (by decide)) (nm_r (nI_1 i) ?_)⟩⟩
      exact ih (i + 1) (by omega) (by omega)
theorem nn_xdrB {post : Int32 → SX → Prop} {p : Int32} (hn : ¬ nn_D p) (h : post (-1) (rC, rc, rx, ry, qx, qy, ac, ta, ax, ay, gi, fu, fv, bd)) : wpX_dropRow post (rC, rc, rx, ry, qx, qy, ac, ta, ax, ay, gi, fu, fv, bd) p := by
  unfold wpX_dropRow
  dsimp only
  exact nn_xD (fun a => absurd a hn) (fun _ => br_t rfl h)
theorem nn_xdr {post : Int32 → SX → Prop} {t : Nat} (hW : nn_Wt rc rx ry) (ht : t < 2) (h0 : nn_n rc t = 0 → post (-1) (rC, rc, rx, ry, qx, qy, ac, ta, ax, ay, gi, fu, fv, bd))
    (h : ∀ k, nn_n rc t = k + 1 → post (nI k) (rC, upd rc t (nI k), nn_mv rx (5 * t) k 1, nn_mv ry (5 * t) k 1, qx, qy, ac, ta, ax, ay, gi, fu, fv, bd)) : wpX_dropRow post (rC, rc, rx, ry, qx, qy, ac, ta, ax, ay, gi, fu, fv, bd) (nI t) := by
  have hn := nn_Wt_n hW ht
  have hin : vp_in (nI t) 2 := vp_in_nI ht (by decide)
  unfold wpX_dropRow
  dsimp only
  refine nn_xD (fun _ => br_f nn_10 ?_) (fun z => absurd ⟨t, ht, rfl⟩ z)
  rw [nI_clamp (show t < 2 ^ 31 by omega)]
  refine ⟨hin, pk_eq (nn_n rc t) 0 h0 (fun z => ?_) hn.1⟩
  obtain ⟨k, hk⟩ : ∃ k, nn_n rc t = k + 1 := ⟨nn_n rc t - 1, by omega⟩
  have e1 : rc t - 1 = nI k := by rw [hn.1, hk]; exact nI_pred k
  refine ⟨hin, nm_r e1 (nm_r (nn_r5 t) ⟨k + 1, ?_⟩)⟩
  have := nn_x34 (rC := rC) (post := post) ht (show k < 5 by omega) (h k hk) (k + 1) 0 (by omega) (by omega)
  rw [nn_mv_0, nn_mv_0] at this
  exact this
/-! learn -/
def nn_hp (rc rx : Nat → Int32) (U : Int32) (p s : Nat) : Prop := nn_hx rc rx U s ∧ s < p
theorem nn_hp_at {rx : Nat → Int32} {U c : Int32} {p : Nat} : nn_pl rx (nn_hp rc rx U p) c p = rx p := nn_pl_f fun z => absurd z.2 (by omega)
theorem nn_hp_t {rx : Nat → Int32} {U c : Int32} {p : Nat} (h : nn_hx rc rx U p) : upd (nn_pl rx (nn_hp rc rx U p) c) p c = nn_pl rx (nn_hp rc rx U (p + 1)) c :=
  nn_pl_u fun s => ⟨fun z => if e : s = p then Or.inr e else Or.inl ⟨z.1, by have := z.2; omega⟩, fun z => z.elim (fun y => ⟨y.1, by have := y.2; omega⟩) (fun y => ⟨y ▸ h, by omega⟩)⟩
theorem nn_hp_f {rx : Nat → Int32} {U c : Int32} {p : Nat} (h : ¬ nn_hx rc rx U p) : nn_pl rx (nn_hp rc rx U p) c = nn_pl rx (nn_hp rc rx U (p + 1)) c :=
  nn_pl_e fun s => ⟨fun z => ⟨z.1, by have := z.2; omega⟩, fun z => ⟨z.1, by
    have z2 := z.2
    by_cases e : s = p
    · exact absurd (e ▸ z.1) h
    · omega⟩⟩
theorem nn_hp_n {rx : Nat → Int32} {U c : Int32} {t : Nat} (h5 : nn_n rc t ≤ 5) : nn_pl rx (nn_hp rc rx U (5 * t + nn_n rc t)) c = nn_pl rx (nn_hp rc rx U (5 * (t + 1))) c :=
  nn_pl_e fun s => ⟨fun z => ⟨z.1, by have := z.2; omega⟩, fun z => ⟨z.1, by
    have z2 := z.2
    have z1 := z.1.1
    by_cases e : 5 * t ≤ s
    · rw [show s / 5 = t by omega] at z1
      omega
    · omega⟩⟩
theorem nn_x73 {post : Int32 → SX → Prop} {J1 J : Int32 → Int32 → (Nat → Int32) → (Nat → Int32) → (Nat → Int32) → (Nat → Int32) → (Nat → Int32) → (Nat → Int32) → (Nat → Int32) → (Nat → Int32) → (Nat → Int32) → (Nat → Int32) → (Nat → Int32) → (Nat → Int32) → (Nat → Int32) → Prop}
    {U c x4 : Int32} {va : Nat → Int32} {t i : Nat} (ht : t < 2) (hi : i < nn_n rc t) (h5 : nn_n rc t ≤ 5) (hv : va (10 * t + 2 * i + 1) = ry (5 * t + i))
    (h : J (nI (nn_lc rc va U (10 * t + 2 * (i + 1)))) (nI (i + 1)) rc rx (nn_pl ry (nn_hp rc ry U (5 * t + (i + 1))) c) qx qy ac ta ax ay gi fu fv bd) :
    wX_learn_73 post J1 J U c (nI (nn_lc rc va U (10 * t + 2 * i + 1))) x4 (nI i) (nI (5 * t + i)) rC rc rx (nn_pl ry (nn_hp rc ry U (5 * t + i)) c) qx qy ac ta ax ay gi fu fv bd := by
  have hin : vp_in (nI (5 * t + i)) 10 := vp_in_nI (by omega) (by decide)
  have u1 : (5 * t + i) % 5 < nn_n rc ((5 * t + i) / 5) := by rw [show (5 * t + i) / 5 = t by omega]; omega
  have u2 : (10 * t + 2 * i + 1) % 10 < 2 * nn_n rc ((10 * t + 2 * i + 1) / 10) := by rw [show (10 * t + 2 * i + 1) / 10 = t by omega]; omega
  have eh : (10 * t + 2 * (i + 1)) = 10 * t + 2 * i + 1 + 1 := by omega
  rw [eh] at h
  refine ⟨hin, ?_⟩
  rw [nI_clamp (show 5 * t + i < 2 ^ 31 by omega), nn_hp_at]
  refine br_c (fun z => ⟨hin, nm_r (nn_hp_t ⟨u1, z⟩) (nm_r (nI_1 _) (nm_r (nI_1 i) ?_))⟩) (fun z => nm_r (nI_1 i) ?_)
  · rw [nn_lc_t ⟨u2, hv.trans z⟩] at h
    exact h
  · rw [nn_lc_f (fun y => z (hv.symm.trans y.2))] at h
    rw [nn_hp_f (fun y => z y.2)]
    exact h
theorem nn_x30 {post : Int32 → SX → Prop} {J : Int32 → Int32 → (Nat → Int32) → (Nat → Int32) → (Nat → Int32) → (Nat → Int32) → (Nat → Int32) → (Nat → Int32) → (Nat → Int32) → (Nat → Int32) → (Nat → Int32) → (Nat → Int32) → (Nat → Int32) → (Nat → Int32) → (Nat → Int32) → Prop}
    {U c : Int32} {va : Nat → Int32} {t : Nat} (hW : nn_Wt rc rx ry) (hY : nn_Yt rc rx ry va) (ht : t < 2)
    (h : J (nI (nn_lc rc va U (10 * (t + 1)))) (nI (t + 1)) rc (nn_pl rx (nn_hp rc rx U (5 * (t + 1))) c) (nn_pl ry (nn_hp rc ry U (5 * (t + 1))) c) qx qy ac ta ax ay gi fu fv bd) :
    ∀ (n i : Nat), i ≤ nn_n rc t → nn_n rc t < n + i → wX_learn_30 post J U c (nI t) rC n (nI (nn_lc rc va U (10 * t + 2 * i))) (nI i) rc (nn_pl rx (nn_hp rc rx U (5 * t + i)) c) (nn_pl ry (nn_hp rc ry U (5 * t + i)) c) qx qy ac ta ax ay gi fu fv bd := by
  have hn := nn_Wt_n hW ht
  intro n
  induction n with
  | zero => intro i h1 h2; omega
  | succ n ih =>
    intro i hi hnn
    refine ⟨vp_in_nI ht (by decide), pk_le (nn_n rc t) i (fun z => ?_) (fun z => ?_) (by rw [nI_clamp (show t < 2 ^ 31 by omega)]; exact hn.1)⟩
    · have : i = nn_n rc t := by omega
      subst this
      refine nm_r (nI_1 t) ?_
      rw [nn_lc_next hn.2, ← nn_hp_n hn.2, ← nn_hp_n hn.2] at h
      exact h
    · have hin : vp_in (nI (5 * t + i)) 10 := vp_in_nI (by omega) (by decide)
      have hv := hY t ht i z
      have u1 : (5 * t + i) % 5 < nn_n rc ((5 * t + i) / 5) := by rw [show (5 * t + i) / 5 = t by omega]; omega
      have u2 : (10 * t + 2 * i) % 10 < 2 * nn_n rc ((10 * t + 2 * i) / 10) := by rw [show (10 * t + 2 * i) / 10 = t by omega]; omega
      refine nm_r (by rw [nn_r5, nI_add]) ⟨hin, ?_⟩
      rw [nI_clamp (show 5 * t + i < 2 ^ 31 by omega), nn_hp_at]
      refine br_c (fun y => ⟨hin, nm_r (nn_hp_t ⟨u1, y⟩) (nm_r (nI_1 _) ?_)⟩) (fun y => ?_)
      · rw [← nn_lc_t ⟨u2, hv.1.trans y⟩]
        exact nn_x73 ht z hn.2 hv.2 (ih (i + 1) (by omega) (by omega))
      · rw [← nn_lc_f (rc := rc) (va := va) (U := U) (j := 10 * t + 2 * i) (fun w => y (hv.1.symm.trans w.2)), nn_hp_f (rc := rc) (rx := rx) (fun w => y w.2)]
        exact nn_x73 ht z hn.2 hv.2 (ih (i + 1) (by omega) (by omega))
theorem nn_x21 {post : Int32 → SX → Prop} {U c : Int32} {va : Nat → Int32} (hW : nn_Wt rc rx ry) (hY : nn_Yt rc rx ry va)
    (h : post (nI (nn_lc rc va U 20)) (rC, rc, nn_pl rx (nn_hp rc rx U 10) c, nn_pl ry (nn_hp rc ry U 10) c, qx, qy, ac, ta, ax, ay, gi, fu, fv, bd)) :
    ∀ (n t : Nat), t ≤ 2 → 2 < n + t → wX_learn_21 post U c rC n (nI (nn_lc rc va U (10 * t))) (nI t) rc (nn_pl rx (nn_hp rc rx U (5 * t)) c) (nn_pl ry (nn_hp rc ry U (5 * t)) c) qx qy ac ta ax ay gi fu fv bd := by
  intro n
  induction n with
  | zero => intro i h1 h2; omega
  | succ n ih =>
    intro t ht hn
    refine pk_le 2 t (fun z => ?_) (fun z => ?_)
    · have : t = 2 := by omega
      subst this
      exact h
    · exact ⟨nn_n rc t + 1, nn_x30 hW hY z (ih (t + 1) (by omega) (by omega)) _ 0 (by omega) (by omega)⟩
theorem nn_xleB {post : Int32 → SX → Prop} {p q : Int32} (hn : ¬ (nn_U p ∧ nn_C q)) (h : post (-1) (rC, rc, rx, ry, qx, qy, ac, ta, ax, ay, gi, fu, fv, bd)) : wpX_learn post (rC, rc, rx, ry, qx, qy, ac, ta, ax, ay, gi, fu, fv, bd) p q := by
  unfold wpX_learn
  dsimp only
  refine nn_xU (fun a => br_f nn_10 ?_) (fun _ => br_t rfl h)
  exact nn_xC (fun b => absurd ⟨a, b⟩ hn) (fun _ => br_t rfl h)
theorem nn_xle {post : Int32 → SX → Prop} {p q : Int32} {va : Nat → Int32} (hp : nn_U p) (hq : nn_C q) (hW : nn_Wt rc rx ry) (hY : nn_Yt rc rx ry va)
    (h : post (nI (nn_lc rc va p 20)) (rC, rc, nn_pl rx (nn_hp rc rx p 10) q, nn_pl ry (nn_hp rc ry p 10) q, qx, qy, ac, ta, ax, ay, gi, fu, fv, bd)) : wpX_learn post (rC, rc, rx, ry, qx, qy, ac, ta, ax, ay, gi, fu, fv, bd) p q := by
  unfold wpX_learn
  dsimp only
  refine nn_xU (fun _ => br_f nn_10 ?_) (fun z => absurd hp z)
  refine nn_xC (fun _ => br_f nn_10 ?_) (fun z => absurd hq z)
  have := nn_x21 (rC := rC) (post := post) hW hY h 3 0 (by omega) (by omega)
  rw [nn_pl_0 (fun s z => absurd z.2 (by omega)), nn_pl_0 (fun s z => absurd z.2 (by omega))] at this
  exact ⟨3, this⟩
end
