/-! the component's queries against the picture -/
section
variable {n T P Q : Nat → Nat} {F G : Nat → Nat → Nat} {d i rest : Nat} {b e1 e2 : Nat → Option Nat}
theorem nn_fx_s0 (h : n (T i) = 0) : nn_fx n T P Q F G (d + 1) i rest b = none := if_pos h
theorem nn_fx_s1 (h1 : nn_ag b (P i) (F (T i) (rest % n (T i))) = none) : nn_fx n T P Q F G (d + 1) i rest b = none := by
  show (if n (T i) = 0 then none else (nn_st T P Q F G i (rest % n (T i)) b).bind fun b1 => nn_fx n T P Q F G d (i + 1) (rest / n (T i)) b1) = none
  unfold nn_st
  rw [h1]
  split <;> rfl
theorem nn_fx_s2 (h1 : nn_ag b (P i) (F (T i) (rest % n (T i))) = some e1) (h2 : nn_ag e1 (Q i) (G (T i) (rest % n (T i))) = none) : nn_fx n T P Q F G (d + 1) i rest b = none := by
  show (if n (T i) = 0 then none else (nn_st T P Q F G i (rest % n (T i)) b).bind fun b1 => nn_fx n T P Q F G d (i + 1) (rest / n (T i)) b1) = none
  unfold nn_st
  rw [h1, Option.bind_some, h2]
  split <;> rfl
theorem nn_fx_s3 (h : n (T i) ≠ 0) (h1 : nn_ag b (P i) (F (T i) (rest % n (T i))) = some e1) (h2 : nn_ag e1 (Q i) (G (T i) (rest % n (T i))) = some e2) : nn_fx n T P Q F G (d + 1) i rest b = nn_fx n T P Q F G d (i + 1) (rest / n (T i)) e2 := by
  show (if n (T i) = 0 then none else (nn_st T P Q F G i (rest % n (T i)) b).bind fun b1 => nn_fx n T P Q F G d (i + 1) (rest / n (T i)) b1) = _
  unfold nn_st
  rw [h1, Option.bind_some, h2, Option.bind_some, if_neg h]
end
section
variable {rC : Int32} {rc rx ry qx qy ac ta ax ay gi fu fv bd : Nat → Int32}
theorem nn_xag {post : Int32 → SX → Prop} {t c : Nat} {b : Nat → Option Nat} (ht : nn_pt t) (hc : c < 7) (hb : nn_ok b) (hB : nn_Bd bd b)
    (h1 : ∀ e bd, nn_ag b t c = some e → nn_Bd bd e → post 1 (rC, rc, rx, ry, qx, qy, ac, ta, ax, ay, gi, fu, fv, bd)) (h0 : nn_ag b t c = none → post 0 (rC, rc, rx, ry, qx, qy, ac, ta, ax, ay, gi, fu, fv, bd)) : wpX_agrees post (rC, rc, rx, ry, qx, qy, ac, ta, ax, ay, gi, fu, fv, bd) (nI t) (nI c) := by
  have ht9 := nn_pt_lt ht
  by_cases h : t < 20
  · refine nm_e (br_t (nn_neg20 h) ?_)
    refine pk_eq t c (fun e => h1 b bd ?_ hB) (fun e => h0 ?_)
    · unfold nn_ag; rw [if_pos h, if_pos e]
    · unfold nn_ag; rw [if_pos h, if_neg e]
  · have hcl : (nI (t - 20)).toNatClampNeg = t - 20 := nI_clamp (by omega)
    have hin : vp_in (nI (t - 20)) 4 := vp_in_nI (by omega) (by decide)
    refine nm_r (nn_s20 (by omega)) (br_f (nI_pos (by omega)) (br_t (nI_lt (b := 4) (by omega) (by decide)) ⟨hin, ?_⟩))
    rw [hcl]
    have hj : bd (t - 20) = nn_en (b (t - 20)) := hB _ (by omega)
    have hk := hb (t - 20)
    by_cases h2 : b (t - 20) = none
    · refine br_t (by rw [hj, h2]; rfl) ⟨hin, nm_e ⟨hin, br_t (by rw [hcl, pk_us]) (h1 (nn_set b (t - 20) c) _ ?_ (nn_Bd_set hB))⟩⟩
      unfold nn_ag
      rw [if_neg h, if_pos h2]
    · refine br_f (by rw [hj, nn_en_m1 hk]; exact h2) ⟨hin, ?_⟩
      rw [hcl, hj, nn_en_eq hk hc]
      by_cases h3 : b (t - 20) = some c
      · refine br_t h3 (h1 b bd ?_ hB)
        unfold nn_ag; rw [if_neg h, if_neg h2, if_pos h3]
      · refine br_f h3 (h0 ?_)
        unfold nn_ag; rw [if_neg h, if_neg h2, if_neg h3]
theorem nn_full {c t i : Nat} (hW : nn_Wt rc rx ry) (hF : ∀ s, s < 10 → nn_Fs c rx fu s ∧ nn_Fs c ry fv s) (ht : t < 2) (hi : i < nn_n rc t) :
    (fu (5 * t + i) = nI (nn_F rx c t i) ∧ nn_F rx c t i < 7) ∧ (fv (5 * t + i) = nI (nn_F ry c t i) ∧ nn_F ry c t i < 7) := by
  have h5 := (nn_Wt_n hW ht).2
  have hx := nn_is_e (hW.2 t ht i hi).1
  have hy := nn_is_e (hW.2 t ht i hi).2
  have hf := hF (5 * t + i) (by omega)
  exact ⟨⟨hf.1 _ hx.2 hx.1, nn_cv_lt hx.2⟩, ⟨hf.2 _ hy.2 hy.1, nn_cv_lt hy.2⟩⟩
theorem nn_xf25 {post : Int32 → SX → Prop} {r c : Nat} (hr : r < 2) (hW : nn_Wt rc rx ry) (hR : nn_Wr qx qy ac ta ax ay) (hF : ∀ s, s < 10 → nn_Fs c rx fu s ∧ nn_Fs c ry fv s) :
    ∀ (d n i rest : Nat) (b : Nat → Option Nat) (bd : Nat → Int32), i + d = nn_n ac r → d < n → rest < 2 ^ 31 → nn_ok b → nn_Bd bd b →
      (∀ e bd, nn_fx (nn_n rc) (nn_S ta r) (nn_S ax r) (nn_S ay r) (nn_F rx c) (nn_F ry c) d i rest b = some e → nn_Bd bd e → post 1 (rC, rc, rx, ry, qx, qy, ac, ta, ax, ay, gi, fu, fv, bd)) →
      (nn_fx (nn_n rc) (nn_S ta r) (nn_S ax r) (nn_S ay r) (nn_F rx c) (nn_F ry c) d i rest b = none → ∀ bd, post 0 (rC, rc, rx, ry, qx, qy, ac, ta, ax, ay, gi, fu, fv, bd)) →
      wX_fits_25 post (nI r) n (nI rest) (nI i) rC rc rx ry qx qy ac ta ax ay gi fu fv bd := by
  have hm := nn_Wr_m hR hr
  intro d
  induction d with
  | zero =>
    intro n i rest b bd hd hn hr9 hb hB h1 h0
    obtain ⟨n, rfl⟩ : ∃ k, n = k + 1 := ⟨n - 1, by omega⟩
    refine ⟨vp_in_nI hr (by decide), pk_le (nn_n ac r) i (fun hi => ?_) (fun hi => absurd hi (by omega)) (by rw [nI_clamp (by omega)]; exact hm.1)⟩
    exact h1 b bd rfl hB
  | succ d ih =>
    intro n i rest b bd hd hn hr9 hb hB h1 h0
    obtain ⟨n, rfl⟩ : ∃ k, n = k + 1 := ⟨n - 1, by omega⟩
    have hx := nn_Wr_a hR hr (i := i) (by omega)
    have hy := nn_Wr_b hR hr (i := i) (by omega)
    have ht := nn_Wr_t hR hr (i := i) (by omega)
    have h5 := (nn_Wt_n hW ht.2).2
    have hin : vp_in (nI (3 * r + i)) 6 := vp_in_nI (by omega) (by decide)
    have hcl : (nI (3 * r + i)).toNatClampNeg = 3 * r + i := nI_clamp (by omega)
    refine ⟨vp_in_nI hr (by decide), pk_le (nn_n ac r) i (fun hi => absurd hi (by omega)) (fun hi => ?_) (by rw [nI_clamp (by omega)]; exact hm.1)⟩
    refine nm_r (by rw [nn_r3, nI_add]) ⟨hin, nm_r (by rw [hcl]; exact ht.1) (nn_xro ht.2 hW ?_)⟩
    refine pk_eq (nn_n rc (nn_S ta r i)) 0 (fun hz => h0 (nn_fx_s0 hz) bd) (fun hz => ?_)
    have hne : ¬ nI (nn_n rc (nn_S ta r i)) = 0 := nI_ne0 (by omega) (by omega)
    have hrow : rest % nn_n rc (nn_S ta r i) < nn_n rc (nn_S ta r i) := Nat.mod_lt _ (by omega)
    have hf := nn_full hW hF ht.2 hrow
    have ht2 := ht.2
    have hin2 : vp_in (nI (5 * nn_S ta r i + rest % nn_n rc (nn_S ta r i))) 10 := vp_in_nI (by omega) (by decide)
    have hcl2 : (nI (5 * nn_S ta r i + rest % nn_n rc (nn_S ta r i))).toNatClampNeg = 5 * nn_S ta r i + rest % nn_n rc (nn_S ta r i) := nI_clamp (by omega)
    refine ⟨hne, nm_r (by rw [pk_rem hr9 (by omega) (by omega), nn_r5, nI_add]) ⟨hne, nm_r (pk_div hr9 (by omega) (by omega)) ⟨hin, hin2, ?_⟩⟩⟩
    rw [hcl, hcl2, hx.1, hf.1.1]
    refine nn_xag hx.2 hf.1.2 hb hB (fun e1 bd a1 hB1 => br_f nn_10 ⟨hin, hin2, ?_⟩) (fun a1 => br_t rfl (h0 (nn_fx_s1 a1) bd))
    rw [hy.1, hf.2.1]
    have hok := nn_ag_ok hb hf.1.2 a1
    refine nn_xag hy.2 hf.2.2 hok hB1 (fun e2 bd a2 hB2 => br_f nn_10 (nm_r (nI_1 i) ?_)) (fun a2 => br_t rfl (h0 (nn_fx_s2 a1 a2) bd))
    have es := nn_fx_s3 (n := nn_n rc) (T := nn_S ta r) (P := nn_S ax r) (Q := nn_S ay r) (F := nn_F rx c) (G := nn_F ry c) (d := d) (i := i) hz a1 a2
    rw [es] at h1 h0
    exact ih n (i + 1) _ e2 bd (by omega) (by omega) (Nat.lt_of_le_of_lt (Nat.div_le_self _ _) hr9) (nn_ag_ok hok hf.2.2 a2) hB2 h1 h0
def nn_fX (rc rx ry ac ta ax ay : Nat → Int32) (c r ch : Nat) : Option (Nat → Option Nat) := nn_fx (nn_n rc) (nn_S ta r) (nn_S ax r) (nn_S ay r) (nn_F rx c) (nn_F ry c) (nn_n ac r) 0 ch (fun _ => none)
theorem nn_xf2 {post : Int32 → SX → Prop} {r c ch : Nat} (hr : r < 2) (hW : nn_Wt rc rx ry) (hR : nn_Wr qx qy ac ta ax ay) (hF : ∀ s, s < 10 → nn_Fs c rx fu s ∧ nn_Fs c ry fv s) (hch : ch < 2 ^ 31)
    (h1 : ∀ e bd, nn_fX rc rx ry ac ta ax ay c r ch = some e → nn_Bd bd e → post 1 (rC, rc, rx, ry, qx, qy, ac, ta, ax, ay, gi, fu, fv, bd)) (h0 : nn_fX rc rx ry ac ta ax ay c r ch = none → ∀ bd, post 0 (rC, rc, rx, ry, qx, qy, ac, ta, ax, ay, gi, fu, fv, bd)) :
    ∀ (n i : Nat) (bd : Nat → Int32), i ≤ 4 → 4 < n + i → (∀ j, j < i → bd j = -1) → wX_fits_2 post (nI r) (nI ch) rC n (nI i) rc rx ry qx qy ac ta ax ay gi fu fv bd := by
  intro n
  induction n with
  | zero => intro i bd h1 h2; omega
  | succ n ih =>
    intro i bd hi4 hn hI
    refine pk_le 4 i (fun hi => ?_) (fun hi => ?_)
    · exact ⟨nn_n ac r + 1, nn_xf25 hr hW hR hF (nn_n ac r) _ 0 ch _ bd (by omega) (by omega) hch nn_ok0 (fun j hj => hI j (by omega)) h1 h0⟩
    · refine ⟨vp_in_nI hi (by decide), nm_e (nm_r (nI_1 i) ?_)⟩
      rw [nI_clamp (by omega)]
      refine ih (i + 1) _ (by omega) (by omega) fun j hj => ?_
      by_cases e : j = i
      · subst e; exact pk_us
      · exact (pk_un e).trans (hI j (by omega))
theorem nn_xfits {post : Int32 → SX → Prop} {r c ch : Nat} (hr : r < 2) (hW : nn_Wt rc rx ry) (hR : nn_Wr qx qy ac ta ax ay) (hF : ∀ s, s < 10 → nn_Fs c rx fu s ∧ nn_Fs c ry fv s) (hch : ch < 2 ^ 31)
    (h1 : ∀ e bd, nn_fX rc rx ry ac ta ax ay c r ch = some e → nn_Bd bd e → post 1 (rC, rc, rx, ry, qx, qy, ac, ta, ax, ay, gi, fu, fv, bd)) (h0 : nn_fX rc rx ry ac ta ax ay c r ch = none → ∀ bd, post 0 (rC, rc, rx, ry, qx, qy, ac, ta, ax, ay, gi, fu, fv, bd)) : wpX_fits post (rC, rc, rx, ry, qx, qy, ac, ta, ax, ay, gi, fu, fv, bd) (nI r) (nI ch) :=
  ⟨5, nn_xf2 hr hW hR hF hch h1 h0 5 0 bd (by omega) (by omega) (fun j hj => absurd hj (by omega))⟩
theorem nn_xch {post : Int32 → Prop} {t : Nat} {e : Nat → Option Nat} (ht : nn_pt t) (hB : nn_Bd bd e) (h : post (nn_en (nn_hd e t))) : wpX_chosen post (rC, rc, rx, ry, qx, qy, ac, ta, ax, ay, gi, fu, fv, bd) (nI t) := by
  have ht9 := nn_pt_lt ht
  unfold nn_hd at h
  by_cases h2 : t < 20
  · rw [if_pos h2] at h
    exact nm_e (br_t (nn_neg20 h2) h)
  · rw [if_neg h2] at h
    refine nm_r (nn_s20 (by omega)) (br_f (nI_pos (by omega)) (br_f (nI_ge (b := 4) (by omega) (by decide)) ⟨vp_in_nI (by omega) (by decide), ?_⟩))
    rw [nI_clamp (by omega), hB _ (by omega)]
    exact h
theorem nn_xcb {post : Int64 → Prop} {a b : Nat} (ha : a < 7) (hb : b < 7) (h : post (lN (2 ^ (7 * a + b)))) : wpX_coupleBit post (nI a) (nI b) := by
  have e : (1 : Int64) <<< ((nI (7 * a + b)).toInt64 &&& 63) = lN (2 ^ (7 * a + b)) := by
    have := wb_shl 1 (k := 7 * a + b) (by omega)
    rw [Nat.one_mul] at this
    exact this
  unfold wpX_coupleBit
  rw [nn_r7, nI_add, e]
  exact h
theorem nn_xhb {post : Int64 → Prop} {r a b : Nat} {e : Nat → Option Nat} (hr : r < 2) (hR : nn_Wr qx qy ac ta ax ay) (he : nn_ok e) (hB : nn_Bd bd e) (h1 : nn_hd e (nn_n qx r) = some a) (h2 : nn_hd e (nn_n qy r) = some b)
    (h : 7 * a + b < 49 → post (lN (2 ^ (7 * a + b)))) : wpX_headBit post (rC, rc, rx, ry, qx, qy, ac, ta, ax, ay, gi, fu, fv, bd) (nI r) := by
  have hx := nn_Wr_x hR hr
  have hy := nn_Wr_y hR hr
  have ha := nn_hd_lt he hx.2 h1
  have hb := nn_hd_lt he hy.2 h2
  refine ⟨vp_in_nI hr (by decide), ?_⟩
  rw [nI_clamp (by omega), hx.1, hy.1]
  refine nn_xch hx.2 hB ?_
  rw [h1]
  refine ⟨vp_in_nI hr (by decide), nn_xch hy.2 hB ?_⟩
  rw [h2]
  exact nn_xcb ha hb (h (by omega))
/-- the couples that the first i choices of rule r give -/
def nn_xs (rc rx ry qx qy ac ta ax ay : Nat → Int32) (c r i k : Nat) : Prop := ∃ ch, ch < i ∧ ∃ e, nn_fX rc rx ry ac ta ax ay c r ch = some e ∧ nn_cp e (nn_n qx r) (nn_n qy r) k
def nn_Ar (rc rx ry qx qy ac ta ax ay : Nat → Int32) (c r k : Nat) : Prop := nn_RA (nn_n rc) (nn_S ta r) (nn_S ax r) (nn_S ay r) (nn_F rx c) (nn_F ry c) (nn_n ac r) (nn_n qx r) (nn_n qy r) k
theorem nn_fX_run {c r ch : Nat} {e : Nat → Option Nat} (hch : ch < nn_pr (nn_n rc) (nn_S ta r) (nn_n ac r) 0) (h : nn_fX rc rx ry ac ta ax ay c r ch = some e) : nn_Run (nn_n rc) (nn_S ta r) (nn_S ax r) (nn_S ay r) (nn_F rx c) (nn_F ry c) (nn_n ac r) 0 (fun _ => none) e :=
  (nn_fx_run _ _ _ _ _ _ _ _ _ e).mp ⟨ch, hch, h⟩
theorem nn_F_lt {c r : Nat} (hr : r < 2) (hW : nn_Wt rc rx ry) (hR : nn_Wr qx qy ac ta ax ay) : ∀ i row, i < nn_n ac r → row < nn_n rc (nn_S ta r i) → nn_F rx c (nn_S ta r i) row < 7 ∧ nn_F ry c (nn_S ta r i) row < 7 := by
  intro i row hi hrow
  have hm := (nn_Wr_m hR hr).2
  have ht := (nn_Wr_t hR hr (i := i) (by omega)).2
  have hv := hW.2 _ ht row hrow
  exact ⟨nn_cv_lt (nn_is_e hv.1).2, nn_cv_lt (nn_is_e hv.2).2⟩
theorem nn_n_5 {r : Nat} (hr : r < 2) (hW : nn_Wt rc rx ry) (hR : nn_Wr qx qy ac ta ax ay) : ∀ i, i < nn_n ac r → nn_n rc (nn_S ta r i) ≤ 5 := by
  intro i hi
  have hm := (nn_Wr_m hR hr).2
  exact (nn_Wt_n hW (nn_Wr_t hR hr (i := i) (by omega)).2).2
theorem nn_x43 {post : Int64 → SX → Prop} {J : Int64 → Int32 → Int32 → (Nat → Int32) → (Nat → Int32) → (Nat → Int32) → (Nat → Int32) → (Nat → Int32) → (Nat → Int32) → (Nat → Int32) → (Nat → Int32) → (Nat → Int32) → (Nat → Int32) → (Nat → Int32) → (Nat → Int32) → (Nat → Int32) → Prop}
    {r c q : Nat} {A : Nat → Prop} (hr : r < 2) (hW : nn_Wt rc rx ry) (hR : nn_Wr qx qy ac ta ax ay) (hF : ∀ s, s < 10 → nn_Fs c rx fu s ∧ nn_Fs c ry fv s) (hs : nn_safe qx qy ac ax ay r)
    (hq : q = nn_pr (nn_n rc) (nn_S ta r) (nn_n ac r) 0) (hq9 : q < 2 ^ 31)
    (hJ : ∀ L bd, nn_L L (fun k => A k ∨ nn_xs rc rx ry qx qy ac ta ax ay c r q k) → J L (nI (r + 1)) rC rc rx ry qx qy ac ta ax ay gi fu fv bd) :
    ∀ (n i : Nat) (L : Int64) (bd : Nat → Int32), i ≤ q → q < n + i → nn_L L (fun k => A k ∨ nn_xs rc rx ry qx qy ac ta ax ay c r i k) → wX_answersIn_43 post J (nI r) (nI q) n L (nI i) rC rc rx ry qx qy ac ta ax ay gi fu fv bd := by
  intro n
  induction n with
  | zero => intro i L bd h1 h2; omega
  | succ n ih =>
    intro i L bd hi hn hL
    refine pk_le q i (fun hqi => ?_) (fun hqi => ?_)
    · have : i = q := by omega
      subst this
      exact nm_r (nI_1 r) (hJ L bd hL)
    · refine nn_xfits hr hW hR hF (by omega) (fun e bd he hB => br_f nn_10 ?_) (fun he bd => br_t rfl (nm_r (nI_1 i) (ih (i + 1) L bd (by omega) (by omega) (nn_Lc hL fun k _ => ?_))))
      · have hrun := nn_fX_run (by omega) he
        have hok := nn_run_ok (nn_n ac r) (nn_F_lt hr hW hR) _ 0 _ e (by omega) nn_ok0 hrun
        obtain ⟨a, ha⟩ := nn_some ((nn_hd_sf hrun).mpr hs.1)
        obtain ⟨b, hb⟩ := nn_some ((nn_hd_sf hrun).mpr hs.2)
        refine nn_xhb hr hR hok hB ha hb fun h49 => nm_e (nm_r (nI_1 i) (ih (i + 1) _ bd (by omega) (by omega) (nn_Lc (nn_Lor hL (nn_Lone h49)) fun k _ => ?_)))
        unfold nn_xs
        rw [nn_ex_s, or_assoc]
        refine or_congr Iff.rfl (or_congr Iff.rfl ⟨fun z => ⟨e, he, a, b, ha, hb, z⟩, ?_⟩)
        intro ⟨e', he', a', b', ha', hb', z⟩
        rw [he] at he'
        cases he'
        rw [ha] at ha'
        rw [hb] at hb'
        cases ha'
        cases hb'
        exact z
      · unfold nn_xs
        rw [nn_ex_s]
        refine or_congr Iff.rfl ⟨Or.inl, fun z => z.elim id fun ⟨e, he', _⟩ => ?_⟩
        rw [he] at he'
        cases he'
end
