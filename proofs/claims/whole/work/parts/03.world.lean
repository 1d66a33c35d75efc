/-! what a state of the component pictures -/
def nn_cp (e : Nat → Option Nat) (hx hy k : Nat) : Prop := ∃ a c, nn_hd e hx = some a ∧ nn_hd e hy = some c ∧ k = 7 * a + c
theorem nn_ex_s {p : Nat → Prop} {i : Nat} : (∃ c, c < i + 1 ∧ p c) ↔ ((∃ c, c < i ∧ p c) ∨ p i) := by
  constructor
  · intro ⟨c, hc, h⟩
    by_cases e : c = i
    · exact Or.inr (e ▸ h)
    · exact Or.inl ⟨c, by omega, h⟩
  · intro h
    cases h with
    | inl h => obtain ⟨c, hc, h⟩ := h; exact ⟨c, by omega, h⟩
    | inr h => exact ⟨i, by omega, h⟩
theorem nn_ex_0 {p : Nat → Prop} : ¬ ∃ c, c < 0 ∧ p c := fun ⟨_, hc, _⟩ => absurd hc (by omega)
theorem nn_al_s {p : Nat → Prop} {i : Nat} : (∀ c, c < i + 1 → p c) ↔ ((∀ c, c < i → p c) ∧ p i) :=
  ⟨fun h => ⟨fun c hc => h c (by omega), h i (by omega)⟩, fun h c hc => if e : c = i then e ▸ h.2 else h.1 c (by omega)⟩
theorem nn_RA_x {n T P Q : Nat → Nat} {F G : Nat → Nat → Nat} {m hx hy k : Nat} : nn_RA n T P Q F G m hx hy k ↔ ∃ ch, ch < nn_pr n T m 0 ∧ ∃ e, nn_fx n T P Q F G m 0 ch (fun _ => none) = some e ∧ nn_cp e hx hy k := by
  constructor
  · intro ⟨e, hr, hc⟩
    obtain ⟨ch, h1, h2⟩ := (nn_fx_run n T P Q F G m 0 _ e).mpr hr
    exact ⟨ch, h1, e, h2, hc⟩
  · intro ⟨ch, h1, e, h2, hc⟩
    exact ⟨e, (nn_fx_run n T P Q F G m 0 _ e).mp ⟨ch, h1, h2⟩, hc⟩
theorem nn_RA_y {n T P Q : Nat → Nat} {F G : Nat → Nat → Nat} {m hx hy k : Nat} (hn : ∀ i, i < m → n (T i) ≤ 5) (hm : m ≤ 3) : nn_RA n T P Q F G m hx hy k ↔ ∃ p, p < 125 ∧ ∃ e, nn_fy n T P Q F G m 0 p (fun _ => none) = some e ∧ nn_cp e hx hy k := by
  constructor
  · intro ⟨e, hr, hc⟩
    obtain ⟨p, h2⟩ := (nn_fy_run n T P Q F G m hn m 0 _ e (by omega)).mpr hr
    have h1 := nn_fy_lt n T P Q F G m 0 p _ e h2
    have h3 : 5 ^ m ≤ 5 ^ 3 := Nat.pow_le_pow_right (by decide) hm
    exact ⟨p, by omega, e, h2, hc⟩
  · intro ⟨p, h1, e, h2, hc⟩
    exact ⟨e, (nn_fy_run n T P Q F G m hn m 0 _ e (by omega)).mp ⟨p, h2⟩, hc⟩
theorem nn_RA_u {n T P Q : Nat → Nat} {F G : Nat → Nat → Nat} {m hx hy k : Nat} (hs : ¬ (nn_sf P Q m hx ∧ nn_sf P Q m hy)) : ¬ nn_RA n T P Q F G m hx hy k := by
  intro ⟨e, hr, a, c, h1, h2, _⟩
  refine hs ⟨(nn_hd_sf hr).mp ?_, (nn_hd_sf hr).mp ?_⟩
  · rw [h1]; exact fun z => nomatch z
  · rw [h2]; exact fun z => nomatch z
theorem nn_some {α : Type} {x : Option α} (h : x ≠ none) : ∃ a, x = some a := by
  cases x with
  | none => exact absurd rfl h
  | some a => exact ⟨a, rfl⟩
theorem nn_hd_lt {e : Nat → Option Nat} {t a : Nat} (he : nn_ok e) (ht : nn_pt t) (h : nn_hd e t = some a) : a < 7 := by
  unfold nn_hd at h
  unfold nn_pt at ht
  by_cases h1 : t < 20
  · rw [if_pos h1] at h; cases h; omega
  · rw [if_neg h1] at h; exact he _ _ h
/-- a number that is p, as an int -/
def nn_is (x : Int32) (p : Nat → Prop) : Prop := ∃ a, a < 2 ^ 31 ∧ x = nI a ∧ p a
theorem nn_is_e {x : Int32} {p : Nat → Prop} (h : nn_is x p) : x = nI x.toNatClampNeg ∧ p x.toNatClampNeg := by
  obtain ⟨a, ha, rfl, hp⟩ := h
  rw [nI_clamp ha]
  exact ⟨rfl, hp⟩
theorem nn_is_i {p : Nat → Prop} {a : Nat} (ha : a < 2 ^ 31) (hp : p a) : nn_is (nI a) p := ⟨a, ha, rfl, hp⟩
def nn_n (a : Nat → Int32) (t : Nat) : Nat := (a t).toNatClampNeg
def nn_S (a : Nat → Int32) (r i : Nat) : Nat := (a (3 * r + i)).toNatClampNeg
def nn_F (a : Nat → Int32) (c t row : Nat) : Nat := nn_cv c (a (5 * t + row)).toNatClampNeg
def nn_Wt (rc rx ry : Nat → Int32) : Prop := (∀ t, t < 2 → nn_is (rc t) (fun a => a ≤ 5)) ∧ (∀ t, t < 2 → ∀ i, i < nn_n rc t → nn_is (rx (5 * t + i)) nn_pv ∧ nn_is (ry (5 * t + i)) nn_pv)
def nn_Wr (hx hy ac ta ax ay : Nat → Int32) : Prop := (∀ r, r < 2 → nn_is (ac r) (fun a => a ≤ 3) ∧ nn_is (hx r) nn_pt ∧ nn_is (hy r) nn_pt) ∧ (∀ s, s < 6 → nn_is (ta s) (fun a => a < 2) ∧ nn_is (ax s) nn_pt ∧ nn_is (ay s) nn_pt)
def nn_Yt (rc rx ry va : Nat → Int32) : Prop := ∀ t, t < 2 → ∀ i, i < nn_n rc t → va (10 * t + 2 * i) = rx (5 * t + i) ∧ va (10 * t + 2 * i + 1) = ry (5 * t + i)
def nn_Yr (hx hy ax ay he te : Nat → Int32) : Prop := (∀ r, r < 2 → he (2 * r) = hx r ∧ he (2 * r + 1) = hy r) ∧ (∀ s, s < 6 → te (2 * s) = ax s ∧ te (2 * s + 1) = ay s)
def nn_A (R : Nat) (rc rx ry hx hy ac ta ax ay : Nat → Int32) (c k : Nat) : Prop :=
  ∃ r, r < R ∧ nn_RA (nn_n rc) (nn_S ta r) (nn_S ax r) (nn_S ay r) (nn_F rx c) (nn_F ry c) (nn_n ac r) (nn_n hx r) (nn_n hy r) k
def nn_en : Option Nat → Int32
  | none => -1
  | some c => nI c
/-- the array of bindings pictures b -/
def nn_Bd (bd : Nat → Int32) (b : Nat → Option Nat) : Prop := ∀ j, j < 4 → bd j = nn_en (b j)
theorem nn_m1 {a : Nat} (h : a < 2 ^ 31) : ¬ nI a = -1 := by
  intro e
  have := nI_pos' h
  rw [e] at this
  exact absurd this (by decide)
theorem nn_en_m1 {x : Option Nat} (h : ∀ c, x = some c → c < 7) : nn_en x = -1 ↔ x = none := by
  cases x with
  | none => exact ⟨fun _ => rfl, fun _ => rfl⟩
  | some c => exact ⟨fun z => absurd z (nn_m1 (by have := h c rfl; omega)), fun z => nomatch z⟩
theorem nn_en_neg {x : Option Nat} (h : ∀ c, x = some c → c < 7) : nn_en x < 0 ↔ x = none := by
  cases x with
  | none => exact ⟨fun _ => rfl, fun _ => (by decide : (-1 : Int32) < 0)⟩
  | some c => exact ⟨fun z => absurd z (nI_pos (by have := h c rfl; omega)), fun z => nomatch z⟩
theorem nn_en_eq {x : Option Nat} {d : Nat} (h : ∀ c, x = some c → c < 7) (hd : d < 7) : nn_en x = nI d ↔ x = some d := by
  cases x with
  | none => exact ⟨fun z => absurd z.symm (nn_m1 (by omega)), fun z => nomatch z⟩
  | some c =>
    have := h c rfl
    constructor
    · intro z; rw [(nI_eq (by omega) (by omega)).mp z]
    · intro z; cases z; rfl
theorem nn_Bd_set {bd : Nat → Int32} {b : Nat → Option Nat} {j c : Nat} (h : nn_Bd bd b) : nn_Bd (upd bd j (nI c)) (nn_set b j c) := by
  intro i hi
  unfold nn_set
  by_cases e : i = j
  · rw [if_pos e, e, pk_us]; rfl
  · rw [if_neg e, pk_un e]; exact h i hi
/-- a bool of Java's for a proposition -/
def nn_bo (x : Int32) (p : Prop) : Prop := (x = 1 ∧ p) ∨ (x = 0 ∧ ¬ p)
theorem nn_bo_t {p : Prop} (h : p) : nn_bo 1 p := Or.inl ⟨rfl, h⟩
theorem nn_bo_f {p : Prop} (h : ¬ p) : nn_bo 0 p := Or.inr ⟨rfl, h⟩
theorem nn_bo_c {x : Int32} {p q : Prop} (h : nn_bo x p) (e : p ↔ q) : nn_bo x q := by
  cases h with
  | inl h => exact Or.inl ⟨h.1, e.mp h.2⟩
  | inr h => exact Or.inr ⟨h.1, fun z => h.2 (e.mpr z)⟩
theorem nn_bo_0 {x : Int32} {p : Prop} (h : nn_bo x p) : x = 0 ↔ ¬ p := by
  cases h with
  | inl h => exact ⟨fun z => absurd (h.1.symm.trans z) (by decide), fun z => absurd h.2 z⟩
  | inr h => exact ⟨fun _ => h.2, fun _ => h.1⟩
theorem nn_bo_u {x y : Int32} {p : Prop} (h : nn_bo x p) (g : nn_bo y p) : y = x := by
  cases h with
  | inl h =>
    cases g with
    | inl g => rw [h.1, g.1]
    | inr g => exact absurd h.2 g.2
  | inr h =>
    cases g with
    | inl g => exact absurd g.2 h.2
    | inr g => rw [h.1, g.1]
theorem nn_vb0 : vp_nar .boolean 0 = 0 := by decide
theorem nn_vb1 : vp_nar .boolean 1 = 1 := by decide
theorem nn_bo_n {x : Int32} {p : Prop} (h : nn_bo x p) : narrow .boolean (.int x) = .int x := by
  cases h with
  | inl h => rw [h.1]; rfl
  | inr h => rw [h.1]; rfl
/-! numbers -/
theorem nn_a (n d : Nat) (x : Int32) (hx : x = nI d) : nI n + x = nI (n + d) := by rw [hx, nI_add]
theorem nn_vi {x : Int32} {N : Nat} {P : Prop} (n : Nat) (hx : x = nI n) (hn : n < N) (hN : N < 2 ^ 31) (h : P) : vp_in x N ∧ P := ⟨hx ▸ vp_in_nI hn hN, h⟩
theorem nn_at {a : Nat → Int32} {x : Int32} (n : Nat) (hx : x = nI n) (hn : n < 2 ^ 31) : a x.toNatClampNeg = a n := by rw [hx, nI_clamp hn]
theorem nn_l2 (a : Nat) : 2 * nI a = nI (2 * a) := pk_mul 2 a
theorem nn_l3 (a : Nat) : 3 * nI a = nI (3 * a) := pk_mul 3 a
theorem nn_l7 (a : Nat) : 7 * nI a = nI (7 * a) := pk_mul 7 a
theorem nn_l10 (a : Nat) : 10 * nI a = nI (10 * a) := pk_mul 10 a
theorem nn_r3 (a : Nat) : nI a * 3 = nI (3 * a) := by rw [Nat.mul_comm]; exact pk_mul a 3
theorem nn_r5 (a : Nat) : nI a * 5 = nI (5 * a) := by rw [Nat.mul_comm]; exact pk_mul a 5
theorem nn_r7 (a : Nat) : nI a * 7 = nI (7 * a) := by rw [Nat.mul_comm]; exact pk_mul a 7
theorem nn_p2 (a : Nat) : nI a + 2 = nI (a + 2) := nI_add a 2
theorem nn_s10 {a : Nat} (h : 10 ≤ a) : nI a - 10 = nI (a - 10) := pk_sub (b := 10) h
theorem nn_s20 {a : Nat} (h : 20 ≤ a) : nI a - 20 = nI (a - 20) := pk_sub (b := 20) h
theorem nn_d5 {a : Nat} (h : a < 2 ^ 31) : nI a / 5 = nI (a / 5) := pk_div (d := 5) h (by decide) (by decide)
theorem nn_d7 {a : Nat} (h : a < 2 ^ 31) : nI a / 7 = nI (a / 7) := pk_div (d := 7) h (by decide) (by decide)
theorem nn_d10 {a : Nat} (h : a < 2 ^ 31) : nI a / 10 = nI (a / 10) := pk_div (d := 10) h (by decide) (by decide)
theorem nn_d49 {a : Nat} (h : a < 2 ^ 31) : nI a / 49 = nI (a / 49) := pk_div (d := 49) h (by decide) (by decide)
theorem nn_m5 {a : Nat} (h : a < 2 ^ 31) : nI a - nI a / 5 * 5 = nI (a % 5) := pk_rem (d := 5) h (by decide) (by decide)
theorem nn_m7 {a : Nat} (h : a < 2 ^ 31) : nI a - nI a / 7 * 7 = nI (a % 7) := pk_rem (d := 7) h (by decide) (by decide)
theorem nn_m10 {a : Nat} (h : a < 2 ^ 31) : nI a - nI a / 10 * 10 = nI (a % 10) := pk_rem (d := 10) h (by decide) (by decide)
theorem nn_neg20 {a : Nat} (h : a < 20) : nI a - 20 < 0 := pk_sneg (b := 20) (by decide) h
theorem nn_neg10 {a : Nat} (h : a < 10) : nI a - 10 < 0 := pk_sneg (b := 10) (by decide) h
/-- the four kinds of numbers, for any int -/
def nn_V (x : Int32) : Prop := ∃ a, nn_pv a ∧ x = nI a
def nn_M (x : Int32) : Prop := ∃ a, nn_pt a ∧ x = nI a
def nn_U (x : Int32) : Prop := ∃ a, 10 ≤ a ∧ a ≤ 12 ∧ x = nI a
def nn_C (x : Int32) : Prop := ∃ a, a ≤ 3 ∧ x = nI a
def nn_K (x : Int32) : Prop := ∃ a, a < 7 ∧ x = nI a
def nn_D (x : Int32) : Prop := ∃ a, a < 2 ∧ x = nI a
theorem nn_rg (x : Int32) (lo hi : Nat) (hl : lo < 2 ^ 31) (hh : hi < 2 ^ 31) : (nI lo ≤ x ∧ x ≤ nI hi) ↔ ∃ a, lo ≤ a ∧ a ≤ hi ∧ x = nI a := by
  constructor
  · intro ⟨h1, h2⟩
    have h0 : ¬ x < 0 := Int32.not_lt.mpr (Int32.le_trans (nI_pos' hl) h1)
    obtain ⟨j, hj, rfl⟩ := nI_of h0
    exact ⟨j, (nI_leI hl hj).mp h1, (nI_leI hj hh).mp h2, rfl⟩
  · intro ⟨a, h1, h2, e⟩
    rw [e]
    exact ⟨nI_le h1 (by omega), nI_le h2 hh⟩
