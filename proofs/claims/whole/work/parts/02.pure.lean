/-! the pure picture: values, terms, completions, bindings, choices of rows -/
def nn_pv (v : Nat) : Prop := v ≤ 3 ∨ (10 ≤ v ∧ v ≤ 12)
def nn_pt (v : Nat) : Prop := v ≤ 3 ∨ (20 ≤ v ∧ v ≤ 23)
theorem nn_pv_lt {v : Nat} (h : nn_pv v) : v < 13 := by unfold nn_pv at h; omega
theorem nn_pt_lt {v : Nat} (h : nn_pt v) : v < 24 := by unfold nn_pt at h; omega
def nn_q (c : Nat) : Nat → Nat
  | 0 => c
  | i + 1 => nn_q c i / 7
theorem nn_q_le (c : Nat) : ∀ i, nn_q c i ≤ c := by
  intro i
  induction i with
  | zero => exact Nat.le_refl c
  | succ i ih => exact Nat.le_trans (Nat.div_le_self _ _) ih
def nn_dg (c i : Nat) : Nat := nn_q c i % 7
theorem nn_dg_lt (c i : Nat) : nn_dg c i < 7 := Nat.mod_lt _ (by decide)
def nn_cv (c v : Nat) : Nat := if 10 ≤ v then nn_dg c (v - 10) else v
theorem nn_cv_lt {c v : Nat} (h : nn_pv v) : nn_cv c v < 7 := by
  unfold nn_cv
  unfold nn_pv at h
  split
  · exact nn_dg_lt _ _
  · omega
def nn_set (b : Nat → Option Nat) (j c : Nat) : Nat → Option Nat := fun i => if i = j then some c else b i
def nn_ag (b : Nat → Option Nat) (t c : Nat) : Option (Nat → Option Nat) :=
  if t < 20 then (if t = c then some b else none)
  else if b (t - 20) = none then some (nn_set b (t - 20) c)
  else if b (t - 20) = some c then some b else none
def nn_ok (b : Nat → Option Nat) : Prop := ∀ j c, b j = some c → c < 7
theorem nn_ok0 : nn_ok (fun _ => none) := fun _ _ h => nomatch h
theorem nn_ag_ok {b e : Nat → Option Nat} {t c : Nat} (hb : nn_ok b) (hc : c < 7) (h : nn_ag b t c = some e) : nn_ok e := by
  unfold nn_ag at h
  by_cases h1 : t < 20
  · rw [if_pos h1] at h
    by_cases h2 : t = c
    · rw [if_pos h2] at h; cases h; exact hb
    · rw [if_neg h2] at h; cases h
  · rw [if_neg h1] at h
    by_cases h2 : b (t - 20) = none
    · rw [if_pos h2] at h
      cases h
      intro j d hd
      unfold nn_set at hd
      by_cases h3 : j = t - 20
      · rw [if_pos h3] at hd; cases hd; exact hc
      · rw [if_neg h3] at hd; exact hb j d hd
    · rw [if_neg h2] at h
      by_cases h3 : b (t - 20) = some c
      · rw [if_pos h3] at h; cases h; exact hb
      · rw [if_neg h3] at h; cases h
theorem nn_ag_dom {b e : Nat → Option Nat} {t c : Nat} (h : nn_ag b t c = some e) (j : Nat) : e j = none ↔ (b j = none ∧ t ≠ 20 + j) := by
  unfold nn_ag at h
  by_cases h1 : t < 20
  · rw [if_pos h1] at h
    by_cases h2 : t = c
    · rw [if_pos h2] at h; cases h
      exact ⟨fun z => ⟨z, by omega⟩, fun z => z.1⟩
    · rw [if_neg h2] at h; cases h
  · rw [if_neg h1] at h
    by_cases h2 : b (t - 20) = none
    · rw [if_pos h2] at h
      cases h
      unfold nn_set
      by_cases h3 : j = t - 20
      · rw [if_pos h3]
        exact ⟨fun z => (nomatch z), fun z => absurd (show t = 20 + j by omega) z.2⟩
      · rw [if_neg h3]
        exact ⟨fun z => ⟨z, by omega⟩, fun z => z.1⟩
    · rw [if_neg h2] at h
      by_cases h3 : b (t - 20) = some c
      · rw [if_pos h3] at h; cases h
        refine ⟨fun z => ⟨z, fun y => h2 ?_⟩, fun z => z.1⟩
        rw [show t - 20 = j by omega]; exact z
      · rw [if_neg h3] at h; cases h
section
variable (n T P Q : Nat → Nat) (F G : Nat → Nat → Nat)
def nn_st (i row : Nat) (b : Nat → Option Nat) : Option (Nat → Option Nat) :=
  (nn_ag b (P i) (F (T i) row)).bind fun b1 => nn_ag b1 (Q i) (G (T i) row)
def nn_Run : Nat → Nat → (Nat → Option Nat) → (Nat → Option Nat) → Prop
  | 0, _, b, e => e = b
  | d + 1, i, b, e => ∃ row, row < n (T i) ∧ ∃ b1, nn_st T P Q F G i row b = some b1 ∧ nn_Run d (i + 1) b1 e
def nn_fx : Nat → Nat → Nat → (Nat → Option Nat) → Option (Nat → Option Nat)
  | 0, _, _, b => some b
  | d + 1, i, rest, b => if n (T i) = 0 then none else (nn_st T P Q F G i (rest % n (T i)) b).bind fun b1 => nn_fx d (i + 1) (rest / n (T i)) b1
def nn_fy : Nat → Nat → Nat → (Nat → Option Nat) → Option (Nat → Option Nat)
  | 0, _, rest, b => if rest = 0 then some b else none
  | d + 1, i, rest, b => if n (T i) ≤ rest % 5 then none else (nn_st T P Q F G i (rest % 5) b).bind fun b1 => nn_fy d (i + 1) (rest / 5) b1
def nn_pr : Nat → Nat → Nat
  | 0, _ => 1
  | d + 1, i => n (T i) * nn_pr d (i + 1)
theorem nn_fx_run : ∀ (d i : Nat) (b e : Nat → Option Nat), (∃ ch, ch < nn_pr n T d i ∧ nn_fx n T P Q F G d i ch b = some e) ↔ nn_Run n T P Q F G d i b e := by
  intro d
  induction d with
  | zero =>
    intro i b e
    constructor
    · intro ⟨ch, _, h⟩
      exact (Option.some.inj h).symm
    · intro h
      exact ⟨0, Nat.zero_lt_one, congrArg some (Eq.symm h)⟩
  | succ d ih =>
    intro i b e
    constructor
    · intro ⟨ch, hc, h⟩
      have hc : ch < n (T i) * nn_pr n T d (i + 1) := hc
      have h : (if n (T i) = 0 then none else (nn_st T P Q F G i (ch % n (T i)) b).bind fun b1 => nn_fx n T P Q F G d (i + 1) (ch / n (T i)) b1) = some e := h
      by_cases h0 : n (T i) = 0
      · rw [if_pos h0] at h; cases h
      · rw [if_neg h0, Option.bind_eq_some_iff] at h
        obtain ⟨b1, hs, hr⟩ := h
        exact ⟨ch % n (T i), Nat.mod_lt _ (by omega), b1, hs, (ih (i + 1) b1 e).mp ⟨ch / n (T i), Nat.div_lt_of_lt_mul hc, hr⟩⟩
    · intro ⟨row, hr, b1, hs, h⟩
      obtain ⟨ch, hc, hf⟩ := (ih (i + 1) b1 e).mpr h
      have hm : (row + n (T i) * ch) % n (T i) = row := by rw [Nat.add_mul_mod_self_left, Nat.mod_eq_of_lt hr]
      have hd : (row + n (T i) * ch) / n (T i) = ch := by rw [Nat.add_mul_div_left _ _ (by omega), Nat.div_eq_of_lt hr, Nat.zero_add]
      refine ⟨row + n (T i) * ch, ?_, ?_⟩
      · show row + n (T i) * ch < n (T i) * nn_pr n T d (i + 1)
        have : n (T i) * (ch + 1) ≤ n (T i) * nn_pr n T d (i + 1) := Nat.mul_le_mul_left _ hc
        rw [Nat.mul_add, Nat.mul_one] at this
        omega
      · show (if n (T i) = 0 then none else (nn_st T P Q F G i ((row + n (T i) * ch) % n (T i)) b).bind fun b1 => nn_fx n T P Q F G d (i + 1) ((row + n (T i) * ch) / n (T i)) b1) = some e
        rw [if_neg (by omega), hm, hd, hs]
        exact hf
theorem nn_fy_lt : ∀ (d i p : Nat) (b e : Nat → Option Nat), nn_fy n T P Q F G d i p b = some e → p < 5 ^ d := by
  intro d
  induction d with
  | zero =>
    intro i p b e h
    have h : (if p = 0 then some b else none) = some e := h
    by_cases h0 : p = 0
    · rw [h0]; decide
    · rw [if_neg h0] at h; cases h
  | succ d ih =>
    intro i p b e h
    have h : (if n (T i) ≤ p % 5 then none else (nn_st T P Q F G i (p % 5) b).bind fun b1 => nn_fy n T P Q F G d (i + 1) (p / 5) b1) = some e := h
    by_cases h0 : n (T i) ≤ p % 5
    · rw [if_pos h0] at h; cases h
    · rw [if_neg h0, Option.bind_eq_some_iff] at h
      obtain ⟨b1, _, hr⟩ := h
      have := ih _ _ _ _ hr
      rw [Nat.pow_succ]
      omega
theorem nn_fy_run (M : Nat) (hn : ∀ i, i < M → n (T i) ≤ 5) : ∀ (d i : Nat) (b e : Nat → Option Nat), i + d ≤ M → ((∃ p, nn_fy n T P Q F G d i p b = some e) ↔ nn_Run n T P Q F G d i b e) := by
  intro d
  induction d with
  | zero =>
    intro i b e hM
    constructor
    · intro ⟨p, h⟩
      have h : (if p = 0 then some b else none) = some e := h
      by_cases h0 : p = 0
      · rw [if_pos h0] at h; exact (Option.some.inj h).symm
      · rw [if_neg h0] at h; cases h
    · intro h
      exact ⟨0, congrArg some (Eq.symm h)⟩
  | succ d ih =>
    intro i b e hM
    constructor
    · intro ⟨p, h⟩
      have h : (if n (T i) ≤ p % 5 then none else (nn_st T P Q F G i (p % 5) b).bind fun b1 => nn_fy n T P Q F G d (i + 1) (p / 5) b1) = some e := h
      by_cases h0 : n (T i) ≤ p % 5
      · rw [if_pos h0] at h; cases h
      · rw [if_neg h0, Option.bind_eq_some_iff] at h
        obtain ⟨b1, hs, hr⟩ := h
        exact ⟨p % 5, by omega, b1, hs, (ih (i + 1) b1 e (by omega)).mp ⟨p / 5, hr⟩⟩
    · intro ⟨row, hr, b1, hs, h⟩
      obtain ⟨p, hf⟩ := (ih (i + 1) b1 e (by omega)).mpr h
      have h5 := hn i (by omega)
      have hm : (row + 5 * p) % 5 = row := by omega
      have hd : (row + 5 * p) / 5 = p := by omega
      refine ⟨row + 5 * p, ?_⟩
      show (if n (T i) ≤ (row + 5 * p) % 5 then none else (nn_st T P Q F G i ((row + 5 * p) % 5) b).bind fun b1 => nn_fy n T P Q F G d (i + 1) ((row + 5 * p) / 5) b1) = some e
      rw [hm, hd, if_neg (by omega), hs]
      exact hf
theorem nn_run_dom : ∀ (d i : Nat) (b e : Nat → Option Nat), nn_Run n T P Q F G d i b e → ∀ j, (e j = none ↔ (b j = none ∧ ∀ a, i ≤ a → a < i + d → P a ≠ 20 + j ∧ Q a ≠ 20 + j)) := by
  intro d
  induction d with
  | zero =>
    intro i b e h j
    have h : e = b := h
    rw [h]
    exact ⟨fun z => ⟨z, fun a h1 h2 => absurd h2 (by omega)⟩, fun z => z.1⟩
  | succ d ih =>
    intro i b e h j
    obtain ⟨row, hr, b1, hs, h⟩ := h
    unfold nn_st at hs
    rw [Option.bind_eq_some_iff] at hs
    obtain ⟨b2, h1, h2⟩ := hs
    rw [ih (i + 1) b1 e h j, nn_ag_dom h2 j, nn_ag_dom h1 j]
    constructor
    · intro ⟨⟨⟨x1, x2⟩, x3⟩, x4⟩
      refine ⟨x1, fun a y1 y2 => ?_⟩
      by_cases h9 : a = i
      · rw [h9]; exact ⟨x2, x3⟩
      · exact x4 a (by omega) (by omega)
    · intro ⟨x1, x4⟩
      have := x4 i (by omega) (by omega)
      exact ⟨⟨⟨x1, this.1⟩, this.2⟩, fun a y1 y2 => x4 a (by omega) (by omega)⟩
end
def nn_hd (b : Nat → Option Nat) (t : Nat) : Option Nat := if t < 20 then some t else b (t - 20)
def nn_sf (P Q : Nat → Nat) (m t : Nat) : Prop := t < 20 ∨ ∃ a, a < m ∧ (P a = t ∨ Q a = t)
theorem nn_hd_sf {n T P Q : Nat → Nat} {F G : Nat → Nat → Nat} {m t : Nat} {e : Nat → Option Nat} (h : nn_Run n T P Q F G m 0 (fun _ => none) e) : nn_hd e t ≠ none ↔ nn_sf P Q m t := by
  unfold nn_hd nn_sf
  by_cases h1 : t < 20
  · rw [if_pos h1]
    exact ⟨fun _ => Or.inl h1, fun _ z => nomatch z⟩
  · rw [if_neg h1]
    have hd := nn_run_dom n T P Q F G m 0 _ e h (t - 20)
    have ht : 20 + (t - 20) = t := by omega
    rw [ht] at hd
    constructor
    · intro z
      refine Or.inr (Classical.byContradiction fun y => z (hd.mpr ⟨rfl, fun a _ h2 => ⟨fun e1 => y ⟨a, by omega, Or.inl e1⟩, fun e1 => y ⟨a, by omega, Or.inr e1⟩⟩⟩))
    · intro z y
      have := (hd.mp y).2
      cases z with
      | inl z => exact h1 z
      | inr z =>
        obtain ⟨a, ha, z⟩ := z
        have := this a (by omega) (by omega)
        cases z with
        | inl z => exact this.1 z
        | inr z => exact this.2 z
/-- the couples that one rule gives -/
def nn_RA (n T P Q : Nat → Nat) (F G : Nat → Nat → Nat) (m hx hy k : Nat) : Prop :=
  ∃ e, nn_Run n T P Q F G m 0 (fun _ => none) e ∧ ∃ a c, nn_hd e hx = some a ∧ nn_hd e hy = some c ∧ k = 7 * a + c
theorem nn_run_ok {n T P Q : Nat → Nat} {F G : Nat → Nat → Nat} (M : Nat) (hF : ∀ i row, i < M → row < n (T i) → F (T i) row < 7 ∧ G (T i) row < 7) : ∀ (d i : Nat) (b e : Nat → Option Nat), i + d ≤ M → nn_ok b → nn_Run n T P Q F G d i b e → nn_ok e := by
  intro d
  induction d with
  | zero =>
    intro i b e hM hb h
    have h : e = b := h
    rw [h]; exact hb
  | succ d ih =>
    intro i b e hM hb h
    obtain ⟨row, hr, b1, hs, h⟩ := h
    unfold nn_st at hs
    rw [Option.bind_eq_some_iff] at hs
    obtain ⟨b2, h1, h2⟩ := hs
    have hf := hF i row (by omega) hr
    exact ih _ _ _ (by omega) (nn_ag_ok (nn_ag_ok hb hf.1 h1) hf.2 h2) h
/-- counting -/
def nn_cn (p : Nat → Prop) (dp : ∀ i, Decidable (p i)) : Nat → Nat
  | 0 => 0
  | i + 1 => nn_cn p dp i + (match dp i with | .isTrue _ => 1 | .isFalse _ => 0)
theorem nn_cn_t {p : Nat → Prop} {dp : ∀ i, Decidable (p i)} {i : Nat} (h : p i) : nn_cn p dp (i + 1) = nn_cn p dp i + 1 := by
  show _ + (match dp i with | .isTrue _ => 1 | .isFalse _ => 0) = _
  cases dp i with
  | isTrue _ => rfl
  | isFalse z => exact absurd h z
theorem nn_cn_f {p : Nat → Prop} {dp : ∀ i, Decidable (p i)} {i : Nat} (h : ¬ p i) : nn_cn p dp (i + 1) = nn_cn p dp i := by
  show _ + (match dp i with | .isTrue _ => 1 | .isFalse _ => 0) = _
  cases dp i with
  | isTrue z => exact absurd z h
  | isFalse z => rfl

/-! sets of couples as longs -/
def nn_L (L : Int64) (A : Nat → Prop) : Prop := ∃ m, m < 2 ^ 49 ∧ L = lN m ∧ ∀ k, k < 49 → (m.testBit k = true ↔ A k)
theorem nn_Lc {L : Int64} {A B : Nat → Prop} (h : nn_L L A) (e : ∀ k, k < 49 → (A k ↔ B k)) : nn_L L B := by
  obtain ⟨m, hm, hL, h⟩ := h
  exact ⟨m, hm, hL, fun k hk => (h k hk).trans (e k hk)⟩
theorem nn_L0 : nn_L 0 (fun _ => False) := ⟨0, by decide, rfl, fun k _ => by simp⟩
theorem nn_Lall : nn_L (lN (2 ^ 49 - 1)) (fun _ => True) := ⟨2 ^ 49 - 1, by decide, rfl, fun k hk => by rw [Nat.testBit_two_pow_sub_one]; simp [hk]⟩
theorem nn_Lone {j : Nat} (hj : j < 49) : nn_L (lN (2 ^ j)) (fun k => k = j) := by
  refine ⟨2 ^ j, wb_lt2 hj, rfl, fun k _ => ?_⟩
  rw [Nat.testBit_two_pow, decide_eq_true_eq]
  exact ⟨fun h => h.symm, fun h => h.symm⟩
theorem nn_49 {m : Nat} (h : m < 2 ^ 49) : m < 2 ^ 64 := Nat.lt_trans h (by decide)
theorem nn_49' {m : Nat} (h : m < 2 ^ 49) : m < 2 ^ 63 := Nat.lt_trans h (by decide)
theorem nn_Lor {L M : Int64} {A B : Nat → Prop} (h : nn_L L A) (g : nn_L M B) : nn_L (L ||| M) (fun k => A k ∨ B k) := by
  obtain ⟨m, hm, rfl, h⟩ := h
  obtain ⟨q, hq, rfl, g⟩ := g
  refine ⟨m ||| q, Nat.or_lt_two_pow hm hq, wb_or (nn_49 hm) (nn_49 hq), fun k hk => ?_⟩
  rw [Nat.testBit_or, Bool.or_eq_true, h k hk, g k hk]
theorem nn_Land {L M : Int64} {A B : Nat → Prop} (h : nn_L L A) (g : nn_L M B) : nn_L (L &&& M) (fun k => A k ∧ B k) := by
  obtain ⟨m, hm, rfl, h⟩ := h
  obtain ⟨q, hq, rfl, g⟩ := g
  refine ⟨m &&& q, Nat.and_lt_two_pow _ hq, wb_and (nn_49 hm) (nn_49 hq), fun k hk => ?_⟩
  rw [Nat.testBit_and, Bool.and_eq_true, h k hk, g k hk]
theorem nn_Leq {L : Int64} {A : Nat → Prop} (h : nn_L L A) : L = 0 ↔ ∀ k, k < 49 → ¬ A k := by
  obtain ⟨m, hm, rfl, h⟩ := h
  rw [show (0 : Int64) = lN 0 from rfl, pk_lEQ (nn_49' hm) (by decide)]
  constructor
  · intro e k hk z
    rw [← h k hk, e] at z
    simp at z
  · intro z
    refine Classical.byContradiction fun hne => ?_
    obtain ⟨i, hi⟩ := Nat.exists_testBit_of_ne_zero hne
    by_cases h9 : i < 49
    · exact z i h9 ((h i h9).mp hi)
    · have h8 : m < 2 ^ i := Nat.lt_of_lt_of_le hm (Nat.pow_le_pow_right (by decide) (by omega))
      rw [Nat.testBit_lt_two_pow h8] at hi
      cases hi
theorem nn_Lbit {L : Int64} {A : Nat → Prop} {j : Nat} (h : nn_L L A) (hj : j < 49) : (L &&& lN (2 ^ j)) = 0 ↔ ¬ A j := by
  rw [nn_Leq (nn_Land h (nn_Lone hj))]
  constructor
  · intro z a
    exact z j hj ⟨a, rfl⟩
  · intro z k _ y
    exact z (y.2 ▸ y.1)
theorem nn_Lsh {L : Int64} {A : Nat → Prop} {j : Nat} (h : nn_L L A) (hj : j < 49) : ((L.toUInt64 >>> ((nI j).toInt64.toUInt64 &&& Int64.toUInt64 63)).toInt64 &&& 1) = 0 ↔ ¬ A j := by
  obtain ⟨m, hm, rfl, h⟩ := h
  rw [wb_bit (nn_49 hm) (by omega), ← h j hj, show (0 : Int64) = lN 0 from rfl, pk_lEQ (Nat.lt_of_lt_of_le (Nat.mod_lt _ (by decide)) (by decide)) (by decide), Nat.testBit_eq_decide_div_mod_eq, decide_eq_true_eq]
  have := Nat.mod_lt (m / 2 ^ j) (show 2 > 0 by decide)
  generalize m / 2 ^ j % 2 = q at this
  omega
