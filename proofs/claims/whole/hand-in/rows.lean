section
theorem pk_us {f : Nat → Int32} {k : Nat} {x : Int32} : upd f k x k = x := if_pos rfl
theorem pk_un {f : Nat → Int32} {k j : Nat} {x : Int32} (h : j ≠ k) : upd f k x j = f j := if_neg h
theorem pk_sub {a b : Nat} (h : b ≤ a) : nI a - nI b = nI (a - b) := by
  obtain ⟨c, rfl⟩ : ∃ c, a = c + b := ⟨a - b, by omega⟩
  rw [← nI_add, Int32.add_sub_cancel, Nat.add_sub_cancel]
theorem pk_m1 (n : Nat) : nI (n + 1) + (-1) = nI n := by
  rw [← nI_1, Int32.add_assoc, show (1 : Int32) + (-1) = 0 from rfl, Int32.add_zero]
theorem pk_mul (a b : Nat) : nI a * nI b = nI (a * b) := (Int32.ofNat_mul a b).symm
theorem pk_div {a d : Nat} (ha : a < 2 ^ 31) (h0 : 0 < d) (hd : d < 2 ^ 31) : nI a / nI d = nI (a / d) := by
  apply Int32.toInt_inj.mp
  rw [lg_idiv_nonneg (by rw [nI_toInt ha]; omega) (by rw [nI_toInt hd]; omega), nI_toInt ha, nI_toInt hd, nI_toInt (Nat.lt_of_le_of_lt (Nat.div_le_self a d) ha)]
  first | rfl | exact (Int.natCast_ediv _ _).symm
theorem pk_rem {a d : Nat} (ha : a < 2 ^ 31) (h0 : 0 < d) (hd : d < 2 ^ 31) : nI a - nI a / nI d * nI d = nI (a % d) := by
  rw [pk_div ha h0 hd, pk_mul, pk_sub (Nat.div_mul_le_self a d)]
  exact congrArg nI (by have := Nat.div_add_mod' a d; omega)
theorem pk_sub_toInt {a b : Nat} (ha : a < 2 ^ 30) (hb : b < 2 ^ 30) : (nI a - nI b).toInt = (a : Int) - b := by
  rw [Int32.toInt_sub, nI_toInt (by omega), nI_toInt (by omega)]
  exact Int.bmod_eq_of_le (by omega) (by omega)
theorem pk_sneg {a b : Nat} (hb : b < 2 ^ 30) (h : a < b) : nI a - nI b < 0 := by
  rw [Int32.lt_iff_toInt_lt, pk_sub_toInt (by omega) hb, show (0 : Int32).toInt = 0 from by decide]
  omega
theorem pk_ix (x : Int32) {n : Nat} (hn : n < 2 ^ 31) : x < 0 ∨ nI n ≤ x ∨ ∃ j : Nat, j < n ∧ x = nI j := by
  by_cases h : x < 0
  · exact Or.inl h
  · obtain ⟨j, hj, rfl⟩ := nI_of h
    by_cases h2 : j < n
    · exact Or.inr (Or.inr ⟨j, h2, rfl⟩)
    · exact Or.inr (Or.inl (nI_le (by omega) hj))
theorem pk_le {x y : Int32} {A B : Prop} (a b : Nat) (f : a ≤ b → A) (g : b < a → B) (hx : x = nI a := by rfl) (hy : y = nI b := by rfl) (ha : a < 2 ^ 31 := by omega) (hb : b < 2 ^ 31 := by omega) : (x ≤ y → A) ∧ (¬ x ≤ y → B) := by
  subst hx hy
  rw [nI_leI ha hb]
  exact ⟨f, fun z => g (by omega)⟩
theorem pk_lt {x y : Int32} {A B : Prop} (a b : Nat) (f : a < b → A) (g : b ≤ a → B) (hx : x = nI a := by rfl) (hy : y = nI b := by rfl) (ha : a < 2 ^ 31 := by omega) (hb : b < 2 ^ 31 := by omega) : (x < y → A) ∧ (¬ x < y → B) := by
  subst hx hy
  rw [nI_ltI ha hb]
  exact ⟨f, fun z => g (by omega)⟩
theorem pk_eq {x y : Int32} {A B : Prop} (a b : Nat) (f : a = b → A) (g : a ≠ b → B) (hx : x = nI a := by rfl) (hy : y = nI b := by rfl) (ha : a < 2 ^ 31 := by omega) (hb : b < 2 ^ 31 := by omega) : (x = y → A) ∧ (¬ x = y → B) := by
  subst hx hy
  rw [nI_eq ha hb]
  exact ⟨f, g⟩
theorem pk_in {x : Int32} (n N : Nat) (h : n < N) (hx : x = nI n := by rfl) (hN : N < 2 ^ 31 := by omega) : vp_in x N := by
  subst hx
  exact vp_in_nI h hN
theorem pk_cl {x : Int32} (n : Nat) (hx : x = nI n := by rfl) (h : n < 2 ^ 31 := by omega) : x.toNatClampNeg = n := by
  subst hx
  exact nI_clamp h
theorem pk_lT {n : Nat} (h : n < 2 ^ 63) : (lN n).toInt = (n : Int) := lg_ofNat_toInt h
theorem pk_lEQ {a b : Nat} (ha : a < 2 ^ 63) (hb : b < 2 ^ 63) : lN a = lN b ↔ a = b := by
  rw [← Int64.toInt_inj, pk_lT ha, pk_lT hb]; omega
theorem pk_loop {σ : Type} (W : Nat → Nat → σ → Prop) (I : Nat → σ → Prop) (e i0 : Nat) (s : σ) (hi : i0 ≤ e) (h0 : I i0 s) (hx : ∀ n s, I e s → W (n + 1) e s)
    (hs : ∀ n i s, i < e → I i s → (∀ s', I (i + 1) s' → W n (i + 1) s') → W (n + 1) i s) : ∃ n, W n i0 s :=
  ⟨e + 1, loop_i W I e hx hs (e + 1) i0 s hi (by omega) h0⟩
theorem wb_tb (n : Nat) : (lN n).toBitVec = BitVec.ofNat 64 n := rfl
theorem wb_inj {a b : Int64} (h : a.toBitVec = b.toBitVec) : a = b := Int64.toBitVec_inj.mp h
theorem wb_tn {n : Nat} (h : n < 2 ^ 64) : (lN n).toBitVec.toNat = n := by rw [wb_tb, BitVec.toNat_ofNat, Nat.mod_eq_of_lt h]
theorem wb_c : ∀ k, k < 64 → ((nI k).toInt64 &&& 63) = lN k := by decide +kernel
theorem wb_cu : ∀ k, k < 64 → ((nI k).toInt64.toUInt64 &&& Int64.toUInt64 63) = UInt64.ofNat k := by decide +kernel
theorem wb_sm : ∀ k, k < 64 → (BitVec.ofNat 64 k).smod 64 = BitVec.ofNat 64 k := by decide +kernel
theorem wb_pw {a b : Nat} (h : a ≤ b) : 2 ^ b = 2 ^ a * 2 ^ (b - a) := by rw [← Nat.pow_add]; congr 1; omega
theorem wb_lt2 {a b : Nat} (h : a < b) : 2 ^ a < 2 ^ b := Nat.pow_lt_pow_right (by decide) h
theorem wb_shr {n k : Nat} (hn : n < 2 ^ 64) (hk : k < 64) : ((lN n).toUInt64 >>> ((nI k).toInt64.toUInt64 &&& Int64.toUInt64 63)).toInt64 = lN (n / 2 ^ k) := by
  rw [wb_cu k hk]
  apply wb_inj
  apply BitVec.eq_of_toNat_eq
  show ((lN n).toUInt64 >>> UInt64.ofNat k).toNat = (BitVec.ofNat 64 _).toNat
  have h1 : (UInt64.ofNat k).toNat = k := by
    show (BitVec.ofNat 64 k).toNat = k
    rw [BitVec.toNat_ofNat, Nat.mod_eq_of_lt (by omega)]
  have h2 : (lN n).toUInt64.toNat = n := wb_tn hn
  rw [UInt64.toNat_shiftRight, h1, h2, Nat.mod_eq_of_lt hk, Nat.shiftRight_eq_div_pow, BitVec.toNat_ofNat, Nat.mod_eq_of_lt (Nat.lt_of_le_of_lt (Nat.div_le_self _ _) hn)]
theorem wb_shl (n : Nat) {k : Nat} (hk : k < 64) : lN n <<< ((nI k).toInt64 &&& 63) = lN (n * 2 ^ k) := by
  rw [wb_c k hk]
  apply wb_inj
  rw [Int64.toBitVec_shiftLeft, wb_tb, wb_tb, wb_tb, wb_sm k hk]
  apply BitVec.eq_of_toNat_eq
  rw [BitVec.shiftLeft_eq', BitVec.toNat_shiftLeft, BitVec.toNat_ofNat, BitVec.toNat_ofNat, BitVec.toNat_ofNat, Nat.mod_eq_of_lt (show k < 2 ^ 64 by omega), Nat.shiftLeft_eq, Nat.mul_mod, Nat.mod_mod, ← Nat.mul_mod]
theorem wb_and {a b : Nat} (ha : a < 2 ^ 64) (hb : b < 2 ^ 64) : lN a &&& lN b = lN (a &&& b) := by
  apply wb_inj
  rw [Int64.toBitVec_and, wb_tb, wb_tb, wb_tb]
  apply BitVec.eq_of_toNat_eq
  rw [BitVec.toNat_and, BitVec.toNat_ofNat, BitVec.toNat_ofNat, BitVec.toNat_ofNat, Nat.mod_eq_of_lt ha, Nat.mod_eq_of_lt hb, Nat.mod_eq_of_lt (Nat.and_lt_two_pow _ hb)]
theorem wb_or {a b : Nat} (ha : a < 2 ^ 64) (hb : b < 2 ^ 64) : lN a ||| lN b = lN (a ||| b) := by
  apply wb_inj
  rw [Int64.toBitVec_or, wb_tb, wb_tb, wb_tb]
  apply BitVec.eq_of_toNat_eq
  rw [BitVec.toNat_or, BitVec.toNat_ofNat, BitVec.toNat_ofNat, BitVec.toNat_ofNat, Nat.mod_eq_of_lt ha, Nat.mod_eq_of_lt hb, Nat.mod_eq_of_lt (Nat.or_lt_two_pow ha hb)]
theorem wb_mask {n k : Nat} (hn : n < 2 ^ 64) (hk : k < 64) : lN n &&& lN (2 ^ k - 1) = lN (n % 2 ^ k) := by
  rw [wb_and hn (by have := wb_lt2 hk; omega), Nat.and_two_pow_sub_one_eq_mod]
theorem wb_a1 {n : Nat} (hn : n < 2 ^ 64) : lN n &&& 1 = lN (n % 2) := wb_mask (k := 1) hn (by decide)
theorem wb_bit {n k : Nat} (hn : n < 2 ^ 64) (hk : k < 64) : ((lN n).toUInt64 >>> ((nI k).toInt64.toUInt64 &&& Int64.toUInt64 63)).toInt64 &&& 1 = lN (n / 2 ^ k % 2) := by
  rw [wb_shr hn hk, wb_a1 (Nat.lt_of_le_of_lt (Nat.div_le_self _ _) hn)]
end
section
/-! the pure picture: values, terms, completions, bindings, choices of rows -/
def nn_pv (v : Nat) : Prop := v ≤ 3 ∨ (10 ≤ v ∧ v ≤ 12)
def nn_pt (v : Nat) : Prop := v ≤ 3 ∨ (20 ≤ v ∧ v ≤ 23)
theorem nn_pv_lt {v : Nat} (h : nn_pv v) : v < 13 := by unfold nn_pv at h; omega
theorem nn_pt_lt {v : Nat} (h : nn_pt v) : v < 24 := by unfold nn_pt at h; omega
def nn_q (c : Nat) : Nat → Nat
  | 0 => c
  | i + 1 => nn_q c i / 7
theorem nn_q_le (c : Nat) : ∀ i, nn_q c i ≤ c := by
  intro i
  induction i with
  | zero => exact Nat.le_refl c
  | succ i ih => exact Nat.le_trans (Nat.div_le_self _ _) ih
def nn_dg (c i : Nat) : Nat := nn_q c i % 7
theorem nn_dg_lt (c i : Nat) : nn_dg c i < 7 := Nat.mod_lt _ (by decide)
def nn_cv (c v : Nat) : Nat := if 10 ≤ v then nn_dg c (v - 10) else v
theorem nn_cv_lt {c v : Nat} (h : nn_pv v) : nn_cv c v < 7 := by
  unfold nn_cv
  unfold nn_pv at h
  split
  · exact nn_dg_lt _ _
  · omega
def nn_set (b : Nat → Option Nat) (j c : Nat) : Nat → Option Nat := fun i => if i = j then some c else b i
def nn_ag (b : Nat → Option Nat) (t c : Nat) : Option (Nat → Option Nat) :=
  if t < 20 then (if t = c then some b else none)
  else if b (t - 20) = none then some (nn_set b (t - 20) c)
  else if b (t - 20) = some c then some b else none
def nn_ok (b : Nat → Option Nat) : Prop := ∀ j c, b j = some c → c < 7
theorem nn_ok0 : nn_ok (fun _ => none) := fun _ _ h => nomatch h
theorem nn_ag_ok {b e : Nat → Option Nat} {t c : Nat} (hb : nn_ok b) (hc : c < 7) (h : nn_ag b t c = some e) : nn_ok e := by
  unfold nn_ag at h
  by_cases h1 : t < 20
  · rw [if_pos h1] at h
    by_cases h2 : t = c
    · rw [if_pos h2] at h; cases h; exact hb
    · rw [if_neg h2] at h; cases h
  · rw [if_neg h1] at h
    by_cases h2 : b (t - 20) = none
    · rw [if_pos h2] at h
      cases h
      intro j d hd
      unfold nn_set at hd
      by_cases h3 : j = t - 20
      · rw [if_pos h3] at hd; cases hd; exact hc
      · rw [if_neg h3] at hd; exact hb j d hd
    · rw [if_neg h2] at h
      by_cases h3 : b (t - 20) = some c
      · rw [if_pos h3] at h; cases h; exact hb
      · rw [if_neg h3] at h; cases h
theorem nn_ag_dom {b e : Nat → Option Nat} {t c : Nat} (h : nn_ag b t c = some e) (j : Nat) : e j = none ↔ (b j = none ∧ t ≠ 20 + j) := by
  unfold nn_ag at h
  by_cases h1 : t < 20
  · rw [if_pos h1] at h
    by_cases h2 : t = c
    · rw [if_pos h2] at h; cases h
      exact ⟨fun z => ⟨z, by omega⟩, fun z => z.1⟩
    · rw [if_neg h2] at h; cases h
  · rw [if_neg h1] at h
    by_cases h2 : b (t - 20) = none
    · rw [if_pos h2] at h
      cases h
      unfold nn_set
      by_cases h3 : j = t - 20
      · rw [if_pos h3]
        exact ⟨fun z => (nomatch z), fun z => absurd (show t = 20 + j by omega) z.2⟩
      · rw [if_neg h3]
        exact ⟨fun z => ⟨z, by omega⟩, fun z => z.1⟩
    · rw [if_neg h2] at h
      by_cases h3 : b (t - 20) = some c
      · rw [if_pos h3] at h; cases h
        refine ⟨fun z => ⟨z, fun y => h2 ?_⟩, fun z => z.1⟩
        rw [show t - 20 = j by omega]; exact z
      · rw [if_neg h3] at h; cases h
section
variable (n T P Q : Nat → Nat) (F G : Nat → Nat → Nat)
def nn_st (i row : Nat) (b : Nat → Option Nat) : Option (Nat → Option Nat) :=
  (nn_ag b (P i) (F (T i) row)).bind fun b1 => nn_ag b1 (Q i) (G (T i) row)
def nn_Run : Nat → Nat → (Nat → Option Nat) → (Nat → Option Nat) → Prop
  | 0, _, b, e => e = b
  | d + 1, i, b, e => ∃ row, row < n (T i) ∧ ∃ b1, nn_st T P Q F G i row b = some b1 ∧ nn_Run d (i + 1) b1 e
def nn_fx : Nat → Nat → Nat → (Nat → Option Nat) → Option (Nat → Option Nat)
  | 0, _, _, b => some b
  | d + 1, i, rest, b => if n (T i) = 0 then none else (nn_st T P Q F G i (rest % n (T i)) b).bind fun b1 => nn_fx d (i + 1) (rest / n (T i)) b1
def nn_fy : Nat → Nat → Nat → (Nat → Option Nat) → Option (Nat → Option Nat)
  | 0, _, rest, b => if rest = 0 then some b else none
  | d + 1, i, rest, b => if n (T i) ≤ rest % 5 then none else (nn_st T P Q F G i (rest % 5) b).bind fun b1 => nn_fy d (i + 1) (rest / 5) b1
def nn_pr : Nat → Nat → Nat
  | 0, _ => 1
  | d + 1, i => n (T i) * nn_pr d (i + 1)
theorem nn_fx_run : ∀ (d i : Nat) (b e : Nat → Option Nat), (∃ ch, ch < nn_pr n T d i ∧ nn_fx n T P Q F G d i ch b = some e) ↔ nn_Run n T P Q F G d i b e := by
  intro d
  induction d with
  | zero =>
    intro i b e
    constructor
    · intro ⟨ch, _, h⟩
      exact (Option.some.inj h).symm
    · intro h
      exact ⟨0, Nat.zero_lt_one, congrArg some (Eq.symm h)⟩
  | succ d ih =>
    intro i b e
    constructor
    · intro ⟨ch, hc, h⟩
      have hc : ch < n (T i) * nn_pr n T d (i + 1) := hc
      have h : (if n (T i) = 0 then none else (nn_st T P Q F G i (ch % n (T i)) b).bind fun b1 => nn_fx n T P Q F G d (i + 1) (ch / n (T i)) b1) = some e := h
      by_cases h0 : n (T i) = 0
      · rw [if_pos h0] at h; cases h
      · rw [if_neg h0, Option.bind_eq_some_iff] at h
        obtain ⟨b1, hs, hr⟩ := h
        exact ⟨ch % n (T i), Nat.mod_lt _ (by omega), b1, hs, (ih (i + 1) b1 e).mp ⟨ch / n (T i), Nat.div_lt_of_lt_mul hc, hr⟩⟩
    · intro ⟨row, hr, b1, hs, h⟩
      obtain ⟨ch, hc, hf⟩ := (ih (i + 1) b1 e).mpr h
      have hm : (row + n (T i) * ch) % n (T i) = row := by rw [Nat.add_mul_mod_self_left, Nat.mod_eq_of_lt hr]
      have hd : (row + n (T i) * ch) / n (T i) = ch := by rw [Nat.add_mul_div_left _ _ (by omega), Nat.div_eq_of_lt hr, Nat.zero_add]
      refine ⟨row + n (T i) * ch, ?_, ?_⟩
      · show row + n (T i) * ch < n (T i) * nn_pr n T d (i + 1)
        have : n (T i) * (ch + 1) ≤ n (T i) * nn_pr n T d (i + 1) := Nat.mul_le_mul_left _ hc
        rw [Nat.mul_add, Nat.mul_one] at this
        omega
      · show (if n (T i) = 0 then none else (nn_st T P Q F G i ((row + n (T i) * ch) % n (T i)) b).bind fun b1 => nn_fx n T P Q F G d (i + 1) ((row + n (T i) * ch) / n (T i)) b1) = some e
        rw [if_neg (by omega), hm, hd, hs]
        exact hf
theorem nn_fy_lt : ∀ (d i p : Nat) (b e : Nat → Option Nat), nn_fy n T P Q F G d i p b = some e → p < 5 ^ d := by
  intro d
  induction d with
  | zero =>
    intro i p b e h
    have h : (if p = 0 then some b else none) = some e := h
    by_cases h0 : p = 0
    · rw [h0]; decide
    · rw [if_neg h0] at h; cases h
  | succ d ih =>
    intro i p b e h
    have h : (if n (T i) ≤ p % 5 then none else (nn_st T P Q F G i (p % 5) b).bind fun b1 => nn_fy n T P Q F G d (i + 1) (p / 5) b1) = some e := h
    by_cases h0 : n (T i) ≤ p % 5
    · rw [if_pos h0] at h; cases h
    · rw [if_neg h0, Option.bind_eq_some_iff] at h
      obtain ⟨b1, _, hr⟩ := h
      have := ih _ _ _ _ hr
      rw [Nat.pow_succ]
      omega
theorem nn_fy_run (M : Nat) (hn : ∀ i, i < M → n (T i) ≤ 5) : ∀ (d i : Nat) (b e : Nat → Option Nat), i + d ≤ M → ((∃ p, nn_fy n T P Q F G d i p b = some e) ↔ nn_Run n T P Q F G d i b e) := by
  intro d
  induction d with
  | zero =>
    intro i b e hM
    constructor
    · intro ⟨p, h⟩
      have h : (if p = 0 then some b else none) = some e := h
      by_cases h0 : p = 0
      · rw [if_pos h0] at h; exact (Option.some.inj h).symm
      · rw [if_neg h0] at h; cases h
    · intro h
      exact ⟨0, congrArg some (Eq.symm h)⟩
  | succ d ih =>
    intro i b e hM
    constructor
    · intro ⟨p, h⟩
      have h : (if n (T i) ≤ p % 5 then none else (nn_st T P Q F G i (p % 5) b).bind fun b1 => nn_fy n T P Q F G d (i + 1) (p / 5) b1) = some e := h
      by_cases h0 : n (T i) ≤ p % 5
      · rw [if_pos h0] at h; cases h
      · rw [if_neg h0, Option.bind_eq_some_iff] at h
        obtain ⟨b1, hs, hr⟩ := h
        exact ⟨p % 5, by omega, b1, hs, (ih (i + 1) b1 e (by omega)).mp ⟨p / 5, hr⟩⟩
    · intro ⟨row, hr, b1, hs, h⟩
      obtain ⟨p, hf⟩ := (ih (i + 1) b1 e (by omega)).mpr h
      have h5 := hn i (by omega)
      have hm : (row + 5 * p) % 5 = row := by omega
      have hd : (row + 5 * p) / 5 = p := by omega
      refine ⟨row + 5 * p, ?_⟩
      show (if n (T i) ≤ (row + 5 * p) % 5 then none else (nn_st T P Q F G i ((row + 5 * p) % 5) b).bind fun b1 => nn_fy n T P Q F G d (i + 1) ((row + 5 * p) / 5) b1) = some e
      rw [hm, hd, if_neg (by omega), hs]
      exact hf
theorem nn_run_dom : ∀ (d i : Nat) (b e : Nat → Option Nat), nn_Run n T P Q F G d i b e → ∀ j, (e j = none ↔ (b j = none ∧ ∀ a, i ≤ a → a < i + d → P a ≠ 20 + j ∧ Q a ≠ 20 + j)) := by
  intro d
  induction d with
  | zero =>
    intro i b e h j
    have h : e = b := h
    rw [h]
    exact ⟨fun z => ⟨z, fun a h1 h2 => absurd h2 (by omega)⟩, fun z => z.1⟩
  | succ d ih =>
    intro i b e h j
    obtain ⟨row, hr, b1, hs, h⟩ := h
    unfold nn_st at hs
    rw [Option.bind_eq_some_iff] at hs
    obtain ⟨b2, h1, h2⟩ := hs
    rw [ih (i + 1) b1 e h j, nn_ag_dom h2 j, nn_ag_dom h1 j]
    constructor
    · intro ⟨⟨⟨x1, x2⟩, x3⟩, x4⟩
      refine ⟨x1, fun a y1 y2 => ?_⟩
      by_cases h9 : a = i
      · rw [h9]; exact ⟨x2, x3⟩
      · exact x4 a (by omega) (by omega)
    · intro ⟨x1, x4⟩
      have := x4 i (by omega) (by omega)
      exact ⟨⟨⟨x1, this.1⟩, this.2⟩, fun a y1 y2 => x4 a (by omega) (by omega)⟩
end
def nn_hd (b : Nat → Option Nat) (t : Nat) : Option Nat := if t < 20 then some t else b (t - 20)
def nn_sf (P Q : Nat → Nat) (m t : Nat) : Prop := t < 20 ∨ ∃ a, a < m ∧ (P a = t ∨ Q a = t)
theorem nn_hd_sf {n T P Q : Nat → Nat} {F G : Nat → Nat → Nat} {m t : Nat} {e : Nat → Option Nat} (h : nn_Run n T P Q F G m 0 (fun _ => none) e) : nn_hd e t ≠ none ↔ nn_sf P Q m t := by
  unfold nn_hd nn_sf
  by_cases h1 : t < 20
  · rw [if_pos h1]
    exact ⟨fun _ => Or.inl h1, fun _ z => nomatch z⟩
  · rw [if_neg h1]
    have hd := nn_run_dom n T P Q F G m 0 _ e h (t - 20)
    have ht : 20 + (t - 20) = t := by omega
    rw [ht] at hd
    constructor
    · intro z
      refine Or.inr (Classical.byContradiction fun y => z (hd.mpr ⟨rfl, fun a _ h2 => ⟨fun e1 => y ⟨a, by omega, Or.inl e1⟩, fun e1 => y ⟨a, by omega, Or.inr e1⟩⟩⟩))
    · intro z y
      have := (hd.mp y).2
      cases z with
      | inl z => exact h1 z
      | inr z =>
        obtain ⟨a, ha, z⟩ := z
        have := this a (by omega) (by omega)
        cases z with
        | inl z => exact this.1 z
        | inr z => exact this.2 z
/-- the couples that one rule gives -/
def nn_RA (n T P Q : Nat → Nat) (F G : Nat → Nat → Nat) (m hx hy k : Nat) : Prop :=
  ∃ e, nn_Run n T P Q F G m 0 (fun _ => none) e ∧ ∃ a c, nn_hd e hx = some a ∧ nn_hd e hy = some c ∧ k = 7 * a + c
theorem nn_run_ok {n T P Q : Nat → Nat} {F G : Nat → Nat → Nat} (M : Nat) (hF : ∀ i row, i < M → row < n (T i) → F (T i) row < 7 ∧ G (T i) row < 7) : ∀ (d i : Nat) (b e : Nat → Option Nat), i + d ≤ M → nn_ok b → nn_Run n T P Q F G d i b e → nn_ok e := by
  intro d
  induction d with
  | zero =>
    intro i b e hM hb h
    have h : e = b := h
    rw [h]; exact hb
  | succ d ih =>
    intro i b e hM hb h
    obtain ⟨row, hr, b1, hs, h⟩ := h
    unfold nn_st at hs
    rw [Option.bind_eq_some_iff] at hs
    obtain ⟨b2, h1, h2⟩ := hs
    have hf := hF i row (by omega) hr
    exact ih _ _ _ (by omega) (nn_ag_ok (nn_ag_ok hb hf.1 h1) hf.2 h2) h
/-- counting -/
def nn_cn (p : Nat → Prop) (dp : ∀ i, Decidable (p i)) : Nat → Nat
  | 0 => 0
  | i + 1 => nn_cn p dp i + (match dp i with | .isTrue _ => 1 | .isFalse _ => 0)
theorem nn_cn_t {p : Nat → Prop} {dp : ∀ i, Decidable (p i)} {i : Nat} (h : p i) : nn_cn p dp (i + 1) = nn_cn p dp i + 1 := by
  show _ + (match dp i with | .isTrue _ => 1 | .isFalse _ => 0) = _
  cases dp i with
  | isTrue _ => rfl
  | isFalse z => exact absurd h z
theorem nn_cn_f {p : Nat → Prop} {dp : ∀ i, Decidable (p i)} {i : Nat} (h : ¬ p i) : nn_cn p dp (i + 1) = nn_cn p dp i := by
  show _ + (match dp i with | .isTrue _ => 1 | .isFalse _ => 0) = _
  cases dp i with
  | isTrue z => exact absurd z h
  | isFalse z => rfl

/-! sets of couples as longs -/
def nn_L (L : Int64) (A : Nat → Prop) : Prop := ∃ m, m < 2 ^ 49 ∧ L = lN m ∧ ∀ k, k < 49 → (m.testBit k = true ↔ A k)
theorem nn_Lc {L : Int64} {A B : Nat → Prop} (h : nn_L L A) (e : ∀ k, k < 49 → (A k ↔ B k)) : nn_L L B := by
  obtain ⟨m, hm, hL, h⟩ := h
  exact ⟨m, hm, hL, fun k hk => (h k hk).trans (e k hk)⟩
theorem nn_L0 : nn_L 0 (fun _ => False) := ⟨0, by decide, rfl, fun k _ => by simp⟩
theorem nn_Lall : nn_L (lN (2 ^ 49 - 1)) (fun _ => True) := ⟨2 ^ 49 - 1, by decide, rfl, fun k hk => by rw [Nat.testBit_two_pow_sub_one]; simp [hk]⟩
theorem nn_Lone {j : Nat} (hj : j < 49) : nn_L (lN (2 ^ j)) (fun k => k = j) := by
  refine ⟨2 ^ j, wb_lt2 hj, rfl, fun k _ => ?_⟩
  rw [Nat.testBit_two_pow, decide_eq_true_eq]
  exact ⟨fun h => h.symm, fun h => h.symm⟩
theorem nn_49 {m : Nat} (h : m < 2 ^ 49) : m < 2 ^ 64 := Nat.lt_trans h (by decide)
theorem nn_49' {m : Nat} (h : m < 2 ^ 49) : m < 2 ^ 63 := Nat.lt_trans h (by decide)
theorem nn_Lor {L M : Int64} {A B : Nat → Prop} (h : nn_L L A) (g : nn_L M B) : nn_L (L ||| M) (fun k => A k ∨ B k) := by
  obtain ⟨m, hm, rfl, h⟩ := h
  obtain ⟨q, hq, rfl, g⟩ := g
  refine ⟨m ||| q, Nat.or_lt_two_pow hm hq, wb_or (nn_49 hm) (nn_49 hq), fun k hk => ?_⟩
  rw [Nat.testBit_or, Bool.or_eq_true, h k hk, g k hk]
theorem nn_Land {L M : Int64} {A B : Nat → Prop} (h : nn_L L A) (g : nn_L M B) : nn_L (L &&& M) (fun k => A k ∧ B k) := by
  obtain ⟨m, hm, rfl, h⟩ := h
  obtain ⟨q, hq, rfl, g⟩ := g
  refine ⟨m &&& q, Nat.and_lt_two_pow _ hq, wb_and (nn_49 hm) (nn_49 hq), fun k hk => ?_⟩
  rw [Nat.testBit_and, Bool.and_eq_true, h k hk, g k hk]
theorem nn_Leq {L : Int64} {A : Nat → Prop} (h : nn_L L A) : L = 0 ↔ ∀ k, k < 49 → ¬ A k := by
  obtain ⟨m, hm, rfl, h⟩ := h
  rw [show (0 : Int64) = lN 0 from rfl, pk_lEQ (nn_49' hm) (by decide)]
  constructor
  · intro e k hk z
    rw [← h k hk, e] at z
    simp at z
  · intro z
    refine Classical.byContradiction fun hne => ?_
    obtain ⟨i, hi⟩ := Nat.exists_testBit_of_ne_zero hne
    by_cases h9 : i < 49
    · exact z i h9 ((h i h9).mp hi)
    · have h8 : m < 2 ^ i := Nat.lt_of_lt_of_le hm (Nat.pow_le_pow_right (by decide) (by omega))
      rw [Nat.testBit_lt_two_pow h8] at hi
      cases hi
theorem nn_Lbit {L : Int64} {A : Nat → Prop} {j : Nat} (h : nn_L L A) (hj : j < 49) : (L &&& lN (2 ^ j)) = 0 ↔ ¬ A j := by
  rw [nn_Leq (nn_Land h (nn_Lone hj))]
  constructor
  · intro z a
    exact z j hj ⟨a, rfl⟩
  · intro z k _ y
    exact z (y.2 ▸ y.1)
theorem nn_Lsh {L : Int64} {A : Nat → Prop} {j : Nat} (h : nn_L L A) (hj : j < 49) : ((L.toUInt64 >>> ((nI j).toInt64.toUInt64 &&& Int64.toUInt64 63)).toInt64 &&& 1) = 0 ↔ ¬ A j := by
  obtain ⟨m, hm, rfl, h⟩ := h
  rw [wb_bit (nn_49 hm) (by omega), ← h j hj, show (0 : Int64) = lN 0 from rfl, pk_lEQ (Nat.lt_of_lt_of_le (Nat.mod_lt _ (by decide)) (by decide)) (by decide), Nat.testBit_eq_decide_div_mod_eq, decide_eq_true_eq]
  have := Nat.mod_lt (m / 2 ^ j) (show 2 > 0 by decide)
  generalize m / 2 ^ j % 2 = q at this
  omega
end
section
/-! what a state of the component pictures -/
def nn_cp (e : Nat → Option Nat) (hx hy k : Nat) : Prop := ∃ a c, nn_hd e hx = some a ∧ nn_hd e hy = some c ∧ k = 7 * a + c
theorem nn_ex_s {p : Nat → Prop} {i : Nat} : (∃ c, c < i + 1 ∧ p c) ↔ ((∃ c, c < i ∧ p c) ∨ p i) := by
  constructor
  · intro ⟨c, hc, h⟩
    by_cases e : c = i
    · exact Or.inr (e ▸ h)
    · exact Or.inl ⟨c, by omega, h⟩
  · intro h
    cases h with
    | inl h => obtain ⟨c, hc, h⟩ := h; exact ⟨c, by omega, h⟩
    | inr h => exact ⟨i, by omega, h⟩
theorem nn_ex_0 {p : Nat → Prop} : ¬ ∃ c, c < 0 ∧ p c := fun ⟨_, hc, _⟩ => absurd hc (by omega)
theorem nn_al_s {p : Nat → Prop} {i : Nat} : (∀ c, c < i + 1 → p c) ↔ ((∀ c, c < i → p c) ∧ p i) :=
  ⟨fun h => ⟨fun c hc => h c (by omega), h i (by omega)⟩, fun h c hc => if e : c = i then e ▸ h.2 else h.1 c (by omega)⟩
theorem nn_RA_x {n T P Q : Nat → Nat} {F G : Nat → Nat → Nat} {m hx hy k : Nat} : nn_RA n T P Q F G m hx hy k ↔ ∃ ch, ch < nn_pr n T m 0 ∧ ∃ e, nn_fx n T P Q F G m 0 ch (fun _ => none) = some e ∧ nn_cp e hx hy k := by
  constructor
  · intro ⟨e, hr, hc⟩
    obtain ⟨ch, h1, h2⟩ := (nn_fx_run n T P Q F G m 0 _ e).mpr hr
    exact ⟨ch, h1, e, h2, hc⟩
  · intro ⟨ch, h1, e, h2, hc⟩
    exact ⟨e, (nn_fx_run n T P Q F G m 0 _ e).mp ⟨ch, h1, h2⟩, hc⟩
theorem nn_RA_y {n T P Q : Nat → Nat} {F G : Nat → Nat → Nat} {m hx hy k : Nat} (hn : ∀ i, i < m → n (T i) ≤ 5) (hm : m ≤ 3) : nn_RA n T P Q F G m hx hy k ↔ ∃ p, p < 125 ∧ ∃ e, nn_fy n T P Q F G m 0 p (fun _ => none) = some e ∧ nn_cp e hx hy k := by
  constructor
  · intro ⟨e, hr, hc⟩
    obtain ⟨p, h2⟩ := (nn_fy_run n T P Q F G m hn m 0 _ e (by omega)).mpr hr
    have h1 := nn_fy_lt n T P Q F G m 0 p _ e h2
    have h3 : 5 ^ m ≤ 5 ^ 3 := Nat.pow_le_pow_right (by decide) hm
    exact ⟨p, by omega, e, h2, hc⟩
  · intro ⟨p, h1, e, h2, hc⟩
    exact ⟨e, (nn_fy_run n T P Q F G m hn m 0 _ e (by omega)).mp ⟨p, h2⟩, hc⟩
theorem nn_RA_u {n T P Q : Nat → Nat} {F G : Nat → Nat → Nat} {m hx hy k : Nat} (hs : ¬ (nn_sf P Q m hx ∧ nn_sf P Q m hy)) : ¬ nn_RA n T P Q F G m hx hy k := by
  intro ⟨e, hr, a, c, h1, h2, _⟩
  refine hs ⟨(nn_hd_sf hr).mp ?_, (nn_hd_sf hr).mp ?_⟩
  · rw [h1]; exact fun z => nomatch z
  · rw [h2]; exact fun z => nomatch z
theorem nn_some {α : Type} {x : Option α} (h : x ≠ none) : ∃ a, x = some a := by
  cases x with
  | none => exact absurd rfl h
  | some a => exact ⟨a, rfl⟩
theorem nn_hd_lt {e : Nat → Option Nat} {t a : Nat} (he : nn_ok e) (ht : nn_pt t) (h : nn_hd e t = some a) : a < 7 := by
  unfold nn_hd at h
  unfold nn_pt at ht
  by_cases h1 : t < 20
  · rw [if_pos h1] at h; cases h; omega
  · rw [if_neg h1] at h; exact he _ _ h
/-- a number that is p, as an int -/
def nn_is (x : Int32) (p : Nat → Prop) : Prop := ∃ a, a < 2 ^ 31 ∧ x = nI a ∧ p a
theorem nn_is_e {x : Int32} {p : Nat → Prop} (h : nn_is x p) : x = nI x.toNatClampNeg ∧ p x.toNatClampNeg := by
  obtain ⟨a, ha, rfl, hp⟩ := h
  rw [nI_clamp ha]
  exact ⟨rfl, hp⟩
theorem nn_is_i {p : Nat → Prop} {a : Nat} (ha : a < 2 ^ 31) (hp : p a) : nn_is (nI a) p := ⟨a, ha, rfl, hp⟩
def nn_n (a : Nat → Int32) (t : Nat) : Nat := (a t).toNatClampNeg
def nn_S (a : Nat → Int32) (r i : Nat) : Nat := (a (3 * r + i)).toNatClampNeg
def nn_F (a : Nat → Int32) (c t row : Nat) : Nat := nn_cv c (a (5 * t + row)).toNatClampNeg
def nn_Wt (rc rx ry : Nat → Int32) : Prop := (∀ t, t < 2 → nn_is (rc t) (fun a => a ≤ 5)) ∧ (∀ t, t < 2 → ∀ i, i < nn_n rc t → nn_is (rx (5 * t + i)) nn_pv ∧ nn_is (ry (5 * t + i)) nn_pv)
def nn_Wr (hx hy ac ta ax ay : Nat → Int32) : Prop := (∀ r, r < 2 → nn_is (ac r) (fun a => a ≤ 3) ∧ nn_is (hx r) nn_pt ∧ nn_is (hy r) nn_pt) ∧ (∀ s, s < 6 → nn_is (ta s) (fun a => a < 2) ∧ nn_is (ax s) nn_pt ∧ nn_is (ay s) nn_pt)
def nn_Yt (rc rx ry va : Nat → Int32) : Prop := ∀ t, t < 2 → ∀ i, i < nn_n rc t → va (10 * t + 2 * i) = rx (5 * t + i) ∧ va (10 * t + 2 * i + 1) = ry (5 * t + i)
def nn_Yr (hx hy ax ay he te : Nat → Int32) : Prop := (∀ r, r < 2 → he (2 * r) = hx r ∧ he (2 * r + 1) = hy r) ∧ (∀ s, s < 6 → te (2 * s) = ax s ∧ te (2 * s + 1) = ay s)
def nn_A (R : Nat) (rc rx ry hx hy ac ta ax ay : Nat → Int32) (c k : Nat) : Prop :=
  ∃ r, r < R ∧ nn_RA (nn_n rc) (nn_S ta r) (nn_S ax r) (nn_S ay r) (nn_F rx c) (nn_F ry c) (nn_n ac r) (nn_n hx r) (nn_n hy r) k
def nn_en : Option Nat → Int32
  | none => -1
  | some c => nI c
/-- the array of bindings pictures b -/
def nn_Bd (bd : Nat → Int32) (b : Nat → Option Nat) : Prop := ∀ j, j < 4 → bd j = nn_en (b j)
theorem nn_m1 {a : Nat} (h : a < 2 ^ 31) : ¬ nI a = -1 := by
  intro e
  have := nI_pos' h
  rw [e] at this
  exact absurd this (by decide)
theorem nn_en_m1 {x : Option Nat} (h : ∀ c, x = some c → c < 7) : nn_en x = -1 ↔ x = none := by
  cases x with
  | none => exact ⟨fun _ => rfl, fun _ => rfl⟩
  | some c => exact ⟨fun z => absurd z (nn_m1 (by have := h c rfl; omega)), fun z => nomatch z⟩
theorem nn_en_neg {x : Option Nat} (h : ∀ c, x = some c → c < 7) : nn_en x < 0 ↔ x = none := by
  cases x with
  | none => exact ⟨fun _ => rfl, fun _ => (by decide : (-1 : Int32) < 0)⟩
  | some c => exact ⟨fun z => absurd z (nI_pos (by have := h c rfl; omega)), fun z => nomatch z⟩
theorem nn_en_eq {x : Option Nat} {d : Nat} (h : ∀ c, x = some c → c < 7) (hd : d < 7) : nn_en x = nI d ↔ x = some d := by
  cases x with
  | none => exact ⟨fun z => absurd z.symm (nn_m1 (by omega)), fun z => nomatch z⟩
  | some c =>
    have := h c rfl
    constructor
    · intro z; rw [(nI_eq (by omega) (by omega)).mp z]
    · intro z; cases z; rfl
theorem nn_Bd_set {bd : Nat → Int32} {b : Nat → Option Nat} {j c : Nat} (h : nn_Bd bd b) : nn_Bd (upd bd j (nI c)) (nn_set b j c) := by
  intro i hi
  unfold nn_set
  by_cases e : i = j
  · rw [if_pos e, e, pk_us]; rfl
  · rw [if_neg e, pk_un e]; exact h i hi
/-- a bool of Java's for a proposition -/
def nn_bo (x : Int32) (p : Prop) : Prop := (x = 1 ∧ p) ∨ (x = 0 ∧ ¬ p)
theorem nn_bo_t {p : Prop} (h : p) : nn_bo 1 p := Or.inl ⟨rfl, h⟩
theorem nn_bo_f {p : Prop} (h : ¬ p) : nn_bo 0 p := Or.inr ⟨rfl, h⟩
theorem nn_bo_c {x : Int32} {p q : Prop} (h : nn_bo x p) (e : p ↔ q) : nn_bo x q := by
  cases h with
  | inl h => exact Or.inl ⟨h.1, e.mp h.2⟩
  | inr h => exact Or.inr ⟨h.1, fun z => h.2 (e.mpr z)⟩
theorem nn_bo_0 {x : Int32} {p : Prop} (h : nn_bo x p) : x = 0 ↔ ¬ p := by
  cases h with
  | inl h => exact ⟨fun z => absurd (h.1.symm.trans z) (by decide), fun z => absurd h.2 z⟩
  | inr h => exact ⟨fun _ => h.2, fun _ => h.1⟩
theorem nn_bo_u {x y : Int32} {p : Prop} (h : nn_bo x p) (g : nn_bo y p) : y = x := by
  cases h with
  | inl h =>
    cases g with
    | inl g => rw [h.1, g.1]
    | inr g => exact absurd h.2 g.2
  | inr h =>
    cases g with
    | inl g => exact absurd g.2 h.2
    | inr g => rw [h.1, g.1]
theorem nn_vb0 : vp_nar .boolean 0 = 0 := by decide
theorem nn_vb1 : vp_nar .boolean 1 = 1 := by decide
theorem nn_bo_n {x : Int32} {p : Prop} (h : nn_bo x p) : narrow .boolean (.int x) = .int x := by
  cases h with
  | inl h => rw [h.1]; rfl
  | inr h => rw [h.1]; rfl
/-! numbers -/
theorem nn_a (n d : Nat) (x : Int32) (hx : x = nI d) : nI n + x = nI (n + d) := by rw [hx, nI_add]
theorem nn_vi {x : Int32} {N : Nat} {P : Prop} (n : Nat) (hx : x = nI n) (hn : n < N) (hN : N < 2 ^ 31) (h : P) : vp_in x N ∧ P := ⟨hx ▸ vp_in_nI hn hN, h⟩
theorem nn_at {a : Nat → Int32} {x : Int32} (n : Nat) (hx : x = nI n) (hn : n < 2 ^ 31) : a x.toNatClampNeg = a n := by rw [hx, nI_clamp hn]
theorem nn_l2 (a : Nat) : 2 * nI a = nI (2 * a) := pk_mul 2 a
theorem nn_l3 (a : Nat) : 3 * nI a = nI (3 * a) := pk_mul 3 a
theorem nn_l7 (a : Nat) : 7 * nI a = nI (7 * a) := pk_mul 7 a
theorem nn_l10 (a : Nat) : 10 * nI a = nI (10 * a) := pk_mul 10 a
theorem nn_r3 (a : Nat) : nI a * 3 = nI (3 * a) := by rw [Nat.mul_comm]; exact pk_mul a 3
theorem nn_r5 (a : Nat) : nI a * 5 = nI (5 * a) := by rw [Nat.mul_comm]; exact pk_mul a 5
theorem nn_r7 (a : Nat) : nI a * 7 = nI (7 * a) := by rw [Nat.mul_comm]; exact pk_mul a 7
theorem nn_p2 (a : Nat) : nI a + 2 = nI (a + 2) := nI_add a 2
theorem nn_s10 {a : Nat} (h : 10 ≤ a) : nI a - 10 = nI (a - 10) := pk_sub (b := 10) h
theorem nn_s20 {a : Nat} (h : 20 ≤ a) : nI a - 20 = nI (a - 20) := pk_sub (b := 20) h
theorem nn_d5 {a : Nat} (h : a < 2 ^ 31) : nI a / 5 = nI (a / 5) := pk_div (d := 5) h (by decide) (by decide)
theorem nn_d7 {a : Nat} (h : a < 2 ^ 31) : nI a / 7 = nI (a / 7) := pk_div (d := 7) h (by decide) (by decide)
theorem nn_d10 {a : Nat} (h : a < 2 ^ 31) : nI a / 10 = nI (a / 10) := pk_div (d := 10) h (by decide) (by decide)
theorem nn_d49 {a : Nat} (h : a < 2 ^ 31) : nI a / 49 = nI (a / 49) := pk_div (d := 49) h (by decide) (by decide)
theorem nn_m5 {a : Nat} (h : a < 2 ^ 31) : nI a - nI a / 5 * 5 = nI (a % 5) := pk_rem (d := 5) h (by decide) (by decide)
theorem nn_m7 {a : Nat} (h : a < 2 ^ 31) : nI a - nI a / 7 * 7 = nI (a % 7) := pk_rem (d := 7) h (by decide) (by decide)
theorem nn_m10 {a : Nat} (h : a < 2 ^ 31) : nI a - nI a / 10 * 10 = nI (a % 10) := pk_rem (d := 10) h (by decide) (by decide)
theorem nn_neg20 {a : Nat} (h : a < 20) : nI a - 20 < 0 := pk_sneg (b := 20) (by decide) h
theorem nn_neg10 {a : Nat} (h : a < 10) : nI a - 10 < 0 := pk_sneg (b := 10) (by decide) h
/-- the four kinds of numbers, for any int -/
def nn_V (x : Int32) : Prop := ∃ a, nn_pv a ∧ x = nI a
def nn_M (x : Int32) : Prop := ∃ a, nn_pt a ∧ x = nI a
def nn_U (x : Int32) : Prop := ∃ a, 10 ≤ a ∧ a ≤ 12 ∧ x = nI a
def nn_C (x : Int32) : Prop := ∃ a, a ≤ 3 ∧ x = nI a
def nn_K (x : Int32) : Prop := ∃ a, a < 7 ∧ x = nI a
def nn_D (x : Int32) : Prop := ∃ a, a < 2 ∧ x = nI a
theorem nn_rg (x : Int32) (lo hi : Nat) (hl : lo < 2 ^ 31) (hh : hi < 2 ^ 31) : (nI lo ≤ x ∧ x ≤ nI hi) ↔ ∃ a, lo ≤ a ∧ a ≤ hi ∧ x = nI a := by
  constructor
  · intro ⟨h1, h2⟩
    have h0 : ¬ x < 0 := Int32.not_lt.mpr (Int32.le_trans (nI_pos' hl) h1)
    obtain ⟨j, hj, rfl⟩ := nI_of h0
    exact ⟨j, (nI_leI hl hj).mp h1, (nI_leI hj hh).mp h2, rfl⟩
  · intro ⟨a, h1, h2, e⟩
    rw [e]
    exact ⟨nI_le h1 (by omega), nI_le h2 hh⟩
end
section
/-! what addRow, dropRow and learn do to the tables -/
theorem nn_n_s {rc : Nat → Int32} {t k : Nat} (hk : k < 2 ^ 31) : nn_n (upd rc t (nI k)) t = k := by
  unfold nn_n
  rw [pk_us, nI_clamp hk]
theorem nn_n_n {rc : Nat → Int32} {t s : Nat} {x : Int32} (h : s ≠ t) : nn_n (upd rc t x) s = nn_n rc s := by
  unfold nn_n
  rw [pk_un h]
theorem nn_n_e {rc : Nat → Int32} {t k : Nat} (h : rc t = nI k) (hk : k < 2 ^ 31) : nn_n rc t = k := by
  unfold nn_n
  rw [h, nI_clamp hk]
theorem nn_Wt_n {rc rx ry : Nat → Int32} (h : nn_Wt rc rx ry) {t : Nat} (ht : t < 2) : rc t = nI (nn_n rc t) ∧ nn_n rc t ≤ 5 := nn_is_e (h.1 t ht)
theorem nn_rc_u {rc : Nat → Int32} {t k : Nat} (h : ∀ t, t < 2 → nn_is (rc t) (fun a => a ≤ 5)) (hk : k ≤ 5) : ∀ s, s < 2 → nn_is (upd rc t (nI k) s) (fun a => a ≤ 5) := by
  intro s hs
  by_cases e : s = t
  · rw [e, pk_us]; exact nn_is_i (by omega) hk
  · rw [pk_un e]; exact h s hs
theorem nn_add_W {rc rx ry : Nat → Int32} {t k x y : Nat} (hW : nn_Wt rc rx ry) (ht : t < 2) (hk : nn_n rc t = k) (k5 : k < 5) (hx : nn_pv x) (hy : nn_pv y) :
    nn_Wt (upd rc t (nI (k + 1))) (upd rx (5 * t + k) (nI x)) (upd ry (5 * t + k) (nI y)) := by
  have hx9 := nn_pv_lt hx
  have hy9 := nn_pv_lt hy
  refine ⟨nn_rc_u hW.1 (by omega), fun s hs i hi => ?_⟩
  by_cases e : s = t
  · subst e
    rw [nn_n_s (by omega)] at hi
    by_cases f : i = k
    · subst f
      rw [pk_us, pk_us]
      exact ⟨nn_is_i (by omega) hx, nn_is_i (by omega) hy⟩
    · rw [pk_un (by omega), pk_un (by omega)]
      exact hW.2 s hs i (by omega)
  · rw [nn_n_n e] at hi
    have := (nn_Wt_n hW hs).2
    rw [pk_un (by omega), pk_un (by omega)]
    exact hW.2 s hs i hi
theorem nn_add_Y {rc rx ry va : Nat → Int32} {t k x y : Nat} (hW : nn_Wt rc rx ry) (hY : nn_Yt rc rx ry va) (ht : t < 2) (hk : nn_n rc t = k) (k5 : k < 5) :
    nn_Yt (upd rc t (nI (k + 1))) (upd rx (5 * t + k) (nI x)) (upd ry (5 * t + k) (nI y)) (upd (upd va (10 * t + 2 * k) (nI x)) (10 * t + 2 * k + 1) (nI y)) := by
  intro s hs i hi
  by_cases e : s = t
  · subst e
    rw [nn_n_s (by omega)] at hi
    by_cases f : i = k
    · subst f
      rw [pk_un (by omega), pk_us, pk_us, pk_us, pk_us]
      exact ⟨rfl, rfl⟩
    · rw [pk_un (by omega), pk_un (by omega), pk_un (by omega), pk_un (by omega), pk_un (by omega), pk_un (by omega)]
      exact hY s hs i (by omega)
  · rw [nn_n_n e] at hi
    have := (nn_Wt_n hW hs).2
    rw [pk_un (by omega), pk_un (by omega), pk_un (by omega), pk_un (by omega), pk_un (by omega), pk_un (by omega)]
    exact hY s hs i hi
/-- a run of an array moved down by w -/
def nn_mv (a : Nat → Int32) (f n w : Nat) : Nat → Int32 := fun s => if f ≤ s ∧ s < f + n then a (s + w) else a s
theorem nn_mv_0 {a : Nat → Int32} {f w : Nat} : nn_mv a f 0 w = a := by
  funext s
  exact if_neg (by omega)
theorem nn_mv_i {a : Nat → Int32} {f n w s : Nat} (h1 : f ≤ s) (h2 : s < f + n) : nn_mv a f n w s = a (s + w) := if_pos ⟨h1, h2⟩
theorem nn_mv_o {a : Nat → Int32} {f n w s : Nat} (h : s < f ∨ f + n ≤ s) : nn_mv a f n w s = a s := if_neg (by omega)
theorem nn_mv_s {a : Nat → Int32} {f n w : Nat} (hw : 0 < w) : upd (nn_mv a f n w) (f + n) (nn_mv a f n w (f + n + w)) = nn_mv a f (n + 1) w := by
  funext s
  by_cases e : s = f + n
  · rw [e, pk_us, nn_mv_o (by omega), nn_mv_i (by omega) (by omega)]
  · rw [pk_un e]
    by_cases h : f ≤ s ∧ s < f + n
    · rw [nn_mv_i h.1 h.2, nn_mv_i h.1 (by omega)]
    · rw [nn_mv_o (by omega), nn_mv_o (by omega)]
theorem nn_drop_W {rc rx ry : Nat → Int32} {t k : Nat} (hW : nn_Wt rc rx ry) (ht : t < 2) (hk : nn_n rc t = k + 1) :
    nn_Wt (upd rc t (nI k)) (nn_mv rx (5 * t) k 1) (nn_mv ry (5 * t) k 1) := by
  have hk5 := (nn_Wt_n hW ht).2
  refine ⟨nn_rc_u hW.1 (by omega), fun s hs i hi => ?_⟩
  by_cases e : s = t
  · subst e
    rw [nn_n_s (by omega)] at hi
    rw [nn_mv_i (by omega) (by omega), nn_mv_i (by omega) (by omega)]
    exact hW.2 s hs (i + 1) (by omega)
  · rw [nn_n_n e] at hi
    have := (nn_Wt_n hW hs).2
    rw [nn_mv_o (by omega), nn_mv_o (by omega)]
    exact hW.2 s hs i hi
theorem nn_drop_Y {rc rx ry va : Nat → Int32} {t k : Nat} (hW : nn_Wt rc rx ry) (hY : nn_Yt rc rx ry va) (ht : t < 2) (hk : nn_n rc t = k + 1) :
    nn_Yt (upd rc t (nI k)) (nn_mv rx (5 * t) k 1) (nn_mv ry (5 * t) k 1) (nn_mv va (10 * t) 8 2) := by
  have hk5 := (nn_Wt_n hW ht).2
  intro s hs i hi
  by_cases e : s = t
  · subst e
    rw [nn_n_s (by omega)] at hi
    rw [nn_mv_i (by omega) (by omega), nn_mv_i (by omega) (by omega), nn_mv_i (by omega) (by omega), nn_mv_i (by omega) (by omega)]
    have := hY s hs (i + 1) (by omega)
    rw [show 10 * s + 2 * i + 2 = 10 * s + 2 * (i + 1) by omega, show 10 * s + 2 * i + 1 + 2 = 10 * s + 2 * (i + 1) + 1 by omega]
    exact this
  · rw [nn_n_n e] at hi
    have := (nn_Wt_n hW hs).2
    rw [nn_mv_o (by omega), nn_mv_o (by omega), nn_mv_o (by omega), nn_mv_o (by omega)]
    exact hY s hs i hi
/-- an array in which the places of p hold c -/
noncomputable def nn_pl (a : Nat → Int32) (p : Nat → Prop) (c : Int32) : Nat → Int32 := fun s => match Classical.propDecidable (p s) with | .isTrue _ => c | .isFalse _ => a s
theorem nn_pl_t {a : Nat → Int32} {p : Nat → Prop} {c : Int32} {s : Nat} (h : p s) : nn_pl a p c s = c := by
  unfold nn_pl
  cases Classical.propDecidable (p s) with
  | isTrue _ => rfl
  | isFalse z => exact absurd h z
theorem nn_pl_f {a : Nat → Int32} {p : Nat → Prop} {c : Int32} {s : Nat} (h : ¬ p s) : nn_pl a p c s = a s := by
  unfold nn_pl
  cases Classical.propDecidable (p s) with
  | isTrue z => exact absurd z h
  | isFalse _ => rfl
theorem nn_pl_e {a : Nat → Int32} {p q : Nat → Prop} {c : Int32} (h : ∀ s, p s ↔ q s) : nn_pl a p c = nn_pl a q c := by
  funext s
  by_cases e : p s
  · rw [nn_pl_t e, nn_pl_t ((h s).mp e)]
  · rw [nn_pl_f e, nn_pl_f (fun z => e ((h s).mpr z))]
theorem nn_pl_0 {a : Nat → Int32} {p : Nat → Prop} {c : Int32} (h : ∀ s, ¬ p s) : nn_pl a p c = a := by
  funext s
  exact nn_pl_f (h s)
theorem nn_pl_u {a : Nat → Int32} {p q : Nat → Prop} {c : Int32} {j : Nat} (h : ∀ s, q s ↔ (p s ∨ s = j)) : upd (nn_pl a p c) j c = nn_pl a q c := by
  funext s
  by_cases e : s = j
  · rw [e, pk_us, nn_pl_t ((h j).mpr (Or.inr rfl))]
  · rw [pk_un e]
    by_cases f : p s
    · rw [nn_pl_t f, nn_pl_t ((h s).mpr (Or.inl f))]
    · rw [nn_pl_f f, nn_pl_f (fun z => ((h s).mp z).elim f e)]
/-- the places of the reference's table that learn fills -/
def nn_ht (rc va : Nat → Int32) (U : Int32) (j : Nat) : Prop := j % 10 < 2 * nn_n rc (j / 10) ∧ va j = U
/-- .. and of the component's, by column -/
def nn_hx (rc rx : Nat → Int32) (U : Int32) (s : Nat) : Prop := s % 5 < nn_n rc (s / 5) ∧ rx s = U
noncomputable def nn_lc (rc va : Nat → Int32) (U : Int32) (j : Nat) : Nat := nn_cn (nn_ht rc va U) (fun i => Classical.propDecidable _) j
theorem nn_lc_t {rc va : Nat → Int32} {U : Int32} {j : Nat} (h : nn_ht rc va U j) : nn_lc rc va U (j + 1) = nn_lc rc va U j + 1 := nn_cn_t h
theorem nn_lc_f {rc va : Nat → Int32} {U : Int32} {j : Nat} (h : ¬ nn_ht rc va U j) : nn_lc rc va U (j + 1) = nn_lc rc va U j := nn_cn_f h
theorem nn_lc_le {rc va : Nat → Int32} {U : Int32} : ∀ j, nn_lc rc va U j ≤ j := by
  intro j
  induction j with
  | zero => exact Nat.le_refl 0
  | succ j ih =>
    by_cases h : nn_ht rc va U j
    · rw [nn_lc_t h]; omega
    · rw [nn_lc_f h]; omega
theorem nn_lc_gap {rc va : Nat → Int32} {U : Int32} {t : Nat} : ∀ d, 2 * nn_n rc t + d ≤ 10 → nn_lc rc va U (10 * t + 2 * nn_n rc t + d) = nn_lc rc va U (10 * t + 2 * nn_n rc t) := by
  intro d
  induction d with
  | zero => exact fun _ => rfl
  | succ d ih =>
    intro h
    have hh : ¬ nn_ht rc va U (10 * t + 2 * nn_n rc t + d) := by
      intro z
      have z1 := z.1
      rw [show (10 * t + 2 * nn_n rc t + d) / 10 = t by omega] at z1
      omega
    rw [show 10 * t + 2 * nn_n rc t + (d + 1) = 10 * t + 2 * nn_n rc t + d + 1 by omega, nn_lc_f hh]
    exact ih (by omega)
theorem nn_lc_next {rc va : Nat → Int32} {U : Int32} {t : Nat} (h : nn_n rc t ≤ 5) : nn_lc rc va U (10 * (t + 1)) = nn_lc rc va U (10 * t + 2 * nn_n rc t) := by
  rw [← nn_lc_gap (rc := rc) (va := va) (U := U) (t := t) (10 - 2 * nn_n rc t) (by omega)]
  congr 1
  omega
theorem nn_learn_is {rc rx : Nat → Int32} {U : Int32} {C s : Nat} (hC : C ≤ 3) (h : nn_is (rx s) nn_pv) : nn_is (nn_pl rx (nn_hx rc rx U) (nI C) s) nn_pv := by
  by_cases e : nn_hx rc rx U s
  · rw [nn_pl_t e]; exact nn_is_i (by omega) (Or.inl hC)
  · rw [nn_pl_f e]; exact h
theorem nn_learn_W {rc rx ry : Nat → Int32} {U : Int32} {C : Nat} (hW : nn_Wt rc rx ry) (hC : C ≤ 3) :
    nn_Wt rc (nn_pl rx (nn_hx rc rx U) (nI C)) (nn_pl ry (nn_hx rc ry U) (nI C)) :=
  ⟨hW.1, fun s hs i hi => ⟨nn_learn_is hC (hW.2 s hs i hi).1, nn_learn_is hC (hW.2 s hs i hi).2⟩⟩
theorem nn_learn_1 {rc rx va : Nat → Int32} {U c : Int32} {s j : Nat} (e : va j = rx s) (h1 : s % 5 < nn_n rc (s / 5)) (h2 : j % 10 < 2 * nn_n rc (j / 10)) : nn_pl va (nn_ht rc va U) c j = nn_pl rx (nn_hx rc rx U) c s := by
  by_cases h : rx s = U
  · rw [nn_pl_t (show nn_hx rc rx U s from ⟨h1, h⟩), nn_pl_t (show nn_ht rc va U j from ⟨h2, e.trans h⟩)]
  · rw [nn_pl_f (fun z : nn_hx rc rx U s => h z.2), nn_pl_f (fun z : nn_ht rc va U j => h (e.symm.trans z.2)), e]
theorem nn_learn_Y {rc rx ry va : Nat → Int32} {U c : Int32} (hW : nn_Wt rc rx ry) (hY : nn_Yt rc rx ry va) :
    nn_Yt rc (nn_pl rx (nn_hx rc rx U) c) (nn_pl ry (nn_hx rc ry U) c) (nn_pl va (nn_ht rc va U) c) := by
  intro t ht i hi
  have h5 := (nn_Wt_n hW ht).2
  have y := hY t ht i hi
  have d1 : (5 * t + i) / 5 = t := by omega
  have d2 : (10 * t + 2 * i) / 10 = t := by omega
  have d3 : (10 * t + 2 * i + 1) / 10 = t := by omega
  exact ⟨nn_learn_1 y.1 (by rw [d1]; omega) (by rw [d2]; omega), nn_learn_1 y.2 (by rw [d1]; omega) (by rw [d3]; omega)⟩
end
section
/-! the walks of the component's queries -/
theorem nn_10 : ¬ (1 : Int32) = 0 := by decide
theorem nn_gr (x : Int32) (lo hi : Nat) (hl : lo < 2 ^ 31) (hh : hi < 2 ^ 31) : (¬ x < nI lo ∧ ¬ nI hi < x) ↔ ∃ a, lo ≤ a ∧ a ≤ hi ∧ x = nI a := by
  rw [Int32.not_lt, Int32.not_lt]
  exact nn_rg x lo hi hl hh
theorem nn_Wr_m {qx qy ac ta ax ay : Nat → Int32} (h : nn_Wr qx qy ac ta ax ay) {r : Nat} (hr : r < 2) : ac r = nI (nn_n ac r) ∧ nn_n ac r ≤ 3 := nn_is_e (h.1 r hr).1
theorem nn_Wr_x {qx qy ac ta ax ay : Nat → Int32} (h : nn_Wr qx qy ac ta ax ay) {r : Nat} (hr : r < 2) : qx r = nI (nn_n qx r) ∧ nn_pt (nn_n qx r) := nn_is_e (h.1 r hr).2.1
theorem nn_Wr_y {qx qy ac ta ax ay : Nat → Int32} (h : nn_Wr qx qy ac ta ax ay) {r : Nat} (hr : r < 2) : qy r = nI (nn_n qy r) ∧ nn_pt (nn_n qy r) := nn_is_e (h.1 r hr).2.2
theorem nn_Wr_t {qx qy ac ta ax ay : Nat → Int32} (h : nn_Wr qx qy ac ta ax ay) {r i : Nat} (hr : r < 2) (hi : i < 3) : ta (3 * r + i) = nI (nn_S ta r i) ∧ nn_S ta r i < 2 := nn_is_e (h.2 (3 * r + i) (by omega)).1
theorem nn_Wr_a {qx qy ac ta ax ay : Nat → Int32} (h : nn_Wr qx qy ac ta ax ay) {r i : Nat} (hr : r < 2) (hi : i < 3) : ax (3 * r + i) = nI (nn_S ax r i) ∧ nn_pt (nn_S ax r i) := nn_is_e (h.2 (3 * r + i) (by omega)).2.1
theorem nn_Wr_b {qx qy ac ta ax ay : Nat → Int32} (h : nn_Wr qx qy ac ta ax ay) {r i : Nat} (hr : r < 2) (hi : i < 3) : ay (3 * r + i) = nI (nn_S ay r i) ∧ nn_pt (nn_S ay r i) := nn_is_e (h.2 (3 * r + i) (by omega)).2.2
section
variable {rC : Int32} {rc rx ry qx qy ac ta ax ay gi fu fv bd : Nat → Int32}
theorem nn_xcd {post : Int32 → Prop} {c : Nat} {p : Int32} (hg : ∀ i, i < 3 → gi i = nI (nn_dg c i)) (h : ∀ r, (∀ v, nn_pv v → p = nI v → r = nI (nn_cv c v)) → post r) : wpX_completed post (rC, rc, rx, ry, qx, qy, ac, ta, ax, ay, gi, fu, fv, bd) p := by
  intro x ex
  by_cases h0 : x < 0
  · refine br_t h0 (h p fun v hv e => ?_)
    have hv9 := nn_pv_lt hv
    have h10 : ¬ 10 ≤ v := fun z => by
      rw [ex, e, nn_s10 z] at h0
      exact nI_pos (by omega) h0
    rw [e]
    unfold nn_cv
    rw [if_neg h10]
  · refine br_f h0 ?_
    by_cases h3 : 3 ≤ x
    · refine br_t h3 (h p fun v hv e => ?_)
      have hv9 := nn_pv_lt hv
      by_cases z : 10 ≤ v
      · rw [ex, e, nn_s10 z] at h3
        exact absurd h3 (nI_ge (b := 3) (by omega) (by decide))
      · rw [ex, e] at h0
        exact absurd (nn_neg10 (by omega)) h0
    · refine br_f h3 ?_
      obtain ⟨j, hj, rfl⟩ := nI_of h0
      have j3 : j < 3 := by
        have h3 : ¬ nI 3 ≤ nI j := h3
        rw [nI_leI (by decide) hj] at h3
        omega
      refine ⟨vp_in_nI j3 (by decide), ?_⟩
      rw [nI_clamp hj, hg j j3]
      refine h _ fun v hv e => ?_
      have hv9 := nn_pv_lt hv
      by_cases z : 10 ≤ v
      · rw [e, nn_s10 z, nI_eq hj (by omega)] at ex
        unfold nn_cv
        rw [if_pos z, ex]
      · rw [ex, e] at h0
        exact absurd (nn_neg10 (by omega)) h0
/-- what completeTables leaves in a slot -/
def nn_Fs (c : Nat) (rx fu : Nat → Int32) (s : Nat) : Prop := ∀ v, nn_pv v → rx s = nI v → fu s = nI (nn_cv c v)
theorem nn_Fs_u {c s i : Nat} {x : Int32} (h : nn_Fs c rx fu s) (e : s ≠ i) : nn_Fs c rx (upd fu i x) s := fun v hv ev => (pk_un e).trans (h v hv ev)
theorem nn_x32 {post : SX → Prop} {c : Nat} (hg : ∀ i, i < 3 → gi i = nI (nn_dg c i)) (h : ∀ fu fv, (∀ s, s < 10 → nn_Fs c rx fu s ∧ nn_Fs c ry fv s) → post (rC, rc, rx, ry, qx, qy, ac, ta, ax, ay, gi, fu, fv, bd)) :
    ∀ (n i : Nat) (fu fv : Nat → Int32), i ≤ 10 → 10 < n + i → (∀ s, s < i → nn_Fs c rx fu s ∧ nn_Fs c ry fv s) → wX_completeTables_32 post rC n (nI i) rc rx ry qx qy ac ta ax ay gi fu fv bd := by
  intro n
  induction n with
  | zero => intro i fu fv h1 h2; omega
  | succ n ih =>
    intro i fu fv h1 h2 hI
    refine pk_le 10 i (fun hi => ?_) (fun hi => ?_)
    · exact h fu fv (fun s hs => hI s (by omega))
    · have hc : (nI i).toNatClampNeg = i := nI_clamp (by omega)
      refine ⟨vp_in_nI hi (by decide), nn_xcd hg fun r hr => ⟨vp_in_nI hi (by decide), nm_e ⟨vp_in_nI hi (by decide), nn_xcd hg fun r' hr' => ⟨vp_in_nI hi (by decide), nm_e (nm_r (nI_1 i) ?_)⟩⟩⟩⟩
      rw [hc] at hr hr' ⊢
      refine ih (i + 1) _ _ (by omega) (by omega) fun s hs => ?_
      by_cases e : s = i
      · subst e
        exact ⟨fun v hv ev => pk_us.trans (hr v hv ev), fun v hv ev => pk_us.trans (hr' v hv ev)⟩
      · have := hI s (by omega)
        exact ⟨nn_Fs_u this.1 e, nn_Fs_u this.2 e⟩
theorem nn_x4 {post : SX → Prop} {c : Nat} (hc : c < 343) (h : ∀ gi fu fv, (∀ s, s < 10 → nn_Fs c rx fu s ∧ nn_Fs c ry fv s) → post (rC, rc, rx, ry, qx, qy, ac, ta, ax, ay, gi, fu, fv, bd)) :
    ∀ (n i : Nat) (gi : Nat → Int32), i ≤ 3 → 3 < n + i → (∀ j, j < i → gi j = nI (nn_dg c j)) → wX_completeTables_4 post rC n (nI (nn_q c i)) (nI i) rc rx ry qx qy ac ta ax ay gi fu fv bd := by
  intro n
  induction n with
  | zero => intro i gi h1 h2; omega
  | succ n ih =>
    intro i gi h1 h2 hI
    have hq := nn_q_le c i
    refine pk_le 3 i (fun hi => ?_) (fun hi => ?_)
    · exact ⟨11, nn_x32 (fun j hj => hI j (by omega)) (h gi) 11 0 fu fv (by omega) (by omega) (fun s hs => absurd hs (by omega))⟩
    · refine ⟨by decide, vp_in_nI hi (by decide), nm_e ⟨by decide, nm_r (nn_d7 (by omega)) (nm_r (nI_1 i) ?_)⟩⟩
      rw [nI_clamp (by omega), nn_m7 (by omega)]
      refine ih (i + 1) _ (by omega) (by omega) fun j hj => ?_
      by_cases e : j = i
      · subst e; exact pk_us
      · exact (pk_un e).trans (hI j (by omega))
theorem nn_xct {post : SX → Prop} {c : Nat} (hc : c < 343) (h : ∀ gi fu fv, (∀ s, s < 10 → nn_Fs c rx fu s ∧ nn_Fs c ry fv s) → post (rC, rc, rx, ry, qx, qy, ac, ta, ax, ay, gi, fu, fv, bd)) : wpX_completeTables post (rC, rc, rx, ry, qx, qy, ac, ta, ax, ay, gi, fu, fv, bd) (nI c) :=
  ⟨4, nn_x4 hc h 4 0 gi (by omega) (by omega) (fun j hj => absurd hj (by omega))⟩
theorem nn_xst10 {post : Int32 → Prop} {r t : Nat} (hr : r < 2) (hW : nn_Wr qx qy ac ta ax ay) (ht : nn_pt t) (h1 : nn_sf (nn_S ax r) (nn_S ay r) (nn_n ac r) t → post 1) (h0 : (∀ a, a < nn_n ac r → nn_S ax r a ≠ t ∧ nn_S ay r a ≠ t) → post 0) :
    ∀ (n i : Nat), i ≤ nn_n ac r → nn_n ac r < n + i → (∀ a, a < i → nn_S ax r a ≠ t ∧ nn_S ay r a ≠ t) → wX_isSafeTerm_10 post (nI r) (nI t) rC rc rx ry qx qy ac ta ax ay gi fu fv bd n (nI i) := by
  have hm := nn_Wr_m hW hr
  have ht9 := nn_pt_lt ht
  intro n
  induction n with
  | zero => intro i h1 h2; omega
  | succ n ih =>
    intro i h1' h2 hI
    refine ⟨vp_in_nI hr (by decide), pk_le (nn_n ac r) i (fun hi => ?_) (fun hi => ?_) (by rw [nI_clamp (by omega)]; exact hm.1)⟩
    · exact h0 (fun a ha => hI a (by omega))
    · have hx := nn_Wr_a hW hr (i := i) (by omega)
      have hy := nn_Wr_b hW hr (i := i) (by omega)
      have hx9 := nn_pt_lt hx.2
      have hy9 := nn_pt_lt hy.2
      refine nm_r (by rw [nn_r3, nI_add]) ⟨vp_in_nI (by omega) (by decide), ?_⟩
      rw [nI_clamp (by omega)]
      refine pk_eq (nn_S ax r i) t (fun e => ?_) (fun e => ?_) hx.1
      · exact h1 (Or.inr ⟨i, hi, Or.inl e⟩)
      · refine ⟨vp_in_nI (by omega) (by decide), pk_eq (nn_S ay r i) t (fun e2 => ?_) (fun e2 => ?_) hy.1⟩
        · exact h1 (Or.inr ⟨i, hi, Or.inr e2⟩)
        · refine nm_r (nI_1 i) (ih (i + 1) (by omega) (by omega) fun a ha => ?_)
          by_cases e3 : a = i
          · rw [e3]; exact ⟨e, e2⟩
          · exact hI a (by omega)
theorem nn_xst {post : Int32 → Prop} {r t : Nat} (hr : r < 2) (hW : nn_Wr qx qy ac ta ax ay) (ht : nn_pt t) (h1 : nn_sf (nn_S ax r) (nn_S ay r) (nn_n ac r) t → post 1) (h0 : ¬ nn_sf (nn_S ax r) (nn_S ay r) (nn_n ac r) t → post 0) : wpX_isSafeTerm post (rC, rc, rx, ry, qx, qy, ac, ta, ax, ay, gi, fu, fv, bd) (nI r) (nI t) := by
  have ht9 := nn_pt_lt ht
  refine pk_le 20 t (fun h => ?_) (fun h => ?_)
  · refine ⟨nn_n ac r + 1, nn_xst10 hr hW ht h1 (fun z => h0 fun y => ?_) _ 0 (by omega) (by omega) (fun a ha => absurd ha (by omega))⟩
    cases y with
    | inl y => omega
    | inr y =>
      obtain ⟨a, ha, y⟩ := y
      have := z a ha
      cases y with
      | inl y => exact this.1 y
      | inr y => exact this.2 y
  · exact h1 (Or.inl h)
def nn_safe (qx qy ac ax ay : Nat → Int32) (r : Nat) : Prop := nn_sf (nn_S ax r) (nn_S ay r) (nn_n ac r) (nn_n qx r) ∧ nn_sf (nn_S ax r) (nn_S ay r) (nn_n ac r) (nn_n qy r)
theorem nn_xsf {post : Int32 → Prop} {r : Nat} (hr : r < 2) (hW : nn_Wr qx qy ac ta ax ay) (h1 : nn_safe qx qy ac ax ay r → post 1) (h0 : ¬ nn_safe qx qy ac ax ay r → post 0) : wpX_isSafe post (rC, rc, rx, ry, qx, qy, ac, ta, ax, ay, gi, fu, fv, bd) (nI r) := by
  refine ⟨vp_in_nI hr (by decide), ?_⟩
  rw [nI_clamp (by omega), (nn_Wr_x hW hr).1, (nn_Wr_y hW hr).1]
  refine nn_xst hr hW (nn_Wr_x hW hr).2 (fun s1 => br_f nn_10 ⟨vp_in_nI hr (by decide), ?_⟩) (fun s1 => br_t rfl (h0 fun z => s1 z.1))
  exact nn_xst hr hW (nn_Wr_y hW hr).2 (fun s2 => br_f nn_10 (h1 ⟨s1, s2⟩)) (fun s2 => br_t rfl (h0 fun z => s2 z.2))
theorem nn_xro {post : Int32 → Prop} {t : Nat} (ht : t < 2) (hW : nn_Wt rc rx ry) (h : post (nI (nn_n rc t))) : wpX_rowsOf post (rC, rc, rx, ry, qx, qy, ac, ta, ax, ay, gi, fu, fv, bd) (nI t) := by
  refine br_f (nI_pos (by omega)) (br_f (nI_ge (b := 2) ht (by decide)) ⟨vp_in_nI ht (by decide), ?_⟩)
  rw [nI_clamp (by omega), (nn_Wt_n hW ht).1]
  exact h
theorem nn_pr_le {n T : Nat → Nat} {M : Nat} (hn : ∀ i, i < M → n (T i) ≤ 5) : ∀ d i, i + d ≤ M → nn_pr n T d i ≤ 5 ^ d := by
  intro d
  induction d with
  | zero => exact fun i _ => Nat.le_refl 1
  | succ d ih =>
    intro i h
    have h1 := ih (i + 1) (by omega)
    have h2 := hn i (by omega)
    rw [Nat.pow_succ, Nat.mul_comm]
    exact Nat.mul_le_mul h2 h1
theorem nn_xrc4 {post : Int32 → Prop} {r : Nat} (hr : r < 2) (hW : nn_Wt rc rx ry) (hR : nn_Wr qx qy ac ta ax ay) (h : post (nI (nn_pr (nn_n rc) (nn_S ta r) (nn_n ac r) 0))) :
    ∀ (n i q : Nat), i ≤ nn_n ac r → nn_n ac r < n + i → q * nn_pr (nn_n rc) (nn_S ta r) (nn_n ac r - i) i = nn_pr (nn_n rc) (nn_S ta r) (nn_n ac r) 0 → wX_rowChoices_4 post (nI r) rC rc rx ry qx qy ac ta ax ay gi fu fv bd n (nI q) (nI i) := by
  have hm := nn_Wr_m hR hr
  intro n
  induction n with
  | zero => intro i q h1 h2; omega
  | succ n ih =>
    intro i q h1 h2 hI
    refine ⟨vp_in_nI hr (by decide), pk_le (nn_n ac r) i (fun hi => ?_) (fun hi => ?_) (by rw [nI_clamp (by omega)]; exact hm.1)⟩
    · rw [show nn_n ac r - i = 0 by omega] at hI
      have hI : q * 1 = _ := hI
      rw [Nat.mul_one] at hI
      rw [hI]; exact h
    · have ht := nn_Wr_t hR hr (i := i) (by omega)
      rw [nn_r3, nI_add]
      refine ⟨vp_in_nI (by omega) (by decide), ?_⟩
      rw [nI_clamp (by omega), ht.1]
      refine nn_xro ht.2 hW (nm_r (pk_mul _ _) (nm_r (nI_1 i) (ih (i + 1) _ (by omega) (by omega) ?_)))
      rw [← hI, Nat.mul_assoc, show nn_n ac r - i = (nn_n ac r - (i + 1)) + 1 by omega]
      rfl
theorem nn_xrc {post : Int32 → Prop} {r : Nat} (hr : r < 2) (hW : nn_Wt rc rx ry) (hR : nn_Wr qx qy ac ta ax ay) (h : post (nI (nn_pr (nn_n rc) (nn_S ta r) (nn_n ac r) 0))) : wpX_rowChoices post (rC, rc, rx, ry, qx, qy, ac, ta, ax, ay, gi, fu, fv, bd) (nI r) :=
  ⟨nn_n ac r + 1, nn_xrc4 hr hW hR h _ 0 1 (by omega) (by omega) (by rw [Nat.one_mul]; rfl)⟩
end
end
section
/-! the component's queries against the picture -/
section
variable {n T P Q : Nat → Nat} {F G : Nat → Nat → Nat} {d i rest : Nat} {b e1 e2 : Nat → Option Nat}
theorem nn_fx_s0 (h : n (T i) = 0) : nn_fx n T P Q F G (d + 1) i rest b = none := if_pos h
theorem nn_fx_s1 (h1 : nn_ag b (P i) (F (T i) (rest % n (T i))) = none) : nn_fx n T P Q F G (d + 1) i rest b = none := by
  show (if n (T i) = 0 then none else (nn_st T P Q F G i (rest % n (T i)) b).bind fun b1 => nn_fx n T P Q F G d (i + 1) (rest / n (T i)) b1) = none
  unfold nn_st
  rw [h1]
  split <;> rfl
theorem nn_fx_s2 (h1 : nn_ag b (P i) (F (T i) (rest % n (T i))) = some e1) (h2 : nn_ag e1 (Q i) (G (T i) (rest % n (T i))) = none) : nn_fx n T P Q F G (d + 1) i rest b = none := by
  show (if n (T i) = 0 then none else (nn_st T P Q F G i (rest % n (T i)) b).bind fun b1 => nn_fx n T P Q F G d (i + 1) (rest / n (T i)) b1) = none
  unfold nn_st
  rw [h1, Option.bind_some, h2]
  split <;> rfl
theorem nn_fx_s3 (h : n (T i) ≠ 0) (h1 : nn_ag b (P i) (F (T i) (rest % n (T i))) = some e1) (h2 : nn_ag e1 (Q i) (G (T i) (rest % n (T i))) = some e2) : nn_fx n T P Q F G (d + 1) i rest b = nn_fx n T P Q F G d (i + 1) (rest / n (T i)) e2 := by
  show (if n (T i) = 0 then none else (nn_st T P Q F G i (rest % n (T i)) b).bind fun b1 => nn_fx n T P Q F G d (i + 1) (rest / n (T i)) b1) = _
  unfold nn_st
  rw [h1, Option.bind_some, h2, Option.bind_some, if_neg h]
end
section
variable {rC : Int32} {rc rx ry qx qy ac ta ax ay gi fu fv bd : Nat → Int32}
theorem nn_xag {post : Int32 → SX → Prop} {t c : Nat} {b : Nat → Option Nat} (ht : nn_pt t) (hc : c < 7) (hb : nn_ok b) (hB : nn_Bd bd b)
    (h1 : ∀ e bd, nn_ag b t c = some e → nn_Bd bd e → post 1 (rC, rc, rx, ry, qx, qy, ac, ta, ax, ay, gi, fu, fv, bd)) (h0 : nn_ag b t c = none → post 0 (rC, rc, rx, ry, qx, qy, ac, ta, ax, ay, gi, fu, fv, bd)) : wpX_agrees post (rC, rc, rx, ry, qx, qy, ac, ta, ax, ay, gi, fu, fv, bd) (nI t) (nI c) := by
  have ht9 := nn_pt_lt ht
  by_cases h : t < 20
  · refine nm_e (br_t (nn_neg20 h) ?_)
    refine pk_eq t c (fun e => h1 b bd ?_ hB) (fun e => h0 ?_)
    · unfold nn_ag; rw [if_pos h, if_pos e]
    · unfold nn_ag; rw [if_pos h, if_neg e]
  · have hcl : (nI (t - 20)).toNatClampNeg = t - 20 := nI_clamp (by omega)
    have hin : vp_in (nI (t - 20)) 4 := vp_in_nI (by omega) (by decide)
    refine nm_r (nn_s20 (by omega)) (br_f (nI_pos (by omega)) (br_t (nI_lt (b := 4) (by omega) (by decide)) ⟨hin, ?_⟩))
    rw [hcl]
    have hj : bd (t - 20) = nn_en (b (t - 20)) := hB _ (by omega)
    have hk := hb (t - 20)
    by_cases h2 : b (t - 20) = none
    · refine br_t (by rw [hj, h2]; rfl) ⟨hin, nm_e ⟨hin, br_t (by rw [hcl, pk_us]) (h1 (nn_set b (t - 20) c) _ ?_ (nn_Bd_set hB))⟩⟩
      unfold nn_ag
      rw [if_neg h, if_pos h2]
    · refine br_f (by rw [hj, nn_en_m1 hk]; exact h2) ⟨hin, ?_⟩
      rw [hcl, hj, nn_en_eq hk hc]
      by_cases h3 : b (t - 20) = some c
      · refine br_t h3 (h1 b bd ?_ hB)
        unfold nn_ag; rw [if_neg h, if_neg h2, if_pos h3]
      · refine br_f h3 (h0 ?_)
        unfold nn_ag; rw [if_neg h, if_neg h2, if_neg h3]
theorem nn_full {c t i : Nat} (hW : nn_Wt rc rx ry) (hF : ∀ s, s < 10 → nn_Fs c rx fu s ∧ nn_Fs c ry fv s) (ht : t < 2) (hi : i < nn_n rc t) :
    (fu (5 * t + i) = nI (nn_F rx c t i) ∧ nn_F rx c t i < 7) ∧ (fv (5 * t + i) = nI (nn_F ry c t i) ∧ nn_F ry c t i < 7) := by
  have h5 := (nn_Wt_n hW ht).2
  have hx := nn_is_e (hW.2 t ht i hi).1
  have hy := nn_is_e (hW.2 t ht i hi).2
  have hf := hF (5 * t + i) (by omega)
  exact ⟨⟨hf.1 _ hx.2 hx.1, nn_cv_lt hx.2⟩, ⟨hf.2 _ hy.2 hy.1, nn_cv_lt hy.2⟩⟩
theorem nn_xf25 {post : Int32 → SX → Prop} {r c : Nat} (hr : r < 2) (hW : nn_Wt rc rx ry) (hR : nn_Wr qx qy ac ta ax ay) (hF : ∀ s, s < 10 → nn_Fs c rx fu s ∧ nn_Fs c ry fv s) :
    ∀ (d n i rest : Nat) (b : Nat → Option Nat) (bd : Nat → Int32), i + d = nn_n ac r → d < n → rest < 2 ^ 31 → nn_ok b → nn_Bd bd b →
      (∀ e bd, nn_fx (nn_n rc) (nn_S ta r) (nn_S ax r) (nn_S ay r) (nn_F rx c) (nn_F ry c) d i rest b = some e → nn_Bd bd e → post 1 (rC, rc, rx, ry, qx, qy, ac, ta, ax, ay, gi, fu, fv, bd)) →
      (nn_fx (nn_n rc) (nn_S ta r) (nn_S ax r) (nn_S ay r) (nn_F rx c) (nn_F ry c) d i rest b = none → ∀ bd, post 0 (rC, rc, rx, ry, qx, qy, ac, ta, ax, ay, gi, fu, fv, bd)) →
      wX_fits_25 post (nI r) n (nI rest) (nI i) rC rc rx ry qx qy ac ta ax ay gi fu fv bd := by
  have hm := nn_Wr_m hR hr
  intro d
  induction d with
  | zero =>
    intro n i rest b bd hd hn hr9 hb hB h1 h0
    obtain ⟨n, rfl⟩ : ∃ k, n = k + 1 := ⟨n - 1, by omega⟩
    refine ⟨vp_in_nI hr (by decide), pk_le (nn_n ac r) i (fun hi => ?_) (fun hi => absurd hi (by omega)) (by rw [nI_clamp (by omega)]; exact hm.1)⟩
    exact h1 b bd rfl hB
  | succ d ih =>
    intro n i rest b bd hd hn hr9 hb hB h1 h0
    obtain ⟨n, rfl⟩ : ∃ k, n = k + 1 := ⟨n - 1, by omega⟩
    have hx := nn_Wr_a hR hr (i := i) (by omega)
    have hy := nn_Wr_b hR hr (i := i) (by omega)
    have ht := nn_Wr_t hR hr (i := i) (by omega)
    have h5 := (nn_Wt_n hW ht.2).2
    have hin : vp_in (nI (3 * r + i)) 6 := vp_in_nI (by omega) (by decide)
    have hcl : (nI (3 * r + i)).toNatClampNeg = 3 * r + i := nI_clamp (by omega)
    refine ⟨vp_in_nI hr (by decide), pk_le (nn_n ac r) i (fun hi => absurd hi (by omega)) (fun hi => ?_) (by rw [nI_clamp (by omega)]; exact hm.1)⟩
    refine nm_r (by rw [nn_r3, nI_add]) ⟨hin, nm_r (by rw [hcl]; exact ht.1) (nn_xro ht.2 hW ?_)⟩
    refine pk_eq (nn_n rc (nn_S ta r i)) 0 (fun hz => h0 (nn_fx_s0 hz) bd) (fun hz => ?_)
    have hne : ¬ nI (nn_n rc (nn_S ta r i)) = 0 := nI_ne0 (by omega) (by omega)
    have hrow : rest % nn_n rc (nn_S ta r i) < nn_n rc (nn_S ta r i) := Nat.mod_lt _ (by omega)
    have hf := nn_full hW hF ht.2 hrow
    have ht2 := ht.2
    have hin2 : vp_in (nI (5 * nn_S ta r i + rest % nn_n rc (nn_S ta r i))) 10 := vp_in_nI (by omega) (by decide)
    have hcl2 : (nI (5 * nn_S ta r i + rest % nn_n rc (nn_S ta r i))).toNatClampNeg = 5 * nn_S ta r i + rest % nn_n rc (nn_S ta r i) := nI_clamp (by omega)
    refine ⟨hne, nm_r (by rw [pk_rem hr9 (by omega) (by omega), nn_r5, nI_add]) ⟨hne, nm_r (pk_div hr9 (by omega) (by omega)) ⟨hin, hin2, ?_⟩⟩⟩
    rw [hcl, hcl2, hx.1, hf.1.1]
    refine nn_xag hx.2 hf.1.2 hb hB (fun e1 bd a1 hB1 => br_f nn_10 ⟨hin, hin2, ?_⟩) (fun a1 => br_t rfl (h0 (nn_fx_s1 a1) bd))
    rw [hy.1, hf.2.1]
    have hok := nn_ag_ok hb hf.1.2 a1
    refine nn_xag hy.2 hf.2.2 hok hB1 (fun e2 bd a2 hB2 => br_f nn_10 (nm_r (nI_1 i) ?_)) (fun a2 => br_t rfl (h0 (nn_fx_s2 a1 a2) bd))
    have es := nn_fx_s3 (n := nn_n rc) (T := nn_S ta r) (P := nn_S ax r) (Q := nn_S ay r) (F := nn_F rx c) (G := nn_F ry c) (d := d) (i := i) hz a1 a2
    rw [es] at h1 h0
    exact ih n (i + 1) _ e2 bd (by omega) (by omega) (Nat.lt_of_le_of_lt (Nat.div_le_self _ _) hr9) (nn_ag_ok hok hf.2.2 a2) hB2 h1 h0
def nn_fX (rc rx ry ac ta ax ay : Nat → Int32) (c r ch : Nat) : Option (Nat → Option Nat) := nn_fx (nn_n rc) (nn_S ta r) (nn_S ax r) (nn_S ay r) (nn_F rx c) (nn_F ry c) (nn_n ac r) 0 ch (fun _ => none)
theorem nn_xf2 {post : Int32 → SX → Prop} {r c ch : Nat} (hr : r < 2) (hW : nn_Wt rc rx ry) (hR : nn_Wr qx qy ac ta ax ay) (hF : ∀ s, s < 10 → nn_Fs c rx fu s ∧ nn_Fs c ry fv s) (hch : ch < 2 ^ 31)
    (h1 : ∀ e bd, nn_fX rc rx ry ac ta ax ay c r ch = some e → nn_Bd bd e → post 1 (rC, rc, rx, ry, qx, qy, ac, ta, ax, ay, gi, fu, fv, bd)) (h0 : nn_fX rc rx ry ac ta ax ay c r ch = none → ∀ bd, post 0 (rC, rc, rx, ry, qx, qy, ac, ta, ax, ay, gi, fu, fv, bd)) :
    ∀ (n i : Nat) (bd : Nat → Int32), i ≤ 4 → 4 < n + i → (∀ j, j < i → bd j = -1) → wX_fits_2 post (nI r) (nI ch) rC n (nI i) rc rx ry qx qy ac ta ax ay gi fu fv bd := by
  intro n
  induction n with
  | zero => intro i bd h1 h2; omega
  | succ n ih =>
    intro i bd hi4 hn hI
    refine pk_le 4 i (fun hi => ?_) (fun hi => ?_)
    · exact ⟨nn_n ac r + 1, nn_xf25 hr hW hR hF (nn_n ac r) _ 0 ch _ bd (by omega) (by omega) hch nn_ok0 (fun j hj => hI j (by omega)) h1 h0⟩
    · refine ⟨vp_in_nI hi (by decide), nm_e (nm_r (nI_1 i) ?_)⟩
      rw [nI_clamp (by omega)]
      refine ih (i + 1) _ (by omega) (by omega) fun j hj => ?_
      by_cases e : j = i
      · subst e; exact pk_us
      · exact (pk_un e).trans (hI j (by omega))
theorem nn_xfits {post : Int32 → SX → Prop} {r c ch : Nat} (hr : r < 2) (hW : nn_Wt rc rx ry) (hR : nn_Wr qx qy ac ta ax ay) (hF : ∀ s, s < 10 → nn_Fs c rx fu s ∧ nn_Fs c ry fv s) (hch : ch < 2 ^ 31)
    (h1 : ∀ e bd, nn_fX rc rx ry ac ta ax ay c r ch = some e → nn_Bd bd e → post 1 (rC, rc, rx, ry, qx, qy, ac, ta, ax, ay, gi, fu, fv, bd)) (h0 : nn_fX rc rx ry ac ta ax ay c r ch = none → ∀ bd, post 0 (rC, rc, rx, ry, qx, qy, ac, ta, ax, ay, gi, fu, fv, bd)) : wpX_fits post (rC, rc, rx, ry, qx, qy, ac, ta, ax, ay, gi, fu, fv, bd) (nI r) (nI ch) :=
  ⟨5, nn_xf2 hr hW hR hF hch h1 h0 5 0 bd (by omega) (by omega) (fun j hj => absurd hj (by omega))⟩
theorem nn_xch {post : Int32 → Prop} {t : Nat} {e : Nat → Option Nat} (ht : nn_pt t) (hB : nn_Bd bd e) (h : post (nn_en (nn_hd e t))) : wpX_chosen post (rC, rc, rx, ry, qx, qy, ac, ta, ax, ay, gi, fu, fv, bd) (nI t) := by
  have ht9 := nn_pt_lt ht
  unfold nn_hd at h
  by_cases h2 : t < 20
  · rw [if_pos h2] at h
    exact nm_e (br_t (nn_neg20 h2) h)
  · rw [if_neg h2] at h
    refine nm_r (nn_s20 (by omega)) (br_f (nI_pos (by omega)) (br_f (nI_ge (b := 4) (by omega) (by decide)) ⟨vp_in_nI (by omega) (by decide), ?_⟩))
    rw [nI_clamp (by omega), hB _ (by omega)]
    exact h
theorem nn_xcb {post : Int64 → Prop} {a b : Nat} (ha : a < 7) (hb : b < 7) (h : post (lN (2 ^ (7 * a + b)))) : wpX_coupleBit post (nI a) (nI b) := by
  have e : (1 : Int64) <<< ((nI (7 * a + b)).toInt64 &&& 63) = lN (2 ^ (7 * a + b)) := by
    have := wb_shl 1 (k := 7 * a + b) (by omega)
    rw [Nat.one_mul] at this
    exact this
  unfold wpX_coupleBit
  rw [nn_r7, nI_add, e]
  exact h
theorem nn_xhb {post : Int64 → Prop} {r a b : Nat} {e : Nat → Option Nat} (hr : r < 2) (hR : nn_Wr qx qy ac ta ax ay) (he : nn_ok e) (hB : nn_Bd bd e) (h1 : nn_hd e (nn_n qx r) = some a) (h2 : nn_hd e (nn_n qy r) = some b)
    (h : 7 * a + b < 49 → post (lN (2 ^ (7 * a + b)))) : wpX_headBit post (rC, rc, rx, ry, qx, qy, ac, ta, ax, ay, gi, fu, fv, bd) (nI r) := by
  have hx := nn_Wr_x hR hr
  have hy := nn_Wr_y hR hr
  have ha := nn_hd_lt he hx.2 h1
  have hb := nn_hd_lt he hy.2 h2
  refine ⟨vp_in_nI hr (by decide), ?_⟩
  rw [nI_clamp (by omega), hx.1, hy.1]
  refine nn_xch hx.2 hB ?_
  rw [h1]
  refine ⟨vp_in_nI hr (by decide), nn_xch hy.2 hB ?_⟩
  rw [h2]
  exact nn_xcb ha hb (h (by omega))
/-- the couples that the first i choices of rule r give -/
def nn_xs (rc rx ry qx qy ac ta ax ay : Nat → Int32) (c r i k : Nat) : Prop := ∃ ch, ch < i ∧ ∃ e, nn_fX rc rx ry ac ta ax ay c r ch = some e ∧ nn_cp e (nn_n qx r) (nn_n qy r) k
def nn_Ar (rc rx ry qx qy ac ta ax ay : Nat → Int32) (c r k : Nat) : Prop := nn_RA (nn_n rc) (nn_S ta r) (nn_S ax r) (nn_S ay r) (nn_F rx c) (nn_F ry c) (nn_n ac r) (nn_n qx r) (nn_n qy r) k
theorem nn_fX_run {c r ch : Nat} {e : Nat → Option Nat} (hch : ch < nn_pr (nn_n rc) (nn_S ta r) (nn_n ac r) 0) (h : nn_fX rc rx ry ac ta ax ay c r ch = some e) : nn_Run (nn_n rc) (nn_S ta r) (nn_S ax r) (nn_S ay r) (nn_F rx c) (nn_F ry c) (nn_n ac r) 0 (fun _ => none) e :=
  (nn_fx_run _ _ _ _ _ _ _ _ _ e).mp ⟨ch, hch, h⟩
theorem nn_F_lt {c r : Nat} (hr : r < 2) (hW : nn_Wt rc rx ry) (hR : nn_Wr qx qy ac ta ax ay) : ∀ i row, i < nn_n ac r → row < nn_n rc (nn_S ta r i) → nn_F rx c (nn_S ta r i) row < 7 ∧ nn_F ry c (nn_S ta r i) row < 7 := by
  intro i row hi hrow
  have hm := (nn_Wr_m hR hr).2
  have ht := (nn_Wr_t hR hr (i := i) (by omega)).2
  have hv := hW.2 _ ht row hrow
  exact ⟨nn_cv_lt (nn_is_e hv.1).2, nn_cv_lt (nn_is_e hv.2).2⟩
theorem nn_n_5 {r : Nat} (hr : r < 2) (hW : nn_Wt rc rx ry) (hR : nn_Wr qx qy ac ta ax ay) : ∀ i, i < nn_n ac r → nn_n rc (nn_S ta r i) ≤ 5 := by
  intro i hi
  have hm := (nn_Wr_m hR hr).2
  exact (nn_Wt_n hW (nn_Wr_t hR hr (i := i) (by omega)).2).2
theorem nn_x43 {post : Int64 → SX → Prop} {J : Int64 → Int32 → Int32 → (Nat → Int32) → (Nat → Int32) → (Nat → Int32) → (Nat → Int32) → (Nat → Int32) → (Nat → Int32) → (Nat → Int32) → (Nat → Int32) → (Nat → Int32) → (Nat → Int32) → (Nat → Int32) → (Nat → Int32) → (Nat → Int32) → Prop}
    {r c q : Nat} {A : Nat → Prop} (hr : r < 2) (hW : nn_Wt rc rx ry) (hR : nn_Wr qx qy ac ta ax ay) (hF : ∀ s, s < 10 → nn_Fs c rx fu s ∧ nn_Fs c ry fv s) (hs : nn_safe qx qy ac ax ay r)
    (hq : q = nn_pr (nn_n rc) (nn_S ta r) (nn_n ac r) 0) (hq9 : q < 2 ^ 31)
    (hJ : ∀ L bd, nn_L L (fun k => A k ∨ nn_xs rc rx ry qx qy ac ta ax ay c r q k) → J L (nI (r + 1)) rC rc rx ry qx qy ac ta ax ay gi fu fv bd) :
    ∀ (n i : Nat) (L : Int64) (bd : Nat → Int32), i ≤ q → q < n + i → nn_L L (fun k => A k ∨ nn_xs rc rx ry qx qy ac ta ax ay c r i k) → wX_answersIn_43 post J (nI r) (nI q) n L (nI i) rC rc rx ry qx qy ac ta ax ay gi fu fv bd := by
  intro n
  induction n with
  | zero => intro i L bd h1 h2; omega
  | succ n ih =>
    intro i L bd hi hn hL
    refine pk_le q i (fun hqi => ?_) (fun hqi => ?_)
    · have : i = q := by omega
      subst this
      exact nm_r (nI_1 r) (hJ L bd hL)
    · refine nn_xfits hr hW hR hF (by omega) (fun e bd he hB => br_f nn_10 ?_) (fun he bd => br_t rfl (nm_r (nI_1 i) (ih (i + 1) L bd (by omega) (by omega) (nn_Lc hL fun k _ => ?_))))
      · have hrun := nn_fX_run (by omega) he
        have hok := nn_run_ok (nn_n ac r) (nn_F_lt hr hW hR) _ 0 _ e (by omega) nn_ok0 hrun
        obtain ⟨a, ha⟩ := nn_some ((nn_hd_sf hrun).mpr hs.1)
        obtain ⟨b, hb⟩ := nn_some ((nn_hd_sf hrun).mpr hs.2)
        refine nn_xhb hr hR hok hB ha hb fun h49 => nm_e (nm_r (nI_1 i) (ih (i + 1) _ bd (by omega) (by omega) (nn_Lc (nn_Lor hL (nn_Lone h49)) fun k _ => ?_)))
        unfold nn_xs
        rw [nn_ex_s, or_assoc]
        refine or_congr Iff.rfl (or_congr Iff.rfl ⟨fun z => ⟨e, he, a, b, ha, hb, z⟩, ?_⟩)
        intro ⟨e', he', a', b', ha', hb', z⟩
        rw [he] at he'
        cases he'
        rw [ha] at ha'
        rw [hb] at hb'
        cases ha'
        cases hb'
        exact z
      · unfold nn_xs
        rw [nn_ex_s]
        refine or_congr Iff.rfl ⟨Or.inl, fun z => z.elim id fun ⟨e, he', _⟩ => ?_⟩
        rw [he] at he'
        cases he'
end
end
section
/-! the component's answers -/
section
variable {rC : Int32} {rc rx ry qx qy ac ta ax ay gi fu fv bd : Nat → Int32}
theorem nn_Ar_x {c r k : Nat} : nn_Ar rc rx ry qx qy ac ta ax ay c r k ↔ nn_xs rc rx ry qx qy ac ta ax ay c r (nn_pr (nn_n rc) (nn_S ta r) (nn_n ac r) 0) k := nn_RA_x
theorem nn_x10 {post : Int64 → SX → Prop} {R c : Nat} (hRC : rC = nI R) (hR2 : R ≤ 2) (hW : nn_Wt rc rx ry) (hR : nn_Wr qx qy ac ta ax ay) (hF : ∀ s, s < 10 → nn_Fs c rx fu s ∧ nn_Fs c ry fv s)
    (h : ∀ L bd, nn_L L (nn_A R rc rx ry qx qy ac ta ax ay c) → post L (rC, rc, rx, ry, qx, qy, ac, ta, ax, ay, gi, fu, fv, bd)) :
    ∀ (n r : Nat) (L : Int64) (bd : Nat → Int32), r ≤ R → R < n + r → nn_L L (fun k => ∃ r', r' < r ∧ nn_Ar rc rx ry qx qy ac ta ax ay c r' k) → wX_answersIn_10 post n L (nI r) rC rc rx ry qx qy ac ta ax ay gi fu fv bd := by
  intro n
  induction n with
  | zero => intro r L bd h1 h2; omega
  | succ n ih =>
    intro r L bd hr hn hL
    refine pk_le R r (fun hi => ?_) (fun hi => ?_) hRC
    · have : r = R := by omega
      subst this
      exact h L bd hL
    · have hr2 : r < 2 := by omega
      refine nn_xsf hr2 hR (fun hs => br_f nn_10 ?_) (fun hs => br_t rfl ⟨1, br_t (nI_le (a := 0) (b := 0) (by omega) (by decide)) (nm_r (nI_1 r) (ih (r + 1) L bd (by omega) (by omega) (nn_Lc hL fun k _ => ?_)))⟩)
      · refine nn_xrc hr2 hW hR ⟨_, nn_x43 (A := fun k => ∃ r', r' < r ∧ nn_Ar rc rx ry qx qy ac ta ax ay c r' k) hr2 hW hR hF hs rfl ?_ (fun L bd hL => ih (r + 1) L bd (by omega) (by omega) (nn_Lc hL fun k _ => ?_)) (nn_pr (nn_n rc) (nn_S ta r) (nn_n ac r) 0 + 1) 0 L bd (by omega) (by omega) (nn_Lc hL fun k _ => ?_)⟩
        · have h3 := (nn_Wr_m hR hr2).2
          have h1 := nn_pr_le (nn_n_5 hr2 hW hR) (nn_n ac r) 0 (by omega)
          have h2 : 5 ^ nn_n ac r ≤ 5 ^ 3 := Nat.pow_le_pow_right (by decide) h3
          omega
        · rw [nn_ex_s, nn_Ar_x (r := r)]
        · exact ⟨Or.inl, fun z => z.elim id fun y => absurd y nn_ex_0⟩
      · rw [nn_ex_s]
        exact ⟨Or.inl, fun z => z.elim id fun y => absurd y (nn_RA_u hs)⟩
theorem nn_xan {post : Int64 → SX → Prop} {R c : Nat} (hc : c < 343) (hRC : rC = nI R) (hR2 : R ≤ 2) (hW : nn_Wt rc rx ry) (hR : nn_Wr qx qy ac ta ax ay)
    (h : ∀ L gi fu fv bd, nn_L L (nn_A R rc rx ry qx qy ac ta ax ay c) → post L (rC, rc, rx, ry, qx, qy, ac, ta, ax, ay, gi, fu, fv, bd)) : wpX_answersIn post (rC, rc, rx, ry, qx, qy, ac, ta, ax, ay, gi, fu, fv, bd) (nI c) :=
  nn_xct hc fun gi fu fv hF => ⟨R + 1, nn_x10 hRC hR2 hW hR hF (fun L bd => h L gi fu fv bd) _ 0 0 bd (by omega) (by omega) (nn_Lc nn_L0 fun _ _ => ⟨(fun z => nomatch z), fun z => absurd z nn_ex_0⟩)⟩
theorem nn_xca6 {post : Int64 → SX → Prop} {R : Nat} (hRC : rC = nI R) (hR2 : R ≤ 2) (hW : nn_Wt rc rx ry) (hR : nn_Wr qx qy ac ta ax ay)
    (h : ∀ L gi fu fv bd, nn_L L (fun k => ∀ c, c < 343 → nn_A R rc rx ry qx qy ac ta ax ay c k) → post L (rC, rc, rx, ry, qx, qy, ac, ta, ax, ay, gi, fu, fv, bd)) :
    ∀ (n i : Nat) (L : Int64) (gi fu fv bd : Nat → Int32), i ≤ 343 → 343 < n + i → nn_L L (fun k => ∀ c, c < i → nn_A R rc rx ry qx qy ac ta ax ay c k) → wX_certainAnswers_6 post n L (nI i) rC rc rx ry qx qy ac ta ax ay gi fu fv bd := by
  intro n
  induction n with
  | zero => intro i L gi fu fv bd h1 h2; omega
  | succ n ih =>
    intro i L gi fu fv bd hi hn hL
    refine pk_le 343 i (fun hi => ?_) (fun hi => ?_)
    · have : i = 343 := by omega
      subst this
      exact h L gi fu fv bd hL
    · exact nn_xan hi hRC hR2 hW hR fun M gi fu fv bd hM => nm_e (nm_r (nI_1 i) (ih (i + 1) _ gi fu fv bd (by omega) (by omega) (nn_Lc (nn_Land hL hM) fun k _ => nn_al_s.symm)))
theorem nn_xca {post : Int64 → SX → Prop} {R : Nat} (hRC : rC = nI R) (hR2 : R ≤ 2) (hW : nn_Wt rc rx ry) (hR : nn_Wr qx qy ac ta ax ay)
    (h : ∀ L gi fu fv bd, nn_L L (fun k => ∀ c, c < 343 → nn_A R rc rx ry qx qy ac ta ax ay c k) → post L (rC, rc, rx, ry, qx, qy, ac, ta, ax, ay, gi, fu, fv, bd)) : wpX_certainAnswers post (rC, rc, rx, ry, qx, qy, ac, ta, ax, ay, gi, fu, fv, bd) :=
  ⟨344, nn_xca6 hRC hR2 hW hR h 344 0 (lN (2 ^ 49 - 1)) gi fu fv bd (by omega) (by omega) (nn_Lc nn_Lall fun _ _ => ⟨fun _ c hc => absurd hc (by omega), fun _ => trivial⟩)⟩
theorem nn_xpa4 {post : Int64 → SX → Prop} {R : Nat} (hRC : rC = nI R) (hR2 : R ≤ 2) (hW : nn_Wt rc rx ry) (hR : nn_Wr qx qy ac ta ax ay)
    (h : ∀ L gi fu fv bd, nn_L L (fun k => ∃ c, c < 343 ∧ nn_A R rc rx ry qx qy ac ta ax ay c k) → post L (rC, rc, rx, ry, qx, qy, ac, ta, ax, ay, gi, fu, fv, bd)) :
    ∀ (n i : Nat) (L : Int64) (gi fu fv bd : Nat → Int32), i ≤ 343 → 343 < n + i → nn_L L (fun k => ∃ c, c < i ∧ nn_A R rc rx ry qx qy ac ta ax ay c k) → wX_possibleAnswers_4 post n L (nI i) rC rc rx ry qx qy ac ta ax ay gi fu fv bd := by
  intro n
  induction n with
  | zero => intro i L gi fu fv bd h1 h2; omega
  | succ n ih =>
    intro i L gi fu fv bd hi hn hL
    refine pk_le 343 i (fun hi => ?_) (fun hi => ?_)
    · have : i = 343 := by omega
      subst this
      exact h L gi fu fv bd hL
    · exact nn_xan hi hRC hR2 hW hR fun M gi fu fv bd hM => nm_e (nm_r (nI_1 i) (ih (i + 1) _ gi fu fv bd (by omega) (by omega) (nn_Lc (nn_Lor hL hM) fun k _ => nn_ex_s.symm)))
theorem nn_xpa {post : Int64 → SX → Prop} {R : Nat} (hRC : rC = nI R) (hR2 : R ≤ 2) (hW : nn_Wt rc rx ry) (hR : nn_Wr qx qy ac ta ax ay)
    (h : ∀ L gi fu fv bd, nn_L L (fun k => ∃ c, c < 343 ∧ nn_A R rc rx ry qx qy ac ta ax ay c k) → post L (rC, rc, rx, ry, qx, qy, ac, ta, ax, ay, gi, fu, fv, bd)) : wpX_possibleAnswers post (rC, rc, rx, ry, qx, qy, ac, ta, ax, ay, gi, fu, fv, bd) :=
  ⟨344, nn_xpa4 hRC hR2 hW hR h 344 0 0 gi fu fv bd (by omega) (by omega) (nn_Lc nn_L0 fun _ _ => ⟨(fun z => nomatch z), fun z => absurd z nn_ex_0⟩)⟩
theorem nn_K_iff (p : Int32) : nn_K p ↔ (¬ p < 0 ∧ ¬ 7 ≤ p) := by
  constructor
  · intro ⟨a, ha, e⟩
    rw [e]
    exact ⟨nI_pos (by omega), nI_ge (b := 7) ha (by decide)⟩
  · intro ⟨h0, h7⟩
    obtain ⟨j, hj, rfl⟩ := nI_of h0
    have h7 : ¬ nI 7 ≤ nI j := h7
    rw [nI_leI (by decide) hj] at h7
    exact ⟨j, by omega, rfl⟩
theorem nn_xK {post : Int32 → Prop} {p : Int32} (h1 : nn_K p → post 1) (h0 : ¬ nn_K p → post 0) : wpX_isConstant post p := by
  rw [nn_K_iff] at h1 h0
  exact br_c (fun a => h0 fun z => z.1 a) fun a => br_c (fun b => h0 fun z => z.2 b) fun b => h1 ⟨a, b⟩
theorem nn_xcer {post : Int32 → SX → Prop} {R a b : Nat} (ha : a < 7) (hb : b < 7) (hRC : rC = nI R) (hR2 : R ≤ 2) (hW : nn_Wt rc rx ry) (hR : nn_Wr qx qy ac ta ax ay)
    (h : ∀ x gi fu fv bd, nn_bo x (∀ c, c < 343 → nn_A R rc rx ry qx qy ac ta ax ay c (7 * a + b)) → post x (rC, rc, rx, ry, qx, qy, ac, ta, ax, ay, gi, fu, fv, bd)) : wpX_certain post (rC, rc, rx, ry, qx, qy, ac, ta, ax, ay, gi, fu, fv, bd) (nI a) (nI b) := by
  unfold wpX_certain
  dsimp only
  refine nn_xK (fun _ => br_f nn_10 ?_) (fun z => absurd ⟨a, ha, rfl⟩ z)
  refine nn_xK (fun _ => br_f nn_10 ?_) (fun z => absurd ⟨b, hb, rfl⟩ z)
  refine nn_xca hRC hR2 hW hR fun L gi fu fv bd hL => ?_
  dsimp only
  refine nn_xcb ha hb ?_
  have hk := nn_Lbit hL (j := 7 * a + b) (by omega)
  exact br_c (fun z => h 0 gi fu fv bd (nn_bo_f (hk.mp z))) (fun z => h 1 gi fu fv bd (nn_bo_t (Classical.byContradiction fun y => z (hk.mpr y))))
theorem nn_xpos {post : Int32 → SX → Prop} {R a b : Nat} (ha : a < 7) (hb : b < 7) (hRC : rC = nI R) (hR2 : R ≤ 2) (hW : nn_Wt rc rx ry) (hR : nn_Wr qx qy ac ta ax ay)
    (h : ∀ x gi fu fv bd, nn_bo x (∃ c, c < 343 ∧ nn_A R rc rx ry qx qy ac ta ax ay c (7 * a + b)) → post x (rC, rc, rx, ry, qx, qy, ac, ta, ax, ay, gi, fu, fv, bd)) : wpX_possible post (rC, rc, rx, ry, qx, qy, ac, ta, ax, ay, gi, fu, fv, bd) (nI a) (nI b) := by
  unfold wpX_possible
  dsimp only
  refine nn_xK (fun _ => br_f nn_10 ?_) (fun z => absurd ⟨a, ha, rfl⟩ z)
  refine nn_xK (fun _ => br_f nn_10 ?_) (fun z => absurd ⟨b, hb, rfl⟩ z)
  refine nn_xpa hRC hR2 hW hR fun L gi fu fv bd hL => ?_
  dsimp only
  refine nn_xcb ha hb ?_
  have hk := nn_Lbit hL (j := 7 * a + b) (by omega)
  exact br_c (fun z => h 0 gi fu fv bd (nn_bo_f (hk.mp z))) (fun z => h 1 gi fu fv bd (nn_bo_t (Classical.byContradiction fun y => z (hk.mpr y))))
theorem nn_xcer0 {post : Int32 → SX → Prop} {p q : Int32} (hn : ¬ (nn_K p ∧ nn_K q)) (h : post 0 (rC, rc, rx, ry, qx, qy, ac, ta, ax, ay, gi, fu, fv, bd)) : wpX_certain post (rC, rc, rx, ry, qx, qy, ac, ta, ax, ay, gi, fu, fv, bd) p q := by
  unfold wpX_certain
  dsimp only
  refine nn_xK (fun y => br_f nn_10 ?_) (fun _ => br_t rfl h)
  exact nn_xK (fun z => absurd ⟨y, z⟩ hn) (fun _ => br_t rfl h)
theorem nn_xpos0 {post : Int32 → SX → Prop} {p q : Int32} (hn : ¬ (nn_K p ∧ nn_K q)) (h : post 0 (rC, rc, rx, ry, qx, qy, ac, ta, ax, ay, gi, fu, fv, bd)) : wpX_possible post (rC, rc, rx, ry, qx, qy, ac, ta, ax, ay, gi, fu, fv, bd) p q := by
  unfold wpX_possible
  dsimp only
  refine nn_xK (fun y => br_f nn_10 ?_) (fun _ => br_t rfl h)
  exact nn_xK (fun z => absurd ⟨y, z⟩ hn) (fun _ => br_t rfl h)
noncomputable def nn_cc (p : Nat → Prop) (i : Nat) : Nat := nn_cn p (fun _ => Classical.propDecidable _) i
theorem nn_cc_t {p : Nat → Prop} {i : Nat} (h : p i) : nn_cc p (i + 1) = nn_cc p i + 1 := nn_cn_t h
theorem nn_cc_f {p : Nat → Prop} {i : Nat} (h : ¬ p i) : nn_cc p (i + 1) = nn_cc p i := nn_cn_f h
theorem nn_xcc10 {post : Int32 → SX → Prop} {L : Int64} {p : Nat → Prop} (hL : nn_L L p) (h : post (nI (nn_cc p 49)) (rC, rc, rx, ry, qx, qy, ac, ta, ax, ay, gi, fu, fv, bd)) : ∀ (n i : Nat), i ≤ 49 → 49 < n + i → wX_certainCount_10 post L rC rc rx ry qx qy ac ta ax ay gi fu fv bd n (nI (nn_cc p i)) (nI i) := by
  intro n
  induction n with
  | zero => intro i h1 h2; omega
  | succ n ih =>
    intro i hi hn
    refine pk_le 49 i (fun hi => ?_) (fun hi => ?_)
    · have : i = 49 := by omega
      subst this
      exact h
    · have hk := nn_Lsh hL hi
      refine br_c (fun z => nm_r (nI_1 i) ?_) (fun z => nm_r (nI_1 _) (nm_r (nI_1 i) ?_))
      · rw [← nn_cc_f (hk.mp z)]
        exact ih (i + 1) (by omega) (by omega)
      · rw [← nn_cc_t (Classical.byContradiction fun y => z (hk.mpr y))]
        exact ih (i + 1) (by omega) (by omega)
theorem nn_xcc {post : Int32 → SX → Prop} {R : Nat} (hRC : rC = nI R) (hR2 : R ≤ 2) (hW : nn_Wt rc rx ry) (hR : nn_Wr qx qy ac ta ax ay)
    (h : ∀ gi fu fv bd, post (nI (nn_cc (fun k => ∀ c, c < 343 → nn_A R rc rx ry qx qy ac ta ax ay c k) 49)) (rC, rc, rx, ry, qx, qy, ac, ta, ax, ay, gi, fu, fv, bd)) : wpX_certainCount post (rC, rc, rx, ry, qx, qy, ac, ta, ax, ay, gi, fu, fv, bd) :=
  nn_xca hRC hR2 hW hR fun L gi fu fv bd hL => ⟨50, nn_xcc10 hL (h gi fu fv bd) 50 0 (by omega) (by omega)⟩
theorem nn_xas2 {post : Int32 → SX → Prop} {R : Nat} (hRC : rC = nI R) (hR2 : R ≤ 2) (hW : nn_Wt rc rx ry) (hR : nn_Wr qx qy ac ta ax ay)
    (h : ∀ x gi fu fv bd, nn_bo x (∀ c, c < 343 → ∃ k, k < 49 ∧ nn_A R rc rx ry qx qy ac ta ax ay c k) → post x (rC, rc, rx, ry, qx, qy, ac, ta, ax, ay, gi, fu, fv, bd)) :
    ∀ (n i : Nat) (gi fu fv bd : Nat → Int32), i ≤ 343 → 343 < n + i → (∀ c, c < i → ∃ k, k < 49 ∧ nn_A R rc rx ry qx qy ac ta ax ay c k) → wX_alwaysSome_2 post n (nI i) rC rc rx ry qx qy ac ta ax ay gi fu fv bd := by
  intro n
  induction n with
  | zero => intro i gi fu fv bd h1 h2; omega
  | succ n ih =>
    intro i gi fu fv bd hi hn hI
    refine pk_le 343 i (fun hi => ?_) (fun hi => ?_)
    · have : i = 343 := by omega
      subst this
      exact h 1 gi fu fv bd (nn_bo_t hI)
    · refine nn_xan hi hRC hR2 hW hR fun M gi fu fv bd hM => ?_
      have hk := nn_Leq hM
      refine br_c (fun z => h 0 gi fu fv bd (nn_bo_f fun y => ?_)) (fun z => nm_r (nI_1 i) (ih (i + 1) gi fu fv bd (by omega) (by omega) (nn_al_s.mpr ⟨hI, ?_⟩)))
      · obtain ⟨k, hk9, hA⟩ := y i hi
        exact hk.mp z k hk9 hA
      · exact Classical.byContradiction fun y => z (hk.mpr fun k hk9 hA => y ⟨k, hk9, hA⟩)
theorem nn_xas {post : Int32 → SX → Prop} {R : Nat} (hRC : rC = nI R) (hR2 : R ≤ 2) (hW : nn_Wt rc rx ry) (hR : nn_Wr qx qy ac ta ax ay)
    (h : ∀ x gi fu fv bd, nn_bo x (∀ c, c < 343 → ∃ k, k < 49 ∧ nn_A R rc rx ry qx qy ac ta ax ay c k) → post x (rC, rc, rx, ry, qx, qy, ac, ta, ax, ay, gi, fu, fv, bd)) : wpX_alwaysSome post (rC, rc, rx, ry, qx, qy, ac, ta, ax, ay, gi, fu, fv, bd) :=
  ⟨344, nn_xas2 hRC hR2 hW hR h 344 0 gi fu fv bd (by omega) (by omega) (fun c hc => absurd hc (by omega))⟩
end
end
section
/-! the reference's queries against the same picture -/
section
variable {n T P Q : Nat → Nat} {F G : Nat → Nat → Nat} {d i rest : Nat} {b e1 e2 : Nat → Option Nat}
theorem nn_fy_s0 (h : n (T i) ≤ rest % 5) : nn_fy n T P Q F G (d + 1) i rest b = none := if_pos h
theorem nn_fy_s1 (h1 : nn_ag b (P i) (F (T i) (rest % 5)) = none) : nn_fy n T P Q F G (d + 1) i rest b = none := by
  show (if n (T i) ≤ rest % 5 then none else (nn_st T P Q F G i (rest % 5) b).bind fun b1 => nn_fy n T P Q F G d (i + 1) (rest / 5) b1) = none
  unfold nn_st
  rw [h1]
  split <;> rfl
theorem nn_fy_s2 (h1 : nn_ag b (P i) (F (T i) (rest % 5)) = some e1) (h2 : nn_ag e1 (Q i) (G (T i) (rest % 5)) = none) : nn_fy n T P Q F G (d + 1) i rest b = none := by
  show (if n (T i) ≤ rest % 5 then none else (nn_st T P Q F G i (rest % 5) b).bind fun b1 => nn_fy n T P Q F G d (i + 1) (rest / 5) b1) = none
  unfold nn_st
  rw [h1, Option.bind_some, h2]
  split <;> rfl
theorem nn_fy_s3 (h : ¬ n (T i) ≤ rest % 5) (h1 : nn_ag b (P i) (F (T i) (rest % 5)) = some e1) (h2 : nn_ag e1 (Q i) (G (T i) (rest % 5)) = some e2) : nn_fy n T P Q F G (d + 1) i rest b = nn_fy n T P Q F G d (i + 1) (rest / 5) e2 := by
  show (if n (T i) ≤ rest % 5 then none else (nn_st T P Q F G i (rest % 5) b).bind fun b1 => nn_fy n T P Q F G d (i + 1) (rest / 5) b1) = _
  unfold nn_st
  rw [h1, Option.bind_some, h2, Option.bind_some, if_neg h]
end
section
variable {rl sm : Int32} {rc va qe ac ta te kn bo hr al on rx ry qx qy ax ay : Nat → Int32}
theorem nn_yca {post : Int32 → Prop} {c s v : Nat} (hs : s < 20) (hv : va s = nI v) (hp : nn_pv v) (hk : ∀ i, i < 3 → kn i = nI (nn_dg c i)) (h : post (nI (nn_cv c v))) : wpY_constantAt post (rl, sm, rc, va, qe, ac, ta, te, kn, bo, hr, al, on) (nI s) := by
  have hv9 := nn_pv_lt hp
  unfold nn_pv at hp
  unfold nn_cv at h
  refine ⟨vp_in_nI hs (by decide), ?_⟩
  rw [nI_clamp (by omega), hv]
  refine pk_lt v 10 (fun z => ⟨vp_in_nI hs (by decide), ?_⟩) (fun z => ⟨vp_in_nI hs (by decide), ?_⟩)
  · rw [if_neg (by omega)] at h; exact h
  · rw [nn_s10 z, nI_clamp (by omega), hk _ (by omega)]
    rw [if_pos z] at h
    exact ⟨vp_in_nI (by omega) (by decide), h⟩
theorem nn_yfi {post : Int32 → SY → Prop} {t c : Nat} {b : Nat → Option Nat} (ht : nn_pt t) (hc : c < 7) (hb : nn_ok b) (hB : nn_Bd bo b)
    (h1 : ∀ e bo, nn_ag b t c = some e → nn_Bd bo e → post 1 (rl, sm, rc, va, qe, ac, ta, te, kn, bo, hr, al, on)) (h0 : nn_ag b t c = none → post 0 (rl, sm, rc, va, qe, ac, ta, te, kn, bo, hr, al, on)) : wpY_fit post (rl, sm, rc, va, qe, ac, ta, te, kn, bo, hr, al, on) (nI t) (nI c) := by
  have ht9 := nn_pt_lt ht
  refine pk_le 20 t (fun h => ?_) (fun h => ?_)
  · have hcl : (nI (t - 20)).toNatClampNeg = t - 20 := nI_clamp (by omega)
    have hin : vp_in (nI (t - 20)) 4 := vp_in_nI (by omega) (by decide)
    have hn : ¬ t < 20 := by omega
    have hj : bo (t - 20) = nn_en (b (t - 20)) := hB _ (by omega)
    have hk := hb (t - 20)
    rw [nn_s20 h, hcl]
    refine ⟨hin, ?_⟩
    by_cases h2 : b (t - 20) = none
    · refine br_f (by rw [hj, h2]; decide) ⟨hin, nm_e ?_⟩
      unfold wY_fit_39
      rw [nn_s20 h, hcl]
      refine ⟨hin, br_t pk_us (h1 (nn_set b (t - 20) c) _ ?_ (nn_Bd_set hB))⟩
      unfold nn_ag
      rw [if_neg hn, if_pos h2]
    · refine br_t (by rw [hj, ← Int32.not_lt, nn_en_neg hk]; exact h2) ?_
      unfold wY_fit_39
      rw [nn_s20 h, hcl]
      refine ⟨hin, ?_⟩
      rw [hj, nn_en_eq hk hc]
      by_cases h3 : b (t - 20) = some c
      · refine br_t h3 (h1 b bo ?_ hB)
        unfold nn_ag; rw [if_neg hn, if_neg h2, if_pos h3]
      · refine br_f h3 (h0 ?_)
        unfold nn_ag; rw [if_neg hn, if_neg h2, if_neg h3]
  · refine pk_eq t c (fun e => h1 b bo ?_ hB) (fun e => h0 ?_)
    · unfold nn_ag; rw [if_pos h, if_pos e]
    · unfold nn_ag; rw [if_pos h, if_neg e]
theorem nn_yf28 {post : Int32 → SY → Prop} {r c : Nat} (hr2 : r < 2) (hW : nn_Wt rc rx ry) (hR : nn_Wr qx qy ac ta ax ay) (hY : nn_Yt rc rx ry va) (hZ : nn_Yr qx qy ax ay qe te) (hk : ∀ i, i < 3 → kn i = nI (nn_dg c i)) :
    ∀ (d n i rest : Nat) (b : Nat → Option Nat) (bo : Nat → Int32), i + d = nn_n ac r → d < n → rest < 2 ^ 31 → nn_ok b → nn_Bd bo b →
      (∀ e bo, nn_fy (nn_n rc) (nn_S ta r) (nn_S ax r) (nn_S ay r) (nn_F rx c) (nn_F ry c) d i rest b = some e → nn_Bd bo e → post 1 (rl, sm, rc, va, qe, ac, ta, te, kn, bo, hr, al, on)) →
      (nn_fy (nn_n rc) (nn_S ta r) (nn_S ax r) (nn_S ay r) (nn_F rx c) (nn_F ry c) d i rest b = none → ∀ bo, post 0 (rl, sm, rc, va, qe, ac, ta, te, kn, bo, hr, al, on)) →
      wY_fits_28 post (nI r) n (nI rest) (nI i) rl sm rc va qe ac ta te kn bo hr al on := by
  have hm := nn_Wr_m hR hr2
  intro d
  induction d with
  | zero =>
    intro n i rest b bo hd hn hr9 hb hB h1 h0
    obtain ⟨n, rfl⟩ : ∃ k, n = k + 1 := ⟨n - 1, by omega⟩
    refine ⟨vp_in_nI hr2 (by decide), pk_le (nn_n ac r) i (fun hi => ?_) (fun hi => absurd hi (by omega)) (by rw [nI_clamp (by omega)]; exact hm.1)⟩
    exact pk_eq rest 0 (fun z => h1 b bo (if_pos z) hB) (fun z => h0 (if_neg z) bo)
  | succ d ih =>
    intro n i rest b bo hd hn hr9 hb hB h1 h0
    obtain ⟨n, rfl⟩ : ∃ k, n = k + 1 := ⟨n - 1, by omega⟩
    have hx := nn_Wr_a hR hr2 (i := i) (by omega)
    have hy := nn_Wr_b hR hr2 (i := i) (by omega)
    have ht := nn_Wr_t hR hr2 (i := i) (by omega)
    have hn5 := nn_Wt_n hW ht.2
    have ht2 := ht.2
    have hin : vp_in (nI (3 * r + i)) 6 := vp_in_nI (by omega) (by decide)
    have hcl : (nI (3 * r + i)).toNatClampNeg = 3 * r + i := nI_clamp (by omega)
    have hrow5 : rest % 5 < 5 := Nat.mod_lt _ (by decide)
    have hte := hZ.2 (3 * r + i) (by omega)
    refine ⟨vp_in_nI hr2 (by decide), pk_le (nn_n ac r) i (fun hi => absurd hi (by omega)) (fun hi => ?_) (by rw [nI_clamp (by omega)]; exact hm.1)⟩
    refine nm_r (by rw [nn_l3, nI_add]) ⟨by decide, nm_r (nn_m5 hr9) ⟨by decide, nm_r (nn_d5 hr9) ⟨hin, ?_⟩⟩⟩
    rw [hcl, ht.1, nI_clamp (show nn_S ta r i < 2 ^ 31 by omega)]
    refine nm_r (by rw [nn_l10, nn_l2, nI_add]) ⟨hin, vp_in_nI ht.2 (by decide), ?_⟩
    refine pk_lt (rest % 5) (nn_n rc (nn_S ta r i)) (fun hrow => ?_) (fun hrow => h0 (nn_fy_s0 hrow) bo) rfl hn5.1
    have hv := hW.2 _ ht.2 _ hrow
    have hvx := nn_is_e hv.1
    have hvy := nn_is_e hv.2
    have hva := hY _ ht.2 _ hrow
    have hF1 : nn_F rx c (nn_S ta r i) (rest % 5) < 7 := nn_cv_lt hvx.2
    have hF2 : nn_F ry c (nn_S ta r i) (rest % 5) < 7 := nn_cv_lt hvy.2
    refine nn_yca (v := (rx (5 * nn_S ta r i + rest % 5)).toNatClampNeg) (by omega) (hva.1.trans hvx.1) hvx.2 hk ?_
    rw [nI_1 (10 * nn_S ta r i + 2 * (rest % 5))]
    refine nn_yca (v := (ry (5 * nn_S ta r i + rest % 5)).toNatClampNeg) (by omega) (hva.2.trans hvy.1) hvy.2 hk ?_
    rw [nn_l2, nI_clamp (show 2 * (3 * r + i) < 2 ^ 31 by omega), hte.1, hx.1]
    refine ⟨vp_in_nI (by omega) (by decide), ?_⟩
    refine nn_yfi hx.2 hF1 hb hB (fun e1 bo a1 hB1 => br_f nn_10 ?_) (fun a1 => br_t rfl (h0 (nn_fy_s1 a1) bo))
    rw [nI_1 (2 * (3 * r + i)), nI_clamp (show 2 * (3 * r + i) + 1 < 2 ^ 31 by omega), hte.2, hy.1]
    refine ⟨vp_in_nI (by omega) (by decide), ?_⟩
    have hok := nn_ag_ok hb hF1 a1
    refine nn_yfi hy.2 hF2 hok hB1 (fun e2 bo a2 hB2 => br_f nn_10 (nm_r (nI_1 i) ?_)) (fun a2 => br_t rfl (h0 (nn_fy_s2 a1 a2) bo))
    have es := nn_fy_s3 (n := nn_n rc) (T := nn_S ta r) (P := nn_S ax r) (Q := nn_S ay r) (F := nn_F rx c) (G := nn_F ry c) (d := d) (i := i) (by omega) a1 a2
    rw [es] at h1 h0
    exact ih n (i + 1) _ e2 bo (by omega) (by omega) (Nat.lt_of_le_of_lt (Nat.div_le_self _ _) hr9) (nn_ag_ok hok hF2 a2) hB2 h1 h0
def nn_fY (rc rx ry ac ta ax ay : Nat → Int32) (c r p : Nat) : Option (Nat → Option Nat) := nn_fy (nn_n rc) (nn_S ta r) (nn_S ax r) (nn_S ay r) (nn_F rx c) (nn_F ry c) (nn_n ac r) 0 p (fun _ => none)
theorem nn_yf5 {post : Int32 → SY → Prop} {r c p : Nat} (hr2 : r < 2) (hW : nn_Wt rc rx ry) (hR : nn_Wr qx qy ac ta ax ay) (hY : nn_Yt rc rx ry va) (hZ : nn_Yr qx qy ax ay qe te) (hk : ∀ i, i < 3 → kn i = nI (nn_dg c i)) (hp : p < 2 ^ 31)
    (h1 : ∀ e bo, nn_fY rc rx ry ac ta ax ay c r p = some e → nn_Bd bo e → post 1 (rl, sm, rc, va, qe, ac, ta, te, kn, bo, hr, al, on)) (h0 : nn_fY rc rx ry ac ta ax ay c r p = none → ∀ bo, post 0 (rl, sm, rc, va, qe, ac, ta, te, kn, bo, hr, al, on)) :
    ∀ (n i : Nat) (bo : Nat → Int32), i ≤ 4 → 4 < n + i → (∀ j, j < i → bo j = -1) → wY_fits_5 post (nI r) (nI p) rl sm n (nI i) rc va qe ac ta te kn bo hr al on := by
  intro n
  induction n with
  | zero => intro i bo h1 h2; omega
  | succ n ih =>
    intro i bo hi4 hn hI
    refine pk_le 4 i (fun hi => ?_) (fun hi => ?_)
    · exact ⟨nn_n ac r + 1, nn_yf28 hr2 hW hR hY hZ hk (nn_n ac r) _ 0 p _ bo (by omega) (by omega) hp nn_ok0 (fun j hj => hI j (by omega)) h1 h0⟩
    · refine ⟨vp_in_nI hi (by decide), nm_e (nm_r (nI_1 i) ?_)⟩
      rw [nI_clamp (by omega)]
      refine ih (i + 1) _ (by omega) (by omega) fun j hj => ?_
      by_cases e : j = i
      · subst e; exact pk_us
      · exact (pk_un e).trans (hI j (by omega))
theorem nn_yfits {post : Int32 → SY → Prop} {r c p : Nat} (hr2 : r < 2) (hW : nn_Wt rc rx ry) (hR : nn_Wr qx qy ac ta ax ay) (hY : nn_Yt rc rx ry va) (hZ : nn_Yr qx qy ax ay qe te) (hk : ∀ i, i < 3 → kn i = nI (nn_dg c i)) (hp : p < 2 ^ 31)
    (h1 : ∀ e bo, nn_fY rc rx ry ac ta ax ay c r p = some e → nn_Bd bo e → post 1 (rl, sm, rc, va, qe, ac, ta, te, kn, bo, hr, al, on)) (h0 : nn_fY rc rx ry ac ta ax ay c r p = none → ∀ bo, post 0 (rl, sm, rc, va, qe, ac, ta, te, kn, bo, hr, al, on)) : wpY_fits post (rl, sm, rc, va, qe, ac, ta, te, kn, bo, hr, al, on) (nI r) (nI p) :=
  ⟨5, nn_yf5 hr2 hW hR hY hZ hk hp h1 h0 5 0 bo (by omega) (by omega) (fun j hj => absurd hj (by omega))⟩
theorem nn_yho {post : Int32 → Prop} {t : Nat} {e : Nat → Option Nat} (ht : nn_pt t) (hB : nn_Bd bo e) (h : post (nn_en (nn_hd e t))) : wpY_headOf post (rl, sm, rc, va, qe, ac, ta, te, kn, bo, hr, al, on) (nI t) := by
  have ht9 := nn_pt_lt ht
  unfold nn_hd at h
  refine pk_le 20 t (fun h2 => ?_) (fun h2 => ?_)
  · rw [if_neg (by omega)] at h
    rw [nn_s20 h2, nI_clamp (by omega), hB _ (by omega)]
    exact ⟨vp_in_nI (by omega) (by decide), h⟩
  · rw [if_pos h2] at h
    exact h
def nn_ys (rc rx ry qx qy ac ta ax ay : Nat → Int32) (c r i k : Nat) : Prop := ∃ p, p < i ∧ ∃ e, nn_fY rc rx ry ac ta ax ay c r p = some e ∧ nn_cp e (nn_n qx r) (nn_n qy r) k
theorem nn_Ar_y {c r k : Nat} (hr2 : r < 2) (hW : nn_Wt rc rx ry) (hR : nn_Wr qx qy ac ta ax ay) : nn_Ar rc rx ry qx qy ac ta ax ay c r k ↔ nn_ys rc rx ry qx qy ac ta ax ay c r 125 k := nn_RA_y (nn_n_5 hr2 hW hR) (nn_Wr_m hR hr2).2
theorem nn_fY_run {c r p : Nat} {e : Nat → Option Nat} (hr2 : r < 2) (hW : nn_Wt rc rx ry) (hR : nn_Wr qx qy ac ta ax ay) (h : nn_fY rc rx ry ac ta ax ay c r p = some e) : nn_Run (nn_n rc) (nn_S ta r) (nn_S ax r) (nn_S ay r) (nn_F rx c) (nn_F ry c) (nn_n ac r) 0 (fun _ => none) e :=
  (nn_fy_run _ _ _ _ _ _ _ (nn_n_5 hr2 hW hR) _ _ _ e (by omega)).mp ⟨p, h⟩
theorem nn_ys_0 {c r i k : Nat} (h : ∀ e, nn_fY rc rx ry ac ta ax ay c r i = some e → ¬ nn_cp e (nn_n qx r) (nn_n qy r) k) : nn_ys rc rx ry qx qy ac ta ax ay c r i k ↔ nn_ys rc rx ry qx qy ac ta ax ay c r (i + 1) k := by
  unfold nn_ys
  rw [nn_ex_s]
  exact ⟨Or.inl, fun z => z.elim id fun ⟨e, he, y⟩ => absurd y (h e he)⟩
theorem nn_ya2 {post : SY → Prop} {r c : Nat} {A : Nat → Prop} (hr2 : r < 2) (hW : nn_Wt rc rx ry) (hR : nn_Wr qx qy ac ta ax ay) (hY : nn_Yt rc rx ry va) (hZ : nn_Yr qx qy ax ay qe te) (hk : ∀ i, i < 3 → kn i = nI (nn_dg c i))
    (h : ∀ bo hr, (∀ k, k < 49 → nn_bo (hr k) (A k ∨ nn_ys rc rx ry qx qy ac ta ax ay c r 125 k)) → post (rl, sm, rc, va, qe, ac, ta, te, kn, bo, hr, al, on)) :
    ∀ (n i : Nat) (bo hr : Nat → Int32), i ≤ 125 → 125 < n + i → (∀ k, k < 49 → nn_bo (hr k) (A k ∨ nn_ys rc rx ry qx qy ac ta ax ay c r i k)) → wY_apply_2 post (nI r) n (nI i) rl sm rc va qe ac ta te kn bo hr al on := by
  have hx := nn_Wr_x hR hr2
  have hy := nn_Wr_y hR hr2
  have hz := hZ.1 r hr2
  intro n
  induction n with
  | zero => intro i bo hr h1 h2; omega
  | succ n ih =>
    intro i bo hr hi hn hI
    refine pk_le 125 i (fun hi => ?_) (fun hi => ?_)
    · have : i = 125 := by omega
      subst this
      exact h bo hr hI
    · refine nn_yfits hr2 hW hR hY hZ hk (by omega) (fun e bo he hB => br_f nn_10 ?_) (fun he bo => br_t rfl (nm_r (nI_1 i) (ih (i + 1) bo hr (by omega) (by omega) fun k hk9 => nn_bo_c (hI k hk9) (or_congr Iff.rfl (nn_ys_0 fun e he' => ?_)))))
      · have hok := nn_run_ok (nn_n ac r) (nn_F_lt hr2 hW hR) _ 0 _ e (by omega) nn_ok0 (nn_fY_run hr2 hW hR he)
        rw [nn_l2, nI_clamp (show 2 * r < 2 ^ 31 by omega), hz.1, hx.1]
        refine ⟨vp_in_nI (by omega) (by decide), nn_yho hx.2 hB ?_⟩
        rw [nI_1, nI_clamp (show 2 * r + 1 < 2 ^ 31 by omega), hz.2, hy.1]
        refine ⟨vp_in_nI (by omega) (by decide), nn_yho hy.2 hB ?_⟩
        have hlx : ∀ a, nn_hd e (nn_n qx r) = some a → a < 7 := fun a => nn_hd_lt hok hx.2
        have hly : ∀ a, nn_hd e (nn_n qy r) = some a → a < 7 := fun a => nn_hd_lt hok hy.2
        rw [nn_en_neg hlx, nn_en_neg hly]
        refine br_c (fun z => nm_r (nI_1 i) (ih (i + 1) bo hr (by omega) (by omega) fun k hk9 => nn_bo_c (hI k hk9) (or_congr Iff.rfl (nn_ys_0 fun e' he' => ?_)))) (fun z => br_c (fun z2 => nm_r (nI_1 i) (ih (i + 1) bo hr (by omega) (by omega) fun k hk9 => nn_bo_c (hI k hk9) (or_congr Iff.rfl (nn_ys_0 fun e' he' => ?_)))) (fun z2 => ?_))
        · rw [he] at he'; cases he'
          intro ⟨a, b, h1, h2, _⟩
          rw [z] at h1; cases h1
        · rw [he] at he'; cases he'
          intro ⟨a, b, h1, h2, _⟩
          rw [z2] at h2; cases h2
        · obtain ⟨a, ha⟩ := nn_some z
          obtain ⟨b, hb⟩ := nn_some z2
          have ha7 := hlx a ha
          have hb7 := hly b hb
          rw [ha, hb]
          show vp_in (7 * nI a + nI b) 49 ∧ _
          rw [show nn_en (some a) = nI a from rfl, show nn_en (some b) = nI b from rfl, nn_l7, nI_add, nI_clamp (show 7 * a + b < 2 ^ 31 by omega), nn_vb1]
          refine ⟨vp_in_nI (by omega) (by decide), nm_e (nm_r (nI_1 i) (ih (i + 1) bo _ (by omega) (by omega) fun k hk9 => ?_))⟩
          have es : nn_ys rc rx ry qx qy ac ta ax ay c r (i + 1) k ↔ (nn_ys rc rx ry qx qy ac ta ax ay c r i k ∨ k = 7 * a + b) := by
            unfold nn_ys
            rw [nn_ex_s]
            refine or_congr Iff.rfl ⟨?_, fun y => ⟨e, he, a, b, ha, hb, y⟩⟩
            intro ⟨e', he', a', b', ha', hb', y⟩
            rw [he] at he'
            cases he'
            rw [ha] at ha'
            rw [hb] at hb'
            cases ha'
            cases hb'
            exact y
          by_cases ek : k = 7 * a + b
          · rw [ek, pk_us]
            exact nn_bo_t (Or.inr (ek ▸ es.mpr (Or.inr ek)))
          · rw [pk_un ek]
            exact nn_bo_c (hI k hk9) (or_congr Iff.rfl ⟨fun y => es.mpr (Or.inl y), fun y => (es.mp y).elim id fun y => absurd y ek⟩)
      · rw [he] at he'; cases he'
theorem nn_yap {post : SY → Prop} {r c : Nat} {A : Nat → Prop} (hr2 : r < 2) (hW : nn_Wt rc rx ry) (hR : nn_Wr qx qy ac ta ax ay) (hY : nn_Yt rc rx ry va) (hZ : nn_Yr qx qy ax ay qe te) (hk : ∀ i, i < 3 → kn i = nI (nn_dg c i))
    (hH : ∀ k, k < 49 → nn_bo (hr k) (A k)) (h : ∀ bo hr, (∀ k, k < 49 → nn_bo (hr k) (A k ∨ nn_Ar rc rx ry qx qy ac ta ax ay c r k)) → post (rl, sm, rc, va, qe, ac, ta, te, kn, bo, hr, al, on)) : wpY_apply post (rl, sm, rc, va, qe, ac, ta, te, kn, bo, hr, al, on) (nI r) :=
  ⟨126, nn_ya2 hr2 hW hR hY hZ hk (fun bo hr hB => h bo hr fun k hk9 => nn_bo_c (hB k hk9) (or_congr Iff.rfl (nn_Ar_y hr2 hW hR).symm)) 126 0 bo hr (by omega) (by omega) fun k hk9 => nn_bo_c (hH k hk9) ⟨Or.inl, fun z => z.elim id fun y => absurd y nn_ex_0⟩⟩
end
end
section
/-! the reference's answers -/
section
variable {rl sm : Int32} {rc va qe ac ta te kn bo hr al on rx ry qx qy ax ay : Nat → Int32}
theorem nn_y79 {post : Int32 → SY → Prop} {H Al On : Nat → Prop} (hH : ∀ k, k < 49 → nn_bo (hr k) (H k))
    (h : ∀ x al on, nn_bo x (∃ k, k < 49 ∧ H k) → (∀ k, k < 49 → nn_bo (al k) (Al k ∧ H k)) → (∀ k, k < 49 → nn_bo (on k) (On k ∨ H k)) → post x (rl, sm, rc, va, qe, ac, ta, te, kn, bo, hr, al, on)) :
    ∀ (n i : Nat) (x : Int32) (al on : Nat → Int32), i ≤ 49 → 49 < n + i → nn_bo x (∃ k, k < i ∧ H k) → (∀ k, k < 49 → nn_bo (al k) (Al k ∧ (k < i → H k))) → (∀ k, k < 49 → nn_bo (on k) (On k ∨ (k < i ∧ H k))) → wY_complete_79 post rl sm n x (nI i) rc va qe ac ta te kn bo hr al on := by
  intro n
  induction n with
  | zero => intro i x al on h1 h2; omega
  | succ n ih =>
    intro i x al on hi hn hx ha ho
    refine pk_le 49 i (fun hi => ?_) (fun hi => ?_)
    · have : i = 49 := by omega
      subst this
      exact ⟨nn_bo_n hx, h x al on hx (fun k hk => nn_bo_c (ha k hk) ⟨fun z => ⟨z.1, z.2 hk⟩, fun z => ⟨z.1, fun _ => z.2⟩⟩) (fun k hk => nn_bo_c (ho k hk) (or_congr Iff.rfl ⟨fun z => z.2, fun z => ⟨hk, z⟩⟩))⟩
    · have hin : vp_in (nI i) 49 := vp_in_nI hi (by decide)
      have hcl : (nI i).toNatClampNeg = i := nI_clamp (by omega)
      have hb := nn_bo_0 (hH i hi)
      refine ⟨hin, ?_⟩
      rw [hcl, hb, nn_vb0, nn_vb1]
      refine br_c (fun z => ⟨hin, nm_e (nm_r (nI_1 i) (ih (i + 1) x _ on (by omega) (by omega) ?_ (fun k hk => ?_) (fun k hk => ?_)))⟩) (fun z => ⟨hin, nm_e (nm_r (nI_1 i) (ih (i + 1) 1 al _ (by omega) (by omega) ?_ (fun k hk => ?_) (fun k hk => ?_)))⟩)
      · refine nn_bo_c hx ?_
        rw [nn_ex_s]
        exact ⟨Or.inl, fun y => y.elim id fun y => absurd y z⟩
      · by_cases e : k = i
        · rw [e, pk_us]
          exact nn_bo_f fun y => z (y.2 (by omega))
        · rw [pk_un e]
          exact nn_bo_c (ha k hk) ⟨fun y => ⟨y.1, fun w => y.2 (by omega)⟩, fun y => ⟨y.1, fun w => y.2 (by omega)⟩⟩
      · refine nn_bo_c (ho k hk) (or_congr Iff.rfl ⟨fun y => ⟨by omega, y.2⟩, fun y => ⟨?_, y.2⟩⟩)
        by_cases e : k = i
        · exact absurd (e ▸ y.2) z
        · omega
      · have z : H i := Classical.byContradiction z
        exact nn_bo_t ⟨i, by omega, z⟩
      · have z : H i := Classical.byContradiction z
        refine nn_bo_c (ha k hk) ⟨fun y => ⟨y.1, fun w => ?_⟩, fun y => ⟨y.1, fun w => y.2 (by omega)⟩⟩
        by_cases e : k = i
        · exact e ▸ z
        · exact y.2 (by omega)
      · have z : H i := Classical.byContradiction z
        by_cases e : k = i
        · rw [e, pk_us]
          exact nn_bo_t (Or.inr ⟨by omega, z⟩)
        · rw [pk_un e]
          exact nn_bo_c (ho k hk) (or_congr Iff.rfl ⟨fun y => ⟨by omega, y.2⟩, fun y => ⟨by omega, y.2⟩⟩)
theorem nn_y56 {post : Int32 → SY → Prop} {R c : Nat} {Al On : Nat → Prop} (hRL : rl = nI R) (hR2 : R ≤ 2) (hW : nn_Wt rc rx ry) (hR : nn_Wr qx qy ac ta ax ay) (hY : nn_Yt rc rx ry va) (hZ : nn_Yr qx qy ax ay qe te) (hk : ∀ i, i < 3 → kn i = nI (nn_dg c i))
    (ha : ∀ k, k < 49 → nn_bo (al k) (Al k)) (ho : ∀ k, k < 49 → nn_bo (on k) (On k))
    (h : ∀ x bo hr al on, nn_bo x (∃ k, k < 49 ∧ nn_A R rc rx ry qx qy ac ta ax ay c k) → (∀ k, k < 49 → nn_bo (al k) (Al k ∧ nn_A R rc rx ry qx qy ac ta ax ay c k)) → (∀ k, k < 49 → nn_bo (on k) (On k ∨ nn_A R rc rx ry qx qy ac ta ax ay c k)) → post x (rl, sm, rc, va, qe, ac, ta, te, kn, bo, hr, al, on)) :
    ∀ (n r : Nat) (bo hr : Nat → Int32), r ≤ R → R < n + r → (∀ k, k < 49 → nn_bo (hr k) (∃ r', r' < r ∧ nn_Ar rc rx ry qx qy ac ta ax ay c r' k)) → wY_complete_56 post n (nI r) rl sm rc va qe ac ta te kn bo hr al on := by
  intro n
  induction n with
  | zero => intro r bo hr h1 h2; omega
  | succ n ih =>
    intro r bo hr hr9 hn hH
    refine pk_le R r (fun hi => ?_) (fun hi => ?_) hRL
    · have : r = R := by omega
      subst this
      exact ⟨50, nn_y79 hH (fun x al on => h x bo hr al on) 50 0 0 al on (by omega) (by omega) (nn_bo_f nn_ex_0) (fun k hk => nn_bo_c (ha k hk) ⟨fun z => ⟨z, fun w => absurd w (by omega)⟩, fun z => z.1⟩) (fun k hk => nn_bo_c (ho k hk) ⟨Or.inl, fun z => z.elim id fun y => absurd y.1 (by omega)⟩)⟩
    · refine nn_yap (by omega) hW hR hY hZ hk hH fun bo hr hH => ?_
      dsimp only
      exact nm_r (nI_1 r) (ih (r + 1) bo hr (by omega) (by omega) fun k hk9 => nn_bo_c (hH k hk9) nn_ex_s.symm)
theorem nn_y35c {post : Int32 → SY → Prop} {R c : Nat} {Al On : Nat → Prop} (hRL : rl = nI R) (hR2 : R ≤ 2) (hW : nn_Wt rc rx ry) (hR : nn_Wr qx qy ac ta ax ay) (hY : nn_Yt rc rx ry va) (hZ : nn_Yr qx qy ax ay qe te) (hk : ∀ i, i < 3 → kn i = nI (nn_dg c i))
    (ha : ∀ k, k < 49 → nn_bo (al k) (Al k)) (ho : ∀ k, k < 49 → nn_bo (on k) (On k))
    (h : ∀ x bo hr al on, nn_bo x (∃ k, k < 49 ∧ nn_A R rc rx ry qx qy ac ta ax ay c k) → (∀ k, k < 49 → nn_bo (al k) (Al k ∧ nn_A R rc rx ry qx qy ac ta ax ay c k)) → (∀ k, k < 49 → nn_bo (on k) (On k ∨ nn_A R rc rx ry qx qy ac ta ax ay c k)) → post x (rl, sm, rc, va, qe, ac, ta, te, kn, bo, hr, al, on)) :
    ∀ (n i : Nat) (hr : Nat → Int32), i ≤ 49 → 49 < n + i → (∀ k, k < i → hr k = 0) → wY_complete_35 post rl sm n (nI i) rc va qe ac ta te kn bo hr al on := by
  intro n
  induction n with
  | zero => intro i hr h1 h2; omega
  | succ n ih =>
    intro i hr hi hn hI
    refine pk_le 49 i (fun hi => ?_) (fun hi => ?_)
    · exact ⟨R + 1, nn_y56 hRL hR2 hW hR hY hZ hk ha ho h _ 0 bo hr (by omega) (by omega) fun k hk9 => by rw [hI k (by omega)]; exact nn_bo_f nn_ex_0⟩
    · refine ⟨vp_in_nI hi (by decide), nm_e (nm_r (nI_1 i) ?_)⟩
      rw [nI_clamp (by omega), nn_vb0]
      refine ih (i + 1) _ (by omega) (by omega) fun k hk9 => ?_
      by_cases e : k = i
      · subst e; exact pk_us
      · exact (pk_un e).trans (hI k (by omega))
theorem nn_yco {post : Int32 → SY → Prop} {R c : Nat} {Al On : Nat → Prop} (hc : c < 343) (hRL : rl = nI R) (hR2 : R ≤ 2) (hW : nn_Wt rc rx ry) (hR : nn_Wr qx qy ac ta ax ay) (hY : nn_Yt rc rx ry va) (hZ : nn_Yr qx qy ax ay qe te)
    (ha : ∀ k, k < 49 → nn_bo (al k) (Al k)) (ho : ∀ k, k < 49 → nn_bo (on k) (On k))
    (h : ∀ x kn bo hr al on, nn_bo x (∃ k, k < 49 ∧ nn_A R rc rx ry qx qy ac ta ax ay c k) → (∀ k, k < 49 → nn_bo (al k) (Al k ∧ nn_A R rc rx ry qx qy ac ta ax ay c k)) → (∀ k, k < 49 → nn_bo (on k) (On k ∨ nn_A R rc rx ry qx qy ac ta ax ay c k)) → post x (rl, sm, rc, va, qe, ac, ta, te, kn, bo, hr, al, on)) : wpY_complete post (rl, sm, rc, va, qe, ac, ta, te, kn, bo, hr, al, on) (nI c) := by
  refine ⟨by decide, nm_e ⟨by decide, by decide, nm_e ⟨by decide, nm_e ⟨50, nn_y35c (c := c) hRL hR2 hW hR hY hZ (fun i hi => ?_) ha ho (fun x => h x _) 50 0 hr (by omega) (by omega) (fun k hk => absurd hk (by omega))⟩⟩⟩⟩
  by_cases h2 : i = 2
  · subst h2
    rw [pk_us, nn_d49 (by omega)]
    exact congrArg nI (show c / 49 = c / 7 / 7 % 7 by omega)
  · rw [pk_un h2]
    by_cases h1 : i = 1
    · subst h1
      rw [pk_us, nn_d7 (by omega), nn_m7 (by omega)]
      rfl
    · rw [pk_un h1]
      obtain rfl : i = 0 := by omega
      rw [pk_us, nn_m7 (by omega)]
      rfl
theorem nn_y35 {post : SY → Prop} {R : Nat} (hRL : rl = nI R) (hR2 : R ≤ 2) (hW : nn_Wt rc rx ry) (hR : nn_Wr qx qy ac ta ax ay) (hY : nn_Yt rc rx ry va) (hZ : nn_Yr qx qy ax ay qe te)
    (h : ∀ sm kn bo hr al on, nn_bo sm (∀ c, c < 343 → ∃ k, k < 49 ∧ nn_A R rc rx ry qx qy ac ta ax ay c k) → (∀ k, k < 49 → nn_bo (al k) (∀ c, c < 343 → nn_A R rc rx ry qx qy ac ta ax ay c k)) → (∀ k, k < 49 → nn_bo (on k) (∃ c, c < 343 ∧ nn_A R rc rx ry qx qy ac ta ax ay c k)) → post (rl, sm, rc, va, qe, ac, ta, te, kn, bo, hr, al, on)) :
    ∀ (n i : Nat) (sm : Int32) (kn bo hr al on : Nat → Int32), i ≤ 343 → 343 < n + i → nn_bo sm (∀ c, c < i → ∃ k, k < 49 ∧ nn_A R rc rx ry qx qy ac ta ax ay c k) → (∀ k, k < 49 → nn_bo (al k) (∀ c, c < i → nn_A R rc rx ry qx qy ac ta ax ay c k)) → (∀ k, k < 49 → nn_bo (on k) (∃ c, c < i ∧ nn_A R rc rx ry qx qy ac ta ax ay c k)) → wY_evaluate_35 post n (nI i) rl sm rc va qe ac ta te kn bo hr al on := by
  intro n
  induction n with
  | zero => intro i sm kn bo hr al on h1 h2; omega
  | succ n ih =>
    intro i sm kn bo hr al on hi hn hs ha ho
    refine pk_le 343 i (fun hi => ?_) (fun hi => ?_)
    · have : i = 343 := by omega
      subst this
      exact h sm kn bo hr al on hs ha ho
    · refine nn_yco hi hRL hR2 hW hR hY hZ ha ho fun x kn bo hr al on hx ha ho => ?_
      dsimp only
      have ha' : ∀ k, k < 49 → nn_bo (al k) (∀ c, c < i + 1 → nn_A R rc rx ry qx qy ac ta ax ay c k) := fun k hk => nn_bo_c (ha k hk) nn_al_s.symm
      have ho' : ∀ k, k < 49 → nn_bo (on k) (∃ c, c < i + 1 ∧ nn_A R rc rx ry qx qy ac ta ax ay c k) := fun k hk => nn_bo_c (ho k hk) nn_ex_s.symm
      have hx0 := nn_bo_0 hx
      refine br_c (fun z => nm_r (nI_1 i) (ih (i + 1) 0 kn bo hr al on (by omega) (by omega) (nn_bo_f fun y => hx0.mp z (y i (by omega))) ha' ho')) (fun z => nm_r (nI_1 i) (ih (i + 1) sm kn bo hr al on (by omega) (by omega) (nn_bo_c hs ?_) ha' ho'))
      rw [nn_al_s]
      exact ⟨fun y => ⟨y, Classical.byContradiction fun w => z (hx0.mpr w)⟩, fun y => y.1⟩
theorem nn_y7 {post : SY → Prop} {R : Nat} (hRL : rl = nI R) (hR2 : R ≤ 2) (hW : nn_Wt rc rx ry) (hR : nn_Wr qx qy ac ta ax ay) (hY : nn_Yt rc rx ry va) (hZ : nn_Yr qx qy ax ay qe te)
    (h : ∀ sm kn bo hr al on, nn_bo sm (∀ c, c < 343 → ∃ k, k < 49 ∧ nn_A R rc rx ry qx qy ac ta ax ay c k) → (∀ k, k < 49 → nn_bo (al k) (∀ c, c < 343 → nn_A R rc rx ry qx qy ac ta ax ay c k)) → (∀ k, k < 49 → nn_bo (on k) (∃ c, c < 343 ∧ nn_A R rc rx ry qx qy ac ta ax ay c k)) → post (rl, sm, rc, va, qe, ac, ta, te, kn, bo, hr, al, on)) :
    ∀ (n i : Nat) (al on : Nat → Int32), i ≤ 49 → 49 < n + i → (∀ k, k < i → al k = 1 ∧ on k = 0) → wY_evaluate_7 post rl 1 n (nI i) rc va qe ac ta te kn bo hr al on := by
  intro n
  induction n with
  | zero => intro i al on h1 h2; omega
  | succ n ih =>
    intro i al on hi hn hI
    refine pk_le 49 i (fun hi => ?_) (fun hi => ?_)
    · exact ⟨344, nn_y35 hRL hR2 hW hR hY hZ h 344 0 1 kn bo hr al on (by omega) (by omega) (nn_bo_t fun c hc => absurd hc (by omega)) (fun k hk => by rw [(hI k (by omega)).1]; exact nn_bo_t fun c hc => absurd hc (by omega)) (fun k hk => by rw [(hI k (by omega)).2]; exact nn_bo_f nn_ex_0)⟩
    · refine ⟨vp_in_nI hi (by decide), nm_e ⟨vp_in_nI hi (by decide), nm_e (nm_r (nI_1 i) ?_)⟩⟩
      rw [nI_clamp (by omega), nn_vb0, nn_vb1]
      refine ih (i + 1) _ _ (by omega) (by omega) fun k hk9 => ?_
      by_cases e : k = i
      · subst e; exact ⟨pk_us, pk_us⟩
      · have := hI k (by omega)
        exact ⟨(pk_un e).trans this.1, (pk_un e).trans this.2⟩
theorem nn_yev {post : SY → Prop} {R : Nat} (hRL : rl = nI R) (hR2 : R ≤ 2) (hW : nn_Wt rc rx ry) (hR : nn_Wr qx qy ac ta ax ay) (hY : nn_Yt rc rx ry va) (hZ : nn_Yr qx qy ax ay qe te)
    (h : ∀ sm kn bo hr al on, nn_bo sm (∀ c, c < 343 → ∃ k, k < 49 ∧ nn_A R rc rx ry qx qy ac ta ax ay c k) → (∀ k, k < 49 → nn_bo (al k) (∀ c, c < 343 → nn_A R rc rx ry qx qy ac ta ax ay c k)) → (∀ k, k < 49 → nn_bo (on k) (∃ c, c < 343 ∧ nn_A R rc rx ry qx qy ac ta ax ay c k)) → post (rl, sm, rc, va, qe, ac, ta, te, kn, bo, hr, al, on)) : wpY_evaluate post (rl, sm, rc, va, qe, ac, ta, te, kn, bo, hr, al, on) :=
  ⟨50, nn_y7 hRL hR2 hW hR hY hZ h 50 0 al on (by omega) (by omega) (fun k hk => absurd hk (by omega))⟩
theorem nn_K6 (p : Int32) : nn_K p ↔ (¬ p < 0 ∧ ¬ 6 < p) := by
  constructor
  · intro ⟨a, ha, e⟩
    rw [e]
    exact ⟨nI_pos (by omega), nI_nlt (a := 6) (by omega) (by decide)⟩
  · intro ⟨h0, h7⟩
    obtain ⟨j, hj, rfl⟩ := nI_of h0
    have h7 : ¬ nI 6 < nI j := h7
    rw [nI_ltI (by decide) hj] at h7
    exact ⟨j, by omega, rfl⟩
theorem nn_yK {post : Int32 → Prop} {p q : Int32} (h1 : nn_K p ∧ nn_K q → post 1) (h0 : ¬ (nn_K p ∧ nn_K q) → post 0) : wpY_isCouple post (rl, sm, rc, va, qe, ac, ta, te, kn, bo, hr, al, on) p q := by
  rw [nn_K6, nn_K6] at h1 h0
  exact br_c (fun a => h0 fun z => z.1.1 a) fun a => br_c (fun b => h0 fun z => z.1.2 b) fun b => br_c (fun c => h0 fun z => z.2.1 c) fun c => br_c (fun d => h0 fun z => z.2.2 d) fun d => h1 ⟨⟨a, b⟩, ⟨c, d⟩⟩
theorem nn_ycer {post : Int32 → SY → Prop} {R a b : Nat} (ha7 : a < 7) (hb7 : b < 7) (hRL : rl = nI R) (hR2 : R ≤ 2) (hW : nn_Wt rc rx ry) (hR : nn_Wr qx qy ac ta ax ay) (hY : nn_Yt rc rx ry va) (hZ : nn_Yr qx qy ax ay qe te)
    (h : ∀ x sm kn bo hr al on, nn_bo x (∀ c, c < 343 → nn_A R rc rx ry qx qy ac ta ax ay c (7 * a + b)) → post x (rl, sm, rc, va, qe, ac, ta, te, kn, bo, hr, al, on)) : wpY_certain post (rl, sm, rc, va, qe, ac, ta, te, kn, bo, hr, al, on) (nI a) (nI b) := by
  unfold wpY_certain
  dsimp only
  refine nn_yK (fun _ => br_f nn_10 ?_) (fun z => absurd ⟨⟨a, ha7, rfl⟩, ⟨b, hb7, rfl⟩⟩ z)
  refine nn_yev hRL hR2 hW hR hY hZ fun sm kn bo hr al on _ ha _ => ?_
  dsimp only
  rw [nn_l7, nI_add, nI_clamp (show 7 * a + b < 2 ^ 31 by omega)]
  have hx := ha (7 * a + b) (by omega)
  exact ⟨vp_in_nI (by omega) (by decide), nn_bo_n hx, h _ sm kn bo hr al on hx⟩
theorem nn_ypos {post : Int32 → SY → Prop} {R a b : Nat} (ha7 : a < 7) (hb7 : b < 7) (hRL : rl = nI R) (hR2 : R ≤ 2) (hW : nn_Wt rc rx ry) (hR : nn_Wr qx qy ac ta ax ay) (hY : nn_Yt rc rx ry va) (hZ : nn_Yr qx qy ax ay qe te)
    (h : ∀ x sm kn bo hr al on, nn_bo x (∃ c, c < 343 ∧ nn_A R rc rx ry qx qy ac ta ax ay c (7 * a + b)) → post x (rl, sm, rc, va, qe, ac, ta, te, kn, bo, hr, al, on)) : wpY_possible post (rl, sm, rc, va, qe, ac, ta, te, kn, bo, hr, al, on) (nI a) (nI b) := by
  unfold wpY_possible
  dsimp only
  refine nn_yK (fun _ => br_f nn_10 ?_) (fun z => absurd ⟨⟨a, ha7, rfl⟩, ⟨b, hb7, rfl⟩⟩ z)
  refine nn_yev hRL hR2 hW hR hY hZ fun sm kn bo hr al on _ _ ho => ?_
  dsimp only
  rw [nn_l7, nI_add, nI_clamp (show 7 * a + b < 2 ^ 31 by omega)]
  have hx := ho (7 * a + b) (by omega)
  exact ⟨vp_in_nI (by omega) (by decide), nn_bo_n hx, h _ sm kn bo hr al on hx⟩
theorem nn_ycer0 {post : Int32 → SY → Prop} {p q : Int32} (hn : ¬ (nn_K p ∧ nn_K q)) (h : post 0 (rl, sm, rc, va, qe, ac, ta, te, kn, bo, hr, al, on)) : wpY_certain post (rl, sm, rc, va, qe, ac, ta, te, kn, bo, hr, al, on) p q := by
  unfold wpY_certain
  dsimp only
  exact nn_yK (fun z => absurd z hn) (fun _ => br_t rfl h)
theorem nn_ypos0 {post : Int32 → SY → Prop} {p q : Int32} (hn : ¬ (nn_K p ∧ nn_K q)) (h : post 0 (rl, sm, rc, va, qe, ac, ta, te, kn, bo, hr, al, on)) : wpY_possible post (rl, sm, rc, va, qe, ac, ta, te, kn, bo, hr, al, on) p q := by
  unfold wpY_possible
  dsimp only
  exact nn_yK (fun z => absurd z hn) (fun _ => br_t rfl h)
theorem nn_ycc8 {post : Int32 → SY → Prop} {p : Nat → Prop} (ha : ∀ k, k < 49 → nn_bo (al k) (p k)) (h : post (nI (nn_cc p 49)) (rl, sm, rc, va, qe, ac, ta, te, kn, bo, hr, al, on)) : ∀ (n i : Nat), i ≤ 49 → 49 < n + i → wY_certainCount_8 post rl sm rc va qe ac ta te kn bo hr al on n (nI (nn_cc p i)) (nI i) := by
  intro n
  induction n with
  | zero => intro i h1 h2; omega
  | succ n ih =>
    intro i hi hn
    refine pk_le 49 i (fun hi => ?_) (fun hi => ?_)
    · have : i = 49 := by omega
      subst this
      exact h
    · refine ⟨vp_in_nI hi (by decide), ?_⟩
      rw [nI_clamp (show i < 2 ^ 31 by omega), nn_bo_0 (ha i hi)]
      refine br_c (fun z => nm_r (nI_1 i) ?_) (fun z => nm_r (nI_1 _) (nm_r (nI_1 i) ?_))
      · rw [← nn_cc_f z]
        exact ih (i + 1) (by omega) (by omega)
      · rw [← nn_cc_t (Classical.byContradiction z)]
        exact ih (i + 1) (by omega) (by omega)
theorem nn_ycc {post : Int32 → SY → Prop} {R : Nat} (hRL : rl = nI R) (hR2 : R ≤ 2) (hW : nn_Wt rc rx ry) (hR : nn_Wr qx qy ac ta ax ay) (hY : nn_Yt rc rx ry va) (hZ : nn_Yr qx qy ax ay qe te)
    (h : ∀ sm kn bo hr al on, post (nI (nn_cc (fun k => ∀ c, c < 343 → nn_A R rc rx ry qx qy ac ta ax ay c k) 49)) (rl, sm, rc, va, qe, ac, ta, te, kn, bo, hr, al, on)) : wpY_certainCount post (rl, sm, rc, va, qe, ac, ta, te, kn, bo, hr, al, on) := by
  unfold wpY_certainCount
  dsimp only
  refine nn_yev hRL hR2 hW hR hY hZ fun sm kn bo hr al on _ ha _ => ?_
  exact ⟨50, nn_ycc8 ha (h sm kn bo hr al on) 50 0 (by omega) (by omega)⟩
theorem nn_yas {post : Int32 → SY → Prop} {R : Nat} (hRL : rl = nI R) (hR2 : R ≤ 2) (hW : nn_Wt rc rx ry) (hR : nn_Wr qx qy ac ta ax ay) (hY : nn_Yt rc rx ry va) (hZ : nn_Yr qx qy ax ay qe te)
    (h : ∀ x kn bo hr al on, nn_bo x (∀ c, c < 343 → ∃ k, k < 49 ∧ nn_A R rc rx ry qx qy ac ta ax ay c k) → post x (rl, x, rc, va, qe, ac, ta, te, kn, bo, hr, al, on)) : wpY_alwaysSome post (rl, sm, rc, va, qe, ac, ta, te, kn, bo, hr, al, on) := by
  unfold wpY_alwaysSome
  dsimp only
  refine nn_yev hRL hR2 hW hR hY hZ fun sm kn bo hr al on hs _ _ => ?_
  exact ⟨nn_bo_n hs, h sm kn bo hr al on hs⟩
end
end
section
/-! the checks of arguments, and what rule and atom do -/
theorem nn_Di (p : Int32) : (¬ p < 0 ∧ ¬ 2 ≤ p) ↔ nn_D p := by
  constructor
  · intro ⟨h0, h7⟩
    obtain ⟨j, hj, rfl⟩ := nI_of h0
    have h7 : ¬ nI 2 ≤ nI j := h7
    rw [nI_leI (by decide) hj] at h7
    exact ⟨j, by omega, rfl⟩
  · intro ⟨a, ha, e⟩
    rw [e]
    exact ⟨nI_pos (by omega), nI_ge (b := 2) ha (by decide)⟩
theorem nn_Ci (p : Int32) : (¬ p < 0 ∧ ¬ 3 < p) ↔ nn_C p := (nn_gr p 0 3 (by decide) (by decide)).trans ⟨fun ⟨a, _, h, e⟩ => ⟨a, h, e⟩, fun ⟨a, h, e⟩ => ⟨a, Nat.zero_le _, h, e⟩⟩
theorem nn_Ui (p : Int32) : (¬ p < 10 ∧ ¬ 12 < p) ↔ nn_U p := nn_gr p 10 12 (by decide) (by decide)
def nn_Vr (x : Int32) : Prop := ∃ a, 20 ≤ a ∧ a ≤ 23 ∧ x = nI a
theorem nn_Vri (p : Int32) : (¬ p < 20 ∧ ¬ 23 < p) ↔ nn_Vr p := nn_gr p 20 23 (by decide) (by decide)
theorem nn_Vi (p : Int32) : nn_V p ↔ (nn_C p ∨ nn_U p) := by
  constructor
  · intro ⟨a, ha, e⟩
    cases ha with
    | inl h => exact Or.inl ⟨a, h, e⟩
    | inr h => exact Or.inr ⟨a, h.1, h.2, e⟩
  · intro h
    cases h with
    | inl h => obtain ⟨a, h, e⟩ := h; exact ⟨a, Or.inl h, e⟩
    | inr h => obtain ⟨a, h1, h2, e⟩ := h; exact ⟨a, Or.inr ⟨h1, h2⟩, e⟩
theorem nn_Mi (p : Int32) : nn_M p ↔ (nn_C p ∨ nn_Vr p) := by
  constructor
  · intro ⟨a, ha, e⟩
    cases ha with
    | inl h => exact Or.inl ⟨a, h, e⟩
    | inr h => exact Or.inr ⟨a, h.1, h.2, e⟩
  · intro h
    cases h with
    | inl h => obtain ⟨a, h, e⟩ := h; exact ⟨a, Or.inl h, e⟩
    | inr h => obtain ⟨a, h1, h2, e⟩ := h; exact ⟨a, Or.inr ⟨h1, h2⟩, e⟩
theorem nn_xD {post : Int32 → Prop} {p : Int32} (h1 : nn_D p → post 1) (h0 : ¬ nn_D p → post 0) : wpX_isTable post p := by
  rw [← nn_Di] at h1 h0
  exact br_c (fun a => h0 fun z => z.1 a) fun a => br_c (fun b => h0 fun z => z.2 b) fun b => h1 ⟨a, b⟩
theorem nn_xC {post : Int32 → Prop} {p : Int32} (h1 : nn_C p → post 1) (h0 : ¬ nn_C p → post 0) : wpX_isWrittenConstant post p := by
  rw [← nn_Ci] at h1 h0
  exact br_c (fun a => h0 fun z => z.1 a) fun a => br_c (fun b => h0 fun z => z.2 b) fun b => h1 ⟨a, b⟩
theorem nn_xU {post : Int32 → Prop} {p : Int32} (h1 : nn_U p → post 1) (h0 : ¬ nn_U p → post 0) : wpX_isUnknown post p := by
  rw [← nn_Ui] at h1 h0
  exact br_c (fun a => h0 fun z => z.1 a) fun a => br_c (fun b => h0 fun z => z.2 b) fun b => h1 ⟨a, b⟩
theorem nn_xVr {post : Int32 → Prop} {p : Int32} (h1 : nn_Vr p → post 1) (h0 : ¬ nn_Vr p → post 0) : wpX_isVariable post p := by
  rw [← nn_Vri] at h1 h0
  exact br_c (fun a => h0 fun z => z.1 a) fun a => br_c (fun b => h0 fun z => z.2 b) fun b => h1 ⟨a, b⟩
theorem nn_xV {post : Int32 → Prop} {p : Int32} (h1 : nn_V p → post 1) (h0 : ¬ nn_V p → post 0) : wpX_isRowValue post p := by
  rw [nn_Vi] at h1 h0
  unfold wpX_isRowValue
  refine nn_xC (fun c => br_f nn_10 (h1 (Or.inl c))) (fun c => br_t rfl ?_)
  exact nn_xU (fun d => br_f nn_10 (h1 (Or.inr d))) (fun d => br_t rfl (h0 fun z => z.elim c d))
theorem nn_xM {post : Int32 → Prop} {p : Int32} (h1 : nn_M p → post 1) (h0 : ¬ nn_M p → post 0) : wpX_isTerm post p := by
  rw [nn_Mi] at h1 h0
  unfold wpX_isTerm
  refine nn_xC (fun c => br_f nn_10 (h1 (Or.inl c))) (fun c => br_t rfl ?_)
  exact nn_xVr (fun d => br_f nn_10 (h1 (Or.inr d))) (fun d => br_t rfl (h0 fun z => z.elim c d))
section
variable {rl sm : Int32} {rc va qe ac ta te kn bo hr al on : Nat → Int32}
theorem nn_yD {post : Int32 → Prop} {p : Int32} (h1 : nn_D p → post 1) (h0 : ¬ nn_D p → post 0) : wpY_isTable post (rl, sm, rc, va, qe, ac, ta, te, kn, bo, hr, al, on) p := by
  refine br_c (fun a => h1 ⟨0, by decide, a⟩) fun a => br_c (fun b => h1 ⟨1, by decide, b⟩) fun b => h0 ?_
  intro ⟨j, hj, e⟩
  match j, hj with
  | 0, _ => exact a e
  | 1, _ => exact b e
theorem nn_yV9 {post : Int32 → Prop} {p : Int32} (h1 : nn_U p → post 1) (h0 : ¬ nn_U p → post 0) : wY_isValue_9 post p rl sm rc va qe ac ta te kn bo hr al on := by
  rw [← nn_Ui] at h1 h0
  exact br_c (fun a => h0 fun z => z.1 a) fun a => br_c (fun b => h0 fun z => z.2 b) fun b => h1 ⟨a, b⟩
theorem nn_yM9 {post : Int32 → Prop} {p : Int32} (h1 : nn_Vr p → post 1) (h0 : ¬ nn_Vr p → post 0) : wY_isTerm_9 post p rl sm rc va qe ac ta te kn bo hr al on := by
  rw [← nn_Vri] at h1 h0
  exact br_c (fun a => h0 fun z => z.1 a) fun a => br_c (fun b => h0 fun z => z.2 b) fun b => h1 ⟨a, b⟩
theorem nn_yV {post : Int32 → Prop} {p : Int32} (h1 : nn_V p → post 1) (h0 : ¬ nn_V p → post 0) : wpY_isValue post (rl, sm, rc, va, qe, ac, ta, te, kn, bo, hr, al, on) p := by
  rw [nn_Vi] at h1 h0
  refine br_c (fun a => nn_yV9 (fun d => h1 (Or.inr d)) (fun d => h0 fun z => z.elim (fun c => ((nn_Ci p).mpr c).1 a) d)) fun a => br_c (fun b => h1 (Or.inl ((nn_Ci p).mp ⟨a, Int32.not_lt.mpr b⟩))) fun b => nn_yV9 (fun d => h1 (Or.inr d)) (fun d => h0 fun z => z.elim (fun c => b (Int32.not_lt.mp ((nn_Ci p).mpr c).2)) d)
theorem nn_yM {post : Int32 → Prop} {p : Int32} (h1 : nn_M p → post 1) (h0 : ¬ nn_M p → post 0) : wpY_isTerm post (rl, sm, rc, va, qe, ac, ta, te, kn, bo, hr, al, on) p := by
  rw [nn_Mi] at h1 h0
  refine br_c (fun a => nn_yM9 (fun d => h1 (Or.inr d)) (fun d => h0 fun z => z.elim (fun c => ((nn_Ci p).mpr c).1 a) d)) fun a => br_c (fun b => h1 (Or.inl ((nn_Ci p).mp ⟨a, Int32.not_lt.mpr b⟩))) fun b => nn_yM9 (fun d => h1 (Or.inr d)) (fun d => h0 fun z => z.elim (fun c => b (Int32.not_lt.mp ((nn_Ci p).mpr c).2)) d)
end
theorem nn_u_is {a : Nat → Int32} {j s x : Nat} {p : Nat → Prop} (h : nn_is (a s) p) (hx : x < 2 ^ 31) (hp : p x) : nn_is (upd a j (nI x) s) p := by
  by_cases e : s = j
  · rw [e, pk_us]; exact nn_is_i hx hp
  · rw [pk_un e]; exact h
theorem nn_rule_W {qx qy ac ta ax ay : Nat → Int32} {R x y : Nat} (h : nn_Wr qx qy ac ta ax ay) (hx : nn_pt x) (hy : nn_pt y) : nn_Wr (upd qx R (nI x)) (upd qy R (nI y)) (upd ac R (nI 0)) ta ax ay := by
  have hx9 := nn_pt_lt hx
  have hy9 := nn_pt_lt hy
  refine ⟨fun r hr => ?_, h.2⟩
  have := h.1 r hr
  exact ⟨nn_u_is this.1 (by omega) (by omega), nn_u_is this.2.1 (by omega) hx, nn_u_is this.2.2 (by omega) hy⟩
theorem nn_rule_Y {qx qy ax ay qe te : Nat → Int32} {R : Nat} {x y : Int32} (h : nn_Yr qx qy ax ay qe te) : nn_Yr (upd qx R x) (upd qy R y) ax ay (upd (upd qe (2 * R) x) (2 * R + 1) y) te := by
  refine ⟨fun r hr => ?_, h.2⟩
  have := h.1 r hr
  by_cases e : r = R
  · subst e
    rw [pk_un (by omega), pk_us, pk_us, pk_us, pk_us]
    exact ⟨rfl, rfl⟩
  · rw [pk_un (by omega), pk_un (by omega), pk_un (by omega), pk_un (by omega), pk_un (by omega), pk_un (by omega)]
    exact this
theorem nn_atom_W {qx qy ac ta ax ay : Nat → Int32} {r s m t x y : Nat} (h : nn_Wr qx qy ac ta ax ay) (hm : m ≤ 3) (ht : t < 2) (hx : nn_pt x) (hy : nn_pt y) : nn_Wr qx qy (upd ac r (nI m)) (upd ta s (nI t)) (upd ax s (nI x)) (upd ay s (nI y)) := by
  have hx9 := nn_pt_lt hx
  have hy9 := nn_pt_lt hy
  refine ⟨fun r' hr => ?_, fun s' hs => ?_⟩
  · have := h.1 r' hr
    exact ⟨nn_u_is this.1 (by omega) hm, this.2⟩
  · have := h.2 s' hs
    exact ⟨nn_u_is this.1 (by omega) ht, nn_u_is this.2.1 (by omega) hx, nn_u_is this.2.2 (by omega) hy⟩
theorem nn_atom_Y {qx qy ax ay qe te : Nat → Int32} {s : Nat} {x y : Int32} (h : nn_Yr qx qy ax ay qe te) : nn_Yr qx qy (upd ax s x) (upd ay s y) qe (upd (upd te (2 * s) x) (2 * s + 1) y) := by
  refine ⟨h.1, fun r hr => ?_⟩
  have := h.2 r hr
  by_cases e : r = s
  · subst e
    rw [pk_un (by omega), pk_us, pk_us, pk_us, pk_us]
    exact ⟨rfl, rfl⟩
  · rw [pk_un (by omega), pk_un (by omega), pk_un (by omega), pk_un (by omega), pk_un (by omega), pk_un (by omega)]
    exact this
end
section
/-! the component's calls that change the state -/
section
variable {rC : Int32} {rc rx ry qx qy ac ta ax ay gi fu fv bd : Nat → Int32}
theorem nn_xaddB {post : Int32 → SX → Prop} {p q s : Int32} (hn : ¬ (nn_D p ∧ nn_V q ∧ nn_V s)) (h : post (-1) (rC, rc, rx, ry, qx, qy, ac, ta, ax, ay, gi, fu, fv, bd)) : wpX_addRow post (rC, rc, rx, ry, qx, qy, ac, ta, ax, ay, gi, fu, fv, bd) p q s := by
  unfold wpX_addRow
  dsimp only
  refine nn_xD (fun a => br_f nn_10 ?_) (fun _ => br_t rfl h)
  refine nn_xV (fun b => br_f nn_10 ?_) (fun _ => br_t rfl h)
  exact nn_xV (fun c => absurd ⟨a, b, c⟩ hn) (fun _ => br_t rfl h)
theorem nn_xadd {post : Int32 → SX → Prop} {t x y : Nat} (hW : nn_Wt rc rx ry) (ht : t < 2) (hx : nn_pv x) (hy : nn_pv y) (h5 : nn_n rc t = 5 → post (-2) (rC, rc, rx, ry, qx, qy, ac, ta, ax, ay, gi, fu, fv, bd))
    (h : nn_n rc t < 5 → post (nI (nn_n rc t + 1)) (rC, upd rc t (nI (nn_n rc t + 1)), upd rx (5 * t + nn_n rc t) (nI x), upd ry (5 * t + nn_n rc t) (nI y), qx, qy, ac, ta, ax, ay, gi, fu, fv, bd)) : wpX_addRow post (rC, rc, rx, ry, qx, qy, ac, ta, ax, ay, gi, fu, fv, bd) (nI t) (nI x) (nI y) := by
  have hn := nn_Wt_n hW ht
  have hin : vp_in (nI t) 2 := vp_in_nI ht (by decide)
  have hcl : (nI t).toNatClampNeg = t := nI_clamp (by omega)
  unfold wpX_addRow
  dsimp only
  refine nn_xD (fun _ => br_f nn_10 ?_) (fun z => absurd ⟨t, ht, rfl⟩ z)
  refine nn_xV (fun _ => br_f nn_10 ?_) (fun z => absurd ⟨x, hx, rfl⟩ z)
  refine nn_xV (fun _ => br_f nn_10 ?_) (fun z => absurd ⟨y, hy, rfl⟩ z)
  rw [hcl]
  refine ⟨hin, nm_r hn.1 (pk_lt (nn_n rc t) 5 (fun k5 => ?_) (fun k5 => h5 (by omega)))⟩
  have hin2 : vp_in (nI (5 * t + nn_n rc t)) 10 := vp_in_nI (by omega) (by decide)
  refine nm_r (by rw [nn_r5, nI_add]) ⟨hin2, nm_e ⟨hin2, nm_e ⟨hin, nm_e ?_⟩⟩⟩
  rw [nI_1, nI_clamp (show 5 * t + nn_n rc t < 2 ^ 31 by omega)]
  exact h k5
theorem nn_x34 {post : Int32 → SX → Prop} {t k : Nat} (ht : t < 2) (hk : k < 5) (h : post (nI k) (rC, upd rc t (nI k), nn_mv rx (5 * t) k 1, nn_mv ry (5 * t) k 1, qx, qy, ac, ta, ax, ay, gi, fu, fv, bd)) :
    ∀ (n i : Nat), i ≤ k → k < n + i → wX_dropRow_34 post (nI t) (nI k) (nI (5 * t)) rC n (nI i) rc (nn_mv rx (5 * t) i 1) (nn_mv ry (5 * t) i 1) qx qy ac ta ax ay gi fu fv bd := by
  intro n
  induction n with
  | zero => intro i h1 h2; omega
  | succ n ih =>
    intro i hi hn
    refine pk_le k i (fun hik => ?_) (fun hik => ?_)
    · have : i = k := by omega
      subst this
      refine ⟨vp_in_nI ht (by decide), nm_e ?_⟩
      rw [nI_clamp (show t < 2 ^ 31 by omega)]
      exact h
    · have hin : vp_in (nI (5 * t + i)) 10 := vp_in_nI (by omega) (by decide)
      have hin1 : vp_in (nI (5 * t + i + 1)) 10 := vp_in_nI (by omega) (by decide)
      rw [nI_add, nI_1 (5 * t + i), nI_clamp (show 5 * t + i < 2 ^ 31 by omega), nI_clamp (show 5 * t + i + 1 < 2 ^ 31 by omega)]
      refine ⟨hin1, hin, nm_r (nn_mv_s (by decide)) ⟨hin1, hin, nm_r (nn_mv_s (by decide)) (nm_r (nI_1 i) ?_)⟩⟩
      exact ih (i + 1) (by omega) (by omega)
theorem nn_xdrB {post : Int32 → SX → Prop} {p : Int32} (hn : ¬ nn_D p) (h : post (-1) (rC, rc, rx, ry, qx, qy, ac, ta, ax, ay, gi, fu, fv, bd)) : wpX_dropRow post (rC, rc, rx, ry, qx, qy, ac, ta, ax, ay, gi, fu, fv, bd) p := by
  unfold wpX_dropRow
  dsimp only
  exact nn_xD (fun a => absurd a hn) (fun _ => br_t rfl h)
theorem nn_xdr {post : Int32 → SX → Prop} {t : Nat} (hW : nn_Wt rc rx ry) (ht : t < 2) (h0 : nn_n rc t = 0 → post (-1) (rC, rc, rx, ry, qx, qy, ac, ta, ax, ay, gi, fu, fv, bd))
    (h : ∀ k, nn_n rc t = k + 1 → post (nI k) (rC, upd rc t (nI k), nn_mv rx (5 * t) k 1, nn_mv ry (5 * t) k 1, qx, qy, ac, ta, ax, ay, gi, fu, fv, bd)) : wpX_dropRow post (rC, rc, rx, ry, qx, qy, ac, ta, ax, ay, gi, fu, fv, bd) (nI t) := by
  have hn := nn_Wt_n hW ht
  have hin : vp_in (nI t) 2 := vp_in_nI ht (by decide)
  unfold wpX_dropRow
  dsimp only
  refine nn_xD (fun _ => br_f nn_10 ?_) (fun z => absurd ⟨t, ht, rfl⟩ z)
  rw [nI_clamp (show t < 2 ^ 31 by omega)]
  refine ⟨hin, pk_eq (nn_n rc t) 0 h0 (fun z => ?_) hn.1⟩
  obtain ⟨k, hk⟩ : ∃ k, nn_n rc t = k + 1 := ⟨nn_n rc t - 1, by omega⟩
  have e1 : rc t - 1 = nI k := by rw [hn.1, hk]; exact nI_pred k
  refine ⟨hin, nm_r e1 (nm_r (nn_r5 t) ⟨k + 1, ?_⟩)⟩
  have := nn_x34 (rC := rC) (post := post) ht (show k < 5 by omega) (h k hk) (k + 1) 0 (by omega) (by omega)
  rw [nn_mv_0, nn_mv_0] at this
  exact this
/-! learn -/
def nn_hp (rc rx : Nat → Int32) (U : Int32) (p s : Nat) : Prop := nn_hx rc rx U s ∧ s < p
theorem nn_hp_at {rx : Nat → Int32} {U c : Int32} {p : Nat} : nn_pl rx (nn_hp rc rx U p) c p = rx p := nn_pl_f fun z => absurd z.2 (by omega)
theorem nn_hp_t {rx : Nat → Int32} {U c : Int32} {p : Nat} (h : nn_hx rc rx U p) : upd (nn_pl rx (nn_hp rc rx U p) c) p c = nn_pl rx (nn_hp rc rx U (p + 1)) c :=
  nn_pl_u fun s => ⟨fun z => if e : s = p then Or.inr e else Or.inl ⟨z.1, by have := z.2; omega⟩, fun z => z.elim (fun y => ⟨y.1, by have := y.2; omega⟩) (fun y => ⟨y ▸ h, by omega⟩)⟩
theorem nn_hp_f {rx : Nat → Int32} {U c : Int32} {p : Nat} (h : ¬ nn_hx rc rx U p) : nn_pl rx (nn_hp rc rx U p) c = nn_pl rx (nn_hp rc rx U (p + 1)) c :=
  nn_pl_e fun s => ⟨fun z => ⟨z.1, by have := z.2; omega⟩, fun z => ⟨z.1, by
    have z2 := z.2
    by_cases e : s = p
    · exact absurd (e ▸ z.1) h
    · omega⟩⟩
theorem nn_hp_n {rx : Nat → Int32} {U c : Int32} {t : Nat} (h5 : nn_n rc t ≤ 5) : nn_pl rx (nn_hp rc rx U (5 * t + nn_n rc t)) c = nn_pl rx (nn_hp rc rx U (5 * (t + 1))) c :=
  nn_pl_e fun s => ⟨fun z => ⟨z.1, by have := z.2; omega⟩, fun z => ⟨z.1, by
    have z2 := z.2
    have z1 := z.1.1
    by_cases e : 5 * t ≤ s
    · rw [show s / 5 = t by omega] at z1
      omega
    · omega⟩⟩
theorem nn_x73 {post : Int32 → SX → Prop} {J1 J : Int32 → Int32 → (Nat → Int32) → (Nat → Int32) → (Nat → Int32) → (Nat → Int32) → (Nat → Int32) → (Nat → Int32) → (Nat → Int32) → (Nat → Int32) → (Nat → Int32) → (Nat → Int32) → (Nat → Int32) → (Nat → Int32) → (Nat → Int32) → Prop}
    {U c x4 : Int32} {va : Nat → Int32} {t i : Nat} (ht : t < 2) (hi : i < nn_n rc t) (h5 : nn_n rc t ≤ 5) (hv : va (10 * t + 2 * i + 1) = ry (5 * t + i))
    (h : J (nI (nn_lc rc va U (10 * t + 2 * (i + 1)))) (nI (i + 1)) rc rx (nn_pl ry (nn_hp rc ry U (5 * t + (i + 1))) c) qx qy ac ta ax ay gi fu fv bd) :
    wX_learn_73 post J1 J U c (nI (nn_lc rc va U (10 * t + 2 * i + 1))) x4 (nI i) (nI (5 * t + i)) rC rc rx (nn_pl ry (nn_hp rc ry U (5 * t + i)) c) qx qy ac ta ax ay gi fu fv bd := by
  have hin : vp_in (nI (5 * t + i)) 10 := vp_in_nI (by omega) (by decide)
  have u1 : (5 * t + i) % 5 < nn_n rc ((5 * t + i) / 5) := by rw [show (5 * t + i) / 5 = t by omega]; omega
  have u2 : (10 * t + 2 * i + 1) % 10 < 2 * nn_n rc ((10 * t + 2 * i + 1) / 10) := by rw [show (10 * t + 2 * i + 1) / 10 = t by omega]; omega
  have eh : (10 * t + 2 * (i + 1)) = 10 * t + 2 * i + 1 + 1 := by omega
  rw [eh] at h
  refine ⟨hin, ?_⟩
  rw [nI_clamp (show 5 * t + i < 2 ^ 31 by omega), nn_hp_at]
  refine br_c (fun z => ⟨hin, nm_r (nn_hp_t ⟨u1, z⟩) (nm_r (nI_1 _) (nm_r (nI_1 i) ?_))⟩) (fun z => nm_r (nI_1 i) ?_)
  · rw [nn_lc_t ⟨u2, hv.trans z⟩] at h
    exact h
  · rw [nn_lc_f (fun y => z (hv.symm.trans y.2))] at h
    rw [nn_hp_f (fun y => z y.2)]
    exact h
theorem nn_x30 {post : Int32 → SX → Prop} {J : Int32 → Int32 → (Nat → Int32) → (Nat → Int32) → (Nat → Int32) → (Nat → Int32) → (Nat → Int32) → (Nat → Int32) → (Nat → Int32) → (Nat → Int32) → (Nat → Int32) → (Nat → Int32) → (Nat → Int32) → (Nat → Int32) → (Nat → Int32) → Prop}
    {U c : Int32} {va : Nat → Int32} {t : Nat} (hW : nn_Wt rc rx ry) (hY : nn_Yt rc rx ry va) (ht : t < 2)
    (h : J (nI (nn_lc rc va U (10 * (t + 1)))) (nI (t + 1)) rc (nn_pl rx (nn_hp rc rx U (5 * (t + 1))) c) (nn_pl ry (nn_hp rc ry U (5 * (t + 1))) c) qx qy ac ta ax ay gi fu fv bd) :
    ∀ (n i : Nat), i ≤ nn_n rc t → nn_n rc t < n + i → wX_learn_30 post J U c (nI t) rC n (nI (nn_lc rc va U (10 * t + 2 * i))) (nI i) rc (nn_pl rx (nn_hp rc rx U (5 * t + i)) c) (nn_pl ry (nn_hp rc ry U (5 * t + i)) c) qx qy ac ta ax ay gi fu fv bd := by
  have hn := nn_Wt_n hW ht
  intro n
  induction n with
  | zero => intro i h1 h2; omega
  | succ n ih =>
    intro i hi hnn
    refine ⟨vp_in_nI ht (by decide), pk_le (nn_n rc t) i (fun z => ?_) (fun z => ?_) (by rw [nI_clamp (show t < 2 ^ 31 by omega)]; exact hn.1)⟩
    · have : i = nn_n rc t := by omega
      subst this
      refine nm_r (nI_1 t) ?_
      rw [nn_lc_next hn.2, ← nn_hp_n hn.2, ← nn_hp_n hn.2] at h
      exact h
    · have hin : vp_in (nI (5 * t + i)) 10 := vp_in_nI (by omega) (by decide)
      have hv := hY t ht i z
      have u1 : (5 * t + i) % 5 < nn_n rc ((5 * t + i) / 5) := by rw [show (5 * t + i) / 5 = t by omega]; omega
      have u2 : (10 * t + 2 * i) % 10 < 2 * nn_n rc ((10 * t + 2 * i) / 10) := by rw [show (10 * t + 2 * i) / 10 = t by omega]; omega
      refine nm_r (by rw [nn_r5, nI_add]) ⟨hin, ?_⟩
      rw [nI_clamp (show 5 * t + i < 2 ^ 31 by omega), nn_hp_at]
      refine br_c (fun y => ⟨hin, nm_r (nn_hp_t ⟨u1, y⟩) (nm_r (nI_1 _) ?_)⟩) (fun y => ?_)
      · rw [← nn_lc_t ⟨u2, hv.1.trans y⟩]
        exact nn_x73 ht z hn.2 hv.2 (ih (i + 1) (by omega) (by omega))
      · rw [← nn_lc_f (rc := rc) (va := va) (U := U) (j := 10 * t + 2 * i) (fun w => y (hv.1.symm.trans w.2)), nn_hp_f (rc := rc) (rx := rx) (fun w => y w.2)]
        exact nn_x73 ht z hn.2 hv.2 (ih (i + 1) (by omega) (by omega))
theorem nn_x21 {post : Int32 → SX → Prop} {U c : Int32} {va : Nat → Int32} (hW : nn_Wt rc rx ry) (hY : nn_Yt rc rx ry va)
    (h : post (nI (nn_lc rc va U 20)) (rC, rc, nn_pl rx (nn_hp rc rx U 10) c, nn_pl ry (nn_hp rc ry U 10) c, qx, qy, ac, ta, ax, ay, gi, fu, fv, bd)) :
    ∀ (n t : Nat), t ≤ 2 → 2 < n + t → wX_learn_21 post U c rC n (nI (nn_lc rc va U (10 * t))) (nI t) rc (nn_pl rx (nn_hp rc rx U (5 * t)) c) (nn_pl ry (nn_hp rc ry U (5 * t)) c) qx qy ac ta ax ay gi fu fv bd := by
  intro n
  induction n with
  | zero => intro i h1 h2; omega
  | succ n ih =>
    intro t ht hn
    refine pk_le 2 t (fun z => ?_) (fun z => ?_)
    · have : t = 2 := by omega
      subst this
      exact h
    · exact ⟨nn_n rc t + 1, nn_x30 hW hY z (ih (t + 1) (by omega) (by omega)) _ 0 (by omega) (by omega)⟩
theorem nn_xleB {post : Int32 → SX → Prop} {p q : Int32} (hn : ¬ (nn_U p ∧ nn_C q)) (h : post (-1) (rC, rc, rx, ry, qx, qy, ac, ta, ax, ay, gi, fu, fv, bd)) : wpX_learn post (rC, rc, rx, ry, qx, qy, ac, ta, ax, ay, gi, fu, fv, bd) p q := by
  unfold wpX_learn
  dsimp only
  refine nn_xU (fun a => br_f nn_10 ?_) (fun _ => br_t rfl h)
  exact nn_xC (fun b => absurd ⟨a, b⟩ hn) (fun _ => br_t rfl h)
theorem nn_xle {post : Int32 → SX → Prop} {p q : Int32} {va : Nat → Int32} (hp : nn_U p) (hq : nn_C q) (hW : nn_Wt rc rx ry) (hY : nn_Yt rc rx ry va)
    (h : post (nI (nn_lc rc va p 20)) (rC, rc, nn_pl rx (nn_hp rc rx p 10) q, nn_pl ry (nn_hp rc ry p 10) q, qx, qy, ac, ta, ax, ay, gi, fu, fv, bd)) : wpX_learn post (rC, rc, rx, ry, qx, qy, ac, ta, ax, ay, gi, fu, fv, bd) p q := by
  unfold wpX_learn
  dsimp only
  refine nn_xU (fun _ => br_f nn_10 ?_) (fun z => absurd hp z)
  refine nn_xC (fun _ => br_f nn_10 ?_) (fun z => absurd hq z)
  have := nn_x21 (rC := rC) (post := post) hW hY h 3 0 (by omega) (by omega)
  rw [nn_pl_0 (fun s z => absurd z.2 (by omega)), nn_pl_0 (fun s z => absurd z.2 (by omega))] at this
  exact ⟨3, this⟩
end
end
section
/-! rule and atom of the component; the reference's calls that change the state -/
section
variable {rc rx ry qx qy ac ta ax ay gi fu fv bd : Nat → Int32}
theorem nn_xruB {post : Int32 → SX → Prop} {rC p q : Int32} (hn : ¬ (nn_M p ∧ nn_M q)) (h : post (-1) (rC, rc, rx, ry, qx, qy, ac, ta, ax, ay, gi, fu, fv, bd)) : wpX_rule post (rC, rc, rx, ry, qx, qy, ac, ta, ax, ay, gi, fu, fv, bd) p q := by
  unfold wpX_rule
  dsimp only
  refine nn_xM (fun a => br_f nn_10 ?_) (fun _ => br_t rfl h)
  exact nn_xM (fun b => absurd ⟨a, b⟩ hn) (fun _ => br_t rfl h)
theorem nn_xru {post : Int32 → SX → Prop} {R : Nat} {p q : Int32} (hp : nn_M p) (hq : nn_M q) (hR : R ≤ 2) (h2 : R = 2 → post (-2) (nI R, rc, rx, ry, qx, qy, ac, ta, ax, ay, gi, fu, fv, bd))
    (h : R < 2 → post (nI (R + 1)) (nI (R + 1), rc, rx, ry, upd qx R p, upd qy R q, upd ac R (nI 0), ta, ax, ay, gi, fu, fv, bd)) : wpX_rule post (nI R, rc, rx, ry, qx, qy, ac, ta, ax, ay, gi, fu, fv, bd) p q := by
  unfold wpX_rule
  dsimp only
  refine nn_xM (fun _ => br_f nn_10 ?_) (fun z => absurd hp z)
  refine nn_xM (fun _ => br_f nn_10 ?_) (fun z => absurd hq z)
  refine pk_lt R 2 (fun z => ?_) (fun z => h2 (by omega))
  have hin : vp_in (nI R) 2 := vp_in_nI z (by decide)
  rw [nI_clamp (show R < 2 ^ 31 by omega)]
  exact ⟨hin, nm_e ⟨hin, nm_e ⟨hin, nm_e (nm_r (nI_1 R) (h z))⟩⟩⟩
theorem nn_xatB {post : Int32 → SX → Prop} {rC p q s : Int32} (hn : ¬ (nn_D p ∧ nn_M q ∧ nn_M s)) (h : post (-1) (rC, rc, rx, ry, qx, qy, ac, ta, ax, ay, gi, fu, fv, bd)) : wpX_atom post (rC, rc, rx, ry, qx, qy, ac, ta, ax, ay, gi, fu, fv, bd) p q s := by
  unfold wpX_atom
  dsimp only
  refine nn_xD (fun a => br_f nn_10 ?_) (fun _ => br_t rfl h)
  refine nn_xM (fun b => br_f nn_10 ?_) (fun _ => br_t rfl h)
  exact nn_xM (fun c => absurd ⟨a, b, c⟩ hn) (fun _ => br_t rfl h)
theorem nn_xat {post : Int32 → SX → Prop} {R : Nat} {p q s : Int32} (hp : nn_D p) (hq : nn_M q) (hs : nn_M s) (hR : nn_Wr qx qy ac ta ax ay) (hR2 : R ≤ 2) (h0 : R = 0 → post (-3) (nI R, rc, rx, ry, qx, qy, ac, ta, ax, ay, gi, fu, fv, bd))
    (h3 : ∀ r, R = r + 1 → nn_n ac r = 3 → post (-2) (nI R, rc, rx, ry, qx, qy, ac, ta, ax, ay, gi, fu, fv, bd))
    (h : ∀ r, R = r + 1 → nn_n ac r < 3 → post (nI (nn_n ac r + 1)) (nI R, rc, rx, ry, qx, qy, upd ac r (nI (nn_n ac r + 1)), upd ta (3 * r + nn_n ac r) p, upd ax (3 * r + nn_n ac r) q, upd ay (3 * r + nn_n ac r) s, gi, fu, fv, bd)) : wpX_atom post (nI R, rc, rx, ry, qx, qy, ac, ta, ax, ay, gi, fu, fv, bd) p q s := by
  unfold wpX_atom
  dsimp only
  refine nn_xD (fun _ => br_f nn_10 ?_) (fun z => absurd hp z)
  refine nn_xM (fun _ => br_f nn_10 ?_) (fun z => absurd hq z)
  refine nn_xM (fun _ => br_f nn_10 ?_) (fun z => absurd hs z)
  refine pk_eq R 0 h0 (fun z => ?_)
  obtain ⟨r, rfl⟩ : ∃ r, R = r + 1 := ⟨R - 1, by omega⟩
  have hr : r < 2 := by omega
  have hm := nn_Wr_m hR hr
  have hin : vp_in (nI r) 2 := vp_in_nI hr (by decide)
  have hac : ac (nI r).toNatClampNeg = nI (nn_n ac r) := by rw [nI_clamp (show r < 2 ^ 31 by omega)]; exact hm.1
  refine nm_r (nI_pred r) ⟨hin, nm_r hac (pk_lt (nn_n ac r) 3 (fun y => ?_) (fun y => h3 r rfl (by omega)))⟩
  have hin2 : vp_in (nI (3 * r + nn_n ac r)) 6 := vp_in_nI (by omega) (by decide)
  refine nm_r (by rw [nn_r3, nI_add]) ⟨hin2, nm_e ⟨hin2, nm_e ⟨hin2, nm_e ⟨hin, nm_e ?_⟩⟩⟩⟩
  rw [nI_1 (nn_n ac r), nI_clamp (show 3 * r + nn_n ac r < 2 ^ 31 by omega), nI_clamp (show r < 2 ^ 31 by omega)]
  exact h r rfl y
end
section
variable {rl sm : Int32} {rc va qe ac ta te kn bo hr al on rx ry qx qy ax ay : Nat → Int32}
theorem nn_yaddB {post : Int32 → SY → Prop} {p q s : Int32} (hn : ¬ (nn_D p ∧ nn_V q ∧ nn_V s)) (h : post (-1) (rl, sm, rc, va, qe, ac, ta, te, kn, bo, hr, al, on)) : wpY_addRow post (rl, sm, rc, va, qe, ac, ta, te, kn, bo, hr, al, on) p q s := by
  unfold wpY_addRow
  dsimp only
  refine nn_yD (fun a => br_f nn_10 ?_) (fun _ => br_t rfl h)
  refine nn_yV (fun b => br_f nn_10 ?_) (fun _ => br_t rfl h)
  exact nn_yV (fun c => absurd ⟨a, b, c⟩ hn) (fun _ => br_t rfl h)
theorem nn_yadd {post : Int32 → SY → Prop} {t : Nat} {p q : Int32} (hW : nn_Wt rc rx ry) (ht : t < 2) (hp : nn_V p) (hq : nn_V q) (h5 : nn_n rc t = 5 → post (-2) (rl, sm, rc, va, qe, ac, ta, te, kn, bo, hr, al, on))
    (h : nn_n rc t < 5 → post (nI (nn_n rc t + 1)) (rl, sm, upd rc t (nI (nn_n rc t + 1)), upd (upd va (10 * t + 2 * nn_n rc t) p) (10 * t + 2 * nn_n rc t + 1) q, qe, ac, ta, te, kn, bo, hr, al, on)) : wpY_addRow post (rl, sm, rc, va, qe, ac, ta, te, kn, bo, hr, al, on) (nI t) p q := by
  have hn := nn_Wt_n hW ht
  have hin : vp_in (nI t) 2 := vp_in_nI ht (by decide)
  have hcl : (nI t).toNatClampNeg = t := nI_clamp (by omega)
  unfold wpY_addRow
  dsimp only
  refine nn_yD (fun _ => br_f nn_10 ?_) (fun z => absurd ⟨t, ht, rfl⟩ z)
  refine nn_yV (fun _ => br_f nn_10 ?_) (fun z => absurd hp z)
  refine nn_yV (fun _ => br_f nn_10 ?_) (fun z => absurd hq z)
  rw [hcl, hn.1]
  refine ⟨hin, pk_eq (nn_n rc t) 5 h5 (fun z => ?_)⟩
  have hin2 : vp_in (nI (10 * t + 2 * nn_n rc t)) 20 := vp_in_nI (by omega) (by decide)
  have hin3 : vp_in (nI (10 * t + 2 * nn_n rc t + 1)) 20 := vp_in_nI (by omega) (by decide)
  refine ⟨hin, nm_r (by rw [nn_l10, nn_l2, nI_add]) ⟨hin2, nm_e ?_⟩⟩
  rw [nI_1 (10 * t + 2 * nn_n rc t), nI_clamp (show 10 * t + 2 * nn_n rc t < 2 ^ 31 by omega), nI_clamp (show 10 * t + 2 * nn_n rc t + 1 < 2 ^ 31 by omega)]
  refine ⟨hin3, nm_e ⟨hin, hin, nm_r (congrArg (upd rc t) (nI_1 _)) ⟨hin, ?_⟩⟩⟩
  rw [pk_us]
  exact h (by omega)
theorem nn_y21 {post : Int32 → SY → Prop} {t k : Nat} (ht : t < 2) (hk : rc t = nI (k + 1)) (h : post (nI k) (rl, sm, upd rc t (nI k), nn_mv va (10 * t) 8 2, qe, ac, ta, te, kn, bo, hr, al, on)) :
    ∀ (n i : Nat), i ≤ 8 → 8 < n + i → wY_dropRow_21 post (nI t) rl sm n (nI i) rc (nn_mv va (10 * t) i 2) qe ac ta te kn bo hr al on := by
  intro n
  induction n with
  | zero => intro i h1 h2; omega
  | succ n ih =>
    intro i hi hn
    have hin : vp_in (nI t) 2 := vp_in_nI ht (by decide)
    refine pk_le 8 i (fun z => ?_) (fun z => ?_)
    · have : i = 8 := by omega
      subst this
      rw [nI_clamp (show t < 2 ^ 31 by omega), hk, nI_pred]
      refine ⟨hin, hin, nm_e ⟨hin, ?_⟩⟩
      rw [pk_us]
      exact h
    · rw [nn_l10, nI_add, nn_p2, nI_clamp (show 10 * t + i < 2 ^ 31 by omega), nI_clamp (show 10 * t + i + 2 < 2 ^ 31 by omega)]
      refine ⟨vp_in_nI (by omega) (by decide), vp_in_nI (by omega) (by decide), nm_r (nn_mv_s (by decide)) (nm_r (nI_1 i) ?_)⟩
      exact ih (i + 1) (by omega) (by omega)
theorem nn_ydrB {post : Int32 → SY → Prop} {p : Int32} (hn : ¬ nn_D p) (h : post (-1) (rl, sm, rc, va, qe, ac, ta, te, kn, bo, hr, al, on)) : wpY_dropRow post (rl, sm, rc, va, qe, ac, ta, te, kn, bo, hr, al, on) p := by
  unfold wpY_dropRow
  dsimp only
  exact nn_yD (fun a => absurd a hn) (fun _ => br_t rfl h)
theorem nn_ydr {post : Int32 → SY → Prop} {t : Nat} (hW : nn_Wt rc rx ry) (ht : t < 2) (h0 : nn_n rc t = 0 → post (-1) (rl, sm, rc, va, qe, ac, ta, te, kn, bo, hr, al, on))
    (h : ∀ k, nn_n rc t = k + 1 → post (nI k) (rl, sm, upd rc t (nI k), nn_mv va (10 * t) 8 2, qe, ac, ta, te, kn, bo, hr, al, on)) : wpY_dropRow post (rl, sm, rc, va, qe, ac, ta, te, kn, bo, hr, al, on) (nI t) := by
  have hn := nn_Wt_n hW ht
  unfold wpY_dropRow
  dsimp only
  refine nn_yD (fun _ => br_f nn_10 ?_) (fun z => absurd ⟨t, ht, rfl⟩ z)
  rw [nI_clamp (show t < 2 ^ 31 by omega)]
  refine ⟨vp_in_nI ht (by decide), pk_eq (nn_n rc t) 0 h0 (fun z => ?_) hn.1⟩
  obtain ⟨k, hk⟩ : ∃ k, nn_n rc t = k + 1 := ⟨nn_n rc t - 1, by omega⟩
  have := nn_y21 (rl := rl) (sm := sm) (post := post) ht (by rw [← hk]; exact hn.1) (h k hk) 9 0 (by omega) (by omega)
  rw [nn_mv_0] at this
  exact ⟨9, this⟩
def nn_tp (rc va : Nat → Int32) (U : Int32) (p s : Nat) : Prop := nn_ht rc va U s ∧ s < p
theorem nn_tp_at {U c : Int32} {p : Nat} : nn_pl va (nn_tp rc va U p) c p = va p := nn_pl_f fun z => absurd z.2 (by omega)
theorem nn_tp_t {U c : Int32} {p : Nat} (h : nn_ht rc va U p) : upd (nn_pl va (nn_tp rc va U p) c) p c = nn_pl va (nn_tp rc va U (p + 1)) c :=
  nn_pl_u fun s => ⟨fun z => if e : s = p then Or.inr e else Or.inl ⟨z.1, by have := z.2; omega⟩, fun z => z.elim (fun y => ⟨y.1, by have := y.2; omega⟩) (fun y => ⟨y ▸ h, by omega⟩)⟩
theorem nn_tp_f {U c : Int32} {p : Nat} (h : ¬ nn_ht rc va U p) : nn_pl va (nn_tp rc va U p) c = nn_pl va (nn_tp rc va U (p + 1)) c :=
  nn_pl_e fun s => ⟨fun z => ⟨z.1, by have := z.2; omega⟩, fun z => ⟨z.1, by
    have z2 := z.2
    by_cases e : s = p
    · exact absurd (e ▸ z.1) h
    · omega⟩⟩
theorem nn_y28 {post : Int32 → SY → Prop} {U c : Int32} (hW : nn_Wt rc rx ry) (h : post (nI (nn_lc rc va U 20)) (rl, sm, rc, nn_pl va (nn_tp rc va U 20) c, qe, ac, ta, te, kn, bo, hr, al, on)) :
    ∀ (n j : Nat), j ≤ 20 → 20 < n + j → wY_learn_28 post U c rl sm n (nI (nn_lc rc va U j)) (nI j) rc (nn_pl va (nn_tp rc va U j) c) qe ac ta te kn bo hr al on := by
  intro n
  induction n with
  | zero => intro j h1 h2; omega
  | succ n ih =>
    intro j hj hn
    refine pk_le 20 j (fun z => ?_) (fun z => ?_)
    · have : j = 20 := by omega
      subst this
      exact h
    · have ht : j / 10 < 2 := by omega
      have hr := nn_Wt_n hW ht
      have hin : vp_in (nI j) 20 := vp_in_nI z (by decide)
      rw [nn_m10 (by omega), nn_d10 (by omega), nI_clamp (show j / 10 < 2 ^ 31 by omega), hr.1, nn_l2]
      refine ⟨by decide, by decide, vp_in_nI ht (by decide), pk_le (2 * nn_n rc (j / 10)) (j % 10) (fun y => ?_) (fun y => ?_)⟩
      · refine br_t rfl (nm_r (nI_1 j) ?_)
        have hf : ¬ nn_ht rc va U j := fun w => by have := w.1; omega
        rw [← nn_lc_f hf, nn_tp_f hf]
        exact ih (j + 1) (by omega) (by omega)
      · refine br_f nn_10 ⟨hin, ?_⟩
        rw [nI_clamp (show j < 2 ^ 31 by omega), nn_tp_at]
        refine br_c (fun w => ⟨hin, nm_r (nn_tp_t ⟨y, w⟩) (nm_r (nI_1 _) (nm_r (nI_1 j) ?_))⟩) (fun w => nm_r (nI_1 j) ?_)
        · rw [← nn_lc_t ⟨y, w⟩]
          exact ih (j + 1) (by omega) (by omega)
        · have hf : ¬ nn_ht rc va U j := fun q => w q.2
          rw [← nn_lc_f hf, nn_tp_f hf]
          exact ih (j + 1) (by omega) (by omega)
theorem nn_yleB {post : Int32 → SY → Prop} {p q : Int32} (hn : ¬ (nn_U p ∧ nn_C q)) (h : post (-1) (rl, sm, rc, va, qe, ac, ta, te, kn, bo, hr, al, on)) : wpY_learn post (rl, sm, rc, va, qe, ac, ta, te, kn, bo, hr, al, on) p q := by
  rw [← nn_Ui, ← nn_Ci] at hn
  exact br_c (fun _ => h) fun a => br_c (fun _ => h) fun b => br_c (fun _ => h) fun c => br_c (fun d => absurd ⟨⟨a, b⟩, ⟨c, Int32.not_lt.mpr d⟩⟩ hn) (fun _ => h)
theorem nn_yle {post : Int32 → SY → Prop} {p q : Int32} (hp : nn_U p) (hq : nn_C q) (hW : nn_Wt rc rx ry)
    (h : post (nI (nn_lc rc va p 20)) (rl, sm, rc, nn_pl va (nn_tp rc va p 20) q, qe, ac, ta, te, kn, bo, hr, al, on)) : wpY_learn post (rl, sm, rc, va, qe, ac, ta, te, kn, bo, hr, al, on) p q := by
  rw [← nn_Ui] at hp
  rw [← nn_Ci] at hq
  have := nn_y28 (rl := rl) (sm := sm) (post := post) hW h 21 0 (by omega) (by omega)
  rw [nn_pl_0 (fun s z => absurd z.2 (by omega))] at this
  exact br_f hp.1 (br_f hp.2 (br_f hq.1 (br_t (Int32.not_lt.mp hq.2) ⟨21, this⟩)))
theorem nn_yruB {post : Int32 → SY → Prop} {p q : Int32} (hn : ¬ (nn_M p ∧ nn_M q)) (h : post (-1) (rl, sm, rc, va, qe, ac, ta, te, kn, bo, hr, al, on)) : wpY_rule post (rl, sm, rc, va, qe, ac, ta, te, kn, bo, hr, al, on) p q := by
  unfold wpY_rule
  dsimp only
  refine nn_yM (fun a => br_f nn_10 ?_) (fun _ => br_t rfl h)
  exact nn_yM (fun b => absurd ⟨a, b⟩ hn) (fun _ => br_t rfl h)
theorem nn_yru {post : Int32 → SY → Prop} {R : Nat} {p q : Int32} (hp : nn_M p) (hq : nn_M q) (hR : R ≤ 2) (h2 : R = 2 → post (-2) (nI R, sm, rc, va, qe, ac, ta, te, kn, bo, hr, al, on))
    (h : R < 2 → post (nI (R + 1)) (nI (R + 1), sm, rc, va, upd (upd qe (2 * R) p) (2 * R + 1) q, upd ac R (nI 0), ta, te, kn, bo, hr, al, on)) : wpY_rule post (nI R, sm, rc, va, qe, ac, ta, te, kn, bo, hr, al, on) p q := by
  unfold wpY_rule
  dsimp only
  refine nn_yM (fun _ => br_f nn_10 ?_) (fun z => absurd hp z)
  refine nn_yM (fun _ => br_f nn_10 ?_) (fun z => absurd hq z)
  refine pk_eq R 2 h2 (fun z => ?_)
  rw [nn_l2, nI_1 (2 * R), nI_clamp (show 2 * R < 2 ^ 31 by omega), nI_clamp (show 2 * R + 1 < 2 ^ 31 by omega), nI_clamp (show R < 2 ^ 31 by omega)]
  exact ⟨vp_in_nI (by omega) (by decide), nm_e ⟨vp_in_nI (by omega) (by decide), nm_e ⟨vp_in_nI (by omega) (by decide), nm_e (nm_r (nI_1 R) (h (by omega)))⟩⟩⟩
theorem nn_yatB {post : Int32 → SY → Prop} {p q s : Int32} (hn : ¬ (nn_D p ∧ nn_M q ∧ nn_M s)) (h : post (-1) (rl, sm, rc, va, qe, ac, ta, te, kn, bo, hr, al, on)) : wpY_atom post (rl, sm, rc, va, qe, ac, ta, te, kn, bo, hr, al, on) p q s := by
  unfold wpY_atom
  dsimp only
  refine nn_yD (fun a => br_f nn_10 ?_) (fun _ => br_t rfl h)
  refine nn_yM (fun b => br_f nn_10 ?_) (fun _ => br_t rfl h)
  exact nn_yM (fun c => absurd ⟨a, b, c⟩ hn) (fun _ => br_t rfl h)
theorem nn_yat {post : Int32 → SY → Prop} {R : Nat} {p q s : Int32} (hp : nn_D p) (hq : nn_M q) (hs : nn_M s) (hR : nn_Wr qx qy ac ta ax ay) (hR2 : R ≤ 2) (h0 : R = 0 → post (-3) (nI R, sm, rc, va, qe, ac, ta, te, kn, bo, hr, al, on))
    (h3 : ∀ r, R = r + 1 → nn_n ac r = 3 → post (-2) (nI R, sm, rc, va, qe, ac, ta, te, kn, bo, hr, al, on))
    (h : ∀ r, R = r + 1 → nn_n ac r < 3 → post (nI (nn_n ac r + 1)) (nI R, sm, rc, va, qe, upd ac r (nI (nn_n ac r + 1)), upd ta (3 * r + nn_n ac r) p, upd (upd te (2 * (3 * r + nn_n ac r)) q) (2 * (3 * r + nn_n ac r) + 1) s, kn, bo, hr, al, on)) : wpY_atom post (nI R, sm, rc, va, qe, ac, ta, te, kn, bo, hr, al, on) p q s := by
  unfold wpY_atom
  dsimp only
  refine nn_yD (fun _ => br_f nn_10 ?_) (fun z => absurd hp z)
  refine nn_yM (fun _ => br_f nn_10 ?_) (fun z => absurd hq z)
  refine nn_yM (fun _ => br_f nn_10 ?_) (fun z => absurd hs z)
  refine pk_eq R 0 h0 (fun z => ?_)
  obtain ⟨r, rfl⟩ : ∃ r, R = r + 1 := ⟨R - 1, by omega⟩
  have hr2 : r < 2 := by omega
  have hm := nn_Wr_m hR hr2
  have hin : vp_in (nI r) 2 := vp_in_nI hr2 (by decide)
  refine nm_r (nI_pred r) ⟨hin, ?_⟩
  rw [nI_clamp (show r < 2 ^ 31 by omega), hm.1]
  refine pk_eq (nn_n ac r) 3 (fun y => h3 r rfl y) (fun y => ⟨hin, nm_r (by rw [nn_l3, nI_add]) ?_⟩)
  rw [nn_l2, nI_1 (2 * (3 * r + nn_n ac r)), nI_clamp (show 3 * r + nn_n ac r < 2 ^ 31 by omega), nI_clamp (show 2 * (3 * r + nn_n ac r) < 2 ^ 31 by omega), nI_clamp (show 2 * (3 * r + nn_n ac r) + 1 < 2 ^ 31 by omega)]
  refine ⟨vp_in_nI (by omega) (by decide), nm_e ⟨vp_in_nI (by omega) (by decide), nm_e ⟨vp_in_nI (by omega) (by decide), nm_e ⟨hin, hin, nm_r (congrArg (upd ac r) (nI_1 _)) ⟨hin, ?_⟩⟩⟩⟩⟩
  rw [pk_us]
  exact h r rfl (by omega)
end
end
section
/-! what is owed -/
def i_Rel (_ : Nat) (u : SX) (v : SY) : Prop :=
  ∃ (R : Nat) (rc rx ry qx qy ac ta ax ay gi fu fv bd : Nat → Int32) (sm : Int32) (va qe te kn bo hr al on : Nat → Int32),
    u = (nI R, rc, rx, ry, qx, qy, ac, ta, ax, ay, gi, fu, fv, bd) ∧ v = (nI R, sm, rc, va, qe, ac, ta, te, kn, bo, hr, al, on) ∧ R ≤ 2 ∧ nn_Wt rc rx ry ∧ nn_Wr qx qy ac ta ax ay ∧ nn_Yt rc rx ry va ∧ nn_Yr qx qy ax ay qe te
theorem nn_rel {k R : Nat} {rc rx ry qx qy ac ta ax ay gi fu fv bd : Nat → Int32} {sm : Int32} {va qe te kn bo hr al on : Nat → Int32} (h2 : R ≤ 2) (hW : nn_Wt rc rx ry) (hR : nn_Wr qx qy ac ta ax ay) (hY : nn_Yt rc rx ry va) (hZ : nn_Yr qx qy ax ay qe te) :
    i_Rel k (nI R, rc, rx, ry, qx, qy, ac, ta, ax, ay, gi, fu, fv, bd) (nI R, sm, rc, va, qe, ac, ta, te, kn, bo, hr, al, on) :=
  ⟨R, rc, rx, ry, qx, qy, ac, ta, ax, ay, gi, fu, fv, bd, sm, va, qe, te, kn, bo, hr, al, on, rfl, rfl, h2, hW, hR, hY, hZ⟩
theorem i_up {k : Nat} {u : SX} {v : SY} (h : i_Rel k u v) : i_Rel (k + 4) u v := h
theorem i_vc0 : wpX_init (fun u => wpY_init (fun v => i_Rel 0 u v)) :=
  nn_rel (k := 0) (R := 0) (by decide)
    ⟨fun _ _ => nn_is_i (a := 0) (by decide) (by decide), fun t _ i hi => absurd hi (by rw [show nn_n (fun _ => 0) t = 0 from nI_clamp (n := 0) (by decide)]; omega)⟩
    ⟨fun _ _ => ⟨nn_is_i (a := 0) (by decide) (by decide), nn_is_i (a := 0) (by decide) (Or.inl (by decide)), nn_is_i (a := 0) (by decide) (Or.inl (by decide))⟩, fun _ _ => ⟨nn_is_i (a := 0) (by decide) (by decide), nn_is_i (a := 0) (by decide) (Or.inl (by decide)), nn_is_i (a := 0) (by decide) (Or.inl (by decide))⟩⟩
    (fun _ _ _ _ => ⟨rfl, rfl⟩) ⟨fun _ _ => ⟨rfl, rfl⟩, fun _ _ => ⟨rfl, rfl⟩⟩
theorem i_vc_addRow {k : Nat} {u : SX} {v : SY} (I : i_Rel k u v) (hk : k + 4 ≤ 2048) (v1 : Int32) (v2 : Int32) (v3 : Int32) : wpX_addRow (fun r u' => wpY_addRow (fun r' v' => r' = r ∧ i_Rel (k + 4) u' v') v v1 v2 v3) u v1 v2 v3 := by
  obtain ⟨R, rc, rx, ry, qx, qy, ac, ta, ax, ay, gi, fu, fv, bd, sm, va, qe, te, kn, bo, hr, al, on, rfl, rfl, h2, hW, hR, hY, hZ⟩ := I
  by_cases d : nn_D v1 ∧ nn_V v2 ∧ nn_V v3
  · obtain ⟨⟨t, ht, rfl⟩, ⟨x, hx, rfl⟩, ⟨y, hy, rfl⟩⟩ := d
    refine nn_xadd hW ht hx hy (fun n5 => ?_) (fun n5 => ?_)
    · exact nn_yadd hW ht ⟨x, hx, rfl⟩ ⟨y, hy, rfl⟩ (fun _ => ⟨rfl, nn_rel h2 hW hR hY hZ⟩) (fun z => absurd z (by omega))
    · exact nn_yadd hW ht ⟨x, hx, rfl⟩ ⟨y, hy, rfl⟩ (fun z => absurd z (by omega)) (fun _ => ⟨rfl, nn_rel h2 (nn_add_W hW ht rfl n5 hx hy) hR (nn_add_Y hW hY ht rfl n5) hZ⟩)
  · exact nn_xaddB d (nn_yaddB d ⟨rfl, nn_rel h2 hW hR hY hZ⟩)
theorem i_vc_dropRow {k : Nat} {u : SX} {v : SY} (I : i_Rel k u v) (hk : k + 4 ≤ 2048) (v1 : Int32) : wpX_dropRow (fun r u' => wpY_dropRow (fun r' v' => r' = r ∧ i_Rel (k + 4) u' v') v v1) u v1 := by
  obtain ⟨R, rc, rx, ry, qx, qy, ac, ta, ax, ay, gi, fu, fv, bd, sm, va, qe, te, kn, bo, hr, al, on, rfl, rfl, h2, hW, hR, hY, hZ⟩ := I
  by_cases d : nn_D v1
  · obtain ⟨t, ht, rfl⟩ := d
    refine nn_xdr hW ht (fun n0 => ?_) (fun j n0 => ?_)
    · exact nn_ydr hW ht (fun _ => ⟨rfl, nn_rel h2 hW hR hY hZ⟩) (fun i z => absurd z (by omega))
    · refine nn_ydr hW ht (fun z => absurd z (by omega)) (fun i z => ?_)
      obtain rfl : i = j := by omega
      exact ⟨rfl, nn_rel h2 (nn_drop_W hW ht z) hR (nn_drop_Y hW hY ht z) hZ⟩
  · exact nn_xdrB d (nn_ydrB d ⟨rfl, nn_rel h2 hW hR hY hZ⟩)
theorem nn_Wt_c {rc rx ry rx' ry' : Nat → Int32} (h : nn_Wt rc rx ry) (ex : ∀ s, s < 10 → rx' s = rx s) (ey : ∀ s, s < 10 → ry' s = ry s) : nn_Wt rc rx' ry' := by
  refine ⟨h.1, fun t ht i hi => ?_⟩
  have h5 := (nn_Wt_n h ht).2
  rw [ex _ (by omega), ey _ (by omega)]
  exact h.2 t ht i hi
theorem nn_Yt_c {rc rx ry va rx' ry' va' : Nat → Int32} (hW : nn_Wt rc rx ry) (h : nn_Yt rc rx ry va) (ex : ∀ s, s < 10 → rx' s = rx s) (ey : ∀ s, s < 10 → ry' s = ry s) (ev : ∀ s, s < 20 → va' s = va s) : nn_Yt rc rx' ry' va' := by
  intro t ht i hi
  have h5 := (nn_Wt_n hW ht).2
  rw [ex _ (by omega), ey _ (by omega), ev _ (by omega), ev _ (by omega)]
  exact h t ht i hi
theorem nn_pl_c {a : Nat → Int32} {p q : Nat → Prop} {c : Int32} {s : Nat} (h : p s ↔ q s) : nn_pl a p c s = nn_pl a q c s := by
  by_cases e : p s
  · rw [nn_pl_t e, nn_pl_t (h.mp e)]
  · rw [nn_pl_f e, nn_pl_f (fun z => e (h.mpr z))]
theorem i_vc_learn {k : Nat} {u : SX} {v : SY} (I : i_Rel k u v) (hk : k + 4 ≤ 2048) (v1 : Int32) (v2 : Int32) : wpX_learn (fun r u' => wpY_learn (fun r' v' => r' = r ∧ i_Rel (k + 4) u' v') v v1 v2) u v1 v2 := by
  obtain ⟨R, rc, rx, ry, qx, qy, ac, ta, ax, ay, gi, fu, fv, bd, sm, va, qe, te, kn, bo, hr, al, on, rfl, rfl, h2, hW, hR, hY, hZ⟩ := I
  by_cases d : nn_U v1 ∧ nn_C v2
  · obtain ⟨hu, hc⟩ := d
    refine nn_xle hu hc hW hY (nn_yle hu hc hW ⟨rfl, ?_⟩)
    have ex : ∀ s, s < 10 → nn_pl rx (nn_hp rc rx v1 10) v2 s = nn_pl rx (nn_hx rc rx v1) v2 s := fun s hs => nn_pl_c ⟨fun z => z.1, fun z => ⟨z, hs⟩⟩
    have ey : ∀ s, s < 10 → nn_pl ry (nn_hp rc ry v1 10) v2 s = nn_pl ry (nn_hx rc ry v1) v2 s := fun s hs => nn_pl_c ⟨fun z => z.1, fun z => ⟨z, hs⟩⟩
    have ev : ∀ s, s < 20 → nn_pl va (nn_tp rc va v1 20) v2 s = nn_pl va (nn_ht rc va v1) v2 s := fun s hs => nn_pl_c ⟨fun z => z.1, fun z => ⟨z, hs⟩⟩
    obtain ⟨c, hc3, rfl⟩ := hc
    have hW' := nn_learn_W (U := v1) hW hc3
    exact nn_rel h2 (nn_Wt_c hW' ex ey) hR (nn_Yt_c hW' (nn_learn_Y hW hY) ex ey ev) hZ
  · exact nn_xleB d (nn_yleB d ⟨rfl, nn_rel h2 hW hR hY hZ⟩)
theorem i_vc_rule {k : Nat} {u : SX} {v : SY} (I : i_Rel k u v) (hk : k + 4 ≤ 2048) (v1 : Int32) (v2 : Int32) : wpX_rule (fun r u' => wpY_rule (fun r' v' => r' = r ∧ i_Rel (k + 4) u' v') v v1 v2) u v1 v2 := by
  obtain ⟨R, rc, rx, ry, qx, qy, ac, ta, ax, ay, gi, fu, fv, bd, sm, va, qe, te, kn, bo, hr, al, on, rfl, rfl, h2, hW, hR, hY, hZ⟩ := I
  by_cases d : nn_M v1 ∧ nn_M v2
  · obtain ⟨⟨x, hx, rfl⟩, ⟨y, hy, rfl⟩⟩ := d
    refine nn_xru ⟨x, hx, rfl⟩ ⟨y, hy, rfl⟩ h2 (fun z => ?_) (fun z => ?_)
    · exact nn_yru ⟨x, hx, rfl⟩ ⟨y, hy, rfl⟩ h2 (fun _ => ⟨rfl, nn_rel h2 hW hR hY hZ⟩) (fun w => absurd w (by omega))
    · exact nn_yru ⟨x, hx, rfl⟩ ⟨y, hy, rfl⟩ h2 (fun w => absurd w (by omega)) (fun _ => ⟨rfl, nn_rel (by omega) hW (nn_rule_W hR hx hy) hY (nn_rule_Y hZ)⟩)
  · exact nn_xruB d (nn_yruB d ⟨rfl, nn_rel h2 hW hR hY hZ⟩)
theorem i_vc_atom {k : Nat} {u : SX} {v : SY} (I : i_Rel k u v) (hk : k + 4 ≤ 2048) (v1 : Int32) (v2 : Int32) (v3 : Int32) : wpX_atom (fun r u' => wpY_atom (fun r' v' => r' = r ∧ i_Rel (k + 4) u' v') v v1 v2 v3) u v1 v2 v3 := by
  obtain ⟨R, rc, rx, ry, qx, qy, ac, ta, ax, ay, gi, fu, fv, bd, sm, va, qe, te, kn, bo, hr, al, on, rfl, rfl, h2, hW, hR, hY, hZ⟩ := I
  by_cases d : nn_D v1 ∧ nn_M v2 ∧ nn_M v3
  · obtain ⟨⟨t, ht, rfl⟩, ⟨x, hx, rfl⟩, ⟨y, hy, rfl⟩⟩ := d
    refine nn_xat ⟨t, ht, rfl⟩ ⟨x, hx, rfl⟩ ⟨y, hy, rfl⟩ hR h2 (fun z => ?_) (fun r z z3 => ?_) (fun r z z3 => ?_)
    · exact nn_yat ⟨t, ht, rfl⟩ ⟨x, hx, rfl⟩ ⟨y, hy, rfl⟩ hR h2 (fun _ => ⟨rfl, nn_rel h2 hW hR hY hZ⟩) (fun r w => absurd w (by omega)) (fun r w => absurd w (by omega))
    · refine nn_yat ⟨t, ht, rfl⟩ ⟨x, hx, rfl⟩ ⟨y, hy, rfl⟩ hR h2 (fun w => absurd w (by omega)) (fun r' w w3 => ⟨rfl, nn_rel h2 hW hR hY hZ⟩) (fun r' w w3 => ?_)
      obtain rfl : r' = r := by omega
      exact absurd w3 (by omega)
    · refine nn_yat ⟨t, ht, rfl⟩ ⟨x, hx, rfl⟩ ⟨y, hy, rfl⟩ hR h2 (fun w => absurd w (by omega)) (fun r' w w3 => ?_) (fun r' w w3 => ?_)
      · obtain rfl : r' = r := by omega
        exact absurd w3 (by omega)
      · obtain rfl : r' = r := by omega
        exact ⟨rfl, nn_rel h2 hW (nn_atom_W hR (by omega) ht hx hy) hY (nn_atom_Y hZ)⟩
  · exact nn_xatB d (nn_yatB d ⟨rfl, nn_rel h2 hW hR hY hZ⟩)
theorem i_vc_dropRules {k : Nat} {u : SX} {v : SY} (I : i_Rel k u v) (hk : k + 4 ≤ 2048) : wpX_dropRules (fun r u' => wpY_dropRules (fun r' v' => r' = r ∧ i_Rel (k + 4) u' v') v) u := by
  obtain ⟨R, rc, rx, ry, qx, qy, ac, ta, ax, ay, gi, fu, fv, bd, sm, va, qe, te, kn, bo, hr, al, on, rfl, rfl, h2, hW, hR, hY, hZ⟩ := I
  exact ⟨rfl, nn_rel (R := 0) (by decide) hW hR hY hZ⟩
theorem i_vc_certain {k : Nat} {u : SX} {v : SY} (I : i_Rel k u v) (hk : k + 4 ≤ 2048) (v1 : Int32) (v2 : Int32) : wpX_certain (fun r u' => wpY_certain (fun r' v' => r' = r ∧ i_Rel (k + 4) u' v') v v1 v2) u v1 v2 := by
  obtain ⟨R, rc, rx, ry, qx, qy, ac, ta, ax, ay, gi, fu, fv, bd, sm, va, qe, te, kn, bo, hr, al, on, rfl, rfl, h2, hW, hR, hY, hZ⟩ := I
  by_cases d : nn_K v1 ∧ nn_K v2
  · obtain ⟨⟨a, ha, rfl⟩, ⟨b, hb, rfl⟩⟩ := d
    exact nn_xcer ha hb rfl h2 hW hR fun x gi fu fv bd hx => nn_ycer ha hb rfl h2 hW hR hY hZ fun y sm kn bo hr al on hy => ⟨nn_bo_u hx hy, nn_rel h2 hW hR hY hZ⟩
  · exact nn_xcer0 d (nn_ycer0 d ⟨rfl, nn_rel h2 hW hR hY hZ⟩)
theorem i_vc_possible {k : Nat} {u : SX} {v : SY} (I : i_Rel k u v) (hk : k + 4 ≤ 2048) (v1 : Int32) (v2 : Int32) : wpX_possible (fun r u' => wpY_possible (fun r' v' => r' = r ∧ i_Rel (k + 4) u' v') v v1 v2) u v1 v2 := by
  obtain ⟨R, rc, rx, ry, qx, qy, ac, ta, ax, ay, gi, fu, fv, bd, sm, va, qe, te, kn, bo, hr, al, on, rfl, rfl, h2, hW, hR, hY, hZ⟩ := I
  by_cases d : nn_K v1 ∧ nn_K v2
  · obtain ⟨⟨a, ha, rfl⟩, ⟨b, hb, rfl⟩⟩ := d
    exact nn_xpos ha hb rfl h2 hW hR fun x gi fu fv bd hx => nn_ypos ha hb rfl h2 hW hR hY hZ fun y sm kn bo hr al on hy => ⟨nn_bo_u hx hy, nn_rel h2 hW hR hY hZ⟩
  · exact nn_xpos0 d (nn_ypos0 d ⟨rfl, nn_rel h2 hW hR hY hZ⟩)
theorem i_vc_certainCount {k : Nat} {u : SX} {v : SY} (I : i_Rel k u v) (hk : k + 4 ≤ 2048) : wpX_certainCount (fun r u' => wpY_certainCount (fun r' v' => r' = r ∧ i_Rel (k + 4) u' v') v) u := by
  obtain ⟨R, rc, rx, ry, qx, qy, ac, ta, ax, ay, gi, fu, fv, bd, sm, va, qe, te, kn, bo, hr, al, on, rfl, rfl, h2, hW, hR, hY, hZ⟩ := I
  exact nn_xcc rfl h2 hW hR fun gi fu fv bd => nn_ycc rfl h2 hW hR hY hZ fun sm kn bo hr al on => ⟨rfl, nn_rel h2 hW hR hY hZ⟩
theorem i_vc_alwaysSome {k : Nat} {u : SX} {v : SY} (I : i_Rel k u v) (hk : k + 4 ≤ 2048) : wpX_alwaysSome (fun r u' => wpY_alwaysSome (fun r' v' => r' = r ∧ i_Rel (k + 4) u' v') v) u := by
  obtain ⟨R, rc, rx, ry, qx, qy, ac, ta, ax, ay, gi, fu, fv, bd, sm, va, qe, te, kn, bo, hr, al, on, rfl, rfl, h2, hW, hR, hY, hZ⟩ := I
  exact nn_xas rfl h2 hW hR fun x gi fu fv bd hx => nn_yas rfl h2 hW hR hY hZ fun y kn bo hr al on hy => ⟨nn_bo_u hx hy, nn_rel h2 hW hR hY hZ⟩
end
