section
/-! ===== Int32 by its bits: bt x i ===== -/
def bt (x : Int32) (i : Nat) : Bool := x.toBitVec.getLsbD i
theorem b_ext {x y : Int32} (h : ∀ i, i < 32 → bt x i = bt y i) : x = y := Int32.toBitVec_inj.mp (BitVec.eq_of_getLsbD_eq (fun i hi => h i hi))
theorem b_or (x y : Int32) (i : Nat) : bt (x ||| y) i = (bt x i || bt y i) := by unfold bt; rw [Int32.toBitVec_or, BitVec.getLsbD_or]
theorem b_and (x y : Int32) (i : Nat) : bt (x &&& y) i = (bt x i && bt y i) := by unfold bt; rw [Int32.toBitVec_and, BitVec.getLsbD_and]
theorem b_xor (x y : Int32) (i : Nat) : bt (x ^^^ y) i = (bt x i ^^ bt y i) := by unfold bt; rw [Int32.toBitVec_xor, BitVec.getLsbD_xor]
theorem b_big {x : Int32} {i : Nat} (h : 32 ≤ i) : bt x i = false := BitVec.getLsbD_of_ge _ _ h
theorem b_255 (i : Nat) : bt 255 i = decide (i < 8) := by
  rcases Nat.lt_or_ge i 32 with h | h
  · exact (by decide +kernel : ∀ i, i < 32 → bt 255 i = decide (i < 8)) i h
  · rw [b_big h, decide_eq_false (by omega)]
theorem b_65535 (i : Nat) : bt 65535 i = decide (i < 16) := by
  rcases Nat.lt_or_ge i 32 with h | h
  · exact (by decide +kernel : ∀ i, i < 32 → bt 65535 i = decide (i < 16)) i h
  · rw [b_big h, decide_eq_false (by omega)]
theorem b_m1 : ∀ i, i < 32 → bt (-1) i = true := by decide +kernel
theorem b_0 (i : Nat) : bt 0 i = false := BitVec.getLsbD_zero
theorem s_l : ∀ n, n < 32 → ((nI n &&& 31).toBitVec.smod 32).toNat = n := by decide +kernel
theorem s_u : ∀ n, n < 32 → (((nI n).toUInt32 &&& Int32.toUInt32 31).toBitVec % 32).toNat = n := by decide +kernel
theorem b_shl (n : Nat) (hn : n < 32) (x : Int32) {i : Nat} (hi : i < 32) : bt (x <<< (nI n &&& 31)) i = (decide (n ≤ i) && bt x (i - n)) := by
  unfold bt
  rw [Int32.toBitVec_shiftLeft]
  show (x.toBitVec <<< ((nI n &&& 31).toBitVec.smod 32).toNat).getLsbD i = _
  rw [s_l n hn, BitVec.getLsbD_shiftLeft]
  rcases Nat.lt_or_ge i n with h | h
  · simp [h, Nat.not_le.mpr h]
  · simp [hi, h, Nat.not_lt.mpr h]
theorem b_ushr (n : Nat) (hn : n < 32) (x : Int32) (i : Nat) : bt ((x.toUInt32 >>> ((nI n).toUInt32 &&& Int32.toUInt32 31)).toInt32) i = bt x (n + i) := by
  show (x.toUInt32 >>> ((nI n).toUInt32 &&& Int32.toUInt32 31)).toBitVec.getLsbD i = x.toUInt32.toBitVec.getLsbD (n + i)
  rw [UInt32.toBitVec_shiftRight]
  show (x.toUInt32.toBitVec >>> (((nI n).toUInt32 &&& Int32.toUInt32 31).toBitVec % 32).toNat).getLsbD i = _
  rw [s_u n hn, BitVec.getLsbD_ushiftRight]
theorem b_sshr (n : Nat) (hn : n < 32) (x : Int32) {i : Nat} (hi : i < 32) : bt (x >>> (nI n &&& 31)) i = if n + i < 32 then bt x (n + i) else bt x 31 := by
  unfold bt
  rw [Int32.toBitVec_shiftRight]
  show (x.toBitVec.sshiftRight ((nI n &&& 31).toBitVec.smod 32).toNat).getLsbD i = _
  rw [s_l n hn, BitVec.getLsbD_sshiftRight, BitVec.msb_eq_getLsbD_last]
  simp [hi]
theorem b_shl8 (x : Int32) {i : Nat} (hi : i < 32) : bt (x <<< ((8 : Int32) &&& 31)) i = (decide (8 ≤ i) && bt x (i - 8)) := b_shl 8 (by omega) x hi
theorem b_shl16 (x : Int32) {i : Nat} (hi : i < 32) : bt (x <<< ((16 : Int32) &&& 31)) i = (decide (16 ≤ i) && bt x (i - 16)) := b_shl 16 (by omega) x hi
theorem b_shl24 (x : Int32) {i : Nat} (hi : i < 32) : bt (x <<< ((24 : Int32) &&& 31)) i = (decide (24 ≤ i) && bt x (i - 24)) := b_shl 24 (by omega) x hi
theorem b_sshr8 (x : Int32) {i : Nat} (hi : i < 32) : bt (x >>> ((8 : Int32) &&& 31)) i = if 8 + i < 32 then bt x (8 + i) else bt x 31 := b_sshr 8 (by omega) x hi
/-! ===== pasted of PURE-ROWS ===== -/
theorem pk_us {f : Nat → Int32} {k : Nat} {x : Int32} : upd f k x k = x := if_pos rfl
theorem pk_un {f : Nat → Int32} {k j : Nat} {x : Int32} (h : j ≠ k) : upd f k x j = f j := if_neg h
theorem pk_mul (a b : Nat) : nI a * nI b = nI (a * b) := (Int32.ofNat_mul a b).symm
theorem pk_ix (x : Int32) {n : Nat} (hn : n < 2 ^ 31) : x < 0 ∨ nI n ≤ x ∨ ∃ j : Nat, j < n ∧ x = nI j := by
  by_cases h : x < 0
  · exact Or.inl h
  · obtain ⟨j, hj, rfl⟩ := nI_of h
    by_cases h2 : j < n
    · exact Or.inr (Or.inr ⟨j, h2, rfl⟩)
    · exact Or.inr (Or.inl (nI_le (by omega) hj))
theorem pk_le {x y : Int32} {A B : Prop} (a b : Nat) (f : a ≤ b → A) (g : b < a → B) (hx : x = nI a := by rfl) (hy : y = nI b := by rfl) (ha : a < 2 ^ 31 := by omega) (hb : b < 2 ^ 31 := by omega) : (x ≤ y → A) ∧ (¬ x ≤ y → B) := by
  subst hx hy
  rw [nI_leI ha hb]
  exact ⟨f, fun z => g (by omega)⟩
theorem pk_lt {x y : Int32} {A B : Prop} (a b : Nat) (f : a < b → A) (g : b ≤ a → B) (hx : x = nI a := by rfl) (hy : y = nI b := by rfl) (ha : a < 2 ^ 31 := by omega) (hb : b < 2 ^ 31 := by omega) : (x < y → A) ∧ (¬ x < y → B) := by
  subst hx hy
  rw [nI_ltI ha hb]
  exact ⟨f, fun z => g (by omega)⟩
theorem pk_eq {x y : Int32} {A B : Prop} (a b : Nat) (f : a = b → A) (g : a ≠ b → B) (hx : x = nI a := by rfl) (hy : y = nI b := by rfl) (ha : a < 2 ^ 31 := by omega) (hb : b < 2 ^ 31 := by omega) : (x = y → A) ∧ (¬ x = y → B) := by
  subst hx hy
  rw [nI_eq ha hb]
  exact ⟨f, g⟩
theorem pk_in {x : Int32} (n N : Nat) (h : n < N) (hx : x = nI n := by rfl) (hN : N < 2 ^ 31 := by omega) : vp_in x N := by
  subst hx
  exact vp_in_nI h hN
theorem pk_cl {x : Int32} (n : Nat) (hx : x = nI n := by rfl) (h : n < 2 ^ 31 := by omega) : x.toNatClampNeg = n := by
  subst hx
  exact nI_clamp h
/-! ===== mine: a bit, one thing's set, complement, tests against 0 ===== -/
def ps_i : Bool → Int32
  | true => 1
  | false => 0
theorem ps_i0 (b : Bool) : ps_i b = 0 ↔ b = false := by cases b <;> decide
theorem ps_i1 (b : Bool) : ps_i b = 1 ↔ b = true := by cases b <;> decide
theorem ps_iN (b : Bool) : ps_i b = nI b.toNat := by cases b <;> decide
theorem ps_m1 (x : Int32) {i : Nat} (hi : i < 32) : bt (x ^^^ (-1)) i = !bt x i := by
  rw [b_xor, b_m1 i hi]
  cases bt x i <;> rfl
theorem ps_1 : ∀ i, i < 32 → bt 1 i = decide (i = 0) := by decide +kernel
theorem ps_only (n : Nat) (hn : n < 32) {i : Nat} (hi : i < 32) : bt ((1 : Int32) <<< (nI n &&& 31)) i = decide (i = n) := by
  rw [b_shl n hn 1 hi]
  by_cases h : n ≤ i
  · rw [ps_1 _ (by omega), decide_eq_true h, Bool.true_and]
    by_cases e : i = n
    · rw [decide_eq_true e, decide_eq_true (show i - n = 0 by omega)]
    · rw [decide_eq_false e, decide_eq_false (show ¬ i - n = 0 by omega)]
  · rw [decide_eq_false h, Bool.false_and, decide_eq_false (show ¬ i = n by omega)]
theorem ps_sh (x : Int32) (n : Nat) (hn : n < 32) : (x >>> (nI n &&& 31)) &&& 1 = ps_i (bt x n) := by
  apply b_ext
  intro i hi
  rw [b_and, ps_1 i hi]
  by_cases e : i = 0
  · subst e
    rw [b_sshr n hn x (by omega), if_pos (by omega), Nat.add_zero, decide_eq_true rfl, Bool.and_true]
    generalize bt x n = z
    cases z <;> decide
  · rw [decide_eq_false e, Bool.and_false]
    generalize bt x n = z
    cases z
    · exact (b_0 i).symm
    · show false = bt 1 i
      rw [ps_1 i hi, decide_eq_false e]
theorem ps_nI (s : Nat) {i : Nat} (hi : i < 32) : bt (nI s) i = s.testBit i := by
  show (BitVec.ofNat 32 s).getLsbD i = _
  rw [BitVec.getLsbD_ofNat, decide_eq_true hi, Bool.true_and]
theorem ps_hi {s i : Nat} (hs : s < 1024) (hi : 10 ≤ i) : s.testBit i = false := by
  have h : 2 ^ 10 ≤ 2 ^ i := Nat.pow_le_pow_right (by decide) hi
  exact Nat.testBit_lt_two_pow (Nat.lt_of_lt_of_le hs h)
theorem ps_and0 (x y : Int32) : x &&& y = 0 ↔ ∀ i, i < 32 → bt x i = true → bt y i = false := by
  constructor
  · intro h i hi hx
    have e : bt (x &&& y) i = false := by rw [h, b_0]
    rw [b_and, hx, Bool.true_and] at e
    exact e
  · intro h
    apply b_ext
    intro i hi
    rw [b_and, b_0]
    cases hx : bt x i
    · rfl
    · rw [h i hi hx] <;> rfl
theorem ps_within (p w : Int32) : p &&& (w ^^^ (-1)) = 0 ↔ ∀ i, i < 32 → bt p i = true → bt w i = true := by
  rw [ps_and0]
  constructor
  · intro h i hi hp
    have e := h i hi hp
    rw [ps_m1 w hi] at e
    cases hb : bt w i
    · rw [hb] at e; exact absurd e (by decide)
    · rfl
  · intro h i hi hp
    rw [ps_m1 w hi, h i hi hp] <;> rfl
theorem ps_andeq (x y : Int32) : x &&& y = y ↔ ∀ i, i < 32 → bt y i = true → bt x i = true := by
  constructor
  · intro h i hi hy
    have e : bt (x &&& y) i = bt y i := by rw [h]
    rw [b_and, hy, Bool.and_true] at e
    exact e
  · intro h
    apply b_ext
    intro i hi
    rw [b_and]
    cases hy : bt y i
    · exact Bool.and_false _
    · rw [h i hi hy] <;> rfl
theorem ps_10 {s i : Nat} (hs : s < 1024) (hi : i < 32) (hb : bt (nI s) i = true) : i < 10 := by
  rcases Nat.lt_or_ge i 10 with h | h
  · exact h
  · rw [ps_nI s hi, ps_hi hs h] at hb; exact absurd hb (by decide)
end
section
/-! ===== a proposition as a Bool; counts; the first greatest ===== -/
noncomputable def pw_d (p : Prop) : Bool := @decide p (Classical.propDecidable p)
theorem pw_dt {p : Prop} : pw_d p = true ↔ p := @decide_eq_true_iff p (Classical.propDecidable p)
theorem pw_df {p : Prop} : pw_d p = false ↔ ¬ p := @decide_eq_false_iff_not p (Classical.propDecidable p)
theorem pw_dc {p q : Prop} (h : p ↔ q) : pw_d p = pw_d q := by rw [propext h]
theorem pw_bt {b : Bool} {p : Prop} (h : p) (e : b = pw_d p) : b = true := e.trans (pw_dt.mpr h)
def cn_n (f : Nat → Bool) : Nat → Nat
  | 0 => 0
  | n + 1 => cn_n f n + (f n).toNat
theorem cn_le (f : Nat → Bool) : ∀ n, cn_n f n ≤ n
  | 0 => Nat.le_refl 0
  | n + 1 => by
    have h := cn_le f n
    show cn_n f n + (f n).toNat ≤ n + 1
    have h2 : (f n).toNat ≤ 1 := by cases f n <;> decide
    omega
theorem cn_cg {f g : Nat → Bool} : ∀ n, (∀ i, i < n → f i = g i) → cn_n f n = cn_n g n
  | 0, _ => rfl
  | n + 1, h => by
    show cn_n f n + (f n).toNat = cn_n g n + (g n).toNat
    rw [cn_cg n (fun i hi => h i (by omega)), h n (by omega)]
def cn_s (f : Nat → Nat) : Nat → Nat
  | 0 => 0
  | n + 1 => cn_s f n + f n
theorem cn_sl {f : Nat → Nat} {m : Nat} (h : ∀ i, f i ≤ m) : ∀ n, cn_s f n ≤ n * m
  | 0 => by rw [Nat.zero_mul]; exact Nat.le_refl 0
  | n + 1 => by
    have h1 := cn_sl h n
    have h2 := h n
    show cn_s f n + f n ≤ (n + 1) * m
    rw [Nat.succ_mul]
    omega
theorem cn_scg {f g : Nat → Nat} : ∀ n, (∀ i, i < n → f i = g i) → cn_s f n = cn_s g n
  | 0, _ => rfl
  | n + 1, h => by
    show cn_s f n + f n = cn_s g n + g n
    rw [cn_scg n (fun i hi => h i (by omega)), h n (by omega)]
theorem cn_row (g : Nat → Bool) (x : Nat) : ∀ y, cn_n g (10 * x + y) = cn_n g (10 * x) + cn_n (fun b => g (10 * x + b)) y
  | 0 => rfl
  | y + 1 => by
    show cn_n g (10 * x + y) + (g (10 * x + y)).toNat = cn_n g (10 * x) + (cn_n (fun b => g (10 * x + b)) y + (g (10 * x + y)).toNat)
    rw [cn_row g x y, Nat.add_assoc]
theorem cn_sum (g : Nat → Bool) : ∀ x, cn_n g (10 * x) = cn_s (fun a => cn_n (fun b => g (10 * a + b)) 10) x
  | 0 => rfl
  | x + 1 => by
    show cn_n g (10 * (x + 1)) = cn_s (fun a => cn_n (fun b => g (10 * a + b)) 10) x + cn_n (fun b => g (10 * x + b)) 10
    rw [← cn_sum g x, ← cn_row g x 10]
    exact congrArg (cn_n g) (by omega)
def ar_st (P : Nat → Bool) (c : Nat → Nat) (k : Nat) : Option Nat → Option Nat
  | none => if P k = true then some k else none
  | some j => if P k = true ∧ c j < c k then some k else some j
def ar_f (P : Nat → Bool) (c : Nat → Nat) : Nat → Option Nat
  | 0 => none
  | k + 1 => ar_st P c k (ar_f P c k)
def ar_v (c : Nat → Nat) : Option Nat → Nat
  | none => 0
  | some j => c j
def ar_i : Option Nat → Int32
  | none => -1
  | some j => nI j
theorem ar_vt {P : Nat → Bool} {c : Nat → Nat} {k : Nat} {o : Option Nat} (hp : P k = true) (h : ar_v c o < c k) : ar_v c (ar_st P c k o) = c k := by
  cases o with
  | none =>
    rw [show ar_st P c k none = some k from if_pos hp]
    rfl
  | some j =>
    rw [show ar_st P c k (some j) = some k from if_pos ⟨hp, h⟩]
    rfl
theorem ar_vf {P : Nat → Bool} {c : Nat → Nat} {k : Nat} {o : Option Nat} (h : ¬ ar_v c o < c k) : ar_v c (ar_st P c k o) = ar_v c o := by
  cases o with
  | none =>
    have h0 : ¬ 0 < c k := h
    by_cases hp : P k = true
    · rw [show ar_st P c k none = some k from if_pos hp]
      show c k = 0
      omega
    · rw [show ar_st P c k none = none from if_neg hp]
  | some j =>
    rw [show ar_st P c k (some j) = some j from if_neg (fun z => h z.2)]
theorem ar_sf {P : Nat → Bool} {c : Nat → Nat} {k : Nat} {o : Option Nat} (h : P k = false) : ar_st P c k o = o := by
  have h' : ¬ P k = true := by rw [h]; decide
  cases o with
  | none => exact if_neg h'
  | some j => exact if_neg (fun z => h' z.1)
theorem ar_none (P : Nat → Bool) (c : Nat → Nat) : ∀ k, ar_f P c k = none → ∀ i, i < k → ¬ P i = true
  | 0, _, i, hi => absurd hi (Nat.not_lt_zero i)
  | k + 1, h, i, hi => by
    have h' : ar_st P c k (ar_f P c k) = none := h
    cases e : ar_f P c k with
    | none =>
      rw [e] at h'
      by_cases hp : P k = true
      · rw [show ar_st P c k none = some k from if_pos hp] at h'
        exact absurd h' (by simp)
      · rcases Nat.lt_or_ge i k with z | z
        · exact ar_none P c k e i z
        · rw [show i = k by omega]; exact hp
    | some j =>
      rw [e] at h'
      by_cases hp : P k = true ∧ c j < c k
      · rw [show ar_st P c k (some j) = some k from if_pos hp] at h'
        exact absurd h' (by simp)
      · rw [show ar_st P c k (some j) = some j from if_neg hp] at h'
        exact absurd h' (by simp)
theorem ar_some (P : Nat → Bool) (c : Nat → Nat) : ∀ k j, ar_f P c k = some j → j < k ∧ P j = true ∧ (∀ i, i < k → P i = true → c i ≤ c j) ∧ (∀ i, i < j → P i = true → c i < c j)
  | 0, j, h => absurd (show none = some j from h) (by simp)
  | k + 1, j, h => by
    have h' : ar_st P c k (ar_f P c k) = some j := h
    cases e : ar_f P c k with
    | none =>
      have hn := ar_none P c k e
      rw [e] at h'
      by_cases hp : P k = true
      · rw [show ar_st P c k none = some k from if_pos hp] at h'
        have hj : k = j := Option.some.inj h'
        subst hj
        refine ⟨by omega, hp, fun i hi z => ?_, fun i hi z => absurd z (hn i hi)⟩
        rcases Nat.lt_or_ge i k with y | y
        · exact absurd z (hn i y)
        · rw [show i = k by omega]; exact Nat.le_refl _
      · rw [show ar_st P c k none = none from if_neg hp] at h'
        exact absurd h' (by simp)
    | some m =>
      obtain ⟨h1, h2, h3, h4⟩ := ar_some P c k m e
      rw [e] at h'
      by_cases hp : P k = true ∧ c m < c k
      · rw [show ar_st P c k (some m) = some k from if_pos hp] at h'
        have hj : k = j := Option.some.inj h'
        subst hj
        refine ⟨by omega, hp.1, fun i hi z => ?_, fun i hi z => Nat.lt_of_le_of_lt (h3 i hi z) hp.2⟩
        rcases Nat.lt_or_ge i k with y | y
        · exact Nat.le_of_lt (Nat.lt_of_le_of_lt (h3 i y z) hp.2)
        · rw [show i = k by omega]; exact Nat.le_refl _
      · rw [show ar_st P c k (some m) = some m from if_neg hp] at h'
        have hj : m = j := Option.some.inj h'
        subst hj
        refine ⟨by omega, h2, fun i hi z => ?_, h4⟩
        rcases Nat.lt_or_ge i k with y | y
        · exact h3 i y z
        · have hik : i = k := by omega
          subst hik
          exact Nat.le_of_not_lt (fun q => hp ⟨z, q⟩)
theorem ar_cg {P Q : Nat → Bool} (c : Nat → Nat) : ∀ k, (∀ i, i < k → P i = Q i) → ar_f P c k = ar_f Q c k
  | 0, _ => rfl
  | k + 1, h => by
    show ar_st P c k (ar_f P c k) = ar_st Q c k (ar_f Q c k)
    rw [ar_cg c k (fun i hi => h i (by omega))]
    have e := h k (by omega)
    cases ar_f Q c k with
    | none => show (if P k = true then some k else none) = (if Q k = true then some k else none); rw [e]
    | some j => show (if P k = true ∧ c j < c k then some k else some j) = (if Q k = true ∧ c j < c k then some k else some j); rw [e]
theorem ar_vle {c : Nat → Nat} {m : Nat} (h : ∀ i, c i ≤ m) (o : Option Nat) : ar_v c o ≤ m := by
  cases o with
  | none => exact Nat.zero_le m
  | some j => exact h j
end
section
/-! ===== spreads and chains: X's tests and Y's; the relation's rows ===== -/
abbrev sb_B (u : Nat → Int32) (a b : Nat) : Bool := bt (u a) b
/-- X's isSpread of the set s -/
def sp_X (u : Nat → Int32) (s : Nat) : Prop := ∀ x, x < 10 → s.testBit x = true → u x &&& nI s = 0
/-- Y's fits: any two different things of s are comparable (c true) or not (c false) -/
def sp_Y (B : Nat → Nat → Bool) (s : Nat) (c : Bool) : Prop := ∀ a, a < 10 → ∀ b, b < a → s.testBit a = true → s.testBit b = true → (B a b || B b a) = c
/-- the set of the things below n for which f says yes -/
def er_g (f : Nat → Bool) : Nat → Int32
  | 0 => 0
  | n + 1 => if f n = true then er_g f n ||| ((1 : Int32) <<< (nI n &&& 31)) else er_g f n
theorem er_t {f : Nat → Bool} {n : Nat} (h : f n = true) : er_g f (n + 1) = er_g f n ||| ((1 : Int32) <<< (nI n &&& 31)) := if_pos h
theorem er_n {f : Nat → Bool} {n : Nat} (h : f n = false) : er_g f (n + 1) = er_g f n := if_neg (by rw [h]; decide)
theorem er_b (f : Nat → Bool) {i : Nat} (hi : i < 32) : ∀ n, n ≤ 10 → bt (er_g f n) i = (decide (i < n) && f i) := by
  intro n
  induction n with
  | zero =>
    intro _
    rw [show er_g f 0 = 0 from rfl, b_0, decide_eq_false (by omega), Bool.false_and]
  | succ n ih =>
    intro h
    have ih := ih (by omega)
    cases z : f n
    · rw [er_n z, ih]
      by_cases e : i = n
      · rw [e, z, Bool.and_false, Bool.and_false]
      · by_cases l : i < n
        · rw [decide_eq_true l, decide_eq_true (show i < n + 1 by omega)]
        · rw [decide_eq_false l, decide_eq_false (show ¬ i < n + 1 by omega)]
    · rw [er_t z, b_or, ih, ps_only n (by omega) hi]
      by_cases e : i = n
      · rw [e, z, decide_eq_true (show n = n from rfl), decide_eq_true (show n < n + 1 by omega), Bool.or_true] <;> rfl
      · rw [decide_eq_false e, Bool.or_false]
        by_cases l : i < n
        · rw [decide_eq_true l, decide_eq_true (show i < n + 1 by omega)]
        · rw [decide_eq_false l, decide_eq_false (show ¬ i < n + 1 by omega)]
/-- X's earlier -/
def er_f (u : Nat → Int32) (t : Nat) : Int32 := er_g (fun i => bt (u i) t) 10
/-- X's isChain of the set s -/
def ch_X (u : Nat → Int32) (s : Nat) : Prop := ∀ x, x < 10 → s.testBit x = true → nI s &&& (((u x ||| er_f u x) ||| ((1 : Int32) <<< (nI x &&& 31))) ^^^ (-1)) = 0
theorem sp_iff {u : Nat → Int32} (hi : ∀ a, a < 10 → bt (u a) a = false) {s : Nat} (hs : s < 1024) : sp_X u s ↔ sp_Y (sb_B u) s false := by
  constructor
  · intro h a ha b hb sa sb
    have h1 := (ps_and0 _ _).mp (h a ha sa)
    have h2 := (ps_and0 _ _).mp (h b (by omega) sb)
    have e1 : bt (u a) b = false := by
      cases q : bt (u a) b
      · rfl
      · have := h1 b (by omega) q
        rw [ps_nI s (by omega), sb] at this
        exact absurd this (by decide)
    have e2 : bt (u b) a = false := by
      cases q : bt (u b) a
      · rfl
      · have := h2 a (by omega) q
        rw [ps_nI s (by omega), sa] at this
        exact absurd this (by decide)
    show (bt (u a) b || bt (u b) a) = false
    rw [e1, e2] <;> rfl
  · intro h x hx sx
    rw [ps_and0]
    intro i hi32 q
    cases z : bt (nI s) i
    · rfl
    · have h10 := ps_10 hs hi32 z
      rw [ps_nI s hi32] at z
      rcases Nat.lt_trichotomy i x with l | l | l
      · have e : (bt (u x) i || bt (u i) x) = false := h x hx i l sx z
        rw [q] at e
        exact absurd e (by simp)
      · subst l
        rw [hi i h10] at q
        exact absurd q (by decide)
      · have e : (bt (u i) x || bt (u x) i) = false := h i h10 x l z sx
        rw [q, Bool.or_true] at e
        exact absurd e (by decide)
theorem ch_iff {u : Nat → Int32} {s : Nat} (hs : s < 1024) : ch_X u s ↔ sp_Y (sb_B u) s true := by
  have key : ∀ x i, x < 10 → i < 10 → bt ((u x ||| er_f u x) ||| ((1 : Int32) <<< (nI x &&& 31))) i = ((bt (u x) i || bt (u i) x) || decide (i = x)) := by
    intro x i hx h
    unfold er_f
    rw [b_or, b_or, er_b _ (by omega) 10 (by omega), ps_only x (by omega) (by omega), decide_eq_true h, Bool.true_and]
  constructor
  · intro h a ha b hb sa sb
    have h1 := (ps_within _ _).mp (h a ha sa) b (by omega) (by rw [ps_nI s (by omega)]; exact sb)
    rw [key a b ha (by omega), decide_eq_false (by omega), Bool.or_false] at h1
    exact h1
  · intro h x hx sx
    rw [ps_within]
    intro i hi32 z
    have h10 := ps_10 hs hi32 z
    rw [ps_nI s hi32] at z
    rw [key x i hx h10]
    rcases Nat.lt_trichotomy i x with l | l | l
    · have e : (bt (u x) i || bt (u i) x) = true := h x hx i l sx z
      rw [e] <;> rfl
    · rw [decide_eq_true l, Bool.or_true]
    · have e : (bt (u i) x || bt (u x) i) = true := h i h10 x l z sx
      rw [Bool.or_comm (bt (u x) i), e] <;> rfl
/-! ===== which sets X and Y count ===== -/
noncomputable def xw_P (u : Nat → Int32) (N A : Int32) (s : Nat) : Bool := (decide (N &&& (nI s ^^^ (-1)) = 0) && decide (nI s &&& (A ^^^ (-1)) = 0)) && pw_d (sp_X u s)
noncomputable def xh_P (u : Nat → Int32) (N : Int32) (s : Nat) : Bool := decide (N &&& (nI s ^^^ (-1)) = 0) && pw_d (ch_X u s)
noncomputable def yg_P (B : Nat → Nat → Bool) (N O : Int32) (c : Bool) (s : Nat) : Bool := (decide (nI s &&& N = N) && decide (nI s &&& O = 0)) && pw_d (sp_Y B s c)
theorem wq_need (N S : Int32) : decide (N &&& (S ^^^ (-1)) = 0) = decide (S &&& N = N) := decide_eq_decide.mpr ((ps_within N S).trans (ps_andeq S N).symm)
theorem wq_out {s : Nat} (hs : s < 1024) {A O : Int32} (h : ∀ i, i < 10 → bt O i = !bt A i) : decide (nI s &&& (A ^^^ (-1)) = 0) = decide (nI s &&& O = 0) := by
  apply decide_eq_decide.mpr
  rw [ps_within, ps_and0]
  constructor
  · intro z i hi hb
    rw [h i (ps_10 hs hi hb), z i hi hb] <;> rfl
  · intro z i hi hb
    have e := z i hi hb
    rw [h i (ps_10 hs hi hb)] at e
    cases q : bt A i
    · rw [q] at e; exact absurd e (by decide)
    · rfl
theorem xw_eq {u : Nat → Int32} (hi : ∀ a, a < 10 → bt (u a) a = false) {N A O : Int32} (h : ∀ i, i < 10 → bt O i = !bt A i) {s : Nat} (hs : s < 1024) : xw_P u N A s = yg_P (sb_B u) N O false s := by
  unfold xw_P yg_P
  rw [wq_need, wq_out hs h, pw_dc (sp_iff hi hs)]
theorem xh_eq {u : Nat → Int32} {N : Int32} {s : Nat} (hs : s < 1024) : xh_P u N s = yg_P (sb_B u) N 0 true s := by
  unfold xh_P yg_P
  rw [wq_need, pw_dc (ch_iff hs), decide_eq_true (show nI s &&& 0 = 0 by rw [ps_and0]; intro i hi _; exact b_0 i), Bool.and_true]
/-- a set's size -/
def cz_n (s : Nat) : Nat := cn_n (fun i => bt (nI s) i) 10
theorem cz_le (s : Nat) : cz_n s ≤ 10 := cn_le _ 10
/-! ===== the relation, and what keeps it ===== -/
def rl_R (u v : Nat → Int32) : Prop :=
  (∀ a b, a < 10 → b < 10 → v (10 * a + b) = ps_i (bt (u a) b)) ∧ (∀ a, a < 10 → bt (u a) a = false) ∧ (∀ a b c, a < 10 → b < 10 → c < 10 → bt (u a) b = true → bt (u b) c = true → bt (u a) c = true)
def rl_nb (B : Nat → Nat → Bool) (a b x y : Nat) : Bool := B x y || ((decide (x = a) || B x a) && (decide (y = b) || B b y))
def rl_rb (B : Nat → Nat → Bool) (t x y : Nat) : Bool := B x y && (!decide (x = t) && !decide (y = t))
theorem rl_0 : rl_R (fun _ => 0) (fun _ => 0) := by
  refine ⟨fun a b _ _ => ?_, fun a _ => b_0 a, fun a b c _ _ _ h _ => ?_⟩
  · show (0 : Int32) = ps_i (bt 0 b)
    rw [b_0] <;> rfl
  · have h' : bt 0 b = true := h
    rw [b_0] at h'
    exact absurd h' (by decide)
theorem rl_nbt {B : Nat → Nat → Bool} {a b x y : Nat} : rl_nb B a b x y = true ↔ B x y = true ∨ ((x = a ∨ B x a = true) ∧ (y = b ∨ B b y = true)) := by
  unfold rl_nb
  simp only [Bool.or_eq_true, Bool.and_eq_true, decide_eq_true_eq]
theorem rl_rbt {B : Nat → Nat → Bool} {t x y : Nat} : rl_rb B t x y = true ↔ B x y = true ∧ x ≠ t ∧ y ≠ t := by
  unfold rl_rb
  simp only [Bool.and_eq_true, Bool.not_eq_true', decide_eq_false_iff_not, ne_eq]
theorem rl_put {u v u' v' : Nat → Int32} (h : rl_R u v) {a b : Nat} (ha : a < 10) (hb : b < 10) (hab : a ≠ b) (hba : bt (u b) a = false)
    (hu : ∀ x y, x < 10 → y < 10 → bt (u' x) y = rl_nb (sb_B u) a b x y) (hv : ∀ x y, x < 10 → y < 10 → v' (10 * x + y) = ps_i (rl_nb (sb_B u) a b x y)) : rl_R u' v' := by
  obtain ⟨_, h2, h3⟩ := h
  have hn : ¬ bt (u b) a = true := by rw [hba]; decide
  refine ⟨fun x y hx hy => by rw [hv x y hx hy, hu x y hx hy], fun x hx => ?_, fun x y z hx hy hz p q => ?_⟩
  · rw [hu x x hx hx]
    cases e : rl_nb (sb_B u) a b x x
    · rfl
    · exfalso
      rcases rl_nbt.mp e with k | ⟨k1, k2⟩
      · exact absurd ((h2 x hx).symm.trans k) (by decide)
      · rcases k1 with k1 | k1 <;> rcases k2 with k2 | k2
        · exact hab (k1.symm.trans k2)
        · rw [k1] at k2; exact hn k2
        · rw [k2] at k1; exact hn k1
        · exact hn (h3 b x a hb hx ha k2 k1)
  · rw [hu x y hx hy] at p
    rw [hu y z hy hz] at q
    rw [hu x z hx hz]
    apply rl_nbt.mpr
    rcases rl_nbt.mp p with p1 | ⟨p1, p2⟩ <;> rcases rl_nbt.mp q with q1 | ⟨q1, q2⟩
    · exact Or.inl (h3 x y z hx hy hz p1 q1)
    · refine Or.inr ⟨Or.inr ?_, q2⟩
      rcases q1 with q1 | q1
      · rw [q1] at p1; exact p1
      · exact h3 x y a hx hy ha p1 q1
    · refine Or.inr ⟨p1, Or.inr ?_⟩
      rcases p2 with p2 | p2
      · rw [p2] at q1; exact q1
      · exact h3 b y z hb hy hz p2 q1
    · exact Or.inr ⟨p1, q2⟩
theorem rl_rel {u v u' v' : Nat → Int32} (h : rl_R u v) {t : Nat}
    (hu : ∀ x y, x < 10 → y < 10 → bt (u' x) y = rl_rb (sb_B u) t x y) (hv : ∀ x y, x < 10 → y < 10 → v' (10 * x + y) = ps_i (rl_rb (sb_B u) t x y)) : rl_R u' v' := by
  obtain ⟨_, h2, h3⟩ := h
  refine ⟨fun x y hx hy => by rw [hv x y hx hy, hu x y hx hy], fun x hx => ?_, fun x y z hx hy hz p q => ?_⟩
  · rw [hu x x hx hx]
    unfold rl_rb
    rw [show sb_B u x x = false from h2 x hx] <;> rfl
  · rw [hu x y hx hy] at p
    rw [hu y z hy hz] at q
    rw [hu x z hx hz]
    obtain ⟨p1, p2, p3⟩ := rl_rbt.mp p
    obtain ⟨q1, q2, q3⟩ := rl_rbt.mp q
    exact rl_rbt.mpr ⟨h3 x y z hx hy hz p1 q1, p2, q3⟩
/-- how many pairs: X's count and Y's -/
def rl_px (u : Nat → Int32) : Nat := cn_s (fun a => cn_n (fun b => bt (u a) b) 10) 10
def rl_py (v : Nat → Int32) : Nat := cn_n (fun i => !decide (v i = 0)) 100
theorem rl_pairs {u v : Nat → Int32} (h : rl_R u v) : rl_px u = rl_py v := by
  unfold rl_px rl_py
  rw [show (100 : Nat) = 10 * 10 from rfl, cn_sum]
  apply cn_scg
  intro a ha
  apply cn_cg
  intro b hb
  show bt (u a) b = !decide (v (10 * a + b) = 0)
  rw [h.1 a b ha hb]
  generalize bt (u a) b = z
  cases z <;> decide
end
section
/-! ===== put and release, as each side stores them ===== -/
theorem pt_1 {B : Nat → Nat → Bool} {a b : Nat} (hab : a ≠ b) (hba : B b a = false) (x : Nat) : rl_nb B a b x a = B x a := by
  unfold rl_nb
  rw [hba, decide_eq_false hab]
  simp
theorem pt_2 {B : Nat → Nat → Bool} {a b : Nat} (hab : a ≠ b) (hba : B b a = false) (y : Nat) : rl_nb B a b b y = B b y := by
  unfold rl_nb
  rw [hba, decide_eq_false (Ne.symm hab)]
  simp
def pt_W (B : Nat → Nat → Bool) (a b x y p q : Nat) : Bool := if p < x ∨ (p = x ∧ q < y) then rl_nb B a b p q else B p q
def pt_I (B : Nat → Nat → Bool) (a b x y : Nat) (w : Nat → Int32) : Prop := ∀ p q, p < 10 → q < 10 → w (10 * p + q) = ps_i (pt_W B a b x y p q)
theorem pt_I0 {B : Nat → Nat → Bool} {v : Nat → Int32} (a b : Nat) (h : ∀ p q, p < 10 → q < 10 → v (10 * p + q) = ps_i (B p q)) : pt_I B a b 0 0 v := by
  intro p q hp hq
  rw [h p q hp hq]
  unfold pt_W
  rw [if_neg (by omega)]
theorem pt_low {B : Nat → Nat → Bool} {a b x y : Nat} {w : Nat → Int32} (hab : a ≠ b) (hba : B b a = false) (h : pt_I B a b x y w) (z : Nat) (hz : z < 10) (ha : a < 10) : w (10 * z + a) = ps_i (B z a) := by
  rw [h z a hz ha]
  unfold pt_W
  split
  · rw [pt_1 hab hba]
  · rfl
theorem pt_high {B : Nat → Nat → Bool} {a b x y : Nat} {w : Nat → Int32} (hab : a ≠ b) (hba : B b a = false) (h : pt_I B a b x y w) (z : Nat) (hz : z < 10) (hb : b < 10) : w (10 * b + z) = ps_i (B b z) := by
  rw [h b z hb hz]
  unfold pt_W
  split
  · rw [pt_2 hab hba]
  · rfl
theorem pt_row {B : Nat → Nat → Bool} {a b x : Nat} {w : Nat → Int32} (h : pt_I B a b x 10 w) : pt_I B a b (x + 1) 0 w := by
  intro p q hp hq
  rw [h p q hp hq]
  unfold pt_W
  by_cases c : p < x ∨ (p = x ∧ q < 10)
  · rw [if_pos c, if_pos (by omega)]
  · rw [if_neg c, if_neg (by omega)]
theorem pt_end {B : Nat → Nat → Bool} {a b : Nat} {w : Nat → Int32} (h : pt_I B a b 10 0 w) : ∀ x y, x < 10 → y < 10 → w (10 * x + y) = ps_i (rl_nb B a b x y) := by
  intro p q hp hq
  rw [h p q hp hq]
  unfold pt_W
  rw [if_pos (by omega)]
theorem pt_W1 {B : Nat → Nat → Bool} {a b x y p q : Nat} (h : ¬ (p = x ∧ q = y)) : pt_W B a b x (y + 1) p q = pt_W B a b x y p q := by
  unfold pt_W
  by_cases c : p < x ∨ (p = x ∧ q < y)
  · rw [if_pos c, if_pos (by omega)]
  · rw [if_neg c, if_neg (by omega)]
theorem pt_set {B : Nat → Nat → Bool} {a b x y : Nat} {w : Nat → Int32} (h : pt_I B a b x y w) (hx : x < 10) (hy : y < 10) (h1 : x = a ∨ B x a = true) (h2 : y = b ∨ B b y = true) : pt_I B a b x (y + 1) (upd w (10 * x + y) 1) := by
  intro p q hp hq
  by_cases e : p = x ∧ q = y
  · rw [e.1, e.2, pk_us]
    unfold pt_W
    rw [if_pos (by omega), rl_nbt.mpr (Or.inr ⟨h1, h2⟩)] <;> rfl
  · rw [pk_un (by omega), h p q hp hq, pt_W1 e]
theorem pt_skip {B : Nat → Nat → Bool} {a b x y : Nat} {w : Nat → Int32} (h : pt_I B a b x y w) (hx : x < 10) (hy : y < 10) (hn : ¬ ((x = a ∨ B x a = true) ∧ (y = b ∨ B b y = true))) : pt_I B a b x (y + 1) w := by
  intro p q hp hq
  by_cases e : p = x ∧ q = y
  · rw [e.1, e.2, h x y hx hy]
    unfold pt_W
    rw [if_pos (show x < x ∨ (x = x ∧ y < y + 1) by omega), if_neg (show ¬ (x < x ∨ (x = x ∧ y < y)) by omega)]
    apply congrArg ps_i
    cases e2 : rl_nb B a b x y
    · cases e3 : B x y
      · rfl
      · rw [rl_nbt.mpr (Or.inl e3)] at e2; exact absurd e2 (by decide)
    · rcases rl_nbt.mp e2 with z | z
      · exact z
      · exact absurd z hn
  · rw [h p q hp hq, pt_W1 e]
/-- X's put -/
def xp_I (u : Nat → Int32) (a : Nat) (g : Int32) (x : Nat) (w : Nat → Int32) : Prop := ∀ i, i < 10 → w i = if i < x ∧ (i = a ∨ bt (u i) a = true) then u i ||| g else u i
theorem xp_0 (u : Nat → Int32) (a : Nat) (g : Int32) : xp_I u a g 0 u := by
  intro i hi
  rw [if_neg (by omega)]
theorem xp_at {u w : Nat → Int32} {a : Nat} {g : Int32} {x : Nat} (h : xp_I u a g x w) (hx : x < 10) : w x = u x := by
  rw [h x hx, if_neg (by omega)]
theorem xp_set {u w : Nat → Int32} {a : Nat} {g : Int32} {x : Nat} (h : xp_I u a g x w) (hx : x < 10) (hc : x = a ∨ bt (u x) a = true) : xp_I u a g (x + 1) (upd w x (w x ||| g)) := by
  intro i hi
  by_cases e : i = x
  · rw [e, pk_us, xp_at h hx, if_pos ⟨by omega, hc⟩]
  · rw [pk_un e, h i hi]
    by_cases c : i < x ∧ (i = a ∨ bt (u i) a = true)
    · rw [if_pos c, if_pos ⟨by omega, c.2⟩]
    · rw [if_neg c, if_neg (fun z => c ⟨by omega, z.2⟩)]
theorem xp_skip {u w : Nat → Int32} {a : Nat} {g : Int32} {x : Nat} (h : xp_I u a g x w) (hx : x < 10) (hc : ¬ (x = a ∨ bt (u x) a = true)) : xp_I u a g (x + 1) w := by
  intro i hi
  rw [h i hi]
  by_cases e : i = x
  · rw [e, if_neg (fun z => hc z.2), if_neg (fun z => hc z.2)]
  · by_cases c : i < x ∧ (i = a ∨ bt (u i) a = true)
    · rw [if_pos c, if_pos ⟨by omega, c.2⟩]
    · rw [if_neg c, if_neg (fun z => c ⟨by omega, z.2⟩)]
theorem xp_end {u w : Nat → Int32} {a b : Nat} (hb : b < 10) (h : xp_I u a (u b ||| ((1 : Int32) <<< (nI b &&& 31))) 10 w) : ∀ x y, x < 10 → y < 10 → bt (w x) y = rl_nb (sb_B u) a b x y := by
  intro x y hx hy
  rw [h x hx]
  unfold rl_nb
  by_cases c : x = a ∨ bt (u x) a = true
  · rw [if_pos ⟨hx, c⟩, b_or, b_or, ps_only b (by omega) (by omega)]
    have e : (decide (x = a) || sb_B u x a) = true := by
      rw [Bool.or_eq_true, decide_eq_true_eq]
      exact c
    rw [e, Bool.true_and]
    show (bt (u x) y || (bt (u b) y || decide (y = b))) = (bt (u x) y || (decide (y = b) || bt (u b) y))
    rw [Bool.or_comm (bt (u b) y)]
  · rw [if_neg (fun z => c z.2)]
    have e : (decide (x = a) || sb_B u x a) = false := by
      cases q : (decide (x = a) || sb_B u x a)
      · rfl
      · rw [Bool.or_eq_true, decide_eq_true_eq] at q
        exact absurd q c
    rw [e, Bool.false_and, Bool.or_false]
/-- Y's release -/
def rs_W (B : Nat → Nat → Bool) (t x p q : Nat) : Bool := if (q = t ∧ p < x) ∨ (p = t ∧ q < x) then false else B p q
def rs_I (B : Nat → Nat → Bool) (t x : Nat) (w : Nat → Int32) : Prop := ∀ p q, p < 10 → q < 10 → w (10 * p + q) = ps_i (rs_W B t x p q)
theorem rs_0 {B : Nat → Nat → Bool} {v : Nat → Int32} (t : Nat) (h : ∀ p q, p < 10 → q < 10 → v (10 * p + q) = ps_i (B p q)) : rs_I B t 0 v := by
  intro p q hp hq
  rw [h p q hp hq]
  unfold rs_W
  rw [if_neg (by omega)]
theorem rs_st {B : Nat → Nat → Bool} {t x : Nat} {w : Nat → Int32} (h : rs_I B t x w) (ht : t < 10) (hx : x < 10) : rs_I B t (x + 1) (upd (upd w (10 * x + t) 0) (10 * t + x) 0) := by
  intro p q hp hq
  by_cases e : p = t ∧ q = x
  · rw [e.1, e.2, pk_us]
    unfold rs_W
    rw [if_pos (by omega)] <;> rfl
  · rw [pk_un (by omega)]
    by_cases e2 : p = x ∧ q = t
    · rw [e2.1, e2.2, pk_us]
      unfold rs_W
      rw [if_pos (by omega)] <;> rfl
    · rw [pk_un (by omega), h p q hp hq]
      unfold rs_W
      by_cases c : (q = t ∧ p < x) ∨ (p = t ∧ q < x)
      · rw [if_pos c, if_pos (by omega)]
      · rw [if_neg c, if_neg (by omega)]
theorem rs_end {B : Nat → Nat → Bool} {t : Nat} {w : Nat → Int32} (h : rs_I B t 10 w) : ∀ x y, x < 10 → y < 10 → w (10 * x + y) = ps_i (rl_rb B t x y) := by
  intro p q hp hq
  rw [h p q hp hq]
  apply congrArg ps_i
  unfold rs_W rl_rb
  by_cases e1 : p = t
  · rw [if_pos (by omega), decide_eq_true e1]
    simp
  · by_cases e2 : q = t
    · rw [if_pos (by omega), decide_eq_true e2]
      simp
    · rw [if_neg (by omega), decide_eq_false e1, decide_eq_false e2]
      simp
/-- X's release -/
def xr_I (u : Nat → Int32) (t x : Nat) (w : Nat → Int32) : Prop := ∀ i, i < 10 → w i = if i < x then upd u t 0 i &&& (((1 : Int32) <<< (nI t &&& 31)) ^^^ (-1)) else upd u t 0 i
theorem xr_0 (u : Nat → Int32) (t : Nat) : xr_I u t 0 (upd u t 0) := by
  intro i hi
  rw [if_neg (by omega)]
theorem xr_st {u w : Nat → Int32} {t x : Nat} (h : xr_I u t x w) (hx : x < 10) : xr_I u t (x + 1) (upd w x (w x &&& (((1 : Int32) <<< (nI t &&& 31)) ^^^ (-1)))) := by
  intro i hi
  by_cases e : i = x
  · rw [e, pk_us, h x hx, if_neg (by omega), if_pos (by omega)]
  · rw [pk_un e, h i hi]
    by_cases c : i < x
    · rw [if_pos c, if_pos (by omega)]
    · rw [if_neg c, if_neg (by omega)]
theorem xr_end {u w : Nat → Int32} {t : Nat} (ht : t < 10) (h : xr_I u t 10 w) : ∀ x y, x < 10 → y < 10 → bt (w x) y = rl_rb (sb_B u) t x y := by
  intro x y hx hy
  rw [h x hx, if_pos hx, b_and, ps_m1 _ (by omega), ps_only t (by omega) (by omega)]
  unfold rl_rb
  by_cases e : x = t
  · rw [e, pk_us, b_0, decide_eq_true (show t = t from rfl)]
    simp
  · rw [pk_un e, decide_eq_false e]
    simp
end
section
/-! ===== X's private methods, each with a general post ===== -/
theorem ps_br {x : Int32} {b : Bool} {A B : Prop} (hx : x = ps_i b) (f : b = false → A) (g : b = true → B) : (x = 0 → A) ∧ (¬ x = 0 → B) := by
  subst hx
  cases b
  · exact ⟨fun _ => f rfl, fun z => absurd rfl z⟩
  · exact ⟨fun z => absurd z (by decide), fun _ => g rfl⟩
theorem ps_br1 {x : Int32} {b : Bool} {A B : Prop} (hx : x = ps_i b) (f : b = true → A) (g : b = false → B) : (x = 1 → A) ∧ (¬ x = 1 → B) := by
  subst hx
  cases b
  · exact ⟨fun z => absurd z (by decide), fun _ => g rfl⟩
  · exact ⟨fun _ => f rfl, fun z => absurd rfl z⟩
theorem ps_pt {post : Int32 → Prop} {b : Bool} (h : post (ps_i b)) (e : b = true) : post 1 := by
  rw [e] at h
  exact h
theorem ps_pf {post : Int32 → Prop} {b : Bool} (h : post (ps_i b)) (e : b = false) : post 0 := by
  rw [e] at h
  exact h
theorem xs_holds {post : Int32 → Prop} (S : Int32) (n : Nat) (hn : n < 32) (h : post (ps_i (bt S n))) : wpX_holds post S (nI n) := ps_br (ps_sh S n hn) (ps_pf h) (ps_pt h)
theorem xs_within {post : Int32 → Prop} (p w : Int32) (h : post (ps_i (decide (p &&& (w ^^^ (-1)) = 0)))) : wpX_isWithin post p w :=
  br_c (fun z => ps_pt h (decide_eq_true z)) (fun z => ps_pf h (decide_eq_false z))
theorem xs_only {post : Int32 → Prop} (n : Int32) (h : post ((1 : Int32) <<< (n &&& 31))) : wpX_only post n := h
theorem xs_tht {post : Int32 → Prop} (n : Nat) (hn : n < 10) (h : post 1) : wpX_isThing post (nI n) := br_f (nI_pos (by omega)) (br_f (nI_ge (b := 10) hn (by decide)) h)
theorem xs_thf {post : Int32 → Prop} (x : Int32) (hx : x < 0 ∨ nI 10 ≤ x) (h : post 0) : wpX_isThing post x := br_c (fun _ => h) (fun z => br_t (hx.resolve_left z) h)
theorem ps_nb (b : Bool) : narrow .boolean (.int (ps_i b)) = .int (ps_i b) := by cases b <;> rfl
theorem cn_1t {f : Nat → Bool} {n : Nat} (h : f n = true) : cn_n f (n + 1) = cn_n f n + 1 := by
  show cn_n f n + (f n).toNat = _
  rw [h] <;> rfl
theorem cn_1f {f : Nat → Bool} {n : Nat} (h : f n = false) : cn_n f (n + 1) = cn_n f n := by
  show cn_n f n + (f n).toNat = _
  rw [h] <;> rfl
theorem cn_1 (f : Nat → Bool) (n : Nat) : cn_n f (n + 1) = cn_n f n + (f n).toNat := rfl
theorem cn_s1 (f : Nat → Nat) (n : Nat) : cn_s f (n + 1) = cn_s f n + f n := rfl
theorem xs_size_l {post : Int32 → Prop} (S : Int32) (h : post (nI (cn_n (fun i => bt S i) 10))) : ∀ d j, j + d = 10 → wX_size_4 post S (d + 1) (nI (cn_n (fun i => bt S i) j)) (nI j) := by
  intro d
  induction d with
  | zero =>
    intro j hj
    obtain rfl : j = 10 := by omega
    exact br_t (nI_le (a := 10) (b := 10) (Nat.le_refl 10) (by decide)) h
  | succ d ih =>
    intro j hj
    have k := ih (j + 1) (by omega)
    refine br_f (nI_ge (b := 10) (by omega) (by decide)) (xs_holds S j (by omega) (ps_br rfl (fun e => nm_r (nI_1 j) ?_) (fun e => nm_r (nI_1 _) (nm_r (nI_1 j) ?_))))
    · rw [cn_1f (f := fun i => bt S i) e] at k
      exact k
    · rw [cn_1t (f := fun i => bt S i) e] at k
      exact k
theorem xs_size {post : Int32 → Prop} (S : Int32) (h : post (nI (cn_n (fun i => bt S i) 10))) : wpX_size post S := ⟨11, xs_size_l S h 10 0 rfl⟩
theorem xs_cb {post : Int32 → Prop} (u : Nat → Int32) (a b : Nat) (ha : a < 10) (hb : b < 10) (h : post (ps_i (bt (u a) b))) : wpX_comesBefore post u (nI a) (nI b) := by
  refine ⟨vp_in_nI ha (by decide), ?_⟩
  rw [nI_clamp (by omega)]
  exact xs_holds (u a) b (by omega) ⟨ps_nb _, h⟩
theorem xs_pairs_l {post : Int32 → Prop} (u : Nat → Int32) (h : post (nI (rl_px u))) : ∀ d j, j + d = 10 → wX_pairs_4 post u (d + 1) (nI (cn_s (fun a => cn_n (fun b => bt (u a) b) 10) j)) (nI j) := by
  intro d
  induction d with
  | zero =>
    intro j hj
    obtain rfl : j = 10 := by omega
    exact br_t (nI_le (a := 10) (b := 10) (Nat.le_refl 10) (by decide)) h
  | succ d ih =>
    intro j hj
    have k := ih (j + 1) (by omega)
    rw [cn_s1] at k
    refine br_f (nI_ge (b := 10) (by omega) (by decide)) ⟨vp_in_nI (by omega) (by decide), ?_⟩
    rw [nI_clamp (by omega)]
    exact xs_size (u j) (nm_r (nI_add _ _) (nm_r (nI_1 j) k))
theorem xs_pairs {post : Int32 → Prop} (u : Nat → Int32) (h : post (nI (rl_px u))) : wpX_pairs post u := ⟨11, xs_pairs_l u h 10 0 rfl⟩
theorem xs_earl_l {post : Int32 → Prop} (u : Nat → Int32) (t : Nat) (ht : t < 10) (h : post (er_f u t)) : ∀ d j, j + d = 10 → wX_earlier_4 post (nI t) u (d + 1) (er_g (fun i => bt (u i) t) j) (nI j) := by
  intro d
  induction d with
  | zero =>
    intro j hj
    obtain rfl : j = 10 := by omega
    exact br_t (nI_le (a := 10) (b := 10) (Nat.le_refl 10) (by decide)) h
  | succ d ih =>
    intro j hj
    have k := ih (j + 1) (by omega)
    refine br_f (nI_ge (b := 10) (by omega) (by decide)) ⟨vp_in_nI (by omega) (by decide), ?_⟩
    rw [nI_clamp (by omega)]
    refine xs_holds (u j) t (by omega) (ps_br rfl (fun e => nm_r (nI_1 j) ?_) (fun e => xs_only (nI j) (nm_e (nm_r (nI_1 j) ?_))))
    · rw [er_n (f := fun i => bt (u i) t) e] at k
      exact k
    · rw [er_t (f := fun i => bt (u i) t) e] at k
      exact k
theorem xs_earlier {post : Int32 → Prop} (u : Nat → Int32) (t : Nat) (ht : t < 10) (h : post (er_f u t)) : wpX_earlier post u (nI t) := ⟨11, xs_earl_l u t ht h 10 0 rfl⟩
theorem xs_spread_l {post : Int32 → Prop} (u : Nat → Int32) (s : Nat) (h : post (ps_i (pw_d (sp_X u s)))) : ∀ d j, j + d = 10 → (∀ x, x < j → s.testBit x = true → u x &&& nI s = 0) → wX_isSpread_2 post (nI s) u (d + 1) (nI j) := by
  intro d
  induction d with
  | zero =>
    intro j hj ok
    obtain rfl : j = 10 := by omega
    exact br_t (nI_le (a := 10) (b := 10) (Nat.le_refl 10) (by decide)) (ps_pt h (pw_dt.mpr ok))
  | succ d ih =>
    intro j hj ok
    have k := ih (j + 1) (by omega)
    have et := ps_nI s (show j < 32 by omega)
    refine br_f (nI_ge (b := 10) (by omega) (by decide)) (xs_holds (nI s) j (by omega) (ps_br rfl (fun e => nm_r (nI_1 j) (k (lt_s ok (fun t => ?_)))) (fun e => ⟨vp_in_nI (by omega) (by decide), ?_⟩)))
    · rw [← et, e] at t
      exact absurd t (by decide)
    · rw [nI_clamp (by omega)]
      exact br_c (fun z => nm_r (nI_1 j) (k (lt_s ok (fun _ => z)))) (fun z => ps_pf h (pw_df.mpr (fun q => z (q j (by omega) (et.symm.trans e)))))
theorem xs_spread {post : Int32 → Prop} (u : Nat → Int32) (s : Nat) (h : post (ps_i (pw_d (sp_X u s)))) : wpX_isSpread post u (nI s) := ⟨11, xs_spread_l u s h 10 0 rfl (fun x hx => absurd hx (Nat.not_lt_zero x))⟩
theorem xs_chain_l {post : Int32 → Prop} (u : Nat → Int32) (s : Nat) (h : post (ps_i (pw_d (ch_X u s)))) : ∀ d j, j + d = 10 → (∀ x, x < j → s.testBit x = true → nI s &&& (((u x ||| er_f u x) ||| ((1 : Int32) <<< (nI x &&& 31))) ^^^ (-1)) = 0) → wX_isChain_2 post (nI s) u (d + 1) (nI j) := by
  intro d
  induction d with
  | zero =>
    intro j hj ok
    obtain rfl : j = 10 := by omega
    exact br_t (nI_le (a := 10) (b := 10) (Nat.le_refl 10) (by decide)) (ps_pt h (pw_dt.mpr ok))
  | succ d ih =>
    intro j hj ok
    have k := ih (j + 1) (by omega)
    have et := ps_nI s (show j < 32 by omega)
    refine br_f (nI_ge (b := 10) (by omega) (by decide)) (xs_holds (nI s) j (by omega) (ps_br rfl (fun e => nm_r (nI_1 j) (k (lt_s ok (fun t => ?_)))) (fun e => ⟨vp_in_nI (by omega) (by decide), ?_⟩)))
    · rw [← et, e] at t
      exact absurd t (by decide)
    · rw [nI_clamp (by omega)]
      exact xs_earlier u j (by omega) (xs_only (nI j) (nm_e (xs_within _ _ (ps_br rfl (fun z => ps_pf h (pw_df.mpr (fun q => of_decide_eq_false z (q j (by omega) (et.symm.trans e))))) (fun z => nm_r (nI_1 j) (k (lt_s ok (fun _ => of_decide_eq_true z))))))))
theorem xs_chain {post : Int32 → Prop} (u : Nat → Int32) (s : Nat) (h : post (ps_i (pw_d (ch_X u s)))) : wpX_isChain post u (nI s) := ⟨11, xs_chain_l u s h 10 0 rfl (fun x hx => absurd hx (Nat.not_lt_zero x))⟩
theorem xs_widest_l {post : Int32 → Prop} (u : Nat → Int32) (N A : Int32) (h : post (nI (ar_v cz_n (ar_f (xw_P u N A) cz_n 1024)))) : ∀ d s, s + d = 1024 → wX_widest_5 post N A u (d + 1) (nI (ar_v cz_n (ar_f (xw_P u N A) cz_n s))) (nI s) := by
  intro d
  induction d with
  | zero =>
    intro s hs
    obtain rfl : s = 1024 := by omega
    exact br_t (nI_le (a := 1024) (b := 1024) (Nat.le_refl 1024) (by decide)) h
  | succ d ih =>
    intro s hs
    have k := ih (s + 1) (by omega)
    have hc : cz_n s ≤ 10 := cz_le s
    have hv : ar_v cz_n (ar_f (xw_P u N A) cz_n s) ≤ 10 := ar_vle cz_le _
    have skip : xw_P u N A s = false → ∀ y, y = nI s + 1 → wX_widest_5 post N A u (d + 1) (nI (ar_v cz_n (ar_f (xw_P u N A) cz_n s))) y := fun z => nm_r (nI_1 s) (by
      rw [show ar_f (xw_P u N A) cz_n (s + 1) = ar_f (xw_P u N A) cz_n s from ar_sf z] at k
      exact k)
    refine br_f (nI_ge (b := 1024) (by omega) (by decide)) (xs_within N (nI s) (ps_br rfl (fun e1 => skip ?_) (fun e1 => xs_within (nI s) A (ps_br rfl (fun e2 => skip ?_) (fun e2 => xs_spread u s (ps_br rfl (fun e3 => skip ?_) (fun e3 => xs_size (nI s) (pk_le (cz_n s) (ar_v cz_n (ar_f (xw_P u N A) cz_n s)) (fun l => nm_r (nI_1 s) ?_) (fun l => nm_r (nI_1 s) ?_)))))))))
    · unfold xw_P
      rw [e1] <;> rfl
    · unfold xw_P
      rw [e2, Bool.and_false] <;> rfl
    · unfold xw_P
      rw [e3, Bool.and_false]
    · rw [show ar_v cz_n (ar_f (xw_P u N A) cz_n (s + 1)) = ar_v cz_n (ar_f (xw_P u N A) cz_n s) from ar_vf (by omega)] at k
      exact k
    · have hp : xw_P u N A s = true := by
        unfold xw_P
        rw [e1, e2, e3] <;> rfl
      rw [show ar_v cz_n (ar_f (xw_P u N A) cz_n (s + 1)) = cz_n s from ar_vt hp l] at k
      exact k
theorem xs_widest {post : Int32 → Prop} (u : Nat → Int32) (N A : Int32) (h : post (nI (ar_v cz_n (ar_f (xw_P u N A) cz_n 1024)))) : wpX_widest post u N A := ⟨1025, xs_widest_l u N A h 1024 0 (by omega)⟩
theorem xs_high_l {post : Int32 → Prop} (u : Nat → Int32) (N : Int32) (h : post (nI (ar_v cz_n (ar_f (xh_P u N) cz_n 1024)))) : ∀ d s, s + d = 1024 → wX_highest_4 post N u (d + 1) (nI (ar_v cz_n (ar_f (xh_P u N) cz_n s))) (nI s) := by
  intro d
  induction d with
  | zero =>
    intro s hs
    obtain rfl : s = 1024 := by omega
    exact br_t (nI_le (a := 1024) (b := 1024) (Nat.le_refl 1024) (by decide)) h
  | succ d ih =>
    intro s hs
    have k := ih (s + 1) (by omega)
    have hc : cz_n s ≤ 10 := cz_le s
    have hv : ar_v cz_n (ar_f (xh_P u N) cz_n s) ≤ 10 := ar_vle cz_le _
    have skip : xh_P u N s = false → ∀ y, y = nI s + 1 → wX_highest_4 post N u (d + 1) (nI (ar_v cz_n (ar_f (xh_P u N) cz_n s))) y := fun z => nm_r (nI_1 s) (by
      rw [show ar_f (xh_P u N) cz_n (s + 1) = ar_f (xh_P u N) cz_n s from ar_sf z] at k
      exact k)
    refine br_f (nI_ge (b := 1024) (by omega) (by decide)) (xs_within N (nI s) (ps_br rfl (fun e1 => skip ?_) (fun e1 => xs_chain u s (ps_br rfl (fun e3 => skip ?_) (fun e3 => xs_size (nI s) (pk_le (cz_n s) (ar_v cz_n (ar_f (xh_P u N) cz_n s)) (fun l => nm_r (nI_1 s) ?_) (fun l => nm_r (nI_1 s) ?_)))))))
    · unfold xh_P
      rw [e1] <;> rfl
    · unfold xh_P
      rw [e3, Bool.and_false]
    · rw [show ar_v cz_n (ar_f (xh_P u N) cz_n (s + 1)) = ar_v cz_n (ar_f (xh_P u N) cz_n s) from ar_vf (by omega)] at k
      exact k
    · have hp : xh_P u N s = true := by
        unfold xh_P
        rw [e1, e3] <;> rfl
      rw [show ar_v cz_n (ar_f (xh_P u N) cz_n (s + 1)) = cz_n s from ar_vt hp l] at k
      exact k
theorem xs_highest {post : Int32 → Prop} (u : Nat → Int32) (N : Int32) (h : post (nI (ar_v cz_n (ar_f (xh_P u N) cz_n 1024)))) : wpX_highest post u N := ⟨1025, xs_high_l u N h 1024 0 (by omega)⟩
theorem ps_1023 : ∀ i, i < 10 → bt 1023 i = true := by decide +kernel
theorem xw_all {u : Nat → Int32} {s : Nat} (hs : s < 1024) : xw_P u 0 1023 s = pw_d (sp_X u s) := by
  have h1 : (0 : Int32) &&& (nI s ^^^ (-1)) = 0 := (ps_and0 _ _).mpr (fun i hi z => by rw [b_0] at z; exact absurd z (by decide))
  have h2 : nI s &&& ((1023 : Int32) ^^^ (-1)) = 0 := (ps_within _ _).mpr (fun i hi z => ps_1023 i (ps_10 hs hi z))
  unfold xw_P
  rw [decide_eq_true h1, decide_eq_true h2] <;> rfl
theorem xs_chosen_l {post : Int32 → Prop} (u : Nat → Int32) (m j : Nat) (hj : j < 1024) (hm : cz_n j = m) (hp : sp_X u j) (hl : ∀ i, i < j → sp_X u i → cz_n i ≠ m) (h : post (nI j)) : ∀ d s, s + d = j → wX_chosenSpread_11 post (nI m) u (d + 1) (nI s) := by
  have hm10 : m ≤ 10 := hm ▸ cz_le j
  intro d
  induction d with
  | zero =>
    intro s hs
    obtain rfl : s = j := by omega
    have hc : cz_n s ≤ 10 := cz_le s
    exact br_f (nI_ge (b := 1024) (by omega) (by decide)) (xs_size (nI s) (pk_eq (cz_n s) m (fun _ => xs_spread u s (ps_br rfl (fun e => absurd hp (pw_df.mp e)) (fun _ => h))) (fun z => absurd hm z)))
  | succ d ih =>
    intro s hs
    have k := ih (s + 1) (by omega)
    have hc : cz_n s ≤ 10 := cz_le s
    exact br_f (nI_ge (b := 1024) (by omega) (by decide)) (xs_size (nI s) (pk_eq (cz_n s) m (fun z => xs_spread u s (ps_br rfl (fun e => nm_r (nI_1 s) k) (fun e => absurd z (hl s (by omega) (pw_dt.mp e))))) (fun z => nm_r (nI_1 s) k)))
theorem xs_chosen {post : Int32 → Prop} (u : Nat → Int32) (j : Nat) (hj : ar_f (xw_P u 0 1023) cz_n 1024 = some j) (h : post (nI j)) : wpX_chosenSpread post u := by
  obtain ⟨h1, h2, h3, h4⟩ := ar_some (xw_P u 0 1023) cz_n 1024 j hj
  rw [xw_all h1] at h2
  refine xs_widest u 0 1023 ?_
  rw [hj]
  exact ⟨j + 1, xs_chosen_l u (cz_n j) j h1 rfl (pw_dt.mp h2) (fun i hi q => Nat.ne_of_lt (h4 i hi (by rw [xw_all (by omega)]; exact pw_dt.mpr q))) h j 0 (by omega)⟩
end
section
/-! ===== Y's private methods, each with a general post ===== -/
theorem ys_badt {post : Int32 → Prop} (n : Nat) (hn : n < 10) (h : post 0) : wpY_bad post (nI n) := br_f (nI_pos (by omega)) (br_t (nI_le (b := 9) (by omega) (by decide)) h)
theorem ys_badf {post : Int32 → Prop} (x : Int32) (hx : x < 0 ∨ nI 10 ≤ x) (h : post 1) : wpY_bad post x := br_c (fun _ => h) (fun z => br_f (fun q => absurd (Int32.le_trans (hx.resolve_left z) q) (by decide)) h)
theorem ys_ix (a b : Nat) : ((10 : Int32) * nI a) + nI b = nI (10 * a + b) := by
  show nI 10 * nI a + nI b = _
  rw [pk_mul, nI_add]
theorem ys_ones_l {post : Int32 → Prop} (S : Int32) (h : post (nI (cn_n (fun i => bt S i) 10))) : ∀ d j, j + d = 10 → wY_ones_4 post S (d + 1) (nI (cn_n (fun i => bt S i) j)) (nI j) := by
  intro d
  induction d with
  | zero =>
    intro j hj
    obtain rfl : j = 10 := by omega
    exact br_t (nI_le (a := 10) (b := 10) (Nat.le_refl 10) (by decide)) h
  | succ d ih =>
    intro j hj
    have k := ih (j + 1) (by omega)
    have e : nI (cn_n (fun i => bt S i) j) + ((S >>> (nI j &&& 31)) &&& 1) = nI (cn_n (fun i => bt S i) (j + 1)) := by
      rw [ps_sh S j (by omega), ps_iN, nI_add] <;> rfl
    exact br_f (nI_ge (b := 10) (by omega) (by decide)) (nm_r e (nm_r (nI_1 j) k))
theorem ys_ones {post : Int32 → Prop} (S : Int32) (h : post (nI (cn_n (fun i => bt S i) 10))) : wpY_ones post S := ⟨11, ys_ones_l S h 10 0 rfl⟩
theorem ys_pairs_l {post : Int32 → Prop} (v : Nat → Int32) (h : post (nI (rl_py v))) : ∀ d j, j + d = 100 → wY_pairs_4 post v (d + 1) (nI (cn_n (fun i => !decide (v i = 0)) j)) (nI j) := by
  intro d
  induction d with
  | zero =>
    intro j hj
    obtain rfl : j = 100 := by omega
    exact br_t (nI_le (a := 100) (b := 100) (Nat.le_refl 100) (by decide)) h
  | succ d ih =>
    intro j hj
    have k := ih (j + 1) (by omega)
    refine br_f (nI_ge (b := 100) (by omega) (by decide)) ⟨vp_in_nI (by omega) (by decide), ?_⟩
    rw [nI_clamp (by omega)]
    refine br_c (fun z => nm_r (nI_1 j) ?_) (fun z => nm_r (nI_1 _) (nm_r (nI_1 j) ?_))
    · rw [cn_1f (f := fun i => !decide (v i = 0)) (n := j) (by show (!decide (v j = 0)) = false; rw [decide_eq_true z] <;> rfl)] at k
      exact k
    · rw [cn_1t (f := fun i => !decide (v i = 0)) (n := j) (by show (!decide (v j = 0)) = true; rw [decide_eq_false z] <;> rfl)] at k
      exact k
theorem ys_pairs {post : Int32 → Prop} (v : Nat → Int32) (h : post (nI (rl_py v))) : wpY_pairs post v := ⟨101, ys_pairs_l v h 100 0 rfl⟩
theorem ys_fin {post J2 : Int32 → Prop} {v : Nat → Int32} {B : Nat → Nat → Bool} (hv : ∀ a b, a < 10 → b < 10 → v (10 * a + b) = ps_i (B a b)) (s : Nat) (c : Bool) (a : Nat) (ha : a < 10)
    (hbad : ∀ b, b < a → s.testBit a = true → s.testBit b = true → (B a b || B b a) ≠ c → post 0)
    (hJ : (∀ b, b < a → s.testBit a = true → s.testBit b = true → (B a b || B b a) = c) → J2 (nI (a + 1))) :
    ∀ d b, b + d = a → (∀ b', b' < b → s.testBit a = true → s.testBit b' = true → (B a b' || B b' a) = c) → wY_fits_11 post J2 (nI s) (ps_i c) (nI a) v (d + 1) (nI b) := by
  intro d
  induction d with
  | zero =>
    intro b hb ok
    obtain rfl : b = a := by omega
    exact br_t (nI_le (Nat.le_refl _) (by omega)) (nm_r (nI_1 _) (hJ ok))
  | succ d ih =>
    intro b hb ok
    have k := ih (b + 1) (by omega)
    have ea := ps_nI s (show a < 32 by omega)
    have eb := ps_nI s (show b < 32 by omega)
    have g : s.testBit a = true → s.testBit b = true → ∀ w : Bool, (B a b || B b a) = w → wY_fits_83 post J2 (wY_fits_11 post J2 (nI s) (ps_i c) (nI a) v (d + 1)) (nI s) (ps_i c) (nI a) (nI b) (ps_i w) v := by
      intro ta tb w hw
      have hi : ps_i w = ps_i c ↔ w = c := by cases w <;> cases c <;> decide
      exact br_c (fun z => nm_r (nI_1 b) (k (lt_s ok (fun _ _ => hw.trans (hi.mp z))))) (fun z => hbad b (by omega) ta tb (fun q => z (hi.mpr (hw.symm.trans q))))
    have f2 : ¬ (s.testBit a = true ∧ s.testBit b = true) → wY_fits_40 post J2 (wY_fits_11 post J2 (nI s) (ps_i c) (nI a) v (d + 1)) (nI s) (ps_i c) (nI a) (nI b) v := fun n => br_t rfl (nm_r (nI_1 b) (k (lt_s ok (fun ta tb => absurd ⟨ta, tb⟩ n))))
    refine br_f (nI_ge (by omega) (by omega)) (ps_br1 (ps_sh (nI s) a (by omega)) (fun e1 => ps_br1 (ps_sh (nI s) b (by omega)) (fun e2 => ?_) (fun e2 => f2 (fun n => ?_))) (fun e1 => f2 (fun n => ?_)))
    · have ta := ea.symm.trans e1
      have tb := eb.symm.trans e2
      refine br_f (by decide) ?_
      rw [ys_ix a b, ys_ix b a, nI_clamp (show 10 * a + b < 2 ^ 31 by omega), nI_clamp (show 10 * b + a < 2 ^ 31 by omega), hv a b ha (by omega), hv b a (by omega) ha]
      refine ⟨vp_in_nI (by omega) (by decide), ps_br rfl (fun x1 => ⟨vp_in_nI (by omega) (by decide), ps_br rfl (fun x2 => ?_) (fun x2 => ?_)⟩) (fun x1 => ?_)⟩
      · exact g ta tb false (by rw [x1, x2] <;> rfl)
      · exact g ta tb true (by rw [x1, x2] <;> rfl)
      · exact g ta tb true (by rw [x1] <;> rfl)
    · rw [eb, n.2] at e2
      exact absurd e2 (by decide)
    · rw [ea, n.1] at e1
      exact absurd e1 (by decide)
theorem ys_fits_l {post : Int32 → Prop} {v : Nat → Int32} {B : Nat → Nat → Bool} (hv : ∀ a b, a < 10 → b < 10 → v (10 * a + b) = ps_i (B a b)) (s : Nat) (c : Bool) (h : post (ps_i (pw_d (sp_Y B s c)))) :
    ∀ d a, a + d = 10 → (∀ a', a' < a → ∀ b, b < a' → s.testBit a' = true → s.testBit b = true → (B a' b || B b a') = c) → wY_fits_2 post (nI s) (ps_i c) v (d + 1) (nI a) := by
  intro d
  induction d with
  | zero =>
    intro a ha ok
    obtain rfl : a = 10 := by omega
    exact br_t (nI_le (a := 10) (b := 10) (Nat.le_refl 10) (by decide)) (ps_pt h (pw_dt.mpr ok))
  | succ d ih =>
    intro a ha ok
    have k := ih (a + 1) (by omega)
    refine br_f (nI_ge (b := 10) (by omega) (by decide)) ⟨a + 1, ys_fin hv s c a (by omega) (fun b hb ta tb ne => ps_pf h (pw_df.mpr (fun q => ne (q a (by omega) b hb ta tb)))) (fun r => k (lt_s ok r)) a 0 (by omega) (fun b hb => absurd hb (Nat.not_lt_zero b))⟩
theorem ys_fits {post : Int32 → Prop} {v : Nat → Int32} {B : Nat → Nat → Bool} (hv : ∀ a b, a < 10 → b < 10 → v (10 * a + b) = ps_i (B a b)) (s : Nat) (c : Bool) (h : post (ps_i (pw_d (sp_Y B s c)))) : wpY_fits post v (nI s) (ps_i c) :=
  ⟨11, ys_fits_l hv s c h 10 0 rfl (fun a ha => absurd ha (Nat.not_lt_zero a))⟩
theorem ys_great_l {post : Int32 → Prop} {v : Nat → Int32} {B : Nat → Nat → Bool} (hv : ∀ a b, a < 10 → b < 10 → v (10 * a + b) = ps_i (B a b)) (N O : Int32) (c : Bool) (h : post (ar_i (ar_f (yg_P B N O c) cz_n 1024))) :
    ∀ d s, s + d = 1024 → wY_greatest_6 post N O (ps_i c) v (d + 1) (ar_i (ar_f (yg_P B N O c) cz_n s)) (nI s) := by
  intro d
  induction d with
  | zero =>
    intro s hs
    obtain rfl : s = 1024 := by omega
    exact br_t (nI_le (a := 1024) (b := 1024) (Nat.le_refl 1024) (by decide)) h
  | succ d ih =>
    intro s hs
    have k : wY_greatest_6 post N O (ps_i c) v (d + 1) (ar_i (ar_st (yg_P B N O c) cz_n s (ar_f (yg_P B N O c) cz_n s))) (nI (s + 1)) := ih (s + 1) (by omega)
    have hc : cz_n s ≤ 10 := cz_le s
    have skip : yg_P B N O c s = false → ∀ y, y = nI s + 1 → wY_greatest_6 post N O (ps_i c) v (d + 1) (ar_i (ar_f (yg_P B N O c) cz_n s)) y := fun z => nm_r (nI_1 s) (by
      rw [ar_sf z] at k
      exact k)
    have s33 : yg_P B N O c s = false → wY_greatest_33 post (wY_greatest_6 post N O (ps_i c) v (d + 1)) N O (ps_i c) (ar_i (ar_f (yg_P B N O c) cz_n s)) (nI s) v := fun z => br_t rfl (skip z)
    refine br_f (nI_ge (b := 1024) (by omega) (by decide)) (br_c (fun e1 => br_c (fun e2 => ?_) (fun e2 => s33 ?_)) (fun e1 => s33 ?_))
    · refine br_f (by decide) (ys_fits hv s c (ps_br rfl (fun e3 => skip ?_) (fun e3 => ?_)))
      · unfold yg_P
        rw [e3, Bool.and_false]
      · have hp : yg_P B N O c s = true := by
          unfold yg_P
          rw [e3, decide_eq_true e1, decide_eq_true e2] <;> rfl
        cases ho : ar_f (yg_P B N O c) cz_n s with
        | none =>
          rw [ho, show ar_st (yg_P B N O c) cz_n s none = some s from if_pos hp] at k
          exact br_t (by decide) (nm_r (nI_1 s) k)
        | some j =>
          have hj := (ar_some _ _ s j ho).1
          have hcj : cz_n j ≤ 10 := cz_le j
          rw [ho] at k
          refine br_f (nI_pos (by omega)) (ys_ones (nI s) (ys_ones (nI j) (pk_le (cz_n s) (cz_n j) (fun l => nm_r (nI_1 s) ?_) (fun l => nm_r (nI_1 s) ?_))))
          · rw [show ar_st (yg_P B N O c) cz_n s (some j) = some j from if_neg (fun z => by omega)] at k
            exact k
          · rw [show ar_st (yg_P B N O c) cz_n s (some j) = some s from if_pos ⟨hp, l⟩] at k
            exact k
    · unfold yg_P
      rw [decide_eq_false e2, Bool.and_false] <;> rfl
    · unfold yg_P
      rw [decide_eq_false e1] <;> rfl
theorem ys_greatest {post : Int32 → Prop} {v : Nat → Int32} {B : Nat → Nat → Bool} (hv : ∀ a b, a < 10 → b < 10 → v (10 * a + b) = ps_i (B a b)) (N O : Int32) (c : Bool) (h : post (ar_i (ar_f (yg_P B N O c) cz_n 1024))) : wpY_greatest post v N O (ps_i c) :=
  ⟨1025, ys_great_l hv N O c h 1024 0 (by omega)⟩
theorem ys_size {post : Int32 → Prop} {v : Nat → Int32} {B : Nat → Nat → Bool} (hv : ∀ a b, a < 10 → b < 10 → v (10 * a + b) = ps_i (B a b)) (N O : Int32) (c : Bool) (h : post (nI (ar_v cz_n (ar_f (yg_P B N O c) cz_n 1024)))) : wpY_size post v N O (ps_i c) := by
  refine ys_greatest hv N O c ?_
  cases ho : ar_f (yg_P B N O c) cz_n 1024 with
  | none =>
    rw [ho] at h
    exact br_f (by decide) h
  | some j =>
    have hj := (ar_some _ _ 1024 j ho).1
    rw [ho] at h
    exact br_t (nI_pos' (by omega)) (ys_ones (nI j) h)
end
section
/-! ===== put and release walked ===== -/
theorem xs_put_l {post : Int32 → SX → Prop} (u : Nat → Int32) (a : Nat) (ha : a < 10) (g : Int32) (h : ∀ w, xp_I u a g 10 w → post (nI (rl_px w)) w) : ∀ d x w, x + d = 10 → xp_I u a g x w → wX_put_47 post (nI a) g (d + 1) (nI x) w := by
  intro d
  induction d with
  | zero =>
    intro x w hx I
    obtain rfl : x = 10 := by omega
    exact br_t (nI_le (a := 10) (b := 10) (Nat.le_refl 10) (by decide)) (xs_pairs w (h w I))
  | succ d ih =>
    intro x w hx I
    have hx10 : x < 10 := by omega
    have hw : w x = u x := xp_at I hx10
    have j70 : (x = a ∨ bt (u x) a = true) → wX_put_70 post (wX_put_47 post (nI a) g (d + 1)) (nI a) g (nI x) w := by
      intro hc
      unfold wX_put_70
      rw [nI_clamp (show x < 2 ^ 31 by omega)]
      exact ⟨vp_in_nI hx10 (by decide), vp_in_nI hx10 (by decide), nm_e (nm_r (nI_1 x) (ih (x + 1) _ (by omega) (xp_set I hx10 hc)))⟩
    refine br_f (nI_ge (b := 10) (by omega) (by decide)) (pk_eq x a (fun e => j70 (Or.inl e)) (fun e => xs_cb w x a hx10 ha (ps_br rfl (fun z => nm_r (nI_1 x) (ih (x + 1) w (by omega) (xp_skip I hx10 ?_))) (fun z => j70 (Or.inr ?_)))))
    · rw [hw] at z
      rintro (q | q)
      · exact e q
      · rw [z] at q
        exact absurd q (by decide)
    · rw [hw] at z
      exact z
theorem xs_put {post : Int32 → SX → Prop} (u : Nat → Int32) (a b : Nat) (ha : a < 10) (hb : b < 10) (hab : a ≠ b) (hba : bt (u b) a = false) (h : ∀ w, xp_I u a (u b ||| ((1 : Int32) <<< (nI b &&& 31))) 10 w → post (nI (rl_px w)) w) : wpX_put post u (nI a) (nI b) := by
  unfold wpX_put
  refine xs_tht a ha (br_f (by decide) (xs_tht b hb (br_f (by decide) (pk_eq a b (fun e => absurd e hab) (fun _ => xs_cb u b a hb ha (ps_br rfl (fun _ => ⟨vp_in_nI hb (by decide), ?_⟩) (fun z => ?_)))))))
  · rw [nI_clamp (show b < 2 ^ 31 by omega)]
    exact xs_only (nI b) (nm_e ⟨11, xs_put_l u a ha _ h 10 0 u rfl (xp_0 u a _)⟩)
  · rw [hba] at z
    exact absurd z (by decide)
theorem vn_1 : vp_nar .boolean 1 = 1 := by rfl
theorem vn_0 : vp_nar .boolean 0 = 0 := by rfl
theorem ys_put_in {post : Int32 → SY → Prop} {J37 : Int32 → (Nat → Int32) → Prop} {B : Nat → Nat → Bool} (a b x : Nat) (ha : a < 10) (hb : b < 10) (hx : x < 10) (hab : a ≠ b) (hba : B b a = false) (hJ : ∀ w, pt_I B a b (x + 1) 0 w → J37 (nI (x + 1)) w) :
    ∀ d y w, y + d = 10 → pt_I B a b x y w → wY_put_46 post J37 (nI a) (nI b) (nI x) (d + 1) (nI y) w := by
  intro d
  induction d with
  | zero =>
    intro y w hy I
    obtain rfl : y = 10 := by omega
    exact br_t (nI_le (a := 10) (b := 10) (Nat.le_refl 10) (by decide)) (nm_r (nI_1 x) (hJ w (pt_row I)))
  | succ d ih =>
    intro y w hy I
    have hy10 : y < 10 := by omega
    have k := fun w' => ih (y + 1) w' (by omega)
    have l105 : ∀ l m : Bool, (l = true ↔ (x = a ∨ B x a = true)) → (m = true ↔ (y = b ∨ B b y = true)) → wY_put_105 post J37 (wY_put_46 post J37 (nI a) (nI b) (nI x) (d + 1)) (nI a) (nI b) (nI x) (nI y) (ps_i l) (ps_i m) w := by
      intro l m hl hm
      unfold wY_put_105
      rw [ys_ix x y, nI_clamp (show 10 * x + y < 2 ^ 31 by omega), vn_1]
      refine ps_br rfl (fun e => nm_r (nI_1 y) (k w (pt_skip I hx hy10 (fun q => ?_)))) (fun e => ps_br rfl (fun e2 => nm_r (nI_1 y) (k w (pt_skip I hx hy10 (fun q => ?_)))) (fun e2 => ⟨vp_in_nI (by omega) (by decide), nm_e (nm_r (nI_1 y) (k _ (pt_set I hx hy10 (hl.mp e) (hm.mp e2))))⟩))
      · rw [hl.mpr q.1] at e
        exact absurd e (by decide)
      · rw [hm.mpr q.2] at e2
        exact absurd e2 (by decide)
    have l77 : ∀ l : Bool, (l = true ↔ (x = a ∨ B x a = true)) → wY_put_77 post J37 (wY_put_46 post J37 (nI a) (nI b) (nI x) (d + 1)) (nI a) (nI b) (nI x) (nI y) (ps_i l) w := by
      intro l hl
      unfold wY_put_77
      rw [ys_ix b y, nI_clamp (show 10 * b + y < 2 ^ 31 by omega), pt_high hab hba I y hy10 hb]
      refine pk_eq y b (fun e => l105 l true hl ⟨fun _ => Or.inl e, fun _ => rfl⟩) (fun e => ⟨vp_in_nI (by omega) (by decide), ps_br rfl (fun z => l105 l false hl ⟨(fun q => nomatch q), fun q => ?_⟩) (fun z => l105 l true hl ⟨fun _ => Or.inr z, fun _ => rfl⟩)⟩)
      rcases q with q | q
      · exact absurd q e
      · exact z.symm.trans q
    refine br_f (nI_ge (b := 10) (by omega) (by decide)) ?_
    rw [ys_ix x a, nI_clamp (show 10 * x + a < 2 ^ 31 by omega), pt_low hab hba I x hx ha]
    refine pk_eq x a (fun e => l77 true ⟨fun _ => Or.inl e, fun _ => rfl⟩) (fun e => ⟨vp_in_nI (by omega) (by decide), ps_br rfl (fun z => l77 false ⟨(fun q => nomatch q), fun q => ?_⟩) (fun z => l77 true ⟨fun _ => Or.inr z, fun _ => rfl⟩)⟩)
    rcases q with q | q
    · exact absurd q e
    · exact z.symm.trans q
theorem ys_put_l {post : Int32 → SY → Prop} {B : Nat → Nat → Bool} (a b : Nat) (ha : a < 10) (hb : b < 10) (hab : a ≠ b) (hba : B b a = false) (h : ∀ w, pt_I B a b 10 0 w → post (nI (rl_py w)) w) :
    ∀ d x w, x + d = 10 → pt_I B a b x 0 w → wY_put_37 post (nI a) (nI b) (d + 1) (nI x) w := by
  intro d
  induction d with
  | zero =>
    intro x w hx I
    obtain rfl : x = 10 := by omega
    exact br_t (nI_le (a := 10) (b := 10) (Nat.le_refl 10) (by decide)) (ys_pairs w (h w I))
  | succ d ih =>
    intro x w hx I
    exact br_f (nI_ge (b := 10) (by omega) (by decide)) ⟨11, ys_put_in a b x ha hb (by omega) hab hba (fun w' I' => ih (x + 1) w' (by omega) I') 10 0 w rfl I⟩
theorem ys_put {post : Int32 → SY → Prop} {v : Nat → Int32} {B : Nat → Nat → Bool} (hv : ∀ a b, a < 10 → b < 10 → v (10 * a + b) = ps_i (B a b)) (a b : Nat) (ha : a < 10) (hb : b < 10) (hab : a ≠ b) (hba : B b a = false) (h : ∀ w, pt_I B a b 10 0 w → post (nI (rl_py w)) w) : wpY_put post v (nI a) (nI b) := by
  unfold wpY_put
  refine ys_badt a ha (br_t rfl (ys_badt b hb (br_t rfl (pk_eq a b (fun e => absurd e hab) (fun _ => ?_)))))
  rw [ys_ix b a, nI_clamp (show 10 * b + a < 2 ^ 31 by omega), hv b a hb ha]
  refine ⟨vp_in_nI (by omega) (by decide), ps_br rfl (fun _ => ⟨11, ys_put_l a b ha hb hab hba h 10 0 v rfl (pt_I0 a b hv)⟩) (fun z => ?_)⟩
  rw [hba] at z
  exact absurd z (by decide)
theorem xs_rel_l {post : Int32 → SX → Prop} (u : Nat → Int32) (t : Nat) (h : ∀ w, xr_I u t 10 w → post (nI (rl_px w)) w) : ∀ d x w, x + d = 10 → xr_I u t x w → wX_release_18 post (nI t) (d + 1) (nI x) w := by
  intro d
  induction d with
  | zero =>
    intro x w hx I
    obtain rfl : x = 10 := by omega
    exact br_t (nI_le (a := 10) (b := 10) (Nat.le_refl 10) (by decide)) (xs_pairs w (h w I))
  | succ d ih =>
    intro x w hx I
    have hx10 : x < 10 := by omega
    refine br_f (nI_ge (b := 10) (by omega) (by decide)) ?_
    rw [nI_clamp (show x < 2 ^ 31 by omega)]
    exact ⟨vp_in_nI hx10 (by decide), xs_only (nI t) ⟨vp_in_nI hx10 (by decide), nm_e (nm_r (nI_1 x) (ih (x + 1) _ (by omega) (xr_st I hx10)))⟩⟩
theorem xs_release {post : Int32 → SX → Prop} (u : Nat → Int32) (t : Nat) (ht : t < 10) (h : ∀ w, xr_I u t 10 w → post (nI (rl_px w)) w) : wpX_release post u (nI t) := by
  unfold wpX_release
  refine xs_tht t ht (br_f (by decide) ?_)
  rw [nI_clamp (show t < 2 ^ 31 by omega)]
  exact ⟨vp_in_nI ht (by decide), nm_e ⟨11, xs_rel_l u t h 10 0 _ rfl (xr_0 u t)⟩⟩
theorem ys_rel_l {post : Int32 → SY → Prop} {B : Nat → Nat → Bool} (t : Nat) (ht : t < 10) (h : ∀ w, rs_I B t 10 w → post (nI (rl_py w)) w) : ∀ d x w, x + d = 10 → rs_I B t x w → wY_release_11 post (nI t) (d + 1) (nI x) w := by
  intro d
  induction d with
  | zero =>
    intro x w hx I
    obtain rfl : x = 10 := by omega
    exact br_t (nI_le (a := 10) (b := 10) (Nat.le_refl 10) (by decide)) (ys_pairs w (h w I))
  | succ d ih =>
    intro x w hx I
    have hx10 : x < 10 := by omega
    refine br_f (nI_ge (b := 10) (by omega) (by decide)) ?_
    rw [ys_ix x t, ys_ix t x, nI_clamp (show 10 * x + t < 2 ^ 31 by omega), nI_clamp (show 10 * t + x < 2 ^ 31 by omega), vn_0]
    exact ⟨vp_in_nI (by omega) (by decide), nm_e ⟨vp_in_nI (by omega) (by decide), nm_e (nm_r (nI_1 x) (ih (x + 1) _ (by omega) (rs_st I ht hx10)))⟩⟩
theorem ys_release {post : Int32 → SY → Prop} {v : Nat → Int32} {B : Nat → Nat → Bool} (hv : ∀ a b, a < 10 → b < 10 → v (10 * a + b) = ps_i (B a b)) (t : Nat) (ht : t < 10) (h : ∀ w, rs_I B t 10 w → post (nI (rl_py w)) w) : wpY_release post v (nI t) := by
  unfold wpY_release
  exact ys_badt t ht (br_t rfl ⟨11, ys_rel_l t ht h 10 0 v rfl (rs_0 t hv)⟩)
/-! ===== widthBeside: the things left out ===== -/
theorem ys_bes_l {post : Int32 → Prop} {v : Nat → Int32} {B : Nat → Nat → Bool} (hv : ∀ a b, a < 10 → b < 10 → v (10 * a + b) = ps_i (B a b)) (t : Nat) (ht : t < 10) (q : Int32) (f : Nat → Bool) (h0 : q = 0 → ∀ i, f i = B i t) (h1 : ¬ q = 0 → ∀ i, f i = B t i)
    (h : post (nI (ar_v cz_n (ar_f (yg_P B 0 (er_g (fun i => !f i) 10) false) cz_n 1024)))) : ∀ d j, j + d = 10 → wY_widthBeside_14 post (nI t) q v (d + 1) (er_g (fun i => !f i) j) (nI j) := by
  intro d
  induction d with
  | zero =>
    intro j hj
    obtain rfl : j = 10 := by omega
    exact br_t (nI_le (a := 10) (b := 10) (Nat.le_refl 10) (by decide)) (ys_size hv 0 _ false h)
  | succ d ih =>
    intro j hj
    have k := ih (j + 1) (by omega)
    have l52 : wY_widthBeside_52 post (wY_widthBeside_14 post (nI t) q v (d + 1)) (nI t) q (er_g (fun i => !f i) j) (nI j) (ps_i (f j)) v := by
      refine ps_br rfl (fun e => nm_e (nm_r (nI_1 j) ?_)) (fun e => nm_r (nI_1 j) ?_)
      · rw [er_t (f := fun i => !f i) (n := j) (by show (!f j) = true; rw [e] <;> rfl)] at k
        exact k
      · rw [er_n (f := fun i => !f i) (n := j) (by show (!f j) = false; rw [e] <;> rfl)] at k
        exact k
    refine br_f (nI_ge (b := 10) (by omega) (by decide)) ?_
    rw [ys_ix j t, ys_ix t j, nI_clamp (show 10 * j + t < 2 ^ 31 by omega), nI_clamp (show 10 * t + j < 2 ^ 31 by omega), hv j t (by omega) ht, hv t j ht (by omega)]
    refine br_c (fun z => ⟨vp_in_nI (by omega) (by decide), ?_⟩) (fun z => ⟨vp_in_nI (by omega) (by decide), ?_⟩)
    · rw [← h0 z j]
      exact l52
    · rw [← h1 z j]
      exact l52
end
section
/-! ===== what is owed ===== -/
def i_Rel (k : Nat) (u : SX) (v : SY) : Prop := rl_R u v
theorem i_up {k : Nat} {u : SX} {v : SY} (h : i_Rel k u v) : i_Rel (k + 3) u v := h
theorem i_vc0 : wpX_init (fun u => wpY_init (fun v => i_Rel 0 u v)) := rl_0
theorem ow_th (x : Int32) : (x < 0 ∨ nI 10 ≤ x) ∨ ∃ j, j < 10 ∧ x = nI j := by
  rcases pk_ix x (n := 10) (by decide) with h | h | h
  · exact Or.inl (Or.inl h)
  · exact Or.inl (Or.inr h)
  · exact Or.inr h
theorem ow_w {u v : Nat → Int32} (R : rl_R u v) {N A O : Int32} (h : ∀ i, i < 10 → bt O i = !bt A i) : nI (ar_v cz_n (ar_f (yg_P (sb_B u) N O false) cz_n 1024)) = nI (ar_v cz_n (ar_f (xw_P u N A) cz_n 1024)) :=
  congrArg (fun o => nI (ar_v cz_n o)) (ar_cg cz_n 1024 (fun i hi => (xw_eq R.2.1 h hi).symm))
theorem ow_h (u : Nat → Int32) (N : Int32) : nI (ar_v cz_n (ar_f (yg_P (sb_B u) N 0 true) cz_n 1024)) = nI (ar_v cz_n (ar_f (xh_P u N) cz_n 1024)) :=
  congrArg (fun o => nI (ar_v cz_n o)) (ar_cg cz_n 1024 (fun i hi => (xh_eq hi).symm))
theorem ow_0 (i : Nat) (hi : i < 10) : bt 0 i = !bt 1023 i := by
  rw [b_0, ps_1023 i hi] <;> rfl
theorem i_vc_put {k : Nat} {u : SX} {v : SY} (I : i_Rel k u v) (hk : k + 3 ≤ 1536) (v1 : Int32) (v2 : Int32) : wpX_put (fun r u' => wpY_put (fun r' v' => r' = r ∧ i_Rel (k + 3) u' v') v v1 v2) u v1 v2 := by
  have R : rl_R u v := I
  rcases ow_th v1 with h1 | ⟨a, ha, rfl⟩
  · unfold wpX_put
    refine xs_thf v1 h1 (br_t rfl ?_)
    unfold wpY_put
    exact ys_badf v1 h1 (br_f (by decide) ⟨rfl, I⟩)
  rcases ow_th v2 with h2 | ⟨b, hb, rfl⟩
  · unfold wpX_put
    refine xs_tht a ha (br_f (by decide) (xs_thf v2 h2 (br_t rfl ?_)))
    unfold wpY_put
    exact ys_badt a ha (br_t rfl (ys_badf v2 h2 (br_f (by decide) ⟨rfl, I⟩)))
  by_cases hab : a = b
  · subst hab
    unfold wpX_put
    refine xs_tht a ha (br_f (by decide) (xs_tht a hb (br_f (by decide) (br_t rfl ?_))))
    unfold wpY_put
    exact ys_badt a ha (br_t rfl (ys_badt a hb (br_t rfl (br_t rfl ⟨rfl, I⟩))))
  have hne : ¬ nI a = nI b := by
    rw [nI_eq (by omega) (by omega)]
    exact hab
  cases hba : bt (u b) a
  · refine xs_put u a b ha hb hab hba (fun w hw => ys_put (B := sb_B u) R.1 a b ha hb hab hba (fun w' hw' => ?_))
    have R' : rl_R w w' := rl_put R ha hb hab hba (xp_end hb hw) (pt_end hw')
    exact ⟨congrArg nI (rl_pairs R').symm, R'⟩
  · unfold wpX_put
    refine xs_tht a ha (br_f (by decide) (xs_tht b hb (br_f (by decide) (br_f hne (xs_cb u b a hb ha (ps_br rfl (fun z => absurd (z.symm.trans hba) (by decide)) (fun z => ?_)))))))
    unfold wpY_put
    refine ys_badt a ha (br_t rfl (ys_badt b hb (br_t rfl (br_f hne ?_))))
    rw [ys_ix b a, nI_clamp (show 10 * b + a < 2 ^ 31 by omega), R.1 b a hb ha]
    exact ⟨vp_in_nI (by omega) (by decide), ps_br rfl (fun z => absurd (z.symm.trans hba) (by decide)) (fun _ => ⟨rfl, I⟩)⟩
theorem i_vc_release {k : Nat} {u : SX} {v : SY} (I : i_Rel k u v) (hk : k + 3 ≤ 1536) (v1 : Int32) : wpX_release (fun r u' => wpY_release (fun r' v' => r' = r ∧ i_Rel (k + 3) u' v') v v1) u v1 := by
  have R : rl_R u v := I
  rcases ow_th v1 with h1 | ⟨t, ht, rfl⟩
  · unfold wpX_release
    refine xs_thf v1 h1 (br_t rfl ?_)
    unfold wpY_release
    exact ys_badf v1 h1 (br_f (by decide) ⟨rfl, I⟩)
  refine xs_release u t ht (fun w hw => ys_release (B := sb_B u) R.1 t ht (fun w' hw' => ?_))
  have R' : rl_R w w' := rl_rel R (xr_end ht hw) (rs_end hw')
  exact ⟨congrArg nI (rl_pairs R').symm, R'⟩
theorem i_vc_before {k : Nat} {u : SX} {v : SY} (I : i_Rel k u v) (hk : k + 3 ≤ 1536) (v1 : Int32) (v2 : Int32) : wpX_before (fun r => wpY_before (fun r' => r' = r ∧ i_Rel (k + 3) u v) v v1 v2) u v1 v2 := by
  have R : rl_R u v := I
  rcases ow_th v1 with h1 | ⟨a, ha, rfl⟩
  · unfold wpX_before
    refine xs_thf v1 h1 (br_t rfl ?_)
    unfold wpY_before
    exact ys_badf v1 h1 (br_f (by decide) ⟨rfl, I⟩)
  rcases ow_th v2 with h2 | ⟨b, hb, rfl⟩
  · unfold wpX_before
    refine xs_tht a ha (br_f (by decide) (xs_thf v2 h2 (br_t rfl ?_)))
    unfold wpY_before
    exact ys_badt a ha (br_t rfl (ys_badf v2 h2 (br_f (by decide) ⟨rfl, I⟩)))
  have yb : ∀ r, ps_i (bt (u a) b) = r → wpY_before (fun r' => r' = r ∧ i_Rel (k + 3) u v) v (nI a) (nI b) := by
    intro r hr
    unfold wpY_before
    refine ys_badt a ha (br_t rfl (ys_badt b hb (br_t rfl ?_)))
    rw [ys_ix a b, nI_clamp (show 10 * a + b < 2 ^ 31 by omega), R.1 a b ha hb]
    exact ⟨vp_in_nI (by omega) (by decide), ps_br rfl (fun e => ⟨by rw [← hr, e] <;> rfl, I⟩) (fun e => ⟨by rw [← hr, e] <;> rfl, I⟩)⟩
  unfold wpX_before
  exact xs_tht a ha (br_f (by decide) (xs_tht b hb (br_f (by decide) (xs_cb u a b ha hb (ps_br rfl (fun e => yb 0 (by rw [e] <;> rfl)) (fun e => yb 1 (by rw [e] <;> rfl)))))))
theorem i_vc_width {k : Nat} {u : SX} {v : SY} (I : i_Rel k u v) (hk : k + 3 ≤ 1536) : wpX_width (fun r => wpY_width (fun r' => r' = r ∧ i_Rel (k + 3) u v) v) u := by
  have R : rl_R u v := I
  unfold wpX_width
  refine xs_widest u 0 1023 ?_
  unfold wpY_width
  exact ys_size (B := sb_B u) R.1 0 0 false ⟨ow_w R ow_0, I⟩
theorem i_vc_widthWith {k : Nat} {u : SX} {v : SY} (I : i_Rel k u v) (hk : k + 3 ≤ 1536) (v1 : Int32) : wpX_widthWith (fun r => wpY_widthWith (fun r' => r' = r ∧ i_Rel (k + 3) u v) v v1) u v1 := by
  have R : rl_R u v := I
  rcases ow_th v1 with h1 | ⟨t, ht, rfl⟩
  · unfold wpX_widthWith
    refine xs_thf v1 h1 (br_t rfl ?_)
    unfold wpY_widthWith
    exact ys_badf v1 h1 (br_f (by decide) ⟨rfl, I⟩)
  unfold wpX_widthWith
  refine xs_tht t ht (br_f (by decide) (xs_only (nI t) (xs_widest u _ 1023 ?_)))
  unfold wpY_widthWith
  exact ys_badt t ht (br_t rfl (ys_size (B := sb_B u) R.1 _ 0 false ⟨ow_w R ow_0, I⟩))
theorem i_vc_widthWithout {k : Nat} {u : SX} {v : SY} (I : i_Rel k u v) (hk : k + 3 ≤ 1536) (v1 : Int32) : wpX_widthWithout (fun r => wpY_widthWithout (fun r' => r' = r ∧ i_Rel (k + 3) u v) v v1) u v1 := by
  have R : rl_R u v := I
  rcases ow_th v1 with h1 | ⟨t, ht, rfl⟩
  · unfold wpX_widthWithout
    refine xs_thf v1 h1 (br_t rfl ?_)
    unfold wpY_widthWithout
    exact ys_badf v1 h1 (br_f (by decide) ⟨rfl, I⟩)
  have hO : ∀ i, i < 10 → bt ((1 : Int32) <<< (nI t &&& 31)) i = !bt ((1023 : Int32) &&& (((1 : Int32) <<< (nI t &&& 31)) ^^^ (-1))) i := by
    intro i hi
    rw [b_and, ps_m1 _ (by omega), ps_1023 i hi, Bool.true_and, Bool.not_not]
  unfold wpX_widthWithout
  refine xs_tht t ht (br_f (by decide) (xs_only (nI t) (nm_e (xs_widest u 0 _ ?_))))
  unfold wpY_widthWithout
  exact ys_badt t ht (br_t rfl (ys_size (B := sb_B u) R.1 0 _ false ⟨ow_w R hO, I⟩))
theorem i_vc_chosen {k : Nat} {u : SX} {v : SY} (I : i_Rel k u v) (hk : k + 3 ≤ 1536) (v1 : Int32) : wpX_chosen (fun r => wpY_chosen (fun r' => r' = r ∧ i_Rel (k + 3) u v) v v1) u v1 := by
  have R : rl_R u v := I
  rcases ow_th v1 with h1 | ⟨t, ht, rfl⟩
  · unfold wpX_chosen
    refine xs_thf v1 h1 (br_t rfl ?_)
    unfold wpY_chosen
    exact ys_badf v1 h1 (br_f (by decide) ⟨rfl, I⟩)
  have p0 : xw_P u 0 1023 0 = true := by
    rw [xw_all (by decide)]
    apply pw_dt.mpr
    intro x hx z
    rw [Nat.zero_testBit] at z
    exact absurd z (by decide)
  obtain ⟨j, ho⟩ : ∃ j, ar_f (xw_P u 0 1023) cz_n 1024 = some j := by
    cases e : ar_f (xw_P u 0 1023) cz_n 1024 with
    | none => exact absurd p0 (ar_none _ _ 1024 e 0 (by decide))
    | some j => exact ⟨j, rfl⟩
  have ey : ar_f (yg_P (sb_B u) 0 0 false) cz_n 1024 = some j := (ar_cg cz_n 1024 (fun i hi => (xw_eq R.2.1 ow_0 hi).symm)).trans ho
  have yc : ∀ r, ps_i (bt (nI j) t) = r → wpY_chosen (fun r' => r' = r ∧ i_Rel (k + 3) u v) v (nI t) := by
    intro r hr
    unfold wpY_chosen
    refine ys_badt t ht (br_t rfl (ys_greatest (B := sb_B u) R.1 0 0 false ?_))
    rw [ey]
    exact ⟨(ps_sh (nI j) t (by omega)).trans hr, I⟩
  unfold wpX_chosen
  exact xs_tht t ht (br_f (by decide) (xs_chosen u j ho (xs_holds (nI j) t (by omega) (ps_br rfl (fun e => yc 0 (by rw [e] <;> rfl)) (fun e => yc 1 (by rw [e] <;> rfl))))))
theorem i_vc_height {k : Nat} {u : SX} {v : SY} (I : i_Rel k u v) (hk : k + 3 ≤ 1536) : wpX_height (fun r => wpY_height (fun r' => r' = r ∧ i_Rel (k + 3) u v) v) u := by
  have R : rl_R u v := I
  unfold wpX_height
  refine xs_highest u 0 ?_
  unfold wpY_height
  exact ys_size (B := sb_B u) R.1 0 0 true ⟨ow_h u 0, I⟩
theorem i_vc_heightWith {k : Nat} {u : SX} {v : SY} (I : i_Rel k u v) (hk : k + 3 ≤ 1536) (v1 : Int32) : wpX_heightWith (fun r => wpY_heightWith (fun r' => r' = r ∧ i_Rel (k + 3) u v) v v1) u v1 := by
  have R : rl_R u v := I
  rcases ow_th v1 with h1 | ⟨t, ht, rfl⟩
  · unfold wpX_heightWith
    refine xs_thf v1 h1 (br_t rfl ?_)
    unfold wpY_heightWith
    exact ys_badf v1 h1 (br_f (by decide) ⟨rfl, I⟩)
  unfold wpX_heightWith
  refine xs_tht t ht (br_f (by decide) (xs_only (nI t) (xs_highest u _ ?_)))
  unfold wpY_heightWith
  exact ys_badt t ht (br_t rfl (ys_size (B := sb_B u) R.1 _ 0 true ⟨ow_h u _, I⟩))
theorem i_vc_widthBeside {k : Nat} {u : SX} {v : SY} (I : i_Rel k u v) (hk : k + 3 ≤ 1536) (v1 : Int32) (v2 : Int32) : wpX_widthBeside (fun r => wpY_widthBeside (fun r' => r' = r ∧ i_Rel (k + 3) u v) v v1 (lw_bz v2)) u v1 (lw_bz v2) := by
  have R : rl_R u v := I
  generalize lw_bz v2 = q
  rcases ow_th v1 with h1 | ⟨t, ht, rfl⟩
  · unfold wpX_widthBeside
    refine xs_thf v1 h1 (br_t rfl ?_)
    unfold wpY_widthBeside
    exact ys_badf v1 h1 (br_f (by decide) ⟨rfl, I⟩)
  have yw : ∀ (f : Nat → Bool) (A : Int32), (q = 0 → ∀ i, f i = sb_B u i t) → (¬ q = 0 → ∀ i, f i = sb_B u t i) → (∀ i, i < 10 → bt A i = f i) → wpY_widthBeside (fun r' => r' = nI (ar_v cz_n (ar_f (xw_P u 0 A) cz_n 1024)) ∧ i_Rel (k + 3) u v) v (nI t) q := by
    intro f A h0 h1 hA
    unfold wpY_widthBeside
    refine ys_badt t ht (br_t rfl ⟨11, ys_bes_l (B := sb_B u) R.1 t ht q f h0 h1 ⟨ow_w R (fun i hi => ?_), I⟩ 10 0 rfl⟩)
    rw [er_b _ (by omega) 10 (by omega), decide_eq_true hi, hA i hi, Bool.true_and]
  unfold wpX_widthBeside
  refine xs_tht t ht (br_f (by decide) (br_c (fun z => xs_earlier u t ht (xs_widest u 0 (er_f u t) ?_)) (fun z => ⟨vp_in_nI ht (by decide), ?_⟩)))
  · refine yw (fun i => bt (u i) t) (er_f u t) (fun _ i => rfl) (fun n => absurd z n) (fun i hi => ?_)
    unfold er_f
    rw [er_b _ (by omega) 10 (by omega), decide_eq_true hi, Bool.true_and]
  · rw [nI_clamp (show t < 2 ^ 31 by omega)]
    exact xs_widest u 0 (u t) (yw (fun i => bt (u t) i) (u t) (fun n => absurd n z) (fun _ i => rfl) (fun i hi => rfl))
end
