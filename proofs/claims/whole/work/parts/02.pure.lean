/-! ===== a proposition as a Bool; counts; the first greatest ===== -/
noncomputable def pw_d (p : Prop) : Bool := @decide p (Classical.propDecidable p)
theorem pw_dt {p : Prop} : pw_d p = true ↔ p := @decide_eq_true_iff p (Classical.propDecidable p)
theorem pw_df {p : Prop} : pw_d p = false ↔ ¬ p := @decide_eq_false_iff_not p (Classical.propDecidable p)
theorem pw_dc {p q : Prop} (h : p ↔ q) : pw_d p = pw_d q := by rw [propext h]
theorem pw_bt {b : Bool} {p : Prop} (h : p) (e : b = pw_d p) : b = true := e.trans (pw_dt.mpr h)
def cn_n (f : Nat → Bool) : Nat → Nat
  | 0 => 0
  | n + 1 => cn_n f n + (f n).toNat
theorem cn_le (f : Nat → Bool) : ∀ n, cn_n f n ≤ n
  | 0 => Nat.le_refl 0
  | n + 1 => by
    have h := cn_le f n
    show cn_n f n + (f n).toNat ≤ n + 1
    have h2 : (f n).toNat ≤ 1 := by cases f n <;> decide
    omega
theorem cn_cg {f g : Nat → Bool} : ∀ n, (∀ i, i < n → f i = g i) → cn_n f n = cn_n g n
  | 0, _ => rfl
  | n + 1, h => by
    show cn_n f n + (f n).toNat = cn_n g n + (g n).toNat
    rw [cn_cg n (fun i hi => h i (by omega)), h n (by omega)]
def cn_s (f : Nat → Nat) : Nat → Nat
  | 0 => 0
  | n + 1 => cn_s f n + f n
theorem cn_sl {f : Nat → Nat} {m : Nat} (h : ∀ i, f i ≤ m) : ∀ n, cn_s f n ≤ n * m
  | 0 => by rw [Nat.zero_mul]; exact Nat.le_refl 0
  | n + 1 => by
    have h1 := cn_sl h n
    have h2 := h n
    show cn_s f n + f n ≤ (n + 1) * m
    rw [Nat.succ_mul]
    omega
theorem cn_scg {f g : Nat → Nat} : ∀ n, (∀ i, i < n → f i = g i) → cn_s f n = cn_s g n
  | 0, _ => rfl
  | n + 1, h => by
    show cn_s f n + f n = cn_s g n + g n
    rw [cn_scg n (fun i hi => h i (by omega)), h n (by omega)]
theorem cn_row (g : Nat → Bool) (x : Nat) : ∀ y, cn_n g (10 * x + y) = cn_n g (10 * x) + cn_n (fun b => g (10 * x + b)) y
  | 0 => rfl
  | y + 1 => by
    show cn_n g (10 * x + y) + (g (10 * x + y)).toNat = cn_n g (10 * x) + (cn_n (fun b => g (10 * x + b)) y + (g (10 * x + y)).toNat)
    rw [cn_row g x y, Nat.add_assoc]
theorem cn_sum (g : Nat → Bool) : ∀ x, cn_n g (10 * x) = cn_s (fun a => cn_n (fun b => g (10 * a + b)) 10) x
  | 0 => rfl
  | x + 1 => by
    show cn_n g (10 * (x + 1)) = cn_s (fun a => cn_n (fun b => g (10 * a + b)) 10) x + cn_n (fun b => g (10 * x + b)) 10
    rw [← cn_sum g x, ← cn_row g x 10]
    exact congrArg (cn_n g) (by omega)
def ar_st (P : Nat → Bool) (c : Nat → Nat) (k : Nat) : Option Nat → Option Nat
  | none => if P k = true then some k else none
  | some j => if P k = true ∧ c j < c k then some k else some j
def ar_f (P : Nat → Bool) (c : Nat → Nat) : Nat → Option Nat
  | 0 => none
  | k + 1 => ar_st P c k (ar_f P c k)
def ar_v (c : Nat → Nat) : Option Nat → Nat
  | none => 0
  | some j => c j
def ar_i : Option Nat → Int32
  | none => -1
  | some j => nI j
theorem ar_vt {P : Nat → Bool} {c : Nat → Nat} {k : Nat} {o : Option Nat} (hp : P k = true) (h : ar_v c o < c k) : ar_v c (ar_st P c k o) = c k := by
  cases o with
  | none =>
    rw [show ar_st P c k none = some k from if_pos hp]
    rfl
  | some j =>
    rw [show ar_st P c k (some j) = some k from if_pos ⟨hp, h⟩]
    rfl
theorem ar_vf {P : Nat → Bool} {c : Nat → Nat} {k : Nat} {o : Option Nat} (h : ¬ ar_v c o < c k) : ar_v c (ar_st P c k o) = ar_v c o := by
  cases o with
  | none =>
    have h0 : ¬ 0 < c k := h
    by_cases hp : P k = true
    · rw [show ar_st P c k none = some k from if_pos hp]
      show c k = 0
      omega
    · rw [show ar_st P c k none = none from if_neg hp]
  | some j =>
    rw [show ar_st P c k (some j) = some j from if_neg (fun z => h z.2)]
theorem ar_sf {P : Nat → Bool} {c : Nat → Nat} {k : Nat} {o : Option Nat} (h : P k = false) : ar_st P c k o = o := by
  have h' : ¬ P k = true := by rw [h]; decide
  cases o with
  | none => exact if_neg h'
  | some j => exact if_neg (fun z => h' z.1)
theorem ar_none (P : Nat → Bool) (c : Nat → Nat) : ∀ k, ar_f P c k = none → ∀ i, i < k → ¬ P i = true
  | 0, _, i, hi => absurd hi (Nat.not_lt_zero i)
  | k + 1, h, i, hi => by
    have h' : ar_st P c k (ar_f P c k) = none := h
    cases e : ar_f P c k with
    | none =>
      rw [e] at h'
      by_cases hp : P k = true
      · rw [show ar_st P c k none = some k from if_pos hp] at h'
        exact absurd h' (by simp)
      · rcases Nat.lt_or_ge i k with z | z
        · exact ar_none P c k e i z
        · rw [show i = k by omega]; exact hp
    | some j =>
      rw [e] at h'
      by_cases hp : P k = true ∧ c j < c k
      · rw [show ar_st P c k (some j) = some k from if_pos hp] at h'
        exact absurd h' (by simp)
      · rw [show ar_st P c k (some j) = some j from if_neg hp] at h'
        exact absurd h' (by simp)
theorem ar_some (P : Nat → Bool) (c : Nat → Nat) : ∀ k j, ar_f P c k = some j → j < k ∧ P j = true ∧ (∀ i, i < k → P i = true → c i ≤ c j) ∧ (∀ i, i < j → P i = true → c i < c j)
  | 0, j, h => absurd (show none = some j from h) (by simp)
  | k + 1, j, h => by
    have h' : ar_st P c k (ar_f P c k) = some j := h
    cases e : ar_f P c k with
    | none =>
      have hn := ar_none P c k e
      rw [e] at h'
      by_cases hp : P k = true
      · rw [show ar_st P c k none = some k from if_pos hp] at h'
        have hj : k = j := Option.some.inj h'
        subst hj
        refine ⟨by omega, hp, fun i hi z => ?_, fun i hi z => absurd z (hn i hi)⟩
        rcases Nat.lt_or_ge i k with y | y
        · exact absurd z (hn i y)
        · rw [show i = k by omega]; exact Nat.le_refl _
      · rw [show ar_st P c k none = none from if_neg hp] at h'
        exact absurd h' (by simp)
    | some m =>
      obtain ⟨h1, h2, h3, h4⟩ := ar_some P c k m e
      rw [e] at h'
      by_cases hp : P k = true ∧ c m < c k
      · rw [show ar_st P c k (some m) = some k from if_pos hp] at h'
        have hj : k = j := Option.some.inj h'
        subst hj
        refine ⟨by omega, hp.1, fun i hi z => ?_, fun i hi z => Nat.lt_of_le_of_lt (h3 i hi z) hp.2⟩
        rcases Nat.lt_or_ge i k with y | y
        · exact Nat.le_of_lt (Nat.lt_of_le_of_lt (h3 i y z) hp.2)
        · rw [show i = k by omega]; exact Nat.le_refl _
      · rw [show ar_st P c k (some m) = some m from if_neg hp] at h'
        have hj : m = j := Option.some.inj h'
        subst hj
        refine ⟨by omega, h2, fun i hi z => ?_, h4⟩
        rcases Nat.lt_or_ge i k with y | y
        · exact h3 i y z
        · have hik : i = k := by omega
          subst hik
          exact Nat.le_of_not_lt (fun q => hp ⟨z, q⟩)
theorem ar_cg {P Q : Nat → Bool} (c : Nat → Nat) : ∀ k, (∀ i, i < k → P i = Q i) → ar_f P c k = ar_f Q c k
  | 0, _ => rfl
  | k + 1, h => by
    show ar_st P c k (ar_f P c k) = ar_st Q c k (ar_f Q c k)
    rw [ar_cg c k (fun i hi => h i (by omega))]
    have e := h k (by omega)
    cases ar_f Q c k with
    | none => show (if P k = true then some k else none) = (if Q k = true then some k else none); rw [e]
    | some j => show (if P k = true ∧ c j < c k then some k else some j) = (if Q k = true ∧ c j < c k then some k else some j); rw [e]
theorem ar_vle {c : Nat → Nat} {m : Nat} (h : ∀ i, c i ≤ m) (o : Option Nat) : ar_v c o ≤ m := by
  cases o with
  | none => exact Nat.zero_le m
  | some j => exact h j
