/-! ===== put and release, as each side stores them ===== -/
theorem pt_1 {B : Nat → Nat → Bool} {a b : Nat} (hab : a ≠ b) (hba : B b a = false) (x : Nat) : rl_nb B a b x a = B x a := by
  unfold rl_nb
  rw [hba, decide_eq_false hab]
  simp
theorem pt_2 {B : Nat → Nat → Bool} {a b : Nat} (hab : a ≠ b) (hba : B b a = false) (y : Nat) : rl_nb B a b b y = B b y := by
  unfold rl_nb
  rw [hba, decide_eq_false (Ne.symm hab)]
  simp
def pt_W (B : Nat → Nat → Bool) (a b x y p q : Nat) : Bool := if p < x ∨ (p = x ∧ q < y) then rl_nb B a b p q else B p q
def pt_I (B : Nat → Nat → Bool) (a b x y : Nat) (w : Nat → Int32) : Prop := ∀ p q, p < 10 → q < 10 → w (10 * p + q) = ps_i (pt_W B a b x y p q)
theorem pt_I0 {B : Nat → Nat → Bool} {v : Nat → Int32} (a b : Nat) (h : ∀ p q, p < 10 → q < 10 → v (10 * p + q) = ps_i (B p q)) : pt_I B a b 0 0 v := by
  intro p q hp hq
  rw [h p q hp hq]
  unfold pt_W
  rw [if_neg (by omega)]
theorem pt_low {B : Nat → Nat → Bool} {a b x y : Nat} {w : Nat → Int32} (hab : a ≠ b) (hba : B b a = false) (h : pt_I B a b x y w) (z : Nat) (hz : z < 10) (ha : a < 10) : w (10 * z + a) = ps_i (B z a) := by
  rw [h z a hz ha]
  unfold pt_W
  split
  · rw [pt_1 hab hba]
  · rfl
theorem pt_high {B : Nat → Nat → Bool} {a b x y : Nat} {w : Nat → Int32} (hab : a ≠ b) (hba : B b a = false) (h : pt_I B a b x y w) (z : Nat) (hz : z < 10) (hb : b < 10) : w (10 * b + z) = ps_i (B b z) := by
  rw [h b z hb hz]
  unfold pt_W
  split
  · rw [pt_2 hab hba]
  · rfl
theorem pt_row {B : Nat → Nat → Bool} {a b x : Nat} {w : Nat → Int32} (h : pt_I B a b x 10 w) : pt_I B a b (x + 1) 0 w := by
  intro p q hp hq
  rw [h p q hp hq]
  unfold pt_W
  by_cases c : p < x ∨ (p = x ∧ q < 10)
  · rw [if_pos c, if_pos (by omega)]
  · rw [if_neg c, if_neg (by omega)]
theorem pt_end {B : Nat → Nat → Bool} {a b : Nat} {w : Nat → Int32} (h : pt_I B a b 10 0 w) : ∀ x y, x < 10 → y < 10 → w (10 * x + y) = ps_i (rl_nb B a b x y) := by
  intro p q hp hq
  rw [h p q hp hq]
  unfold pt_W
  rw [if_pos (by omega)]
theorem pt_W1 {B : Nat → Nat → Bool} {a b x y p q : Nat} (h : ¬ (p = x ∧ q = y)) : pt_W B a b x (y + 1) p q = pt_W B a b x y p q := by
  unfold pt_W
  by_cases c : p < x ∨ (p = x ∧ q < y)
  · rw [if_pos c, if_pos (by omega)]
  · rw [if_neg c, if_neg (by omega)]
theorem pt_set {B : Nat → Nat → Bool} {a b x y : Nat} {w : Nat → Int32} (h : pt_I B a b x y w) (hx : x < 10) (hy : y < 10) (h1 : x = a ∨ B x a = true) (h2 : y = b ∨ B b y = true) : pt_I B a b x (y + 1) (upd w (10 * x + y) 1) := by
  intro p q hp hq
  by_cases e : p = x ∧ q = y
  · rw [e.1, e.2, pk_us]
    unfold pt_W
    rw [if_pos (by omega), rl_nbt.mpr (Or.inr ⟨h1, h2⟩)] <;> rfl
  · rw [pk_un (by omega), h p q hp hq, pt_W1 e]
theorem pt_skip {B : Nat → Nat → Bool} {a b x y : Nat} {w : Nat → Int32} (h : pt_I B a b x y w) (hx : x < 10) (hy : y < 10) (hn : ¬ ((x = a ∨ B x a = true) ∧ (y = b ∨ B b y = true))) : pt_I B a b x (y + 1) w := by
  intro p q hp hq
  by_cases e : p = x ∧ q = y
  · rw [e.1, e.2, h x y hx hy]
    unfold pt_W
    rw [if_pos (show x < x ∨ (x = x ∧ y < y + 1) by omega), if_neg (show ¬ (x < x ∨ (x = x ∧ y < y)) by omega)]
    apply congrArg ps_i
    cases e2 : rl_nb B a b x y
    · cases e3 : B x y
      · rfl
      · rw [rl_nbt.mpr (Or.inl e3)] at e2; exact absurd e2 (by decide)
    · rcases rl_nbt.mp e2 with z | z
      · exact z
      · exact absurd z hn
  · rw [h p q hp hq, pt_W1 e]
/-- X's put -/
def xp_I (u : Nat → Int32) (a : Nat) (g : Int32) (x : Nat) (w : Nat → Int32) : Prop := ∀ i, i < 10 → w i = if i < x ∧ (i = a ∨ bt (u i) a = true) then u i ||| g else u i
theorem xp_0 (u : Nat → Int32) (a : Nat) (g : Int32) : xp_I u a g 0 u := by
  intro i hi
  rw [if_neg (by omega)]
theorem xp_at {u w : Nat → Int32} {a : Nat} {g : Int32} {x : Nat} (h : xp_I u a g x w) (hx : x < 10) : w x = u x := by
  rw [h x hx, if_neg (by omega)]
theorem xp_set {u w : Nat → Int32} {a : Nat} {g : Int32} {x : Nat} (h : xp_I u a g x w) (hx : x < 10) (hc : x = a ∨ bt (u x) a = true) : xp_I u a g (x + 1) (upd w x (w x ||| g)) := by
  intro i hi
  by_cases e : i = x
  · rw [e, pk_us, xp_at h hx, if_pos ⟨by omega, hc⟩]
  · rw [pk_un e, h i hi]
    by_cases c : i < x ∧ (i = a ∨ bt (u i) a = true)
    · rw [if_pos c, if_pos ⟨by omega, c.2⟩]
    · rw [if_neg c, if_neg (fun z => c ⟨by omega, z.2⟩)]
theorem xp_skip {u w : Nat → Int32} {a : Nat} {g : Int32} {x : Nat} (h : xp_I u a g x w) (hx : x < 10) (hc : ¬ (x = a ∨ bt (u x) a = true)) : xp_I u a g (x + 1) w := by
  intro i hi
  rw [h i hi]
  by_cases e : i = x
  · rw [e, if_neg (fun z => hc z.2), if_neg (fun z => hc z.2)]
  · by_cases c : i < x ∧ (i = a ∨ bt (u i) a = true)
    · rw [if_pos c, if_pos ⟨by omega, c.2⟩]
    · rw [if_neg c, if_neg (fun z => c ⟨by omega, z.2⟩)]
theorem xp_end {u w : Nat → Int32} {a b : Nat} (hb : b < 10) (h : xp_I u a (u b ||| ((1 : Int32) <<< (nI b &&& 31))) 10 w) : ∀ x y, x < 10 → y < 10 → bt (w x) y = rl_nb (sb_B u) a b x y := by
  intro x y hx hy
  rw [h x hx]
  unfold rl_nb
  by_cases c : x = a ∨ bt (u x) a = true
  · rw [if_pos ⟨hx, c⟩, b_or, b_or, ps_only b (by omega) (by omega)]
    have e : (decide (x = a) || sb_B u x a) = true := by
      rw [Bool.or_eq_true, decide_eq_true_eq]
      exact c
    rw [e, Bool.true_and]
    show (bt (u x) y || (bt (u b) y || decide (y = b))) = (bt (u x) y || (decide (y = b) || bt (u b) y))
    rw [Bool.or_comm (bt (u b) y)]
  · rw [if_neg (fun z => c z.2)]
    have e : (decide (x = a) || sb_B u x a) = false := by
      cases q : (decide (x = a) || sb_B u x a)
      · rfl
      · rw [Bool.or_eq_true, decide_eq_true_eq] at q
        exact absurd q c
    rw [e, Bool.false_and, Bool.or_false]
/-- Y's release -/
def rs_W (B : Nat → Nat → Bool) (t x p q : Nat) : Bool := if (q = t ∧ p < x) ∨ (p = t ∧ q < x) then false else B p q
def rs_I (B : Nat → Nat → Bool) (t x : Nat) (w : Nat → Int32) : Prop := ∀ p q, p < 10 → q < 10 → w (10 * p + q) = ps_i (rs_W B t x p q)
theorem rs_0 {B : Nat → Nat → Bool} {v : Nat → Int32} (t : Nat) (h : ∀ p q, p < 10 → q < 10 → v (10 * p + q) = ps_i (B p q)) : rs_I B t 0 v := by
  intro p q hp hq
  rw [h p q hp hq]
  unfold rs_W
  rw [if_neg (by omega)]
theorem rs_st {B : Nat → Nat → Bool} {t x : Nat} {w : Nat → Int32} (h : rs_I B t x w) (ht : t < 10) (hx : x < 10) : rs_I B t (x + 1) (upd (upd w (10 * x + t) 0) (10 * t + x) 0) := by
  intro p q hp hq
  by_cases e : p = t ∧ q = x
  · rw [e.1, e.2, pk_us]
    unfold rs_W
    rw [if_pos (by omega)] <;> rfl
  · rw [pk_un (by omega)]
    by_cases e2 : p = x ∧ q = t
    · rw [e2.1, e2.2, pk_us]
      unfold rs_W
      rw [if_pos (by omega)] <;> rfl
    · rw [pk_un (by omega), h p q hp hq]
      unfold rs_W
      by_cases c : (q = t ∧ p < x) ∨ (p = t ∧ q < x)
      · rw [if_pos c, if_pos (by omega)]
      · rw [if_neg c, if_neg (by omega)]
theorem rs_end {B : Nat → Nat → Bool} {t : Nat} {w : Nat → Int32} (h : rs_I B t 10 w) : ∀ x y, x < 10 → y < 10 → w (10 * x + y) = ps_i (rl_rb B t x y) := by
  intro p q hp hq
  rw [h p q hp hq]
  apply congrArg ps_i
  unfold rs_W rl_rb
  by_cases e1 : p = t
  · rw [if_pos (by omega), decide_eq_true e1]
    simp
  · by_cases e2 : q = t
    · rw [if_pos (by omega), decide_eq_true e2]
      simp
    · rw [if_neg (by omega), decide_eq_false e1, decide_eq_false e2]
      simp
/-- X's release -/
def xr_I (u : Nat → Int32) (t x : Nat) (w : Nat → Int32) : Prop := ∀ i, i < 10 → w i = if i < x then upd u t 0 i &&& (((1 : Int32) <<< (nI t &&& 31)) ^^^ (-1)) else upd u t 0 i
theorem xr_0 (u : Nat → Int32) (t : Nat) : xr_I u t 0 (upd u t 0) := by
  intro i hi
  rw [if_neg (by omega)]
theorem xr_st {u w : Nat → Int32} {t x : Nat} (h : xr_I u t x w) (hx : x < 10) : xr_I u t (x + 1) (upd w x (w x &&& (((1 : Int32) <<< (nI t &&& 31)) ^^^ (-1)))) := by
  intro i hi
  by_cases e : i = x
  · rw [e, pk_us, h x hx, if_neg (by omega), if_pos (by omega)]
  · rw [pk_un e, h i hi]
    by_cases c : i < x
    · rw [if_pos c, if_pos (by omega)]
    · rw [if_neg c, if_neg (by omega)]
theorem xr_end {u w : Nat → Int32} {t : Nat} (ht : t < 10) (h : xr_I u t 10 w) : ∀ x y, x < 10 → y < 10 → bt (w x) y = rl_rb (sb_B u) t x y := by
  intro x y hx hy
  rw [h x hx, if_pos hx, b_and, ps_m1 _ (by omega), ps_only t (by omega) (by omega)]
  unfold rl_rb
  by_cases e : x = t
  · rw [e, pk_us, b_0, decide_eq_true (show t = t from rfl)]
    simp
  · rw [pk_un e, decide_eq_false e]
    simp
