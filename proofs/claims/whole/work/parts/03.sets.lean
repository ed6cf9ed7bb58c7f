/-! ===== spreads and chains: X's tests and Y's; the relation's rows ===== -/
abbrev sb_B (u : Nat → Int32) (a b : Nat) : Bool := bt (u a) b
/-- X's isSpread of the set s -/
def sp_X (u : Nat → Int32) (s : Nat) : Prop := ∀ x, x < 10 → s.testBit x = true → u x &&& nI s = 0
/-- Y's fits: any two different things of s are comparable (c true) or not (c false) -/
def sp_Y (B : Nat → Nat → Bool) (s : Nat) (c : Bool) : Prop := ∀ a, a < 10 → ∀ b, b < a → s.testBit a = true → s.testBit b = true → (B a b || B b a) = c
/-- the set of the things below n for which f says yes -/
def er_g (f : Nat → Bool) : Nat → Int32
  | 0 => 0
  | n + 1 => if f n = true then er_g f n ||| ((1 : Int32) <<< (nI n &&& 31)) else er_g f n
theorem er_t {f : Nat → Bool} {n : Nat} (h : f n = true) : er_g f (n + 1) = er_g f n ||| ((1 : Int32) <<< (nI n &&& 31)) := if_pos h
theorem er_n {f : Nat → Bool} {n : Nat} (h : f n = false) : er_g f (n + 1) = er_g f n := if_neg (by rw [h]; decide)
theorem er_b (f : Nat → Bool) {i : Nat} (hi : i < 32) : ∀ n, n ≤ 10 → bt (er_g f n) i = (decide (i < n) && f i) := by
  intro n
  induction n with
  | zero =>
    intro _
    rw [show er_g f 0 = 0 from rfl, b_0, decide_eq_false (by omega), Bool.false_and]
  | succ n ih =>
    intro h
    have ih := ih (by omega)
    cases z : f n
    · rw [er_n z, ih]
      by_cases e : i = n
      · rw [e, z, Bool.and_false, Bool.and_false]
      · by_cases l : i < n
        · rw [decide_eq_true l, decide_eq_true (show i < n + 1 by omega)]
        · rw [decide_eq_false l, decide_eq_false (show ¬ i < n + 1 by omega)]
    · rw [er_t z, b_or, ih, ps_only n (by omega) hi]
      by_cases e : i = n
      · rw [e, z, decide_eq_true (show n = n from rfl), decide_eq_true (show n < n + 1 by omega), Bool.or_true] <;> rfl
      · rw [decide_eq_false e, Bool.or_false]
        by_cases l : i < n
        · rw [decide_eq_true l, decide_eq_true (show i < n + 1 by omega)]
        · rw [decide_eq_false l, decide_eq_false (show ¬ i < n + 1 by omega)]
/-- X's earlier -/
def er_f (u : Nat → Int32) (t : Nat) : Int32 := er_g (fun i => bt (u i) t) 10
/-- X's isChain of the set s -/
def ch_X (u : Nat → Int32) (s : Nat) : Prop := ∀ x, x < 10 → s.testBit x = true → nI s &&& (((u x ||| er_f u x) ||| ((1 : Int32) <<< (nI x &&& 31))) ^^^ (-1)) = 0
theorem sp_iff {u : Nat → Int32} (hi : ∀ a, a < 10 → bt (u a) a = false) {s : Nat} (hs : s < 1024) : sp_X u s ↔ sp_Y (sb_B u) s false := by
  constructor
  · intro h a ha b hb sa sb
    have h1 := (ps_and0 _ _).mp (h a ha sa)
    have h2 := (ps_and0 _ _).mp (h b (by omega) sb)
    have e1 : bt (u a) b = false := by
      cases q : bt (u a) b
      · rfl
      · have := h1 b (by omega) q
        rw [ps_nI s (by omega), sb] at this
        exact absurd this (by decide)
    have e2 : bt (u b) a = false := by
      cases q : bt (u b) a
      · rfl
      · have := h2 a (by omega) q
        rw [ps_nI s (by omega), sa] at this
        exact absurd this (by decide)
    show (bt (u a) b || bt (u b) a) = false
    rw [e1, e2] <;> rfl
  · intro h x hx sx
    rw [ps_and0]
    intro i hi32 q
    cases z : bt (nI s) i
    · rfl
    · have h10 := ps_10 hs hi32 z
      rw [ps_nI s hi32] at z
      rcases Nat.lt_trichotomy i x with l | l | l
      · have e : (bt (u x) i || bt (u i) x) = false := h x hx i l sx z
        rw [q] at e
        exact absurd e (by simp)
      · subst l
        rw [hi i h10] at q
        exact absurd q (by decide)
      · have e : (bt (u i) x || bt (u x) i) = false := h i h10 x l z sx
        rw [q, Bool.or_true] at e
        exact absurd e (by decide)
theorem ch_iff {u : Nat → Int32} {s : Nat} (hs : s < 1024) : ch_X u s ↔ sp_Y (sb_B u) s true := by
  have key : ∀ x i, x < 10 → i < 10 → bt ((u x ||| er_f u x) ||| ((1 : Int32) <<< (nI x &&& 31))) i = ((bt (u x) i || bt (u i) x) || decide (i = x)) := by
    intro x i hx h
    unfold er_f
    rw [b_or, b_or, er_b _ (by omega) 10 (by omega), ps_only x (by omega) (by omega), decide_eq_true h, Bool.true_and]
  constructor
  · intro h a ha b hb sa sb
    have h1 := (ps_within _ _).mp (h a ha sa) b (by omega) (by rw [ps_nI s (by omega)]; exact sb)
    rw [key a b ha (by omega), decide_eq_false (by omega), Bool.or_false] at h1
    exact h1
  · intro h x hx sx
    rw [ps_within]
    intro i hi32 z
    have h10 := ps_10 hs hi32 z
    rw [ps_nI s hi32] at z
    rw [key x i hx h10]
    rcases Nat.lt_trichotomy i x with l | l | l
    · have e : (bt (u x) i || bt (u i) x) = true := h x hx i l sx z
      rw [e] <;> rfl
    · rw [decide_eq_true l, Bool.or_true]
    · have e : (bt (u i) x || bt (u x) i) = true := h i h10 x l z sx
      rw [Bool.or_comm (bt (u x) i), e] <;> rfl
/-! ===== which sets X and Y count ===== -/
noncomputable def xw_P (u : Nat → Int32) (N A : Int32) (s : Nat) : Bool := (decide (N &&& (nI s ^^^ (-1)) = 0) && decide (nI s &&& (A ^^^ (-1)) = 0)) && pw_d (sp_X u s)
noncomputable def xh_P (u : Nat → Int32) (N : Int32) (s : Nat) : Bool := decide (N &&& (nI s ^^^ (-1)) = 0) && pw_d (ch_X u s)
noncomputable def yg_P (B : Nat → Nat → Bool) (N O : Int32) (c : Bool) (s : Nat) : Bool := (decide (nI s &&& N = N) && decide (nI s &&& O = 0)) && pw_d (sp_Y B s c)
theorem wq_need (N S : Int32) : decide (N &&& (S ^^^ (-1)) = 0) = decide (S &&& N = N) := decide_eq_decide.mpr ((ps_within N S).trans (ps_andeq S N).symm)
theorem wq_out {s : Nat} (hs : s < 1024) {A O : Int32} (h : ∀ i, i < 10 → bt O i = !bt A i) : decide (nI s &&& (A ^^^ (-1)) = 0) = decide (nI s &&& O = 0) := by
  apply decide_eq_decide.mpr
  rw [ps_within, ps_and0]
  constructor
  · intro z i hi hb
    rw [h i (ps_10 hs hi hb), z i hi hb] <;> rfl
  · intro z i hi hb
    have e := z i hi hb
    rw [h i (ps_10 hs hi hb)] at e
    cases q : bt A i
    · rw [q] at e; exact absurd e (by decide)
    · rfl
theorem xw_eq {u : Nat → Int32} (hi : ∀ a, a < 10 → bt (u a) a = false) {N A O : Int32} (h : ∀ i, i < 10 → bt O i = !bt A i) {s : Nat} (hs : s < 1024) : xw_P u N A s = yg_P (sb_B u) N O false s := by
  unfold xw_P yg_P
  rw [wq_need, wq_out hs h, pw_dc (sp_iff hi hs)]
theorem xh_eq {u : Nat → Int32} {N : Int32} {s : Nat} (hs : s < 1024) : xh_P u N s = yg_P (sb_B u) N 0 true s := by
  unfold xh_P yg_P
  rw [wq_need, pw_dc (ch_iff hs), decide_eq_true (show nI s &&& 0 = 0 by rw [ps_and0]; intro i hi _; exact b_0 i), Bool.and_true]
/-- a set's size -/
def cz_n (s : Nat) : Nat := cn_n (fun i => bt (nI s) i) 10
theorem cz_le (s : Nat) : cz_n s ≤ 10 := cn_le _ 10
/-! ===== the relation, and what keeps it ===== -/
def rl_R (u v : Nat → Int32) : Prop :=
  (∀ a b, a < 10 → b < 10 → v (10 * a + b) = ps_i (bt (u a) b)) ∧ (∀ a, a < 10 → bt (u a) a = false) ∧ (∀ a b c, a < 10 → b < 10 → c < 10 → bt (u a) b = true → bt (u b) c = true → bt (u a) c = true)
def rl_nb (B : Nat → Nat → Bool) (a b x y : Nat) : Bool := B x y || ((decide (x = a) || B x a) && (decide (y = b) || B b y))
def rl_rb (B : Nat → Nat → Bool) (t x y : Nat) : Bool := B x y && (!decide (x = t) && !decide (y = t))
theorem rl_0 : rl_R (fun _ => 0) (fun _ => 0) := by
  refine ⟨fun a b _ _ => ?_, fun a _ => b_0 a, fun a b c _ _ _ h _ => ?_⟩
  · show (0 : Int32) = ps_i (bt 0 b)
    rw [b_0] <;> rfl
  · have h' : bt 0 b = true := h
    rw [b_0] at h'
    exact absurd h' (by decide)
theorem rl_nbt {B : Nat → Nat → Bool} {a b x y : Nat} : rl_nb B a b x y = true ↔ B x y = true ∨ ((x = a ∨ B x a = true) ∧ (y = b ∨ B b y = true)) := by
  unfold rl_nb
  simp only [Bool.or_eq_true, Bool.and_eq_true, decide_eq_true_eq]
theorem rl_rbt {B : Nat → Nat → Bool} {t x y : Nat} : rl_rb B t x y = true ↔ B x y = true ∧ x ≠ t ∧ y ≠ t := by
  unfold rl_rb
  simp only [Bool.and_eq_true, Bool.not_eq_true', decide_eq_false_iff_not, ne_eq]
theorem rl_put {u v u' v' : Nat → Int32} (h : rl_R u v) {a b : Nat} (ha : a < 10) (hb : b < 10) (hab : a ≠ b) (hba : bt (u b) a = false)
    (hu : ∀ x y, x < 10 → y < 10 → bt (u' x) y = rl_nb (sb_B u) a b x y) (hv : ∀ x y, x < 10 → y < 10 → v' (10 * x + y) = ps_i (rl_nb (sb_B u) a b x y)) : rl_R u' v' := by
  obtain ⟨_, h2, h3⟩ := h
  have hn : ¬ bt (u b) a = true := by rw [hba]; decide
  refine ⟨fun x y hx hy => by rw [hv x y hx hy, hu x y hx hy], fun x hx => ?_, fun x y z hx hy hz p q => ?_⟩
  · rw [hu x x hx hx]
    cases e : rl_nb (sb_B u) a b x x
    · rfl
    · exfalso
      rcases rl_nbt.mp e with k | ⟨k1, k2⟩
      · exact absurd ((h2 x hx).symm.trans k) (by decide)
      · rcases k1 with k1 | k1 <;> rcases k2 with k2 | k2
        · exact hab (k1.symm.trans k2)
        · rw [k1] at k2; exact hn k2
        · rw [k2] at k1; exact hn k1
        · exact hn (h3 b x a hb hx ha k2 k1)
  · rw [hu x y hx hy] at p
    rw [hu y z hy hz] at q
    rw [hu x z hx hz]
    apply rl_nbt.mpr
    rcases rl_nbt.mp p with p1 | ⟨p1, p2⟩ <;> rcases rl_nbt.mp q with q1 | ⟨q1, q2⟩
    · exact Or.inl (h3 x y z hx hy hz p1 q1)
    · refine Or.inr ⟨Or.inr ?_, q2⟩
      rcases q1 with q1 | q1
      · rw [q1] at p1; exact p1
      · exact h3 x y a hx hy ha p1 q1
    · refine Or.inr ⟨p1, Or.inr ?_⟩
      rcases p2 with p2 | p2
      · rw [p2] at q1; exact q1
      · exact h3 b y z hb hy hz p2 q1
    · exact Or.inr ⟨p1, q2⟩
theorem rl_rel {u v u' v' : Nat → Int32} (h : rl_R u v) {t : Nat}
    (hu : ∀ x y, x < 10 → y < 10 → bt (u' x) y = rl_rb (sb_B u) t x y) (hv : ∀ x y, x < 10 → y < 10 → v' (10 * x + y) = ps_i (rl_rb (sb_B u) t x y)) : rl_R u' v' := by
  obtain ⟨_, h2, h3⟩ := h
  refine ⟨fun x y hx hy => by rw [hv x y hx hy, hu x y hx hy], fun x hx => ?_, fun x y z hx hy hz p q => ?_⟩
  · rw [hu x x hx hx]
    unfold rl_rb
    rw [show sb_B u x x = false from h2 x hx] <;> rfl
  · rw [hu x y hx hy] at p
    rw [hu y z hy hz] at q
    rw [hu x z hx hz]
    obtain ⟨p1, p2, p3⟩ := rl_rbt.mp p
    obtain ⟨q1, q2, q3⟩ := rl_rbt.mp q
    exact rl_rbt.mpr ⟨h3 x y z hx hy hz p1 q1, p2, q3⟩
/-- how many pairs: X's count and Y's -/
def rl_px (u : Nat → Int32) : Nat := cn_s (fun a => cn_n (fun b => bt (u a) b) 10) 10
def rl_py (v : Nat → Int32) : Nat := cn_n (fun i => !decide (v i = 0)) 100
theorem rl_pairs {u v : Nat → Int32} (h : rl_R u v) : rl_px u = rl_py v := by
  unfold rl_px rl_py
  rw [show (100 : Nat) = 10 * 10 from rfl, cn_sum]
  apply cn_scg
  intro a ha
  apply cn_cg
  intro b hb
  show bt (u a) b = !decide (v (10 * a + b) = 0)
  rw [h.1 a b ha hb]
  generalize bt (u a) b = z
  cases z <;> decide
