/-! ===== Y's private methods, each with a general post ===== -/
theorem ys_badt {post : Int32 → Prop} (n : Nat) (hn : n < 10) (h : post 0) : wpY_bad post (nI n) := br_f (nI_pos (by omega)) (br_t (nI_le (b := 9) (by omega) (by decide)) h)
theorem ys_badf {post : Int32 → Prop} (x : Int32) (hx : x < 0 ∨ nI 10 ≤ x) (h : post 1) : wpY_bad post x := br_c (fun _ => h) (fun z => br_f (fun q => absurd (Int32.le_trans (hx.resolve_left z) q) (by decide)) h)
theorem ys_ix (a b : Nat) : ((10 : Int32) * nI a) + nI b = nI (10 * a + b) := by
  show nI 10 * nI a + nI b = _
  rw [pk_mul, nI_add]
theorem ys_ones_l {post : Int32 → Prop} (S : Int32) (h : post (nI (cn_n (fun i => bt S i) 10))) : ∀ d j, j + d = 10 → wY_ones_4 post S (d + 1) (nI (cn_n (fun i => bt S i) j)) (nI j) := by
  intro d
  induction d with
  | zero =>
    intro j hj
    obtain rfl : j = 10 := by omega
    exact br_t (nI_le (a := 10) (b := 10) (Nat.le_refl 10) (by decide)) h
  | succ d ih =>
    intro j hj
    have k := ih (j + 1) (by omega)
    have e : nI (cn_n (fun i => bt S i) j) + ((S >>> (nI j &&& 31)) &&& 1) = nI (cn_n (fun i => bt S i) (j + 1)) := by
      rw [ps_sh S j (by omega), ps_iN, nI_add] <;> rfl
    exact br_f (nI_ge (b := 10) (by omega) (by decide)) (nm_r e (nm_r (nI_1 j) k))
theorem ys_ones {post : Int32 → Prop} (S : Int32) (h : post (nI (cn_n (fun i => bt S i) 10))) : wpY_ones post S := ⟨11, ys_ones_l S h 10 0 rfl⟩
theorem ys_pairs_l {post : Int32 → Prop} (v : Nat → Int32) (h : post (nI (rl_py v))) : ∀ d j, j + d = 100 → wY_pairs_4 post v (d + 1) (nI (cn_n (fun i => !decide (v i = 0)) j)) (nI j) := by
  intro d
  induction d with
  | zero =>
    intro j hj
    obtain rfl : j = 100 := by omega
    exact br_t (nI_le (a := 100) (b := 100) (Nat.le_refl 100) (by decide)) h
  | succ d ih =>
    intro j hj
    have k := ih (j + 1) (by omega)
    refine br_f (nI_ge (b := 100) (by omega) (by decide)) ⟨vp_in_nI (by omega) (by decide), ?_⟩
    rw [nI_clamp (by omega)]
    refine br_c (fun z => nm_r (nI_1 j) ?_) (fun z => nm_r (nI_1 _) (nm_r (nI_1 j) ?_))
    · rw [cn_1f (f := fun i => !decide (v i = 0)) (n := j) (by show (!decide (v j = 0)) = false; rw [decide_eq_true z] <;> rfl)] at k
      exact k
    · rw [cn_1t (f := fun i => !decide (v i = 0)) (n := j) (by show (!decide (v j = 0)) = true; rw [decide_eq_false z] <;> rfl)] at k
      exact k
theorem ys_pairs {post : Int32 → Prop} (v : Nat → Int32) (h : post (nI (rl_py v))) : wpY_pairs post v := ⟨101, ys_pairs_l v h 100 0 rfl⟩
theorem ys_fin {post J2 : Int32 → Prop} {v : Nat → Int32} {B : Nat → Nat → Bool} (hv : ∀ a b, a < 10 → b < 10 → v (10 * a + b) = ps_i (B a b)) (s : Nat) (c : Bool) (a : Nat) (ha : a < 10)
    (hbad : ∀ b, b < a → s.testBit a = true → s.testBit b = true → (B a b || B b a) ≠ c → post 0)
    (hJ : (∀ b, b < a → s.testBit a = true → s.testBit b = true → (B a b || B b a) = c) → J2 (nI (a + 1))) :
    ∀ d b, b + d = a → (∀ b', b' < b → s.testBit a = true → s.testBit b' = true → (B a b' || B b' a) = c) → wY_fits_11 post J2 (nI s) (ps_i c) (nI a) v (d + 1) (nI b) := by
  intro d
  induction d with
  | zero =>
    intro b hb ok
    obtain rfl : b = a := by omega
    exact br_t (nI_le (Nat.le_refl _) (by omega)) (nm_r (nI_1 _) (hJ ok))
  | succ d ih =>
    intro b hb ok
    have k := ih (b + 1) (by omega)
    have ea := ps_nI s (show a < 32 by omega)
    have eb := ps_nI s (show b < 32 by omega)
    have g : s.testBit a = true → s.testBit b = true → ∀ w : Bool, (B a b || B b a) = w → wY_fits_83 post J2 (wY_fits_11 post J2 (nI s) (ps_i c) (nI a) v (d + 1)) (nI s) (ps_i c) (nI a) (nI b) (ps_i w) v := by
      intro ta tb w hw
      have hi : ps_i w = ps_i c ↔ w = c := by cases w <;> cases c <;> decide
      exact br_c (fun z => nm_r (nI_1 b) (k (lt_s ok (fun _ _ => hw.trans (hi.mp z))))) (fun z => hbad b (by omega) ta tb (fun q => z (hi.mpr (hw.symm.trans q))))
    have f2 : ¬ (s.testBit a = true ∧ s.testBit b = true) → wY_fits_40 post J2 (wY_fits_11 post J2 (nI s) (ps_i c) (nI a) v (d + 1)) (nI s) (ps_i c) (nI a) (nI b) v := fun n => br_t rfl (nm_r (nI_1 b) (k (lt_s ok (fun ta tb => absurd ⟨ta, tb⟩ n))))
    refine br_f (nI_ge (by omega) (by omega)) (ps_br1 (ps_sh (nI s) a (by omega)) (fun e1 => ps_br1 (ps_sh (nI s) b (by omega)) (fun e2 => ?_) (fun e2 => f2 (fun n => ?_))) (fun e1 => f2 (fun n => ?_)))
    · have ta := ea.symm.trans e1
      have tb := eb.symm.trans e2
      refine br_f (by decide) ?_
      rw [ys_ix a b, ys_ix b a, nI_clamp (show 10 * a + b < 2 ^ 31 by omega), nI_clamp (show 10 * b + a < 2 ^ 31 by omega), hv a b ha (by omega), hv b a (by omega) ha]
      refine ⟨vp_in_nI (by omega) (by decide), ps_br rfl (fun x1 => ⟨vp_in_nI (by omega) (by decide), ps_br rfl (fun x2 => ?_) (fun x2 => ?_)⟩) (fun x1 => ?_)⟩
      · exact g ta tb false (by rw [x1, x2] <;> rfl)
      · exact g ta tb true (by rw [x1, x2] <;> rfl)
      · exact g ta tb true (by rw [x1] <;> rfl)
    · rw [eb, n.2] at e2
      exact absurd e2 (by decide)
    · rw [ea, n.1] at e1
      exact absurd e1 (by decide)
theorem ys_fits_l {post : Int32 → Prop} {v : Nat → Int32} {B : Nat → Nat → Bool} (hv : ∀ a b, a < 10 → b < 10 → v (10 * a + b) = ps_i (B a b)) (s : Nat) (c : Bool) (h : post (ps_i (pw_d (sp_Y B s c)))) :
    ∀ d a, a + d = 10 → (∀ a', a' < a → ∀ b, b < a' → s.testBit a' = true → s.testBit b = true → (B a' b || B b a') = c) → wY_fits_2 post (nI s) (ps_i c) v (d + 1) (nI a) := by
  intro d
  induction d with
  | zero =>
    intro a ha ok
    obtain rfl : a = 10 := by omega
    exact br_t (nI_le (a := 10) (b := 10) (Nat.le_refl 10) (by decide)) (ps_pt h (pw_dt.mpr ok))
  | succ d ih =>
    intro a ha ok
    have k := ih (a + 1) (by omega)
    refine br_f (nI_ge (b := 10) (by omega) (by decide)) ⟨a + 1, ys_fin hv s c a (by omega) (fun b hb ta tb ne => ps_pf h (pw_df.mpr (fun q => ne (q a (by omega) b hb ta tb)))) (fun r => k (lt_s ok r)) a 0 (by omega) (fun b hb => absurd hb (Nat.not_lt_zero b))⟩
theorem ys_fits {post : Int32 → Prop} {v : Nat → Int32} {B : Nat → Nat → Bool} (hv : ∀ a b, a < 10 → b < 10 → v (10 * a + b) = ps_i (B a b)) (s : Nat) (c : Bool) (h : post (ps_i (pw_d (sp_Y B s c)))) : wpY_fits post v (nI s) (ps_i c) :=
  ⟨11, ys_fits_l hv s c h 10 0 rfl (fun a ha => absurd ha (Nat.not_lt_zero a))⟩
theorem ys_great_l {post : Int32 → Prop} {v : Nat → Int32} {B : Nat → Nat → Bool} (hv : ∀ a b, a < 10 → b < 10 → v (10 * a + b) = ps_i (B a b)) (N O : Int32) (c : Bool) (h : post (ar_i (ar_f (yg_P B N O c) cz_n 1024))) :
    ∀ d s, s + d = 1024 → wY_greatest_6 post N O (ps_i c) v (d + 1) (ar_i (ar_f (yg_P B N O c) cz_n s)) (nI s) := by
  intro d
  induction d with
  | zero =>
    intro s hs
    obtain rfl : s = 1024 := by omega
    exact br_t (nI_le (a := 1024) (b := 1024) (Nat.le_refl 1024) (by decide)) h
  | succ d ih =>
    intro s hs
    have k : wY_greatest_6 post N O (ps_i c) v (d + 1) (ar_i (ar_st (yg_P B N O c) cz_n s (ar_f (yg_P B N O c) cz_n s))) (nI (s + 1)) := ih (s + 1) (by omega)
    have hc : cz_n s ≤ 10 := cz_le s
    have skip : yg_P B N O c s = false → ∀ y, y = nI s + 1 → wY_greatest_6 post N O (ps_i c) v (d + 1) (ar_i (ar_f (yg_P B N O c) cz_n s)) y := fun z => nm_r (nI_1 s) (by
      rw [ar_sf z] at k
      exact k)
    have s33 : yg_P B N O c s = false → wY_greatest_33 post (wY_greatest_6 post N O (ps_i c) v (d + 1)) N O (ps_i c) (ar_i (ar_f (yg_P B N O c) cz_n s)) (nI s) v := fun z => br_t rfl (skip z)
    refine br_f (nI_ge (b := 1024) (by omega) (by decide)) (br_c (fun e1 => br_c (fun e2 => ?_) (fun e2 => s33 ?_)) (fun e1 => s33 ?_))
    · refine br_f (by decide) (ys_fits hv s c (ps_br rfl (fun e3 => skip ?_) (fun e3 => ?_)))
      · unfold yg_P
        rw [e3, Bool.and_false]
      · have hp : yg_P B N O c s = true := by
          unfold yg_P
          rw [e3, decide_eq_true e1, decide_eq_true e2] <;> rfl
        cases ho : ar_f (yg_P B N O c) cz_n s with
        | none =>
          rw [ho, show ar_st (yg_P B N O c) cz_n s none = some s from if_pos hp] at k
          exact br_t (by decide) (nm_r (nI_1 s) k)
        | some j =>
          have hj := (ar_some _ _ s j ho).1
          have hcj : cz_n j ≤ 10 := cz_le j
          rw [ho] at k
          refine br_f (nI_pos (by omega)) (ys_ones (nI s) (ys_ones (nI j) (pk_le (cz_n s) (cz_n j) (fun l => nm_r (nI_1 s) ?_) (fun l => nm_r (nI_1 s) ?_))))
          · rw [show ar_st (yg_P B N O c) cz_n s (some j) = some j from if_neg (fun z => by omega)] at k
            exact k
          · rw [show ar_st (yg_P B N O c) cz_n s (some j) = some s from if_pos ⟨hp, l⟩] at k
            exact k
    · unfold yg_P
      rw [decide_eq_false e2, Bool.and_false] <;> rfl
    · unfold yg_P
      rw [decide_eq_false e1] <;> rfl
theorem ys_greatest {post : Int32 → Prop} {v : Nat → Int32} {B : Nat → Nat → Bool} (hv : ∀ a b, a < 10 → b < 10 → v (10 * a + b) = ps_i (B a b)) (N O : Int32) (c : Bool) (h : post (ar_i (ar_f (yg_P B N O c) cz_n 1024))) : wpY_greatest post v N O (ps_i c) :=
  ⟨1025, ys_great_l hv N O c h 1024 0 (by omega)⟩
theorem ys_size {post : Int32 → Prop} {v : Nat → Int32} {B : Nat → Nat → Bool} (hv : ∀ a b, a < 10 → b < 10 → v (10 * a + b) = ps_i (B a b)) (N O : Int32) (c : Bool) (h : post (nI (ar_v cz_n (ar_f (yg_P B N O c) cz_n 1024)))) : wpY_size post v N O (ps_i c) := by
  refine ys_greatest hv N O c ?_
  cases ho : ar_f (yg_P B N O c) cz_n 1024 with
  | none =>
    rw [ho] at h
    exact br_f (by decide) h
  | some j =>
    have hj := (ar_some _ _ 1024 j ho).1
    rw [ho] at h
    exact br_t (nI_pos' (by omega)) (ys_ones (nI j) h)
