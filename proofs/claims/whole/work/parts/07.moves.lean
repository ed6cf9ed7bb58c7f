/-! ===== put and release walked ===== -/
theorem xs_put_l {post : Int32 → SX → Prop} (u : Nat → Int32) (a : Nat) (ha : a < 10) (g : Int32) (h : ∀ w, xp_I u a g 10 w → post (nI (rl_px w)) w) : ∀ d x w, x + d = 10 → xp_I u a g x w → wX_put_47 post (nI a) g (d + 1) (nI x) w := by
  intro d
  induction d with
  | zero =>
    intro x w hx I
    obtain rfl : x = 10 := by omega
    exact br_t (nI_le (a := 10) (b := 10) (Nat.le_refl 10) (by decide)) (xs_pairs w (h w I))
  | succ d ih =>
    intro x w hx I
    have hx10 : x < 10 := by omega
    have hw : w x = u x := xp_at I hx10
    have j70 : (x = a ∨ bt (u x) a = true) → wX_put_70 post (wX_put_47 post (nI a) g (d + 1)) (nI a) g (nI x) w := by
      intro hc
      unfold wX_put_70
      rw [nI_clamp (show x < 2 ^ 31 by omega)]
      exact ⟨vp_in_nI hx10 (by decide), vp_in_nI hx10 (by decide), nm_e (nm_r (nI_1 x) (ih (x + 1) _ (by omega) (xp_set I hx10 hc)))⟩
    refine br_f (nI_ge (b := 10) (by omega) (by decide)) (pk_eq x a (fun e => j70 (Or.inl e)) (fun e => xs_cb w x a hx10 ha (ps_br rfl (fun z => nm_r (nI_1 x) (ih (x + 1) w (by omega) (xp_skip I hx10 ?_))) (fun z => j70 (Or.inr ?_)))))
    · rw [hw] at z
      rintro (q | q)
      · exact e q
      · rw [z] at q
        exact absurd q (by decide)
    · rw [hw] at z
      exact z
theorem xs_put {post : Int32 → SX → Prop} (u : Nat → Int32) (a b : Nat) (ha : a < 10) (hb : b < 10) (hab : a ≠ b) (hba : bt (u b) a = false) (h : ∀ w, xp_I u a (u b ||| ((1 : Int32) <<< (nI b &&& 31))) 10 w → post (nI (rl_px w)) w) : wpX_put post u (nI a) (nI b) := by
  unfold wpX_put
  refine xs_tht a ha (br_f (by decide) (xs_tht b hb (br_f (by decide) (pk_eq a b (fun e => absurd e hab) (fun _ => xs_cb u b a hb ha (ps_br rfl (fun _ => ⟨vp_in_nI hb (by decide), ?_⟩) (fun z => ?_)))))))
  · rw [nI_clamp (show b < 2 ^ 31 by omega)]
    exact xs_only (nI b) (nm_e ⟨11, xs_put_l u a ha _ h 10 0 u rfl (xp_0 u a _)⟩)
  · rw [hba] at z
    exact absurd z (by decide)
theorem vn_1 : vp_nar .boolean 1 = 1 := by rfl
theorem vn_0 : vp_nar .boolean 0 = 0 := by rfl
theorem ys_put_in {post : Int32 → SY → Prop} {J37 : Int32 → (Nat → Int32) → Prop} {B : Nat → Nat → Bool} (a b x : Nat) (ha : a < 10) (hb : b < 10) (hx : x < 10) (hab : a ≠ b) (hba : B b a = false) (hJ : ∀ w, pt_I B a b (x + 1) 0 w → J37 (nI (x + 1)) w) :
    ∀ d y w, y + d = 10 → pt_I B a b x y w → wY_put_46 post J37 (nI a) (nI b) (nI x) (d + 1) (nI y) w := by
  intro d
  induction d with
  | zero =>
    intro y w hy I
    obtain rfl : y = 10 := by omega
    exact br_t (nI_le (a := 10) (b := 10) (Nat.le_refl 10) (by decide)) (nm_r (nI_1 x) (hJ w (pt_row I)))
  | succ d ih =>
    intro y w hy I
    have hy10 : y < 10 := by omega
    have k := fun w' => ih (y + 1) w' (by omega)
    have l105 : ∀ l m : Bool, (l = true ↔ (x = a ∨ B x a = true)) → (m = true ↔ (y = b ∨ B b y = true)) → wY_put_105 post J37 (wY_put_46 post J37 (nI a) (nI b) (nI x) (d + 1)) (nI a) (nI b) (nI x) (nI y) (ps_i l) (ps_i m) w := by
      intro l m hl hm
      unfold wY_put_105
      rw [ys_ix x y, nI_clamp (show 10 * x + y < 2 ^ 31 by omega), vn_1]
      refine ps_br rfl (fun e => nm_r (nI_1 y) (k w (pt_skip I hx hy10 (fun q => ?_)))) (fun e => ps_br rfl (fun e2 => nm_r (nI_1 y) (k w (pt_skip I hx hy10 (fun q => ?_)))) (fun e2 => ⟨vp_in_nI (by omega) (by decide), nm_e (nm_r (nI_1 y) (k _ (pt_set I hx hy10 (hl.mp e) (hm.mp e2))))⟩))
      · rw [hl.mpr q.1] at e
        exact absurd e (by decide)
      · rw [hm.mpr q.2] at e2
        exact absurd e2 (by decide)
    have l77 : ∀ l : Bool, (l = true ↔ (x = a ∨ B x a = true)) → wY_put_77 post J37 (wY_put_46 post J37 (nI a) (nI b) (nI x) (d + 1)) (nI a) (nI b) (nI x) (nI y) (ps_i l) w := by
      intro l hl
      unfold wY_put_77
      rw [ys_ix b y, nI_clamp (show 10 * b + y < 2 ^ 31 by omega), pt_high hab hba I y hy10 hb]
      refine pk_eq y b (fun e => l105 l true hl ⟨fun _ => Or.inl e, fun _ => rfl⟩) (fun e => ⟨vp_in_nI (by omega) (by decide), ps_br rfl (fun z => l105 l false hl ⟨(fun q => nomatch q), fun q => ?_⟩) (fun z => l105 l true hl ⟨fun _ => Or.inr z, fun _ => rfl⟩)⟩)
      rcases q with q | q
      · exact absurd q e
      · exact z.symm.trans q
    refine br_f (nI_ge (b := 10) (by omega) (by decide)) ?_
    rw [ys_ix x a, nI_clamp (show 10 * x + a < 2 ^ 31 by omega), pt_low hab hba I x hx ha]
    refine pk_eq x a (fun e => l77 true ⟨fun _ => Or.inl e, fun _ => rfl⟩) (fun e => ⟨vp_in_nI (by omega) (by decide), ps_br rfl (fun z => l77 false ⟨(fun q => nomatch q), fun q => ?_⟩) (fun z => l77 true ⟨fun _ => Or.inr z, fun _ => rfl⟩)⟩)
    rcases q with q | q
    · exact absurd q e
    · exact z.symm.trans q
theorem ys_put_l {post : Int32 → SY → Prop} {B : Nat → Nat → Bool} (a b : Nat) (ha : a < 10) (hb : b < 10) (hab : a ≠ b) (hba : B b a = false) (h : ∀ w, pt_I B a b 10 0 w → post (nI (rl_py w)) w) :
    ∀ d x w, x + d = 10 → pt_I B a b x 0 w → wY_put_37 post (nI a) (nI b) (d + 1) (nI x) w := by
  intro d
  induction d with
  | zero =>
    intro x w hx I
    obtain rfl : x = 10 := by omega
    exact br_t (nI_le (a := 10) (b := 10) (Nat.le_refl 10) (by decide)) (ys_pairs w (h w I))
  | succ d ih =>
    intro x w hx I
    exact br_f (nI_ge (b := 10) (by omega) (by decide)) ⟨11, ys_put_in a b x ha hb (by omega) hab hba (fun w' I' => ih (x + 1) w' (by omega) I') 10 0 w rfl I⟩
theorem ys_put {post : Int32 → SY → Prop} {v : Nat → Int32} {B : Nat → Nat → Bool} (hv : ∀ a b, a < 10 → b < 10 → v (10 * a + b) = ps_i (B a b)) (a b : Nat) (ha : a < 10) (hb : b < 10) (hab : a ≠ b) (hba : B b a = false) (h : ∀ w, pt_I B a b 10 0 w → post (nI (rl_py w)) w) : wpY_put post v (nI a) (nI b) := by
  unfold wpY_put
  refine ys_badt a ha (br_t rfl (ys_badt b hb (br_t rfl (pk_eq a b (fun e => absurd e hab) (fun _ => ?_)))))
  rw [ys_ix b a, nI_clamp (show 10 * b + a < 2 ^ 31 by omega), hv b a hb ha]
  refine ⟨vp_in_nI (by omega) (by decide), ps_br rfl (fun _ => ⟨11, ys_put_l a b ha hb hab hba h 10 0 v rfl (pt_I0 a b hv)⟩) (fun z => ?_)⟩
  rw [hba] at z
  exact absurd z (by decide)
theorem xs_rel_l {post : Int32 → SX → Prop} (u : Nat → Int32) (t : Nat) (h : ∀ w, xr_I u t 10 w → post (nI (rl_px w)) w) : ∀ d x w, x + d = 10 → xr_I u t x w → wX_release_18 post (nI t) (d + 1) (nI x) w := by
  intro d
  induction d with
  | zero =>
    intro x w hx I
    obtain rfl : x = 10 := by omega
    exact br_t (nI_le (a := 10) (b := 10) (Nat.le_refl 10) (by decide)) (xs_pairs w (h w I))
  | succ d ih =>
    intro x w hx I
    have hx10 : x < 10 := by omega
    refine br_f (nI_ge (b := 10) (by omega) (by decide)) ?_
    rw [nI_clamp (show x < 2 ^ 31 by omega)]
    exact ⟨vp_in_nI hx10 (by decide), xs_only (nI t) ⟨vp_in_nI hx10 (by decide), nm_e (nm_r (nI_1 x) (ih (x + 1) _ (by omega) (xr_st I hx10)))⟩⟩
theorem xs_release {post : Int32 → SX → Prop} (u : Nat → Int32) (t : Nat) (ht : t < 10) (h : ∀ w, xr_I u t 10 w → post (nI (rl_px w)) w) : wpX_release post u (nI t) := by
  unfold wpX_release
  refine xs_tht t ht (br_f (by decide) ?_)
  rw [nI_clamp (show t < 2 ^ 31 by omega)]
  exact ⟨vp_in_nI ht (by decide), nm_e ⟨11, xs_rel_l u t h 10 0 _ rfl (xr_0 u t)⟩⟩
theorem ys_rel_l {post : Int32 → SY → Prop} {B : Nat → Nat → Bool} (t : Nat) (ht : t < 10) (h : ∀ w, rs_I B t 10 w → post (nI (rl_py w)) w) : ∀ d x w, x + d = 10 → rs_I B t x w → wY_release_11 post (nI t) (d + 1) (nI x) w := by
  intro d
  induction d with
  | zero =>
    intro x w hx I
    obtain rfl : x = 10 := by omega
    exact br_t (nI_le (a := 10) (b := 10) (Nat.le_refl 10) (by decide)) (ys_pairs w (h w I))
  | succ d ih =>
    intro x w hx I
    have hx10 : x < 10 := by omega
    refine br_f (nI_ge (b := 10) (by omega) (by decide)) ?_
    rw [ys_ix x t, ys_ix t x, nI_clamp (show 10 * x + t < 2 ^ 31 by omega), nI_clamp (show 10 * t + x < 2 ^ 31 by omega), vn_0]
    exact ⟨vp_in_nI (by omega) (by decide), nm_e ⟨vp_in_nI (by omega) (by decide), nm_e (nm_r (nI_1 x) (ih (x + 1) _ (by omega) (rs_st I ht hx10)))⟩⟩
theorem ys_release {post : Int32 → SY → Prop} {v : Nat → Int32} {B : Nat → Nat → Bool} (hv : ∀ a b, a < 10 → b < 10 → v (10 * a + b) = ps_i (B a b)) (t : Nat) (ht : t < 10) (h : ∀ w, rs_I B t 10 w → post (nI (rl_py w)) w) : wpY_release post v (nI t) := by
  unfold wpY_release
  exact ys_badt t ht (br_t rfl ⟨11, ys_rel_l t ht h 10 0 v rfl (rs_0 t hv)⟩)
/-! ===== widthBeside: the things left out ===== -/
theorem ys_bes_l {post : Int32 → Prop} {v : Nat → Int32} {B : Nat → Nat → Bool} (hv : ∀ a b, a < 10 → b < 10 → v (10 * a + b) = ps_i (B a b)) (t : Nat) (ht : t < 10) (q : Int32) (f : Nat → Bool) (h0 : q = 0 → ∀ i, f i = B i t) (h1 : ¬ q = 0 → ∀ i, f i = B t i)
    (h : post (nI (ar_v cz_n (ar_f (yg_P B 0 (er_g (fun i => !f i) 10) false) cz_n 1024)))) : ∀ d j, j + d = 10 → wY_widthBeside_14 post (nI t) q v (d + 1) (er_g (fun i => !f i) j) (nI j) := by
  intro d
  induction d with
  | zero =>
    intro j hj
    obtain rfl : j = 10 := by omega
    exact br_t (nI_le (a := 10) (b := 10) (Nat.le_refl 10) (by decide)) (ys_size hv 0 _ false h)
  | succ d ih =>
    intro j hj
    have k := ih (j + 1) (by omega)
    have l52 : wY_widthBeside_52 post (wY_widthBeside_14 post (nI t) q v (d + 1)) (nI t) q (er_g (fun i => !f i) j) (nI j) (ps_i (f j)) v := by
      refine ps_br rfl (fun e => nm_e (nm_r (nI_1 j) ?_)) (fun e => nm_r (nI_1 j) ?_)
      · rw [er_t (f := fun i => !f i) (n := j) (by show (!f j) = true; rw [e] <;> rfl)] at k
        exact k
      · rw [er_n (f := fun i => !f i) (n := j) (by show (!f j) = false; rw [e] <;> rfl)] at k
        exact k
    refine br_f (nI_ge (b := 10) (by omega) (by decide)) ?_
    rw [ys_ix j t, ys_ix t j, nI_clamp (show 10 * j + t < 2 ^ 31 by omega), nI_clamp (show 10 * t + j < 2 ^ 31 by omega), hv j t (by omega) ht, hv t j ht (by omega)]
    refine br_c (fun z => ⟨vp_in_nI (by omega) (by decide), ?_⟩) (fun z => ⟨vp_in_nI (by omega) (by decide), ?_⟩)
    · rw [← h0 z j]
      exact l52
    · rw [← h1 z j]
      exact l52
