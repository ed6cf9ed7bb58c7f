/-! ===== what is owed ===== -/
def i_Rel (k : Nat) (u : SX) (v : SY) : Prop := rl_R u v
theorem i_up {k : Nat} {u : SX} {v : SY} (h : i_Rel k u v) : i_Rel (k + 3) u v := h
theorem i_vc0 : wpX_init (fun u => wpY_init (fun v => i_Rel 0 u v)) := rl_0
theorem ow_th (x : Int32) : (x < 0 ∨ nI 10 ≤ x) ∨ ∃ j, j < 10 ∧ x = nI j := by
  rcases pk_ix x (n := 10) (by decide) with h | h | h
  · exact Or.inl (Or.inl h)
  · exact Or.inl (Or.inr h)
  · exact Or.inr h
theorem ow_w {u v : Nat → Int32} (R : rl_R u v) {N A O : Int32} (h : ∀ i, i < 10 → bt O i = !bt A i) : nI (ar_v cz_n (ar_f (yg_P (sb_B u) N O false) cz_n 1024)) = nI (ar_v cz_n (ar_f (xw_P u N A) cz_n 1024)) :=
  congrArg (fun o => nI (ar_v cz_n o)) (ar_cg cz_n 1024 (fun i hi => (xw_eq R.2.1 h hi).symm))
theorem ow_h (u : Nat → Int32) (N : Int32) : nI (ar_v cz_n (ar_f (yg_P (sb_B u) N 0 true) cz_n 1024)) = nI (ar_v cz_n (ar_f (xh_P u N) cz_n 1024)) :=
  congrArg (fun o => nI (ar_v cz_n o)) (ar_cg cz_n 1024 (fun i hi => (xh_eq hi).symm))
theorem ow_0 (i : Nat) (hi : i < 10) : bt 0 i = !bt 1023 i := by
  rw [b_0, ps_1023 i hi] <;> rfl
theorem i_vc_put {k : Nat} {u : SX} {v : SY} (I : i_Rel k u v) (hk : k + 3 ≤ 1536) (v1 : Int32) (v2 : Int32) : wpX_put (fun r u' => wpY_put (fun r' v' => r' = r ∧ i_Rel (k + 3) u' v') v v1 v2) u v1 v2 := by
  have R : rl_R u v := I
  rcases ow_th v1 with h1 | ⟨a, ha, rfl⟩
  · unfold wpX_put
    refine xs_thf v1 h1 (br_t rfl ?_)
    unfold wpY_put
    exact ys_badf v1 h1 (br_f (by decide) ⟨rfl, I⟩)
  rcases ow_th v2 with h2 | ⟨b, hb, rfl⟩
  · unfold wpX_put
    refine xs_tht a ha (br_f (by decide) (xs_thf v2 h2 (br_t rfl ?_)))
    unfold wpY_put
    exact ys_badt a ha (br_t rfl (ys_badf v2 h2 (br_f (by decide) ⟨rfl, I⟩)))
  by_cases hab : a = b
  · subst hab
    unfold wpX_put
    refine xs_tht a ha (br_f (by decide) (xs_tht a hb (br_f (by decide) (br_t rfl ?_))))
    unfold wpY_put
    exact ys_badt a ha (br_t rfl (ys_badt a hb (br_t rfl (br_t rfl ⟨rfl, I⟩))))
  have hne : ¬ nI a = nI b := by
    rw [nI_eq (by omega) (by omega)]
    exact hab
  cases hba : bt (u b) a
  · refine xs_put u a b ha hb hab hba (fun w hw => ys_put (B := sb_B u) R.1 a b ha hb hab hba (fun w' hw' => ?_))
    have R' : rl_R w w' := rl_put R ha hb hab hba (xp_end hb hw) (pt_end hw')
    exact ⟨congrArg nI (rl_pairs R').symm, R'⟩
  · unfold wpX_put
    refine xs_tht a ha (br_f (by decide) (xs_tht b hb (br_f (by decide) (br_f hne (xs_cb u b a hb ha (ps_br rfl (fun z => absurd (z.symm.trans hba) (by decide)) (fun z => ?_)))))))
    unfold wpY_put
    refine ys_badt a ha (br_t rfl (ys_badt b hb (br_t rfl (br_f hne ?_))))
    rw [ys_ix b a, nI_clamp (show 10 * b + a < 2 ^ 31 by omega), R.1 b a hb ha]
    exact ⟨vp_in_nI (by omega) (by decide), ps_br rfl (fun z => absurd (z.symm.trans hba) (by decide)) (fun _ => ⟨rfl, I⟩)⟩
theorem i_vc_release {k : Nat} {u : SX} {v : SY} (I : i_Rel k u v) (hk : k + 3 ≤ 1536) (v1 : Int32) : wpX_release (fun r u' => wpY_release (fun r' v' => r' = r ∧ i_Rel (k + 3) u' v') v v1) u v1 := by
  have R : rl_R u v := I
  rcases ow_th v1 with h1 | ⟨t, ht, rfl⟩
  · unfold wpX_release
    refine xs_thf v1 h1 (br_t rfl ?_)
    unfold wpY_release
    exact ys_badf v1 h1 (br_f (by decide) ⟨rfl, I⟩)
  refine xs_release u t ht (fun w hw => ys_release (B := sb_B u) R.1 t ht (fun w' hw' => ?_))
  have R' : rl_R w w' := rl_rel R (xr_end ht hw) (rs_end hw')
  exact ⟨congrArg nI (rl_pairs R').symm, R'⟩
theorem i_vc_before {k : Nat} {u : SX} {v : SY} (I : i_Rel k u v) (hk : k + 3 ≤ 1536) (v1 : Int32) (v2 : Int32) : wpX_before (fun r => wpY_before (fun r' => r' = r ∧ i_Rel (k + 3) u v) v v1 v2) u v1 v2 := by
  have R : rl_R u v := I
  rcases ow_th v1 with h1 | ⟨a, ha, rfl⟩
  · unfold wpX_before
    refine xs_thf v1 h1 (br_t rfl ?_)
    unfold wpY_before
    exact ys_badf v1 h1 (br_f (by decide) ⟨rfl, I⟩)
  rcases ow_th v2 with h2 | ⟨b, hb, rfl⟩
  · unfold wpX_before
    refine xs_tht a ha (br_f (by decide) (xs_thf v2 h2 (br_t rfl ?_)))
    unfold wpY_before
    exact ys_badt a ha (br_t rfl (ys_badf v2 h2 (br_f (by decide) ⟨rfl, I⟩)))
  have yb : ∀ r, ps_i (bt (u a) b) = r → wpY_before (fun r' => r' = r ∧ i_Rel (k + 3) u v) v (nI a) (nI b) := by
    intro r hr
    unfold wpY_before
    refine ys_badt a ha (br_t rfl (ys_badt b hb (br_t rfl ?_)))
    rw [ys_ix a b, nI_clamp (show 10 * a + b < 2 ^ 31 by omega), R.1 a b ha hb]
    exact ⟨vp_in_nI (by omega) (by decide), ps_br rfl (fun e => ⟨by rw [← hr, e] <;> rfl, I⟩) (fun e => ⟨by rw [← hr, e] <;> rfl, I⟩)⟩
  unfold wpX_before
  exact xs_tht a ha (br_f (by decide) (xs_tht b hb (br_f (by decide) (xs_cb u a b ha hb (ps_br rfl (fun e => yb 0 (by rw [e] <;> rfl)) (fun e => yb 1 (by rw [e] <;> rfl)))))))
theorem i_vc_width {k : Nat} {u : SX} {v : SY} (I : i_Rel k u v) (hk : k + 3 ≤ 1536) : wpX_width (fun r => wpY_width (fun r' => r' = r ∧ i_Rel (k + 3) u v) v) u := by
  have R : rl_R u v := I
  unfold wpX_width
  refine xs_widest u 0 1023 ?_
  unfold wpY_width
  exact ys_size (B := sb_B u) R.1 0 0 false ⟨ow_w R ow_0, I⟩
theorem i_vc_widthWith {k : Nat} {u : SX} {v : SY} (I : i_Rel k u v) (hk : k + 3 ≤ 1536) (v1 : Int32) : wpX_widthWith (fun r => wpY_widthWith (fun r' => r' = r ∧ i_Rel (k + 3) u v) v v1) u v1 := by
  have R : rl_R u v := I
  rcases ow_th v1 with h1 | ⟨t, ht, rfl⟩
  · unfold wpX_widthWith
    refine xs_thf v1 h1 (br_t rfl ?_)
    unfold wpY_widthWith
    exact ys_badf v1 h1 (br_f (by decide) ⟨rfl, I⟩)
  unfold wpX_widthWith
  refine xs_tht t ht (br_f (by decide) (xs_only (nI t) (xs_widest u _ 1023 ?_)))
  unfold wpY_widthWith
  exact ys_badt t ht (br_t rfl (ys_size (B := sb_B u) R.1 _ 0 false ⟨ow_w R ow_0, I⟩))
theorem i_vc_widthWithout {k : Nat} {u : SX} {v : SY} (I : i_Rel k u v) (hk : k + 3 ≤ 1536) (v1 : Int32) : wpX_widthWithout (fun r => wpY_widthWithout (fun r' => r' = r ∧ i_Rel (k + 3) u v) v v1) u v1 := by
  have R : rl_R u v := I
  rcases ow_th v1 with h1 | ⟨t, ht, rfl⟩
  · unfold wpX_widthWithout
    refine xs_thf v1 h1 (br_t rfl ?_)
    unfold wpY_widthWithout
    exact ys_badf v1 h1 (br_f (by decide) ⟨rfl, I⟩)
  have hO : ∀ i, i < 10 → bt ((1 : Int32) <<< (nI t &&& 31)) i = !bt ((1023 : Int32) &&& (((1 : Int32) <<< (nI t &&& 31)) ^^^ (-1))) i := by
    intro i hi
    rw [b_and, ps_m1 _ (by omega), ps_1023 i hi, Bool.true_and, Bool.not_not]
  unfold wpX_widthWithout
  refine xs_tht t ht (br_f (by decide) (xs_only (nI t) (nm_e (xs_widest u 0 _ ?_))))
  unfold wpY_widthWithout
  exact ys_badt t ht (br_t rfl (ys_size (B := sb_B u) R.1 0 _ false ⟨ow_w R hO, I⟩))
theorem i_vc_chosen {k : Nat} {u : SX} {v : SY} (I : i_Rel k u v) (hk : k + 3 ≤ 1536) (v1 : Int32) : wpX_chosen (fun r => wpY_chosen (fun r' => r' = r ∧ i_Rel (k + 3) u v) v v1) u v1 := by
  have R : rl_R u v := I
  rcases ow_th v1 with h1 | ⟨t, ht, rfl⟩
  · unfold wpX_chosen
    refine xs_thf v1 h1 (br_t rfl ?_)
    unfold wpY_chosen
    exact ys_badf v1 h1 (br_f (by decide) ⟨rfl, I⟩)
  have p0 : xw_P u 0 1023 0 = true := by
    rw [xw_all (by decide)]
    apply pw_dt.mpr
    intro x hx z
    rw [Nat.zero_testBit] at z
    exact absurd z (by decide)
  obtain ⟨j, ho⟩ : ∃ j, ar_f (xw_P u 0 1023) cz_n 1024 = some j := by
    cases e : ar_f (xw_P u 0 1023) cz_n 1024 with
    | none => exact absurd p0 (ar_none _ _ 1024 e 0 (by decide))
    | some j => exact ⟨j, rfl⟩
  have ey : ar_f (yg_P (sb_B u) 0 0 false) cz_n 1024 = some j := (ar_cg cz_n 1024 (fun i hi => (xw_eq R.2.1 ow_0 hi).symm)).trans ho
  have yc : ∀ r, ps_i (bt (nI j) t) = r → wpY_chosen (fun r' => r' = r ∧ i_Rel (k + 3) u v) v (nI t) := by
    intro r hr
    unfold wpY_chosen
    refine ys_badt t ht (br_t rfl (ys_greatest (B := sb_B u) R.1 0 0 false ?_))
    rw [ey]
    exact ⟨(ps_sh (nI j) t (by omega)).trans hr, I⟩
  unfold wpX_chosen
  exact xs_tht t ht (br_f (by decide) (xs_chosen u j ho (xs_holds (nI j) t (by omega) (ps_br rfl (fun e => yc 0 (by rw [e] <;> rfl)) (fun e => yc 1 (by rw [e] <;> rfl))))))
theorem i_vc_height {k : Nat} {u : SX} {v : SY} (I : i_Rel k u v) (hk : k + 3 ≤ 1536) : wpX_height (fun r => wpY_height (fun r' => r' = r ∧ i_Rel (k + 3) u v) v) u := by
  have R : rl_R u v := I
  unfold wpX_height
  refine xs_highest u 0 ?_
  unfold wpY_height
  exact ys_size (B := sb_B u) R.1 0 0 true ⟨ow_h u 0, I⟩
theorem i_vc_heightWith {k : Nat} {u : SX} {v : SY} (I : i_Rel k u v) (hk : k + 3 ≤ 1536) (v1 : Int32) : wpX_heightWith (fun r => wpY_heightWith (fun r' => r' = r ∧ i_Rel (k + 3) u v) v v1) u v1 := by
  have R : rl_R u v := I
  rcases ow_th v1 with h1 | ⟨t, ht, rfl⟩
  · unfold wpX_heightWith
    refine xs_thf v1 h1 (br_t rfl ?_)
    unfold wpY_heightWith
    exact ys_badf v1 h1 (br_f (by decide) ⟨rfl, I⟩)
  unfold wpX_heightWith
  refine xs_tht t ht (br_f (by decide) (xs_only (nI t) (xs_highest u _ ?_)))
  unfold wpY_heightWith
  exact ys_badt t ht (br_t rfl (ys_size (B := sb_B u) R.1 _ 0 true ⟨ow_h u _, I⟩))
theorem i_vc_widthBeside {k : Nat} {u : SX} {v : SY} (I : i_Rel k u v) (hk : k + 3 ≤ 1536) (v1 : Int32) (v2 : Int32) : wpX_widthBeside (fun r => wpY_widthBeside (fun r' => r' = r ∧ i_Rel (k + 3) u v) v v1 (lw_bz v2)) u v1 (lw_bz v2) := by
  have R : rl_R u v := I
  generalize lw_bz v2 = q
  rcases ow_th v1 with h1 | ⟨t, ht, rfl⟩
  · unfold wpX_widthBeside
    refine xs_thf v1 h1 (br_t rfl ?_)
    unfold wpY_widthBeside
    exact ys_badf v1 h1 (br_f (by decide) ⟨rfl, I⟩)
  have yw : ∀ (f : Nat → Bool) (A : Int32), (q = 0 → ∀ i, f i = sb_B u i t) → (¬ q = 0 → ∀ i, f i = sb_B u t i) → (∀ i, i < 10 → bt A i = f i) → wpY_widthBeside (fun r' => r' = nI (ar_v cz_n (ar_f (xw_P u 0 A) cz_n 1024)) ∧ i_Rel (k + 3) u v) v (nI t) q := by
    intro f A h0 h1 hA
    unfold wpY_widthBeside
    refine ys_badt t ht (br_t rfl ⟨11, ys_bes_l (B := sb_B u) R.1 t ht q f h0 h1 ⟨ow_w R (fun i hi => ?_), I⟩ 10 0 rfl⟩)
    rw [er_b _ (by omega) 10 (by omega), decide_eq_true hi, hA i hi, Bool.true_and]
  unfold wpX_widthBeside
  refine xs_tht t ht (br_f (by decide) (br_c (fun z => xs_earlier u t ht (xs_widest u 0 (er_f u t) ?_)) (fun z => ⟨vp_in_nI ht (by decide), ?_⟩)))
  · refine yw (fun i => bt (u i) t) (er_f u t) (fun _ i => rfl) (fun n => absurd z n) (fun i hi => ?_)
    unfold er_f
    rw [er_b _ (by omega) 10 (by omega), decide_eq_true hi, Bool.true_and]
  · rw [nI_clamp (show t < 2 ^ 31 by omega)]
    exact xs_widest u 0 (u t) (yw (fun i => bt (u t) i) (u t) (fun n => absurd n z) (fun _ i => rfl) (fun i hi => rfl))
