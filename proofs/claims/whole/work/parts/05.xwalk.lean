/-! ===== X's private methods, each with a general post ===== -/
theorem ps_br {x : Int32} {b : Bool} {A B : Prop} (hx : x = ps_i b) (f : b = false → A) (g : b = true → B) : (x = 0 → A) ∧ (¬ x = 0 → B) := by
  subst hx
  cases b
  · exact ⟨fun _ => f rfl, fun z => absurd rfl z⟩
  · exact ⟨fun z => absurd z (by decide), fun _ => g rfl⟩
theorem ps_br1 {x : Int32} {b : Bool} {A B : Prop} (hx : x = ps_i b) (f : b = true → A) (g : b = false → B) : (x = 1 → A) ∧ (¬ x = 1 → B) := by
  subst hx
  cases b
  · exact ⟨fun z => absurd z (by decide), fun _ => g rfl⟩
  · exact ⟨fun _ => f rfl, fun z => absurd rfl z⟩
theorem ps_pt {post : Int32 → Prop} {b : Bool} (h : post (ps_i b)) (e : b = true) : post 1 := by
  rw [e] at h
  exact h
theorem ps_pf {post : Int32 → Prop} {b : Bool} (h : post (ps_i b)) (e : b = false) : post 0 := by
  rw [e] at h
  exact h
theorem xs_holds {post : Int32 → Prop} (S : Int32) (n : Nat) (hn : n < 32) (h : post (ps_i (bt S n))) : wpX_holds post S (nI n) := ps_br (ps_sh S n hn) (ps_pf h) (ps_pt h)
theorem xs_within {post : Int32 → Prop} (p w : Int32) (h : post (ps_i (decide (p &&& (w ^^^ (-1)) = 0)))) : wpX_isWithin post p w :=
  br_c (fun z => ps_pt h (decide_eq_true z)) (fun z => ps_pf h (decide_eq_false z))
theorem xs_only {post : Int32 → Prop} (n : Int32) (h : post ((1 : Int32) <<< (n &&& 31))) : wpX_only post n := h
theorem xs_tht {post : Int32 → Prop} (n : Nat) (hn : n < 10) (h : post 1) : wpX_isThing post (nI n) := br_f (nI_pos (by omega)) (br_f (nI_ge (b := 10) hn (by decide)) h)
theorem xs_thf {post : Int32 → Prop} (x : Int32) (hx : x < 0 ∨ nI 10 ≤ x) (h : post 0) : wpX_isThing post x := br_c (fun _ => h) (fun z => br_t (hx.resolve_left z) h)
theorem ps_nb (b : Bool) : narrow .boolean (.int (ps_i b)) = .int (ps_i b) := by cases b <;> rfl
theorem cn_1t {f : Nat → Bool} {n : Nat} (h : f n = true) : cn_n f (n + 1) = cn_n f n + 1 := by
  show cn_n f n + (f n).toNat = _
  rw [h] <;> rfl
theorem cn_1f {f : Nat → Bool} {n : Nat} (h : f n = false) : cn_n f (n + 1) = cn_n f n := by
  show cn_n f n + (f n).toNat = _
  rw [h] <;> rfl
theorem cn_1 (f : Nat → Bool) (n : Nat) : cn_n f (n + 1) = cn_n f n + (f n).toNat := rfl
theorem cn_s1 (f : Nat → Nat) (n : Nat) : cn_s f (n + 1) = cn_s f n + f n := rfl
theorem xs_size_l {post : Int32 → Prop} (S : Int32) (h : post (nI (cn_n (fun i => bt S i) 10))) : ∀ d j, j + d = 10 → wX_size_4 post S (d + 1) (nI (cn_n (fun i => bt S i) j)) (nI j) := by
  intro d
  induction d with
  | zero =>
    intro j hj
    obtain rfl : j = 10 := by omega
    exact br_t (nI_le (a := 10) (b := 10) (Nat.le_refl 10) (by decide)) h
  | succ d ih =>
    intro j hj
    have k := ih (j + 1) (by omega)
    refine br_f (nI_ge (b := 10) (by omega) (by decide)) (xs_holds S j (by omega) (ps_br rfl (fun e => nm_r (nI_1 j) ?_) (fun e => nm_r (nI_1 _) (nm_r (nI_1 j) ?_))))
    · rw [cn_1f (f := fun i => bt S i) e] at k
      exact k
    · rw [cn_1t (f := fun i => bt S i) e] at k
      exact k
theorem xs_size {post : Int32 → Prop} (S : Int32) (h : post (nI (cn_n (fun i => bt S i) 10))) : wpX_size post S := ⟨11, xs_size_l S h 10 0 rfl⟩
theorem xs_cb {post : Int32 → Prop} (u : Nat → Int32) (a b : Nat) (ha : a < 10) (hb : b < 10) (h : post (ps_i (bt (u a) b))) : wpX_comesBefore post u (nI a) (nI b) := by
  refine ⟨vp_in_nI ha (by decide), ?_⟩
  rw [nI_clamp (by omega)]
  exact xs_holds (u a) b (by omega) ⟨ps_nb _, h⟩
theorem xs_pairs_l {post : Int32 → Prop} (u : Nat → Int32) (h : post (nI (rl_px u))) : ∀ d j, j + d = 10 → wX_pairs_4 post u (d + 1) (nI (cn_s (fun a => cn_n (fun b => bt (u a) b) 10) j)) (nI j) := by
  intro d
  induction d with
  | zero =>
    intro j hj
    obtain rfl : j = 10 := by omega
    exact br_t (nI_le (a := 10) (b := 10) (Nat.le_refl 10) (by decide)) h
  | succ d ih =>
    intro j hj
    have k := ih (j + 1) (by omega)
    rw [cn_s1] at k
    refine br_f (nI_ge (b := 10) (by omega) (by decide)) ⟨vp_in_nI (by omega) (by decide), ?_⟩
    rw [nI_clamp (by omega)]
    exact xs_size (u j) (nm_r (nI_add _ _) (nm_r (nI_1 j) k))
theorem xs_pairs {post : Int32 → Prop} (u : Nat → Int32) (h : post (nI (rl_px u))) : wpX_pairs post u := ⟨11, xs_pairs_l u h 10 0 rfl⟩
theorem xs_earl_l {post : Int32 → Prop} (u : Nat → Int32) (t : Nat) (ht : t < 10) (h : post (er_f u t)) : ∀ d j, j + d = 10 → wX_earlier_4 post (nI t) u (d + 1) (er_g (fun i => bt (u i) t) j) (nI j) := by
  intro d
  induction d with
  | zero =>
    intro j hj
    obtain rfl : j = 10 := by omega
    exact br_t (nI_le (a := 10) (b := 10) (Nat.le_refl 10) (by decide)) h
  | succ d ih =>
    intro j hj
    have k := ih (j + 1) (by omega)
    refine br_f (nI_ge (b := 10) (by omega) (by decide)) ⟨vp_in_nI (by omega) (by decide), ?_⟩
    rw [nI_clamp (by omega)]
    refine xs_holds (u j) t (by omega) (ps_br rfl (fun e => nm_r (nI_1 j) ?_) (fun e => xs_only (nI j) (nm_e (nm_r (nI_1 j) ?_))))
    · rw [er_n (f := fun i => bt (u i) t) e] at k
      exact k
    · rw [er_t (f := fun i => bt (u i) t) e] at k
      exact k
theorem xs_earlier {post : Int32 → Prop} (u : Nat → Int32) (t : Nat) (ht : t < 10) (h : post (er_f u t)) : wpX_earlier post u (nI t) := ⟨11, xs_earl_l u t ht h 10 0 rfl⟩
theorem xs_spread_l {post : Int32 → Prop} (u : Nat → Int32) (s : Nat) (h : post (ps_i (pw_d (sp_X u s)))) : ∀ d j, j + d = 10 → (∀ x, x < j → s.testBit x = true → u x &&& nI s = 0) → wX_isSpread_2 post (nI s) u (d + 1) (nI j) := by
  intro d
  induction d with
  | zero =>
    intro j hj ok
    obtain rfl : j = 10 := by omega
    exact br_t (nI_le (a := 10) (b := 10) (Nat.le_refl 10) (by decide)) (ps_pt h (pw_dt.mpr ok))
  | succ d ih =>
    intro j hj ok
    have k := ih (j + 1) (by omega)
    have et := ps_nI s (show j < 32 by omega)
    refine br_f (nI_ge (b := 10) (by omega) (by decide)) (xs_holds (nI s) j (by omega) (ps_br rfl (fun e => nm_r (nI_1 j) (k (lt_s ok (fun t => ?_)))) (fun e => ⟨vp_in_nI (by omega) (by decide), ?_⟩)))
    · rw [← et, e] at t
      exact absurd t (by decide)
    · rw [nI_clamp (by omega)]
      exact br_c (fun z => nm_r (nI_1 j) (k (lt_s ok (fun _ => z)))) (fun z => ps_pf h (pw_df.mpr (fun q => z (q j (by omega) (et.symm.trans e)))))
theorem xs_spread {post : Int32 → Prop} (u : Nat → Int32) (s : Nat) (h : post (ps_i (pw_d (sp_X u s)))) : wpX_isSpread post u (nI s) := ⟨11, xs_spread_l u s h 10 0 rfl (fun x hx => absurd hx (Nat.not_lt_zero x))⟩
theorem xs_chain_l {post : Int32 → Prop} (u : Nat → Int32) (s : Nat) (h : post (ps_i (pw_d (ch_X u s)))) : ∀ d j, j + d = 10 → (∀ x, x < j → s.testBit x = true → nI s &&& (((u x ||| er_f u x) ||| ((1 : Int32) <<< (nI x &&& 31))) ^^^ (-1)) = 0) → wX_isChain_2 post (nI s) u (d + 1) (nI j) := by
  intro d
  induction d with
  | zero =>
    intro j hj ok
    obtain rfl : j = 10 := by omega
    exact br_t (nI_le (a := 10) (b := 10) (Nat.le_refl 10) (by decide)) (ps_pt h (pw_dt.mpr ok))
  | succ d ih =>
    intro j hj ok
    have k := ih (j + 1) (by omega)
    have et := ps_nI s (show j < 32 by omega)
    refine br_f (nI_ge (b := 10) (by omega) (by decide)) (xs_holds (nI s) j (by omega) (ps_br rfl (fun e => nm_r (nI_1 j) (k (lt_s ok (fun t => ?_)))) (fun e => ⟨vp_in_nI (by omega) (by decide), ?_⟩)))
    · rw [← et, e] at t
      exact absurd t (by decide)
    · rw [nI_clamp (by omega)]
      exact xs_earlier u j (by omega) (xs_only (nI j) (nm_e (xs_within _ _ (ps_br rfl (fun z => ps_pf h (pw_df.mpr (fun q => of_decide_eq_false z (q j (by omega) (et.symm.trans e))))) (fun z => nm_r (nI_1 j) (k (lt_s ok (fun _ => of_decide_eq_true z))))))))
theorem xs_chain {post : Int32 → Prop} (u : Nat → Int32) (s : Nat) (h : post (ps_i (pw_d (ch_X u s)))) : wpX_isChain post u (nI s) := ⟨11, xs_chain_l u s h 10 0 rfl (fun x hx => absurd hx (Nat.not_lt_zero x))⟩
theorem xs_widest_l {post : Int32 → Prop} (u : Nat → Int32) (N A : Int32) (h : post (nI (ar_v cz_n (ar_f (xw_P u N A) cz_n 1024)))) : ∀ d s, s + d = 1024 → wX_widest_5 post N A u (d + 1) (nI (ar_v cz_n (ar_f (xw_P u N A) cz_n s))) (nI s) := by
  intro d
  induction d with
  | zero =>
    intro s hs
    obtain rfl : s = 1024 := by omega
    exact br_t (nI_le (a := 1024) (b := 1024) (Nat.le_refl 1024) (by decide)) h
  | succ d ih =>
    intro s hs
    have k := ih (s + 1) (by omega)
    have hc : cz_n s ≤ 10 := cz_le s
    have hv : ar_v cz_n (ar_f (xw_P u N A) cz_n s) ≤ 10 := ar_vle cz_le _
    have skip : xw_P u N A s = false → ∀ y, y = nI s + 1 → wX_widest_5 post N A u (d + 1) (nI (ar_v cz_n (ar_f (xw_P u N A) cz_n s))) y := fun z => nm_r (nI_1 s) (by
      rw [show ar_f (xw_P u N A) cz_n (s + 1) = ar_f (xw_P u N A) cz_n s from ar_sf z] at k
      exact k)
    refine br_f (nI_ge (b := 1024) (by omega) (by decide)) (xs_within N (nI s) (ps_br rfl (fun e1 => skip ?_) (fun e1 => xs_within (nI s) A (ps_br rfl (fun e2 => skip ?_) (fun e2 => xs_spread u s (ps_br rfl (fun e3 => skip ?_) (fun e3 => xs_size (nI s) (pk_le (cz_n s) (ar_v cz_n (ar_f (xw_P u N A) cz_n s)) (fun l => nm_r (nI_1 s) ?_) (fun l => nm_r (nI_1 s) ?_)))))))))
    · unfold xw_P
      rw [e1] <;> rfl
    · unfold xw_P
      rw [e2, Bool.and_false] <;> rfl
    · unfold xw_P
      rw [e3, Bool.and_false]
    · rw [show ar_v cz_n (ar_f (xw_P u N A) cz_n (s + 1)) = ar_v cz_n (ar_f (xw_P u N A) cz_n s) from ar_vf (by omega)] at k
      exact k
    · have hp : xw_P u N A s = true := by
        unfold xw_P
        rw [e1, e2, e3] <;> rfl
      rw [show ar_v cz_n (ar_f (xw_P u N A) cz_n (s + 1)) = cz_n s from ar_vt hp l] at k
      exact k
theorem xs_widest {post : Int32 → Prop} (u : Nat → Int32) (N A : Int32) (h : post (nI (ar_v cz_n (ar_f (xw_P u N A) cz_n 1024)))) : wpX_widest post u N A := ⟨1025, xs_widest_l u N A h 1024 0 (by omega)⟩
theorem xs_high_l {post : Int32 → Prop} (u : Nat → Int32) (N : Int32) (h : post (nI (ar_v cz_n (ar_f (xh_P u N) cz_n 1024)))) : ∀ d s, s + d = 1024 → wX_highest_4 post N u (d + 1) (nI (ar_v cz_n (ar_f (xh_P u N) cz_n s))) (nI s) := by
  intro d
  induction d with
  | zero =>
    intro s hs
    obtain rfl : s = 1024 := by omega
    exact br_t (nI_le (a := 1024) (b := 1024) (Nat.le_refl 1024) (by decide)) h
  | succ d ih =>
    intro s hs
    have k := ih (s + 1) (by omega)
    have hc : cz_n s ≤ 10 := cz_le s
    have hv : ar_v cz_n (ar_f (xh_P u N) cz_n s) ≤ 10 := ar_vle cz_le _
    have skip : xh_P u N s = false → ∀ y, y = nI s + 1 → wX_highest_4 post N u (d + 1) (nI (ar_v cz_n (ar_f (xh_P u N) cz_n s))) y := fun z => nm_r (nI_1 s) (by
      rw [show ar_f (xh_P u N) cz_n (s + 1) = ar_f (xh_P u N) cz_n s from ar_sf z] at k
      exact k)
    refine br_f (nI_ge (b := 1024) (by omega) (by decide)) (xs_within N (nI s) (ps_br rfl (fun e1 => skip ?_) (fun e1 => xs_chain u s (ps_br rfl (fun e3 => skip ?_) (fun e3 => xs_size (nI s) (pk_le (cz_n s) (ar_v cz_n (ar_f (xh_P u N) cz_n s)) (fun l => nm_r (nI_1 s) ?_) (fun l => nm_r (nI_1 s) ?_)))))))
    · unfold xh_P
      rw [e1] <;> rfl
    · unfold xh_P
      rw [e3, Bool.and_false]
    · rw [show ar_v cz_n (ar_f (xh_P u N) cz_n (s + 1)) = ar_v cz_n (ar_f (xh_P u N) cz_n s) from ar_vf (by omega)] at k
      exact k
    · have hp : xh_P u N s = true := by
        unfold xh_P
        rw [e1, e3] <;> rfl
      rw [show ar_v cz_n (ar_f (xh_P u N) cz_n (s + 1)) = cz_n s from ar_vt hp l] at k
      exact k
theorem xs_highest {post : Int32 → Prop} (u : Nat → Int32) (N : Int32) (h : post (nI (ar_v cz_n (ar_f (xh_P u N) cz_n 1024)))) : wpX_highest post u N := ⟨1025, xs_high_l u N h 1024 0 (by omega)⟩
theorem ps_1023 : ∀ i, i < 10 → bt 1023 i = true := by decide +kernel
theorem xw_all {u : Nat → Int32} {s : Nat} (hs : s < 1024) : xw_P u 0 1023 s = pw_d (sp_X u s) := by
  have h1 : (0 : Int32) &&& (nI s ^^^ (-1)) = 0 := (ps_and0 _ _).mpr (fun i hi z => by rw [b_0] at z; exact absurd z (by decide))
  have h2 : nI s &&& ((1023 : Int32) ^^^ (-1)) = 0 := (ps_within _ _).mpr (fun i hi z => ps_1023 i (ps_10 hs hi z))
  unfold xw_P
  rw [decide_eq_true h1, decide_eq_true h2] <;> rfl
theorem xs_chosen_l {post : Int32 → Prop} (u : Nat → Int32) (m j : Nat) (hj : j < 1024) (hm : cz_n j = m) (hp : sp_X u j) (hl : ∀ i, i < j → sp_X u i → cz_n i ≠ m) (h : post (nI j)) : ∀ d s, s + d = j → wX_chosenSpread_11 post (nI m) u (d + 1) (nI s) := by
  have hm10 : m ≤ 10 := hm ▸ cz_le j
  intro d
  induction d with
  | zero =>
    intro s hs
    obtain rfl : s = j := by omega
    have hc : cz_n s ≤ 10 := cz_le s
    exact br_f (nI_ge (b := 1024) (by omega) (by decide)) (xs_size (nI s) (pk_eq (cz_n s) m (fun _ => xs_spread u s (ps_br rfl (fun e => absurd hp (pw_df.mp e)) (fun _ => h))) (fun z => absurd hm z)))
  | succ d ih =>
    intro s hs
    have k := ih (s + 1) (by omega)
    have hc : cz_n s ≤ 10 := cz_le s
    exact br_f (nI_ge (b := 1024) (by omega) (by decide)) (xs_size (nI s) (pk_eq (cz_n s) m (fun z => xs_spread u s (ps_br rfl (fun e => nm_r (nI_1 s) k) (fun e => absurd z (hl s (by omega) (pw_dt.mp e))))) (fun z => nm_r (nI_1 s) k)))
theorem xs_chosen {post : Int32 → Prop} (u : Nat → Int32) (j : Nat) (hj : ar_f (xw_P u 0 1023) cz_n 1024 = some j) (h : post (nI j)) : wpX_chosenSpread post u := by
  obtain ⟨h1, h2, h3, h4⟩ := ar_some (xw_P u 0 1023) cz_n 1024 j hj
  rw [xw_all h1] at h2
  refine xs_widest u 0 1023 ?_
  rw [hj]
  exact ⟨j + 1, xs_chosen_l u (cz_n j) j h1 rfl (pw_dt.mp h2) (fun i hi q => Nat.ne_of_lt (h4 i hi (by rw [xw_all (by omega)]; exact pw_dt.mpr q))) h j 0 (by omega)⟩
