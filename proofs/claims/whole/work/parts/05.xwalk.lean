/-! ===== X's private methods, each with a general post ===== -/
theorem ps_br {x : Int32} {b : Bool} {A B : Prop} (hx : x = ps_i b) (f : b = false → A) (g : b = true → B) : (x = 0 → A) ∧ (¬ x = 0 → B) := by
  subst hx
  cases b
  · exact ⟨fun _ => f rfl, fun z => absurd rfl z⟩
  · exact ⟨fun z => absurd z (by decide), fun _ => g rfl⟩
theorem ps_br1 {x : Int32} {b : Bool} {A B : Prop} (hx : x = ps_i b) (f : b = true → A) (g : b = false → B) : (x = 1 → A) ∧ (¬ x = 1 → B) := by
  subst hx
  cases b
  · exact ⟨fun z => absurd z (by decide), fun _ => g rfl⟩
  · exact ⟨fun _ => f rfl, fun z => absurd rfl z⟩
theorem ps_pt {post : Int32 → Prop} {b : Bool} (h : post (ps_i b)) (e : b = true) : post 1 := by
  rw [e] at h
  exact h
theorem ps_pf {post : Int32 → Prop} {b : Bool} (h : post (ps_i b)) (e : b = false) : post 0 := by
  rw [e] at h
  exact h
theorem xs_holds {post : Int32 → Prop} (S : Int32) (n : Nat) (hn : n < 32) (h : post (ps_i (bt S n))) : wpX_holds post S (nI n) := ps_br (ps_sh S n hn) (ps_pf h) (ps_pt h)
theorem xs_within {post : Int32 → Prop} (p w : Int32) (h : post (ps_i (decide (p &&& (w ^^^ (-1)) = 0)))) : wpX_isWithin post p w :=
  br_c (fun z => ps_pt h (decide_eq_true z)) (fun z => ps_pf h (decide_eq_false z))
theorem xs_only {post : Int32 → Prop} (n : Int32) (h : post ((1 : Int32) <<< (n &&& 31))) : wpX_only post n := h
theorem xs_tht {post : Int32 → Prop} (n : Nat) (hn : n < 10) (h : post 1) : wpX_isThing post (nI n) := br_f (nI_pos (by omega)) (br_f (nI_ge (b := 10) hn (by decide)) h)
theorem xs_thf {post : Int32 → Prop} (x : Int32) (hx : x < 0 ∨ nI 10 ≤ x) (h : post 0) : wpX_isThing post x := br_c (fun _ => h) (fun z => br_t (hx.resolve_left z) h)
theorem xs_size_l {post : Int32 → Prop} (S : Int32) (h : post (nI (cn_n (fun i => bt S i) 10))) : ∀ d j, j + d = 10 → wX_size_4 post S (d + 1) (nI (cn_n (fun i => bt S i) j)) (nI j) := by
  intro d
  induction d with
  | zero =>
    intro j hj
    obtain rfl : j = 10 := by omega
    exact br_t (nI_le (by omega) (by omega)) h
  | succ d ih =>
    intro j hj
    have k := ih (j + 1) (by omega)
    refine br_f (nI_ge (b := 10) (by omega) (by decide)) (xs_holds S j (by omega) (ps_br rfl (fun e => nm_r (nI_1 j) ?_) (fun e => nm_r (nI_1 _) (nm_r (nI_1 j) ?_))))
    · rw [show cn_n (fun i => bt S i) (j + 1) = cn_n (fun i => bt S i) j from by show _ + (bt S j).toNat = _; rw [e]; rfl] at k
      exact k
    · rw [show cn_n (fun i => bt S i) (j + 1) = cn_n (fun i => bt S i) j + 1 from by show _ + (bt S j).toNat = _; rw [e]; rfl] at k
      exact k
theorem xs_size {post : Int32 → Prop} (S : Int32) (h : post (nI (cn_n (fun i => bt S i) 10))) : wpX_size post S := ⟨11, xs_size_l S h 10 0 rfl⟩
