/-! the new object: a tetrahedron -/
def ms_T0 : Nat → Nat → Nat := fun _ _ => 10
def ms_T4 : Nat → Nat → Nat := ms_put (ms_put (ms_put (ms_put ms_T0 0 1 2) 0 2 3) 0 3 1) 1 3 2
theorem ms_T4_a : ∀ x, x < 10 → ∀ y, y < 10 → ms_T4 x y ≠ 10 → ms_T4 y x ≠ 10 ∧ ms_T4 x y ≠ ms_T4 y x ∧ x < 4 ∧ y < 4 := by decide +kernel
theorem ms_T4_b : ∀ x, x < 4 → ∀ y, y < 4 → x ≠ y → ms_T4 x y ≠ 10 := by decide +kernel
theorem ms_T4_d : ∀ w, w < 4 → ∀ y, y < 4 → ms_T4 w y ≠ 10 → ms_T4 w (ms_T4 w y) ≠ 10 := by decide +kernel
theorem ms_T4_c : ∀ w : Fin 4, ∀ y : Fin 4, ∀ z : Fin 4, (ms_T4 w.val y.val ≠ 10 ∧ ms_T4 w.val z.val ≠ 10) → (z.val = y.val ∨ z.val = ms_T4 w.val y.val ∨ z.val = ms_T4 w.val (ms_T4 w.val y.val)) := by decide +kernel
theorem ms_15 : ∀ x, x < 10 → ((15 : Nat).testBit x = true ↔ x < 4) := by decide +kernel
theorem ms_T4V (K : ms_K ms_T4) : ms_V ms_T4 15 := by
  refine ⟨?_, ?_, ?_, ?_, ?_⟩
  · intro x y h
    have k := K x y h
    exact (ms_T4_a x k.1 y k.2.1 h).1
  · intro x y h
    have k := K x y h
    exact (ms_T4_a x k.1 y k.2.1 h).2.1
  · intro x hx
    rw [ms_15 x hx]
    constructor
    · intro h
      by_cases e : x = 0
      · exact ⟨1, ms_T4_b x h 1 (by decide) (by omega)⟩
      · exact ⟨0, ms_T4_b x h 0 (by decide) e⟩
    · rintro ⟨y, h⟩
      have k := K x y h
      exact (ms_T4_a x k.1 y k.2.1 h).2.2.1
  · intro S hS x y x' y' hx hy sx
    have k1 := K x x' hx
    have k2 := K y y' hy
    have l1 := (ms_T4_a x k1.1 x' k1.2.1 hx).2.2.1
    have l2 := (ms_T4_a y k2.1 y' k2.2.1 hy).2.2.1
    by_cases e : x = y
    · rw [← e]; exact sx
    · exact hS x y (ms_T4_b x l1 y l2 e) sx
  · intro w S hS y z hy hz sy
    have k1 := K w y hy
    have k2 := K w z hz
    have l1 := (ms_T4_a w k1.1 y k1.2.1 hy).2.2
    have l2 := (ms_T4_a w k2.1 z k2.2.1 hz).2.2
    have q1 := ms_T4_d w l1.1 y l1.2 hy
    have c : z = y ∨ z = ms_T4 w y ∨ z = ms_T4 w (ms_T4 w y) := ms_T4_c ⟨w, l1.1⟩ ⟨y, l1.2⟩ ⟨z, l2.2⟩ ⟨hy, hz⟩
    rcases c with q | q | q2
    · rw [q]; exact sy
    · rw [q]; exact hS y hy sy
    · rw [q2]; exact hS _ q1 (hS y hy sy)
theorem ms_T0R : ms_R ms_T0 (fun _ _ => 0) (ms_F 0 (fun _ => 0) (fun _ => 0) (fun _ => 0)) := by
  refine ⟨?_, ?_, ?_, ?_⟩
  · intro i x y z g
    exact absurd g.1 (Nat.not_lt_zero _)
  · intro i x y z g
    exact absurd g.1 (Nat.not_lt_zero _)
  · intro x y h
    exact absurd rfl h
  · intro i x y z x' y' z' g
    exact absurd g.1 (Nat.not_lt_zero _)
def ms_A4 : Nat → Nat := ms_u (ms_u (ms_u (ms_u (fun _ => 0) 0 0) 1 0) 2 0) 3 1
def ms_B4 : Nat → Nat := ms_u (ms_u (ms_u (ms_u (fun _ => 0) 0 1) 1 2) 2 3) 3 3
def ms_D4 : Nat → Nat := ms_u (ms_u (ms_u (ms_u (fun _ => 0) 0 2) 1 3) 2 1) 3 2
theorem ms_init : ∃ O, ms_Inv ms_T4 O ms_A4 ms_B4 ms_D4 4 15 := by
  have c0 : ms_cn ms_T0 = 0 := ms_cnt_0 100 (fun i _ => rfl)
  obtain ⟨O1, R1⟩ := ms_Rput ms_T0R (x := 0) (y := 1) (z := 2) (by decide) (by decide) (by decide) (by decide) (by decide) (by decide) rfl rfl rfl
  have c1 := ms_cn_put (T := ms_T0) (x := 0) (y := 1) (z := 2) (by decide) (by decide) (by decide) (by decide) (by decide) (by decide) rfl rfl rfl
  obtain ⟨O2, R2⟩ := ms_Rput R1 (x := 0) (y := 2) (z := 3) (by decide) (by decide) (by decide) (by decide) (by decide) (by decide) rfl rfl rfl
  have c2 := ms_cn_put (T := ms_put ms_T0 0 1 2) (x := 0) (y := 2) (z := 3) (by decide) (by decide) (by decide) (by decide) (by decide) (by decide) rfl rfl rfl
  obtain ⟨O3, R3⟩ := ms_Rput R2 (x := 0) (y := 3) (z := 1) (by decide) (by decide) (by decide) (by decide) (by decide) (by decide) rfl rfl rfl
  have c3 := ms_cn_put (T := ms_put (ms_put ms_T0 0 1 2) 0 2 3) (x := 0) (y := 3) (z := 1) (by decide) (by decide) (by decide) (by decide) (by decide) (by decide) rfl rfl rfl
  obtain ⟨O4, R4⟩ := ms_Rput R3 (x := 1) (y := 3) (z := 2) (by decide) (by decide) (by decide) (by decide) (by decide) (by decide) rfl rfl rfl
  have c4 := ms_cn_put (T := ms_put (ms_put (ms_put ms_T0 0 1 2) 0 2 3) 0 3 1) (x := 1) (y := 3) (z := 2) (by decide) (by decide) (by decide) (by decide) (by decide) (by decide) rfl rfl rfl
  refine ⟨O4, R4, ms_T4V (ms_RK R4), by decide, by decide, ?_⟩
  show ms_cn (ms_put (ms_put (ms_put (ms_put ms_T0 0 1 2) 0 2 3) 0 3 1) 1 3 2) = _
  omega
theorem ms_xinit {post : SX → Prop} (h : post (nI 15, ms_C ms_T4)) : wpX_init post := by
  refine loop_0 (fun m i (s : Nat → Int32) => wX_init_14 post 0 m (nI i) s) (fun i s => s = fun j => if j < i then -1 else 0) 100 (fun _ => 0) ?_ ?_ ?_
  · funext j
    exact (if_neg (Nat.not_lt_zero _)).symm
  · intro m s hs
    have : s = ms_C ms_T0 := hs
    subst this
    refine br_t (nI_le (a := 100) (by omega) (by decide)) ?_
    refine ms_xput (P := nI 15) (T := ms_T0) (a := 0) (b := 1) (c := 2) (by decide) (by decide) (by decide) ?_
    refine ms_xput (P := nI 15) (a := 0) (b := 2) (c := 3) (by decide) (by decide) (by decide) ?_
    refine ms_xput (P := nI 15) (a := 0) (b := 3) (c := 1) (by decide) (by decide) (by decide) ?_
    refine ms_xput (P := nI 15) (a := 1) (b := 3) (c := 2) (by decide) (by decide) (by decide) ?_
    exact h
  · intro m i s hi hs ih
    subst hs
    refine br_f (nI_ge (b := 100) hi (by decide)) ⟨vp_in_nI hi (by decide), nm_e (nm_r (nI_1 i) (ih _ ?_))⟩
    rw [nI_clamp (by omega)]
    funext j
    unfold upd
    by_cases e : j = i
    · rw [if_pos e, if_pos (by omega)]
    · rw [if_neg e]
      show (if j < i then (-1 : Int32) else 0) = _
      by_cases h : j < i
      · rw [if_pos h, if_pos (by omega)]
      · rw [if_neg h, if_neg (by omega)]
theorem ms_yinit {post : SY → Prop} (h : post (nI 4, ms_N ms_A4, ms_N ms_B4, ms_N ms_D4)) : wpY_init post := by
  refine ms_yput (n := 0) (A := fun _ => 0) (B := fun _ => 0) (D := fun _ => 0) (x := 0) (y := 1) (z := 2) (by decide) ?_
  refine ms_yput (n := 1) (x := 0) (y := 2) (z := 3) (by decide) ?_
  refine ms_yput (n := 2) (x := 0) (y := 3) (z := 1) (by decide) ?_
  refine ms_yput (n := 3) (x := 1) (y := 3) (z := 2) (by decide) ?_
  exact h
theorem i_vc0 : wpX_init (fun u => wpY_init (fun v => i_Rel 0 u v)) := by
  obtain ⟨O, I⟩ := ms_init
  exact ms_xinit (ms_yinit ⟨ms_T4, O, ms_A4, ms_B4, ms_D4, 4, 15, rfl, rfl, I⟩)
