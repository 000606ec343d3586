/-! joined, fresh; what may be turned, what may be drawn together -/
theorem ms_in_lt {T O : Nat → Nat → Nat} {n : Nat} {A B D : Nat → Nat} (R : ms_R T O (ms_F n A B D)) {j x : Nat} (hj : j < n) (h : ms_in A B D j x) : x < 10 := by
  have f := ms_Fi R hj
  rcases h with q | q | q
  · rw [← q]; exact f.1
  · rw [← q]; exact f.2.1
  · rw [← q]; exact f.2.2.1
theorem ms_in2 {T O : Nat → Nat → Nat} {n : Nat} {A B D : Nat → Nat} (R : ms_R T O (ms_F n A B D)) (cl : ms_cl T) (a x : Nat) : T a x ≠ 10 ↔ (x ≠ a ∧ ∃ j, j < n ∧ ms_in A B D j a ∧ ms_in A B D j x) := by
  constructor
  · intro h
    have g := R.2.2.1 a x h
    refine ⟨Ne.symm (ms_RK R a x h).2.2.2.1, _, g.1, ?_⟩
    rcases g.2 with q | q | q
    · exact ⟨Or.inl q.1, Or.inr (Or.inl q.2.1)⟩
    · exact ⟨Or.inr (Or.inl q.1), Or.inr (Or.inr q.2.1)⟩
    · exact ⟨Or.inr (Or.inr q.1), Or.inl q.2.1⟩
  · rintro ⟨hxa, j, hj, ha, hx⟩
    have f := ms_Fi R hj
    obtain ⟨f1, f2, f3, f4, f5, f6, t1, t2, t3⟩ := f
    have m1 : T (A j) (B j) ≠ 10 := by rw [t1]; exact Nat.ne_of_lt f3
    have m2 : T (B j) (D j) ≠ 10 := by rw [t2]; exact Nat.ne_of_lt f1
    have m3 : T (D j) (A j) ≠ 10 := by rw [t3]; exact Nat.ne_of_lt f2
    rcases ha with q | q | q <;> rcases hx with r | r | r <;> rw [← q, ← r]
    · exact absurd (r.symm.trans q) hxa
    · exact m1
    · exact cl _ _ m3
    · exact cl _ _ m1
    · exact absurd (r.symm.trans q) hxa
    · exact m2
    · exact m3
    · exact cl _ _ m2
    · exact absurd (r.symm.trans q) hxa
theorem ms_nI0 {s : Nat} (hs : s < 1024) : nI s = 0 ↔ s = 0 := nI_eq (a := s) (b := 0) (by omega) (by decide)
theorem ms_yjoin {post : Int32 → Prop} {T O : Nat → Nat → Nat} {n : Nat} {A B D : Nat → Nat} {q : Int32} (R : ms_R T O (ms_F n A B D)) (hn : n ≤ 16) (cl : ms_cl T) (h : post (nI (ms_nb T (ms_ix q)))) : wpY_joined post (nI n, ms_N A, ms_N B, ms_N D) q := by
  have K := ms_RK R
  refine loop_0 (fun k i (s : Nat) => wY_joined_4 post q (nI n) (ms_N A) (ms_N B) (ms_N D) k (nI s) (nI i)) (fun i s => s < 1024 ∧ ∀ x, s.testBit x = true ↔ ∃ j, j < i ∧ ms_in A B D j (ms_ix q) ∧ ms_in A B D j x) n 0 ⟨by decide, ?_⟩ ?_ ?_
  · intro x
    rw [Nat.zero_testBit]
    exact ⟨fun q => absurd q (by decide), fun ⟨j, hj, _⟩ => absurd hj (Nat.not_lt_zero _)⟩
  · rintro k s ⟨hs, hb⟩
    refine br_t (nI_le (Nat.le_refl n) (by omega)) ?_
    have key : ∀ x, T (ms_ix q) x ≠ 10 → s.testBit x = true := fun x hx => (hb x).mpr ((ms_in2 R cl _ _).mp hx).2
    by_cases e : s = 0
    · have : ms_nb T (ms_ix q) = 0 := by
        apply ms_ext (ms_nb_lt _ _) (by decide)
        intro x hx
        rw [ms_nb_b K, Nat.zero_testBit]
        apply decide_eq_false
        intro t
        have := key x t
        rw [e, Nat.zero_testBit] at this
        exact absurd this (by decide)
      rw [this] at h
      exact br_t ((ms_nI0 hs).mpr e) h
    · refine br_f (fun z => e ((ms_nI0 hs).mp z)) ?_
      rcases ms_ix_o q with ⟨a, ha, rfl⟩ | ⟨_, e1, _⟩
      · obtain ⟨s', hs', es, bs⟩ := ms_clr hs ha
        rw [es]
        rw [ms_ix_n ha] at h hb
        have : s' = ms_nb T a := by
          apply ms_ext hs' (ms_nb_lt _ _)
          intro x hx
          rw [bs x hx, ms_nb_b K]
          apply Bool.eq_iff_iff.mpr
          rw [Bool.and_eq_true, hb x, decide_eq_true_eq, decide_eq_true_eq, ms_in2 R cl]
          exact ⟨fun q => ⟨q.2, q.1⟩, fun q => ⟨q.2, q.1⟩⟩
        rw [this]; exact h
      · exfalso
        apply e
        apply Nat.eq_of_testBit_eq
        intro x
        rw [Nat.zero_testBit]
        apply Bool.eq_false_iff.mpr
        intro t
        obtain ⟨j, hj, q1, _⟩ := (hb x).mp t
        have := ms_in_lt R hj q1
        omega
  · rintro k i s hi ⟨hs, hb⟩ ih
    have f := ms_Fi R hi
    have hi16 : i < 16 := by omega
    have hv : vp_in (nI i) 16 := vp_in_nI hi16 (by decide)
    have c42 : ms_in A B D i (ms_ix q) → wY_joined_42 post (wY_joined_4 post q (nI n) (ms_N A) (ms_N B) (ms_N D) k) q (nI s) (nI i) (nI n) (ms_N A) (ms_N B) (ms_N D) := by
      intro hq
      refine br_f (by decide) ⟨hv, hv, hv, nm_r (e' := nI (((s ||| 2 ^ A i) ||| 2 ^ B i) ||| 2 ^ D i)) ?_ (nm_r (nI_1 i) (ih _ ⟨ms_or3_lt hs f.1 f.2.1 f.2.2.1, ?_⟩))⟩
      · rw [ms_N_at A hi16, ms_N_at B hi16, ms_N_at D hi16, ms_or3 f.1 f.2.1 f.2.2.1]
      · intro x
        rw [ms_or3_b, hb x]
        constructor
        · rintro (⟨j, hj, q⟩ | q)
          · exact ⟨j, by omega, q⟩
          · exact ⟨i, by omega, hq, q⟩
        · rintro ⟨j, hj, q⟩
          by_cases ej : j = i
          · rw [ej] at q; exact Or.inr q.2
          · exact Or.inl ⟨j, by omega, q⟩
    refine br_f (nI_ge hi (by omega)) ⟨hv, ms_bq hi16 f.1 (fun e => c42 (Or.inl e)) (fun n1 => ⟨hv, ms_bq hi16 f.2.1 (fun e => c42 (Or.inr (Or.inl e))) (fun n2 => ⟨hv, ms_bq hi16 f.2.2.1 (fun e => c42 (Or.inr (Or.inr e))) (fun n3 => ?_)⟩)⟩)⟩
    refine br_t rfl (nm_r (nI_1 i) (ih s ⟨hs, ?_⟩))
    intro x
    rw [hb x]
    constructor
    · rintro ⟨j, hj, q⟩
      exact ⟨j, by omega, q⟩
    · rintro ⟨j, hj, q⟩
      by_cases ej : j = i
      · rw [ej] at q
        rcases q.1 with z | z | z
        · exact absurd z n1
        · exact absurd z n2
        · exact absurd z n3
      · exact ⟨j, by omega, q⟩
theorem ms_yfree {post : Int32 → Prop} {T O : Nat → Nat → Nat} {n p v : Nat} {A B D : Nat → Nat} (R : ms_R T O (ms_F n A B D)) (hn : n ≤ 16) (hp : p < 1024) (vx : ms_vx T p) (hv : ms_least p v) (h : post (nI v)) : wpY_fresh post (nI n, ms_N A, ms_N B, ms_N D) := by
  unfold wpY_fresh
  dsimp only
  refine ms_yvert R hn hp vx ?_
  obtain ⟨h1, h2, h3⟩ := hv
  have key : ∀ d j, j + d = v → wY_fresh_7 post (nI p) (nI n) (ms_N A) (ms_N B) (ms_N D) (d + 1) (nI j) := by
    intro d
    induction d with
    | zero =>
      intro j hj
      have : j = v := by omega
      subst this
      refine br_f (nI_ge (b := 10) h1 (by decide)) ?_
      rw [ms_bit_f hp h1 h2]
      exact br_f (by decide) h
    | succ d ih =>
      intro j hj
      have hj10 : j < 10 := by omega
      refine br_f (nI_ge (b := 10) hj10 (by decide)) ?_
      rw [ms_bit_t hp hj10 (h3 j (by omega))]
      exact br_t rfl (nm_r (nI_1 j) (ih (j + 1) (by omega)))
  exact ⟨v + 1, key v 0 (by omega)⟩
theorem ms_yfull {post : Int32 → Prop} {T O : Nat → Nat → Nat} {n p : Nat} {A B D : Nat → Nat} (R : ms_R T O (ms_F n A B D)) (hn : n ≤ 16) (hp : p < 1024) (vx : ms_vx T p) (hv : ∀ j, j < 10 → p.testBit j = true) (h : post (nI 10)) : wpY_fresh post (nI n, ms_N A, ms_N B, ms_N D) := by
  unfold wpY_fresh
  dsimp only
  refine ms_yvert R hn hp vx ?_
  have key : ∀ d j, j + d = 10 → wY_fresh_7 post (nI p) (nI n) (ms_N A) (ms_N B) (ms_N D) (d + 1) (nI j) := by
    intro d
    induction d with
    | zero =>
      intro j hj
      have : j = 10 := by omega
      subst this
      exact br_t (nI_le (a := 10) (by omega) (by decide)) h
    | succ d ih =>
      intro j hj
      have hj10 : j < 10 := by omega
      refine br_f (nI_ge (b := 10) hj10 (by decide)) ?_
      rw [ms_bit_t hp hj10 (hv j hj10)]
      exact br_t rfl (nm_r (nI_1 j) (ih (j + 1) (by omega)))
  exact ⟨11, key 10 0 (by omega)⟩
def ms_fp (T : Nat → Nat → Nat) (x y : Nat) : Prop := T x y ≠ 10 ∧ T x y ≠ T y x ∧ T (T x y) (T y x) = 10
theorem ms_yflips {post : Int32 → Prop} {T O : Nat → Nat → Nat} {n : Nat} {A B D : Nat → Nat} {q1 q2 : Int32} (R : ms_R T O (ms_F n A B D)) (hn : n ≤ 16) (cl : ms_cl T) (h1 : ms_fp T (ms_ix q1) (ms_ix q2) → post 1) (h0 : ¬ ms_fp T (ms_ix q1) (ms_ix q2) → post 0) : wpY_flips post (nI n, ms_N A, ms_N B, ms_N D) q1 q2 := by
  have K := ms_RK R
  unfold wpY_flips
  dsimp only
  refine ms_yopp R hn (ms_yopp R hn ?_)
  by_cases e : T (ms_ix q1) (ms_ix q2) = 10
  · rw [e]; exact br_t (by decide) (h0 (fun z => z.1 e))
  · have e2 := cl _ _ e
    have k1 := (K _ _ e).2.2.1
    have k2 := (K _ _ e2).2.2.1
    rw [ms_e_lt k1, ms_e_lt k2]
    refine br_f (nI_pos (by omega)) ?_
    refine pk_eq _ _ (fun q => h0 (fun z => z.2.1 q)) (fun q => ms_yopp R hn ?_)
    rw [ms_ix_n k1, ms_ix_n k2]
    by_cases e3 : T (T (ms_ix q1) (ms_ix q2)) (T (ms_ix q2) (ms_ix q1)) = 10
    · rw [e3]; exact br_f (by decide) (h1 ⟨e, q, e3⟩)
    · rw [ms_e_lt (K _ _ e3).2.2.1]
      exact br_t (nI_pos' (by have := (K _ _ e3).2.2.1; omega)) (h0 (fun z => e3 z.2.2))
theorem ms_xflips {post : Int32 → Prop} {T : Nat → Nat → Nat} {P q1 q2 : Int32} (K : ms_K T) (cl : ms_cl T) (e : T (ms_ix q1) (ms_ix q2) ≠ 10) (h1 : ms_fp T (ms_ix q1) (ms_ix q2) → post 1) (h0 : ¬ ms_fp T (ms_ix q1) (ms_ix q2) → post 0) : wpX_canFlip post (P, ms_C T) q1 q2 := by
  unfold wpX_canFlip
  dsimp only
  refine ms_xcor K (ms_xcor K ?_)
  have e2 := cl _ _ e
  have k1 := (K _ _ e).2.2.1
  have k2 := (K _ _ e2).2.2.1
  rw [ms_e_lt k1, ms_e_lt k2]
  refine pk_eq _ _ (fun q => h0 (fun z => z.2.1 q)) (fun q => ms_xjoin K (fun e3 => br_t rfl (h1 ⟨e, q, ?_⟩)) (fun e3 => br_f (by decide) (h0 (fun z => e3 ?_))))
  · rw [ms_ix_n k1, ms_ix_n k2] at e3; exact e3
  · rw [ms_ix_n k1, ms_ix_n k2]; exact z.2.2
def ms_cp (T : Nat → Nat → Nat) (p x y : Nat) : Prop := T x y ≠ 10 ∧ 4 < ms_pc p ∧ ms_pc (ms_nb T x &&& ms_nb T y) ≤ 2
theorem ms_ycol {post : Int32 → Prop} {T O : Nat → Nat → Nat} {n p : Nat} {A B D : Nat → Nat} {q1 q2 : Int32} (R : ms_R T O (ms_F n A B D)) (hn : n ≤ 16) (hp : p < 1024) (cl : ms_cl T) (vx : ms_vx T p) (h1 : ms_cp T p (ms_ix q1) (ms_ix q2) → post 1) (h0 : ¬ ms_cp T p (ms_ix q1) (ms_ix q2) → post 0) : wpY_collapses post (nI n, ms_N A, ms_N B, ms_N D) q1 q2 := by
  have K := ms_RK R
  unfold wpY_collapses
  dsimp only
  refine ms_yvert R hn hp vx (ms_yopp R hn ?_)
  by_cases e : T (ms_ix q1) (ms_ix q2) = 10
  · rw [e]; exact br_t (by decide) (h0 (fun z => z.1 e))
  · rw [ms_e_lt (K _ _ e).2.2.1]
    have b1 := ms_pc_le p
    have b2 := ms_pc_le (ms_nb T (ms_ix q1) &&& ms_nb T (ms_ix q2))
    refine br_f (nI_pos (by have := (K _ _ e).2.2.1; omega)) (ms_ysize hp ?_)
    refine pk_le (ms_pc p) 4 (fun q => h0 (fun z => absurd z.2.1 (by omega))) (fun q => ms_yjoin R hn cl (ms_yjoin R hn cl ?_))
    rw [nx_and]
    refine ms_ysize (Nat.lt_of_le_of_lt Nat.and_le_left (ms_nb_lt _ _)) ?_
    exact pk_lt 2 _ (fun r => h0 (fun z => absurd z.2.2 (by omega))) (fun r => h1 ⟨e, q, r⟩)
theorem ms_xcol {post : Int32 → Prop} {T : Nat → Nat → Nat} {p : Nat} {q1 q2 : Int32} (K : ms_K T) (hp : p < 1024) (e : T (ms_ix q1) (ms_ix q2) ≠ 10) (h1 : ms_cp T p (ms_ix q1) (ms_ix q2) → post 1) (h0 : ¬ ms_cp T p (ms_ix q1) (ms_ix q2) → post 0) : wpX_canCollapse post (nI p, ms_C T) q1 q2 := by
  unfold wpX_canCollapse
  dsimp only
  have b1 := ms_pc_le p
  have b2 := ms_pc_le (ms_nb T (ms_ix q1) &&& ms_nb T (ms_ix q2))
  refine ms_xnb K (ms_xnb K (nm_r (nx_and _ _) (ms_xcb hp ?_)))
  refine pk_le (ms_pc p) 4 (fun q => h0 (fun z => absurd z.2.1 (by omega))) (fun q => ?_)
  refine ms_xcb (Nat.lt_of_le_of_lt Nat.and_le_left (ms_nb_lt _ _)) ?_
  exact pk_lt 2 _ (fun r => h0 (fun z => absurd z.2.2 (by omega))) (fun r => h1 ⟨e, q, r⟩)
