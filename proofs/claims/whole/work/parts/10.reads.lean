/-! the relation, and the methods that only read -/
def ms_Inv (T O : Nat → Nat → Nat) (A B D : Nat → Nat) (n p : Nat) : Prop := ms_R T O (ms_F n A B D) ∧ ms_V T p ∧ p < 1024 ∧ n + 4 = 2 * ms_pc p ∧ ms_cn T = 3 * n
/-- the relation: T is the corner table, A B D the face list, p the vertices -/
def i_Rel (k : Nat) (u : SX) (v : SY) : Prop := ∃ (T O : Nat → Nat → Nat) (A B D : Nat → Nat) (n p : Nat), u = (nI p, ms_C T) ∧ v = (nI n, ms_N A, ms_N B, ms_N D) ∧ ms_Inv T O A B D n p
theorem i_up {k : Nat} {u : SX} {v : SY} (h : i_Rel k u v) : i_Rel (k + 4) u v := h
theorem ms_n16 {n p : Nat} (h : n + 4 = 2 * ms_pc p) : n ≤ 16 := by
  have := ms_pc_le p
  omega
theorem i_vc_vertices {k : Nat} {u : SX} {v : SY} (I : i_Rel k u v) (hk : k + 4 ≤ 2048) : wpX_vertices (fun r => wpY_vertices (fun r' => r' = r ∧ i_Rel (k + 4) u v) v) u := by
  have J : i_Rel (k + 4) u v := i_up I
  obtain ⟨T, O, A, B, D, n, p, rfl, rfl, R, ⟨cl, nd, vx, co, lk⟩, hp, he, hc⟩ := I
  exact ms_yvert R (ms_n16 he) hp vx ⟨rfl, J⟩
theorem ms_xfaces {post : Int32 → Prop} {T : Nat → Nat → Nat} {P : Int32} {n : Nat} (K : ms_K T) (hc : ms_cn T = 3 * n) (hn : n ≤ 16) (h : post (nI n)) : wpX_faces post (P, ms_C T) := by
  refine loop_0 (fun m i (c : Nat) => wX_faces_4 post P (ms_C T) m (nI c) (nI i)) (fun i c => c = ms_cnt (fun i => decide (T (i / 10) (i % 10) ≠ 10)) i) 100 0 rfl ?_ ?_
  · intro m c hcc
    have hcc' : c = ms_cn T := hcc
    rw [hc] at hcc'
    subst hcc'
    refine br_t (nI_le (a := 100) (by omega) (by decide)) ⟨by decide, ?_⟩
    have e : nI (3 * n) / 3 = nI n := by
      have := pk_div (a := 3 * n) (d := 3) (by omega) (by decide) (by decide)
      rw [Nat.mul_div_cancel_left n (by decide)] at this
      exact this
    rw [e]; exact h
  · intro m i c hi hcc ih
    have hcl : (nI i).toNatClampNeg = i := nI_clamp (by omega)
    refine br_f (nI_ge (b := 100) hi (by decide)) ⟨vp_in_nI hi (by decide), ?_⟩
    rw [hcl]
    have hC : ms_C T i = ms_e (T (i / 10) (i % 10)) := if_pos hi
    rw [hC]
    by_cases e : T (i / 10) (i % 10) = 10
    · rw [e]
      refine br_t rfl (nm_r (nI_1 i) (ih c ?_))
      unfold ms_cnt
      rw [if_neg (by simp [e])]; exact hcc
    · refine br_f (ms_e_m1 (K _ _ e).2.2.1) (nm_r (nI_1 c) (nm_r (nI_1 i) (ih (c + 1) ?_)))
      unfold ms_cnt
      rw [if_pos (by simp [e]), hcc]
theorem i_vc_faces {k : Nat} {u : SX} {v : SY} (I : i_Rel k u v) (hk : k + 4 ≤ 2048) : wpX_faces (fun r => wpY_faces (fun r' => r' = r ∧ i_Rel (k + 4) u v) v) u := by
  have J : i_Rel (k + 4) u v := i_up I
  obtain ⟨T, O, A, B, D, n, p, rfl, rfl, R, ⟨cl, nd, vx, co, lk⟩, hp, he, hc⟩ := I
  exact ms_xfaces (ms_RK R) hc (ms_n16 he) ⟨rfl, J⟩
theorem i_vc_isFace {k : Nat} {u : SX} {v : SY} (I : i_Rel k u v) (hk : k + 4 ≤ 2048) (v1 : Int32) (v2 : Int32) (v3 : Int32) : wpX_isFace (fun r => wpY_isFace (fun r' => r' = r ∧ i_Rel (k + 4) u v) v v1 v2 v3) u v1 v2 v3 := by
  have J : i_Rel (k + 4) u v := i_up I
  obtain ⟨T, O, A, B, D, n, p, rfl, rfl, R, ⟨cl, nd, vx, co, lk⟩, hp, he, hc⟩ := I
  have hn := ms_n16 he
  unfold wpX_isFace
  dsimp only
  exact ms_xhas (ms_RK R) (fun e e10 => ⟨rfl, ms_yisF R hn (fun _ _ => ⟨rfl, J⟩) (fun z => absurd ⟨e, e10⟩ z)⟩) (fun z => ⟨rfl, ms_yisF R hn (fun e e10 => absurd ⟨e, e10⟩ z) (fun _ => ⟨rfl, J⟩)⟩)
theorem i_vc_joined {k : Nat} {u : SX} {v : SY} (I : i_Rel k u v) (hk : k + 4 ≤ 2048) (v1 : Int32) : wpX_joined (fun r => wpY_joined (fun r' => r' = r ∧ i_Rel (k + 4) u v) v v1) u v1 := by
  have J : i_Rel (k + 4) u v := i_up I
  obtain ⟨T, O, A, B, D, n, p, rfl, rfl, R, ⟨cl, nd, vx, co, lk⟩, hp, he, hc⟩ := I
  have hn := ms_n16 he
  unfold wpX_joined
  dsimp only
  exact ms_xnb (ms_RK R) (ms_yjoin R hn cl ⟨rfl, J⟩)
theorem i_vc_opposite {k : Nat} {u : SX} {v : SY} (I : i_Rel k u v) (hk : k + 4 ≤ 2048) (v1 : Int32) (v2 : Int32) : wpX_opposite (fun r => wpY_opposite (fun r' => r' = r ∧ i_Rel (k + 4) u v) v v1 v2) u v1 v2 := by
  have J : i_Rel (k + 4) u v := i_up I
  obtain ⟨T, O, A, B, D, n, p, rfl, rfl, R, ⟨cl, nd, vx, co, lk⟩, hp, he, hc⟩ := I
  have hn := ms_n16 he
  unfold wpX_opposite
  dsimp only
  exact ms_xcor (ms_RK R) (ms_yopp R hn ⟨rfl, J⟩)
/-! around -/
def ms_it (f : Int32 → Int32) : Nat → Int32 → Int32
  | 0, s => s
  | k + 1, s => ms_it f k (f s)
theorem ms_xa1 {post : Int32 → Prop} {T : Nat → Nat → Nat} {P q : Int32} {k : Nat} (K : ms_K T) (hk : k ≤ 20) : ∀ d i s, i + d = k → post (ms_it (fun s => ms_e (T (ms_ix q) (ms_ix s))) d s) → wX_around_29 post q (nI k) P (ms_C T) (d + 1) s (nI i) := by
  intro d
  induction d with
  | zero =>
    intro i s hi h
    exact br_t (nI_le (by omega) (by omega)) ⟨1, br_t (nI_pos' (by omega)) h⟩
  | succ d ih =>
    intro i s hi h
    exact br_f (nI_ge (by omega) (by omega)) (ms_xcor K (nm_r (nI_1 i) (ih (i + 1) _ (by omega) h)))
theorem ms_ya1 {post : Int32 → Prop} {T O : Nat → Nat → Nat} {n : Nat} {A B D : Nat → Nat} {q : Int32} {k : Nat} (R : ms_R T O (ms_F n A B D)) (hn : n ≤ 16) (hk : k ≤ 20) : ∀ d i s, i + d = k → post (ms_it (fun s => ms_e (T (ms_ix q) (ms_ix s))) d s) → wY_around_29 post q (nI k) (nI n) (ms_N A) (ms_N B) (ms_N D) (d + 1) s (nI i) := by
  intro d
  induction d with
  | zero =>
    intro i s hi h
    exact br_t (nI_le (by omega) (by omega)) ⟨1, br_t (nI_pos' (by omega)) h⟩
  | succ d ih =>
    intro i s hi h
    exact br_f (nI_ge (by omega) (by omega)) (ms_yopp R hn (nm_r (nI_1 i) (ih (i + 1) _ (by omega) h)))
theorem ms_ngL : ∀ i, i < 21 → ∀ k, k < 21 → (-nI i ≤ -nI k ↔ k ≤ i) := by decide +kernel
theorem ms_ngS : ∀ i, i < 21 → -nI i + (-1) = -nI (i + 1) := by decide +kernel
theorem ms_ng0 : ∀ k, k < 21 → -nI k ≤ 0 := by decide +kernel
theorem ms_ngT : ∀ k, k < 21 → (-nI k).toInt = -(k : Int) := by decide +kernel
theorem ms_xa2 {post : Int32 → Prop} {T : Nat → Nat → Nat} {P q : Int32} {k : Nat} (K : ms_K T) (hk : k ≤ 20) : ∀ d i s, i + d = k → post (ms_it (fun s => ms_e (T (ms_ix s) (ms_ix q))) d s) → wX_around_53 post q (-nI k) P (ms_C T) (d + 1) s (-nI i) := by
  intro d
  induction d with
  | zero =>
    intro i s hi h
    exact br_t ((ms_ngL i (by omega) k (by omega)).mpr (by omega)) h
  | succ d ih =>
    intro i s hi h
    exact br_f (fun z => absurd ((ms_ngL i (by omega) k (by omega)).mp z) (by omega)) (ms_xcor K (nm_r (ms_ngS i (by omega)) (ih (i + 1) _ (by omega) h)))
theorem ms_ya2 {post : Int32 → Prop} {T O : Nat → Nat → Nat} {n : Nat} {A B D : Nat → Nat} {q : Int32} {k : Nat} (R : ms_R T O (ms_F n A B D)) (hn : n ≤ 16) (hk : k ≤ 20) : ∀ d i s, i + d = k → post (ms_it (fun s => ms_e (T (ms_ix s) (ms_ix q))) d s) → wY_around_53 post q (-nI k) (nI n) (ms_N A) (ms_N B) (ms_N D) (d + 1) s (-nI i) := by
  intro d
  induction d with
  | zero =>
    intro i s hi h
    exact br_t ((ms_ngL i (by omega) k (by omega)).mpr (by omega)) h
  | succ d ih =>
    intro i s hi h
    exact br_f (fun z => absurd ((ms_ngL i (by omega) k (by omega)).mp z) (by omega)) (ms_yopp R hn (nm_r (ms_ngS i (by omega)) (ih (i + 1) _ (by omega) h)))
theorem ms_rng {q : Int32} (h1 : ¬ q < -20) (h2 : q ≤ 20) : (∃ k, k ≤ 20 ∧ q = nI k) ∨ (∃ k, k ≤ 20 ∧ q = -nI k) := by
  have t1 : (-20 : Int32).toInt = -20 := by decide
  have t2 : (20 : Int32).toInt = 20 := by decide
  rw [Int32.lt_iff_toInt_lt, t1] at h1
  rw [Int32.le_iff_toInt_le, t2] at h2
  by_cases h0 : q.toInt < 0
  · refine Or.inr ⟨(-q.toInt).toNat, by omega, ?_⟩
    apply Int32.toInt_inj.mp
    rw [ms_ngT _ (by omega)]
    omega
  · refine Or.inl ⟨q.toInt.toNat, by omega, ?_⟩
    apply Int32.toInt_inj.mp
    rw [nI_toInt (by omega)]
    omega
theorem ms_ar {T O : Nat → Nat → Nat} {n : Nat} {A B D : Nat → Nat} {P q s x3 : Int32} (R : ms_R T O (ms_F n A B D)) (hn : n ≤ 16) (h1 : ¬ x3 < -20) (h2 : x3 ≤ 20) : ∃ r, (∀ post : Int32 → Prop, post r → ∃ m, wX_around_29 post q x3 P (ms_C T) m s 0) ∧ (∀ post : Int32 → Prop, post r → ∃ m, wY_around_29 post q x3 (nI n) (ms_N A) (ms_N B) (ms_N D) m s 0) := by
  rcases ms_rng h1 h2 with ⟨k, hk, rfl⟩ | ⟨k, hk, rfl⟩
  · exact ⟨_, fun post h => ⟨_, ms_xa1 (ms_RK R) hk k 0 s (by omega) h⟩, fun post h => ⟨_, ms_ya1 R hn hk k 0 s (by omega) h⟩⟩
  · have e0 : -nI 0 = (0 : Int32) := by decide
    refine ⟨ms_it (fun s => ms_e (T (ms_ix s) (ms_ix q))) k s, fun post h => ⟨1, br_t (ms_ng0 k (by omega)) ⟨k + 1, ?_⟩⟩, fun post h => ⟨1, br_t (ms_ng0 k (by omega)) ⟨k + 1, ?_⟩⟩⟩
    · have := ms_xa2 (P := P) (ms_RK R) hk k 0 s (by omega) h
      rw [e0] at this; exact this
    · have := ms_ya2 R hn hk k 0 s (by omega) h
      rw [e0] at this; exact this
theorem i_vc_around {k : Nat} {u : SX} {v : SY} (I : i_Rel k u v) (hk : k + 4 ≤ 2048) (v1 : Int32) (v2 : Int32) (v3 : Int32) : wpX_around (fun r => wpY_around (fun r' => r' = r ∧ i_Rel (k + 4) u v) v v1 v2 v3) u v1 v2 v3 := by
  have J : i_Rel (k + 4) u v := i_up I
  obtain ⟨T, O, A, B, D, n, p, rfl, rfl, R, ⟨cl, nd, vx, co, lk⟩, hp, he, hc⟩ := I
  have hn := ms_n16 he
  have K := ms_RK R
  unfold wpX_around
  dsimp only
  refine ms_xjoin K (fun e => br_t rfl ?_) (fun e => br_f (by decide) ?_)
  · unfold wpY_around
    dsimp only
    refine ms_yopp R hn ?_
    rw [e]
    exact br_t (by decide) ⟨rfl, J⟩
  · have yy : ∀ post : Int32 → Prop, ((v3 < -20 → post (-1)) ∧ (¬ v3 < -20 → (v3 ≤ 20 → ∃ m, wY_around_29 post v1 v3 (nI n) (ms_N A) (ms_N B) (ms_N D) m v2 0) ∧ (¬ v3 ≤ 20 → post (-1)))) → wpY_around post (nI n, ms_N A, ms_N B, ms_N D) v1 v2 v3 := by
      intro post h
      unfold wpY_around
      dsimp only
      refine ms_yopp R hn ?_
      have kk := (K _ _ e).2.2.1
      rw [ms_e_lt kk]
      exact br_f (nI_pos (by omega)) h
    refine br_c (fun c1 => yy _ (br_t c1 ⟨rfl, J⟩)) (fun c1 => br_c (fun c2 => ?_) (fun c2 => yy _ (br_f c1 (br_f c2 ⟨rfl, J⟩))))
    obtain ⟨r, hX, hY⟩ := ms_ar (P := nI p) (q := v1) (s := v2) R hn c1 c2
    exact hX _ (yy _ (br_f c1 (br_t c2 (hY _ ⟨rfl, J⟩))))
