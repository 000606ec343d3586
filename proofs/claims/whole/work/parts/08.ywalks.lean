/-! the reference's walks against the pure table -/
def ms_N (A : Nat → Nat) : Nat → Int32 := fun i => nI (A i)
theorem ms_N_at (A : Nat → Nat) {i : Nat} (h : i < 16) : ms_N A (nI i).toNatClampNeg = nI (A i) := by
  rw [nI_clamp (by omega)]; rfl
theorem ms_N_up (A : Nat → Nat) {i x : Nat} (h : i < 16) : upd (ms_N A) (nI i).toNatClampNeg (nI x) = ms_N (ms_u A i x) := by
  rw [nI_clamp (by omega)]
  funext j
  unfold upd ms_N ms_u
  by_cases e : j = i
  · rw [if_pos e, if_pos e]
  · rw [if_neg e, if_neg e]
theorem ms_eqix {a : Nat} (ha : a < 10) (q : Int32) : nI a = q ↔ a = ms_ix q := by
  rcases ms_ix_o q with ⟨j, hj, rfl⟩ | ⟨n1, e1, _⟩
  · rw [ms_ix_n hj, nI_eq (by omega) (by omega)]
  · rw [e1]
    exact ⟨fun e => absurd e.symm (n1 a ha), fun e => by omega⟩
theorem ms_Fi {T O : Nat → Nat → Nat} {n : Nat} {A B D : Nat → Nat} (R : ms_R T O (ms_F n A B D)) {i : Nat} (h : i < n) : A i < 10 ∧ B i < 10 ∧ D i < 10 ∧ A i ≠ B i ∧ B i ≠ D i ∧ D i ≠ A i ∧ T (A i) (B i) = D i ∧ T (B i) (D i) = A i ∧ T (D i) (A i) = B i := by
  have f := ms_Gf R (i := i) (x := A i) (y := B i) (z := D i) ⟨h, Or.inl ⟨rfl, rfl, rfl⟩⟩
  exact ⟨f.1, f.2.1, f.2.2.1, f.2.2.2.1, f.2.2.2.2.1, f.2.2.2.2.2.1, f.2.2.2.2.2.2.1, f.2.2.2.2.2.2.2.1, f.2.2.2.2.2.2.2.2.1⟩
theorem ms_yput {post : SY → Prop} {n x y z : Nat} {A B D : Nat → Nat} (hn : n < 16) (h : post (nI (n + 1), ms_N (ms_u A n x), ms_N (ms_u B n y), ms_N (ms_u D n z))) : wpY_put post (nI n, ms_N A, ms_N B, ms_N D) (nI x) (nI y) (nI z) := by
  have hi : vp_in (nI n) 16 := vp_in_nI hn (by decide)
  exact ⟨hi, nm_r (ms_N_up A hn) ⟨hi, nm_r (ms_N_up B hn) ⟨hi, nm_r (ms_N_up D hn) (nm_r (nI_1 n) h)⟩⟩⟩
/-- a branch by a number's place -/
theorem ms_bq {P Q : Prop} {A : Nat → Nat} {i : Nat} {q : Int32} (hi : i < 16) (ha : A i < 10) (f : A i = ms_ix q → P) (g : A i ≠ ms_ix q → Q) : (ms_N A (nI i).toNatClampNeg = q → P) ∧ (¬ ms_N A (nI i).toNatClampNeg = q → Q) := by
  rw [ms_N_at A hi, ms_eqix ha]
  exact ⟨f, g⟩
theorem ms_y98n {post : Int32 → Prop} {J : Int32 → Prop} {q1 q2 : Int32} {i c : Nat} {k : Int32} {a1 a2 a3 : Nat → Int32} (hc : c < 10) (h : post (nI c)) : wY_opposite_98 post J q1 q2 (nI i) (nI c) k a1 a2 a3 :=
  br_f (nI_pos (by omega)) h
theorem ms_y98m {post : Int32 → Prop} {J : Int32 → Prop} {q1 q2 : Int32} {i : Nat} {k : Int32} {a1 a2 a3 : Nat → Int32} (h : J (nI (i + 1))) : wY_opposite_98 post J q1 q2 (nI i) (-1) k a1 a2 a3 :=
  br_t (by decide) (nm_r (nI_1 i) h)
theorem ms_yopp {post : Int32 → Prop} {T O : Nat → Nat → Nat} {n : Nat} {A B D : Nat → Nat} {q1 q2 : Int32} (R : ms_R T O (ms_F n A B D)) (hn : n ≤ 16) (h : post (ms_e (T (ms_ix q1) (ms_ix q2)))) : wpY_opposite post (nI n, ms_N A, ms_N B, ms_N D) q1 q2 := by
  refine loop_0 (fun k i (_ : Unit) => wY_opposite_2 post q1 q2 (nI n) (ms_N A) (ms_N B) (ms_N D) k (nI i)) (fun i _ => ∀ j, j < i → ∀ z, ¬ ms_F n A B D j (ms_ix q1) (ms_ix q2) z) n () (fun j hj => absurd hj (Nat.not_lt_zero _)) ?_ ?_
  · intro k _ hI
    have e : T (ms_ix q1) (ms_ix q2) = 10 := by
      by_cases e : T (ms_ix q1) (ms_ix q2) = 10
      · exact e
      · have g := R.2.2.1 _ _ e
        exact absurd g (hI _ g.1 _)
    rw [e] at h
    exact br_t (nI_le (Nat.le_refl n) (by omega)) h
  · intro k i _ hi hI ih
    have f := ms_Fi R hi
    have hi16 : i < 16 := by omega
    have hv : vp_in (nI i) 16 := vp_in_nI hi16 (by decide)
    have go : (¬ (A i = ms_ix q1 ∧ B i = ms_ix q2)) → (¬ (B i = ms_ix q1 ∧ D i = ms_ix q2)) → (¬ (D i = ms_ix q1 ∧ A i = ms_ix q2)) → wY_opposite_2 post q1 q2 (nI n) (ms_N A) (ms_N B) (ms_N D) k (nI (i + 1)) := by
      intro n1 n2 n3
      refine ih () ?_
      intro j hj z g
      by_cases ej : j = i
      · subst ej
        rcases g.2 with q | q | q
        · exact n1 ⟨q.1, q.2.1⟩
        · exact n2 ⟨q.1, q.2.1⟩
        · exact n3 ⟨q.1, q.2.1⟩
      · exact hI j (by omega) z g
    have c68 : (¬ (A i = ms_ix q1 ∧ B i = ms_ix q2)) → (¬ (B i = ms_ix q1 ∧ D i = ms_ix q2)) → wY_opposite_68 post (wY_opposite_2 post q1 q2 (nI n) (ms_N A) (ms_N B) (ms_N D) k) q1 q2 (nI i) (nI n) (ms_N A) (ms_N B) (ms_N D) := by
      intro n1 n2
      refine ⟨hv, ms_bq hi16 f.2.2.1 (fun e1 => ⟨hv, ms_bq hi16 f.1 (fun e2 => ⟨hv, ?_⟩) (fun e2 => ms_y98m (go n1 n2 (fun q => e2 q.2)))⟩) (fun e1 => ms_y98m (go n1 n2 (fun q => e1 q.1)))⟩
      rw [ms_N_at B hi16]
      refine ms_y98n f.2.1 ?_
      rw [← e1, ← e2, f.2.2.2.2.2.2.2.2, ms_e_lt f.2.1] at h; exact h
    have c39 : (¬ (A i = ms_ix q1 ∧ B i = ms_ix q2)) → wY_opposite_39 post (wY_opposite_2 post q1 q2 (nI n) (ms_N A) (ms_N B) (ms_N D) k) q1 q2 (nI i) (nI n) (ms_N A) (ms_N B) (ms_N D) := by
      intro n1
      refine ⟨hv, ms_bq hi16 f.2.1 (fun e1 => ⟨hv, ms_bq hi16 f.2.2.1 (fun e2 => ⟨hv, ?_⟩) (fun e2 => c68 n1 (fun q => e2 q.2))⟩) (fun e1 => c68 n1 (fun q => e1 q.1))⟩
      rw [ms_N_at A hi16]
      refine ms_y98n f.1 ?_
      rw [← e1, ← e2, f.2.2.2.2.2.2.2.1, ms_e_lt f.1] at h; exact h
    refine br_f (nI_ge hi (by omega)) ⟨hv, ms_bq hi16 f.1 (fun e1 => ⟨hv, ms_bq hi16 f.2.1 (fun e2 => ⟨hv, ?_⟩) (fun e2 => c39 (fun q => e2 q.2))⟩) (fun e1 => c39 (fun q => e1 q.1))⟩
    rw [ms_N_at D hi16]
    refine ms_y98n f.2.2.1 ?_
    rw [← e1, ← e2, f.2.2.2.2.2.2.1, ms_e_lt f.2.2.1] at h; exact h
theorem ms_yhas {post : Int32 → Prop} {T O : Nat → Nat → Nat} {n : Nat} {A B D : Nat → Nat} {q1 q2 q3 : Int32} {i : Nat} (R : ms_R T O (ms_F n A B D)) (hn : n ≤ 16) (hi : i < n) (h1 : ms_F n A B D i (ms_ix q1) (ms_ix q2) (ms_ix q3) → post 1) (h0 : ¬ ms_F n A B D i (ms_ix q1) (ms_ix q2) (ms_ix q3) → post 0) : wpY_has post (nI n, ms_N A, ms_N B, ms_N D) (nI i) q1 q2 q3 := by
  have f := ms_Fi R hi
  have hi16 : i < 16 := by omega
  have hv : vp_in (nI i) 16 := vp_in_nI hi16 (by decide)
  have c62 : (¬ (A i = ms_ix q1 ∧ B i = ms_ix q2 ∧ D i = ms_ix q3)) → (¬ (D i = ms_ix q1 ∧ A i = ms_ix q2 ∧ B i = ms_ix q3)) → wY_has_62 post (nI i) q1 q2 q3 (nI n) (ms_N A) (ms_N B) (ms_N D) := by
    intro n1 n2
    have no : ¬ (B i = ms_ix q1 ∧ D i = ms_ix q2 ∧ A i = ms_ix q3) → ¬ ms_F n A B D i (ms_ix q1) (ms_ix q2) (ms_ix q3) := by
      intro n3 g
      rcases g.2 with q | q | q
      · exact n1 q
      · exact n3 q
      · exact n2 q
    exact ⟨hv, ms_bq hi16 f.1 (fun e1 => ⟨hv, ms_bq hi16 f.2.1 (fun e2 => ⟨hv, ms_bq hi16 f.2.2.1 (fun e3 => h1 ⟨hi, Or.inr (Or.inl ⟨e2, e3, e1⟩)⟩) (fun e3 => h0 (no (fun q => e3 q.2.1)))⟩) (fun e2 => h0 (no (fun q => e2 q.1)))⟩) (fun e1 => h0 (no (fun q => e1 q.2.2)))⟩
  have c31 : (¬ (A i = ms_ix q1 ∧ B i = ms_ix q2 ∧ D i = ms_ix q3)) → wY_has_31 post (nI i) q1 q2 q3 (nI n) (ms_N A) (ms_N B) (ms_N D) := by
    intro n1
    exact ⟨hv, ms_bq hi16 f.1 (fun e1 => ⟨hv, ms_bq hi16 f.2.1 (fun e2 => ⟨hv, ms_bq hi16 f.2.2.1 (fun e3 => h1 ⟨hi, Or.inr (Or.inr ⟨e3, e1, e2⟩)⟩) (fun e3 => c62 n1 (fun q => e3 q.1))⟩) (fun e2 => c62 n1 (fun q => e2 q.2.2))⟩) (fun e1 => c62 n1 (fun q => e1 q.2.1))⟩
  exact ⟨hv, ms_bq hi16 f.1 (fun e1 => ⟨hv, ms_bq hi16 f.2.1 (fun e2 => ⟨hv, ms_bq hi16 f.2.2.1 (fun e3 => h1 ⟨hi, Or.inl ⟨e1, e2, e3⟩⟩) (fun e3 => c31 (fun q => e3 q.2.2))⟩) (fun e2 => c31 (fun q => e2 q.2.1))⟩) (fun e1 => c31 (fun q => e1 q.1))⟩
theorem ms_yfind {post : Int32 → Prop} {T O : Nat → Nat → Nat} {n : Nat} {A B D : Nat → Nat} {q1 q2 q3 : Int32} (R : ms_R T O (ms_F n A B D)) (hn : n ≤ 16) (h1 : ∀ i, ms_F n A B D i (ms_ix q1) (ms_ix q2) (ms_ix q3) → post (nI i)) (h0 : (∀ i, ¬ ms_F n A B D i (ms_ix q1) (ms_ix q2) (ms_ix q3)) → post (-1)) : wpY_find post (nI n, ms_N A, ms_N B, ms_N D) q1 q2 q3 := by
  refine loop_0 (fun k i (_ : Unit) => wY_find_3 post q1 q2 q3 (nI n) (ms_N A) (ms_N B) (ms_N D) k (nI i)) (fun i _ => ∀ j, j < i → ¬ ms_F n A B D j (ms_ix q1) (ms_ix q2) (ms_ix q3)) n () (fun j hj => absurd hj (Nat.not_lt_zero _)) ?_ ?_
  · intro k _ hI
    exact br_t (nI_le (Nat.le_refl n) (by omega)) (h0 (fun i g => hI i g.1 g))
  · intro k i _ hi hI ih
    refine br_f (nI_ge hi (by omega)) (ms_yhas R hn hi (fun g => br_f (by decide) (h1 i g)) (fun g => br_t rfl (nm_r (nI_1 i) (ih () ?_))))
    intro j hj
    by_cases ej : j = i
    · subst ej; exact g
    · exact hI j (by omega)
theorem ms_yisF {post : Int32 → Prop} {T O : Nat → Nat → Nat} {n : Nat} {A B D : Nat → Nat} {q1 q2 q3 : Int32} (R : ms_R T O (ms_F n A B D)) (hn : n ≤ 16) (h1 : T (ms_ix q1) (ms_ix q2) = ms_ix q3 → ms_ix q3 ≠ 10 → post 1) (h0 : ¬ (T (ms_ix q1) (ms_ix q2) = ms_ix q3 ∧ ms_ix q3 ≠ 10) → post 0) : wpY_isFace post (nI n, ms_N A, ms_N B, ms_N D) q1 q2 q3 := by
  unfold wpY_isFace
  dsimp only
  refine ms_yfind R hn ?_ ?_
  · intro i g
    have f := ms_Gf R g
    exact br_f (nI_pos (by have := g.1; omega)) (h1 f.2.2.2.2.2.2.1 (Nat.ne_of_lt f.2.2.1))
  · intro no
    refine br_t (by decide) (h0 ?_)
    rintro ⟨e, e10⟩
    have g := R.2.2.1 (ms_ix q1) (ms_ix q2) (by rw [e]; exact e10)
    rw [e] at g
    exact no _ g
theorem ms_ytake {post : SY → Prop} {T O : Nat → Nat → Nat} {n : Nat} {A B D : Nat → Nat} {x y z : Nat} (R : ms_R T O (ms_F (n + 1) A B D)) (hn : n + 1 ≤ 16) (e : T x y = z) (z10 : z ≠ 10)
    (h : ∀ f, ms_F (n + 1) A B D f x y z → post (nI n, ms_N (ms_u A f (A n)), ms_N (ms_u B f (B n)), ms_N (ms_u D f (D n)))) : wpY_takeOut post (nI (n + 1), ms_N A, ms_N B, ms_N D) (nI x) (nI y) (nI z) := by
  have k := ms_RK R x y (by rw [e]; exact z10)
  rw [e] at k
  have g := R.2.2.1 x y (by rw [e]; exact z10)
  rw [e] at g
  unfold wpY_takeOut
  dsimp only
  refine ms_yfind R hn ?_ ?_
  · rw [ms_ix_n k.1, ms_ix_n k.2.1, ms_ix_n k.2.2.1]
    intro f gf
    have hf := gf.1
    have hf16 : f < 16 := by omega
    have hn16 : n < 16 := by omega
    refine br_f (nI_pos (by omega)) (nm_r (nI_pred n) ?_)
    have hv : vp_in (nI f) 16 := vp_in_nI hf16 (by decide)
    have hw : vp_in (nI n) 16 := vp_in_nI hn16 (by decide)
    rw [ms_N_at A hn16, ms_N_at B hn16, ms_N_at D hn16]
    exact ⟨hw, hv, nm_r (ms_N_up A hf16) ⟨hw, hv, nm_r (ms_N_up B hf16) ⟨hw, hv, nm_r (ms_N_up D hf16) (h f gf)⟩⟩⟩
  · rw [ms_ix_n k.1, ms_ix_n k.2.1, ms_ix_n k.2.2.1]
    intro no
    exact absurd g (no _)
theorem ms_ysize {post : Int32 → Prop} {v : SY} {s : Nat} (hs : s < 1024) (h : post (nI (ms_pc s))) : wpY_size post v (nI s) := by
  obtain ⟨k, a1, a2, a3⟩ := v
  refine loop_0 (fun n i (c : Nat) => wY_size_4 post (nI s) k a1 a2 a3 n (nI c) (nI i)) (fun i c => c = ms_cnt s.testBit i) 10 0 rfl ?_ ?_
  · intro n c hc
    subst hc
    exact br_t (nI_le (a := 10) (by omega) (by decide)) h
  · intro n i c hi hc ih
    cases e : s.testBit i
    · refine br_f (nI_ge (b := 10) hi (by decide)) (nm_r (e' := nI c) ?_ (nm_r (nI_1 i) (ih c ?_)))
      · rw [ms_bit_f hs hi e, nI_add]; rfl
      · unfold ms_cnt; rw [if_neg (by rw [e]; decide), hc]; rfl
    · refine br_f (nI_ge (b := 10) hi (by decide)) (nm_r (e' := nI (c + 1)) ?_ (nm_r (nI_1 i) (ih (c + 1) ?_)))
      · rw [ms_bit_t hs hi e, nI_add]
      · unfold ms_cnt; rw [if_pos e, hc]
/-- x is in face j -/
def ms_in (A B D : Nat → Nat) (j x : Nat) : Prop := A j = x ∨ B j = x ∨ D j = x
theorem ms_in_e {T O : Nat → Nat → Nat} {n : Nat} {A B D : Nat → Nat} (R : ms_R T O (ms_F n A B D)) (x : Nat) : (∃ y, T x y ≠ 10) ↔ ∃ j, j < n ∧ ms_in A B D j x := by
  constructor
  · rintro ⟨y, hy⟩
    have g := R.2.2.1 x y hy
    refine ⟨_, g.1, ?_⟩
    rcases g.2 with q | q | q
    · exact Or.inl q.1
    · exact Or.inr (Or.inl q.1)
    · exact Or.inr (Or.inr q.1)
  · rintro ⟨j, hj, q⟩
    have f := ms_Fi R hj
    rcases q with q | q | q
    · exact ⟨B j, by rw [← q, f.2.2.2.2.2.2.1]; exact Nat.ne_of_lt f.2.2.1⟩
    · exact ⟨D j, by rw [← q, f.2.2.2.2.2.2.2.1]; exact Nat.ne_of_lt f.1⟩
    · exact ⟨A j, by rw [← q, f.2.2.2.2.2.2.2.2]; exact Nat.ne_of_lt f.2.1⟩
theorem ms_or3 {s a b c : Nat} (ha : a < 10) (hb : b < 10) (hc : c < 10) : ((nI s ||| ((1 : Int32) <<< (nI a &&& 31))) ||| ((1 : Int32) <<< (nI b &&& 31))) ||| ((1 : Int32) <<< (nI c &&& 31)) = nI (((s ||| 2 ^ a) ||| 2 ^ b) ||| 2 ^ c) := by
  rw [ms_sh ha, ms_sh hb, ms_sh hc, ms_or, ms_or, ms_or]
theorem ms_or3_lt {s a b c : Nat} (hs : s < 1024) (ha : a < 10) (hb : b < 10) (hc : c < 10) : ((s ||| 2 ^ a) ||| 2 ^ b) ||| 2 ^ c < 1024 := ms_lt (ms_lt (ms_lt hs (ms_pow ha)) (ms_pow hb)) (ms_pow hc)
theorem ms_or3_b (s a b c x : Nat) : (((s ||| 2 ^ a) ||| 2 ^ b) ||| 2 ^ c).testBit x = true ↔ (s.testBit x = true ∨ a = x ∨ b = x ∨ c = x) := by
  rw [Nat.testBit_or, Nat.testBit_or, Nat.testBit_or, ms_tb2, ms_tb2, ms_tb2]
  simp [or_assoc]
theorem ms_yvert {post : Int32 → Prop} {T O : Nat → Nat → Nat} {n p : Nat} {A B D : Nat → Nat} (R : ms_R T O (ms_F n A B D)) (hn : n ≤ 16) (hp : p < 1024) (vx : ms_vx T p) (h : post (nI p)) : wpY_vertices post (nI n, ms_N A, ms_N B, ms_N D) := by
  refine loop_0 (fun k i (s : Nat) => wY_vertices_4 post (nI n) (ms_N A) (ms_N B) (ms_N D) k (nI s) (nI i)) (fun i s => s < 1024 ∧ ∀ x, s.testBit x = true ↔ ∃ j, j < i ∧ ms_in A B D j x) n 0 ⟨by decide, ?_⟩ ?_ ?_
  · intro x
    rw [Nat.zero_testBit]
    exact ⟨fun q => absurd q (by decide), fun ⟨j, hj, _⟩ => absurd hj (Nat.not_lt_zero _)⟩
  · rintro k s ⟨hs, hb⟩
    have : s = p := by
      apply ms_ext hs hp
      intro x hx
      apply Bool.eq_iff_iff.mpr
      rw [hb x, vx x hx, ms_in_e R]
    rw [this]
    exact br_t (nI_le (Nat.le_refl n) (by omega)) h
  · rintro k i s hi ⟨hs, hb⟩ ih
    have f := ms_Fi R hi
    have hi16 : i < 16 := by omega
    have hv : vp_in (nI i) 16 := vp_in_nI hi16 (by decide)
    refine br_f (nI_ge hi (by omega)) ⟨hv, hv, hv, nm_r (e' := nI (((s ||| 2 ^ A i) ||| 2 ^ B i) ||| 2 ^ D i)) ?_ (nm_r (nI_1 i) (ih _ ⟨ms_or3_lt hs f.1 f.2.1 f.2.2.1, ?_⟩))⟩
    · rw [ms_N_at A hi16, ms_N_at B hi16, ms_N_at D hi16, ms_or3 f.1 f.2.1 f.2.2.1]
    · intro x
      rw [ms_or3_b, hb x]
      constructor
      · rintro (⟨j, hj, q⟩ | q)
        · exact ⟨j, by omega, q⟩
        · exact ⟨i, by omega, q⟩
      · rintro ⟨j, hj, q⟩
        by_cases ej : j = i
        · rw [ej] at q; exact Or.inr q
        · exact Or.inl ⟨j, by omega, q⟩
theorem ms_clr {s a : Nat} (hs : s < 1024) (ha : a < 10) : ∃ s', s' < 1024 ∧ nI s &&& (((1 : Int32) <<< (nI a &&& 31)) ^^^ (-1)) = nI s' ∧ ∀ x, x < 10 → s'.testBit x = (s.testBit x && decide (x ≠ a)) := by
  refine ⟨s &&& (2 ^ a ^^^ (2 ^ 32 - 1)), Nat.lt_of_le_of_lt Nat.and_le_left hs, ?_, ?_⟩
  · rw [ms_sh ha, ← nx_and, ← nx_xor]
    rfl
  · intro x hx
    rw [Nat.testBit_and, Nat.testBit_xor, ms_tb2, Nat.testBit_two_pow_sub_one]
    by_cases e : a = x
    · subst e
      have : a < 32 := by omega
      simp [this]
    · have : x < 32 := by omega
      have e2 : ¬ x = a := fun q => e q.symm
      simp [this, e, e2]
