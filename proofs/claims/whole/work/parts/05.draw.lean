/-! a vertex drawn into another: b is handed over to a, arrow by arrow -/
def ms_rn (a b x : Nat) : Nat := if x = b then a else x
def ms_rk (a b k x y : Nat) : Nat := if x = b ∧ y < k then a else x
def ms_Gk (G : Nat → Nat → Nat → Nat → Prop) (a b k i x y z : Nat) : Prop := ∃ x' y' z', G i x' y' z' ∧ x = ms_rk a b k x' y' ∧ y = ms_rk a b k y' z' ∧ z = ms_rk a b k z' x'
def ms_Gn (G : Nat → Nat → Nat → Nat → Prop) (a b i x y z : Nat) : Prop := ∃ x' y' z', G i x' y' z' ∧ x = ms_rn a b x' ∧ y = ms_rn a b y' ∧ z = ms_rn a b z'
theorem ms_Gf {T O : Nat → Nat → Nat} {G : Nat → Nat → Nat → Nat → Prop} (h : ms_R T O G) {i x y z : Nat} (g : G i x y z) :
    x < 10 ∧ y < 10 ∧ z < 10 ∧ x ≠ y ∧ y ≠ z ∧ z ≠ x ∧ T x y = z ∧ T y z = x ∧ T z x = y ∧ O x y = i ∧ O y z = i ∧ O z x = i := by
  obtain ⟨h1, h2, h3, h4⟩ := h
  have g2 := h1 _ _ _ _ g
  have g3 := h1 _ _ _ _ g2
  have f1 := h2 _ _ _ _ g
  have f2 := h2 _ _ _ _ g2
  have f3 := h2 _ _ _ _ g3
  exact ⟨f1.2.2.1, f2.2.2.1, f3.2.2.1, f1.2.2.2, f2.2.2.2, f3.2.2.2, f1.1, f2.1, f3.1, f1.2.1, f2.2.1, f3.2.1⟩
theorem ms_rk0 (a b x y : Nat) : ms_rk a b 0 x y = x := if_neg (fun q => absurd q.2 (Nat.not_lt_zero _))
theorem ms_rk_n {a b k x y : Nat} (h : x ≠ b) : ms_rk a b k x y = x := if_neg (fun q => h q.1)
theorem ms_rk_t {a b k y : Nat} (h : y < k) : ms_rk a b k b y = a := if_pos ⟨rfl, h⟩
theorem ms_rk_f {a b k x y : Nat} (h : ¬ y < k) : ms_rk a b k x y = x := if_neg (fun q => h q.2)
theorem ms_rk_s {a b k x y : Nat} (h : ¬ (x = b ∧ y = k)) : ms_rk a b (k + 1) x y = ms_rk a b k x y := by
  unfold ms_rk
  by_cases e : x = b ∧ y < k
  · rw [if_pos e, if_pos ⟨e.1, by omega⟩]
  · rw [if_neg e, if_neg (by omega)]
theorem ms_rk_o {a b k x y z : Nat} (h : z = ms_rk a b k x y) : (x = b ∧ y < k ∧ z = a) ∨ z = x := by
  unfold ms_rk at h
  by_cases e : x = b ∧ y < k
  · rw [if_pos e] at h; exact Or.inl ⟨e.1, e.2, h⟩
  · rw [if_neg e] at h; exact Or.inr h
theorem ms_Gk0 {T O : Nat → Nat → Nat} {G : Nat → Nat → Nat → Nat → Prop} (a b : Nat) (h : ms_R T O G) : ms_R T O (ms_Gk G a b 0) := by
  refine ms_Rcg h ?_
  intro i x y z
  unfold ms_Gk
  constructor
  · rintro ⟨x', y', z', g, e1, e2, e3⟩
    rw [ms_rk0] at e1 e2 e3
    rw [e1, e2, e3]; exact g
  · intro g
    exact ⟨x, y, z, g, (ms_rk0 _ _ _ _).symm, (ms_rk0 _ _ _ _).symm, (ms_rk0 _ _ _ _).symm⟩
theorem ms_GkC {G : Nat → Nat → Nat → Nat → Prop} {a b k i : Nat} (key : ∀ x y z, G i x y z → ms_rk a b (k + 1) x y = ms_rk a b k x y) (rot : ∀ x y z, G i x y z → G i y z x) (x y z : Nat) : ms_Gk G a b (k + 1) i x y z ↔ ms_Gk G a b k i x y z := by
  unfold ms_Gk
  constructor
  · rintro ⟨x', y', z', g, e1, e2, e3⟩
    have g2 := rot _ _ _ g
    have g3 := rot _ _ _ g2
    exact ⟨x', y', z', g, e1.trans (key _ _ _ g), e2.trans (key _ _ _ g2), e3.trans (key _ _ _ g3)⟩
  · rintro ⟨x', y', z', g, e1, e2, e3⟩
    have g2 := rot _ _ _ g
    have g3 := rot _ _ _ g2
    exact ⟨x', y', z', g, e1.trans (key _ _ _ g).symm, e2.trans (key _ _ _ g2).symm, e3.trans (key _ _ _ g3).symm⟩
theorem ms_hoN {T0 O0 Tk O : Nat → Nat → Nat} {G : Nat → Nat → Nat → Nat → Prop} {a b k : Nat} (R0 : ms_R T0 O0 G) (R : ms_R Tk O (ms_Gk G a b k)) (h : Tk b k = 10) : ms_R Tk O (ms_Gk G a b (k + 1)) := by
  refine ms_Rcg R ?_
  intro i
  apply ms_GkC
  · intro x y z g
    apply ms_rk_s
    rintro ⟨rfl, rfl⟩
    have f := ms_Gf R0 g
    have gk : ms_Gk G a x y i x y z := ⟨x, y, z, g, (ms_rk_f (Nat.lt_irrefl _)).symm, (ms_rk_n (Ne.symm f.2.2.2.1)).symm, (ms_rk_n f.2.2.2.2.2.1).symm⟩
    have := (ms_Gf R gk).2.2.2.2.2.2.1
    omega
  · exact R0.1 i
theorem ms_hoS {T0 O0 Tk O : Nat → Nat → Nat} {G : Nat → Nat → Nat → Nat → Prop} {a b k w : Nat} (R0 : ms_R T0 O0 G) (hab : a ≠ b) (ha : a < 10)
    (tab : T0 a b = 10) (tba : T0 b a = 10) (H1 : ∀ v, T0 a v ≠ 10 → T0 b v = 10) (H2 : ∀ v, T0 v a ≠ 10 → T0 v b = 10)
    (R : ms_R Tk O (ms_Gk G a b k)) (hw : Tk b k = w) (w10 : w ≠ 10) :
    w < 10 ∧ (∃ O2, ms_R (ms_put (ms_drop Tk b k w) a k w) O2 (ms_Gk G a b (k + 1))) ∧ ms_cn (ms_put (ms_drop Tk b k w) a k w) = ms_cn Tk := by
  have gk := R.2.2.1 b k (by omega)
  rw [hw] at gk
  have kk := ms_Gf R gk
  have g : G (O b k) b k w := by
    obtain ⟨x', y', z', g, e1, e2, e3⟩ := gk
    have f := ms_Gf R0 g
    have hx : b = x' := by
      rcases ms_rk_o e1 with q | q
      · exact absurd q.2.2.symm hab
      · exact q
    subst hx
    have hy : k = y' := by
      rcases ms_rk_o e2 with q | q
      · exact absurd q.1.symm f.2.2.2.1
      · exact q
    have hz : w = z' := by
      rcases ms_rk_o e3 with q | q
      · exact absurd q.1 f.2.2.2.2.2.1
      · exact q
    rw [hy, hz]; rw [hy] at g; exact g
  obtain ⟨hb, hk, hw9, hbk, hkw, hwb, t1, t2, t3, o1, o2, o3⟩ := ms_Gf R0 g
  have hak : a ≠ k := by rintro rfl; omega
  have hwa : w ≠ a := by rintro rfl; omega
  have s1 : Tk a k = 10 := by
    by_cases e : Tk a k = 10
    · exact e
    · exfalso
      obtain ⟨x2, y2, z2, g2, q1, q2, q3⟩ := R.2.2.1 a k e
      have f2 := ms_Gf R0 g2
      have hy : k = y2 := by
        rcases ms_rk_o q2 with q | q
        · exact absurd q.2.2.symm hak
        · exact q
      subst hy
      rcases ms_rk_o q1 with q | q
      · exact absurd q.2.1 (Nat.lt_irrefl _)
      · subst q
        have := H1 k (by have := f2.2.2.1; have := f2.2.2.2.2.2.2.1; omega)
        omega
  have s3 : Tk w a = 10 := by
    by_cases e : Tk w a = 10
    · exact e
    · exfalso
      obtain ⟨x2, y2, z2, g2, q1, q2, q3⟩ := R.2.2.1 w a e
      have f2 := ms_Gf R0 g2
      have hx : w = x2 := by
        rcases ms_rk_o q1 with q | q
        · exact absurd q.2.2 hwa
        · exact q
      subst hx
      rcases ms_rk_o q2 with q | q
      · have e1 := f2.2.2.2.2.2.2.1
        rw [q.1, t3] at e1
        omega
      · subst q
        have := H2 w (by have := f2.2.2.1; have := f2.2.2.2.2.2.2.1; omega)
        omega
  have d1 : ms_drop Tk b k w a k = 10 := by
    rw [ms_drop_e]; split; rfl; split; rfl; split; rfl; exact s1
  have d2 : ms_drop Tk b k w k w = 10 := by
    rw [ms_drop_e]; split; rfl; rw [if_pos ⟨rfl, rfl⟩]
  have d3 : ms_drop Tk b k w w a = 10 := by
    rw [ms_drop_e]; split; rfl; split; rfl; split; rfl; exact s3
  have R2 := ms_Rad (ms_Rrm R gk) (i := O b k) (fun a b c q => q.2 rfl) ha hk hw9 hak hkw hwa d1 d2 d3
  refine ⟨hw9, ⟨_, ms_Rcg R2 ?_⟩, ?_⟩
  · intro i x y z
    by_cases e : i = O b k
    · subst e
      have r1 : ms_rk a b (k + 1) b k = a := ms_rk_t (Nat.lt_succ_self _)
      have r2 : ms_rk a b (k + 1) k w = k := ms_rk_n (Ne.symm hbk)
      have r3 : ms_rk a b (k + 1) w b = w := ms_rk_n hwb
      constructor
      · rintro ⟨x2, y2, z2, g2, q1, q2, q3⟩
        refine Or.inr ⟨rfl, ?_⟩
        rcases R0.2.2.2 _ _ _ _ _ _ _ g g2 with ⟨w1, w2, w3⟩ | ⟨w1, w2, w3⟩ | ⟨w1, w2, w3⟩
        · rw [w1, w2] at q1; rw [w2, w3] at q2; rw [w3, w1] at q3
          exact Or.inl ⟨q1.trans r1, q2.trans r2, q3.trans r3⟩
        · rw [w1, w2] at q1; rw [w2, w3] at q2; rw [w3, w1] at q3
          exact Or.inr (Or.inl ⟨q1.trans r2, q2.trans r3, q3.trans r1⟩)
        · rw [w1, w2] at q1; rw [w2, w3] at q2; rw [w3, w1] at q3
          exact Or.inr (Or.inr ⟨q1.trans r3, q2.trans r1, q3.trans r2⟩)
      · rintro (q | ⟨_, q⟩)
        · exact absurd rfl q.2
        · have g2 := R0.1 _ _ _ _ g
          have g3 := R0.1 _ _ _ _ g2
          rcases q with ⟨q1, q2, q3⟩ | ⟨q1, q2, q3⟩ | ⟨q1, q2, q3⟩
          · exact ⟨b, k, w, g, q1.trans r1.symm, q2.trans r2.symm, q3.trans r3.symm⟩
          · exact ⟨k, w, b, g2, q1.trans r2.symm, q2.trans r3.symm, q3.trans r1.symm⟩
          · exact ⟨w, b, k, g3, q1.trans r3.symm, q2.trans r1.symm, q3.trans r2.symm⟩
    · rw [ms_GkC (G := G) (a := a) (b := b) (k := k) (i := i) ?_ (R0.1 i) x y z]
      · exact ⟨fun q => Or.inl ⟨q, e⟩, fun q => q.elim (fun q => q.1) (fun q => absurd q.1 e)⟩
      · intro x2 y2 z2 g2
        apply ms_rk_s
        rintro ⟨rfl, rfl⟩
        exact e ((ms_Gf R0 g2).2.2.2.2.2.2.2.2.2.1.symm.trans o1)
  · obtain ⟨_, _, _, _, _, _, u1, u2, u3, _⟩ := kk
    have c1 := ms_cn_drop (T := Tk) hb hk hw9 hbk hkw hwb (by omega) (by omega) (by omega)
    have c2 := ms_cn_put (T := ms_drop Tk b k w) ha hk hw9 hak hkw hwa d1 d2 d3
    omega
theorem ms_hoE {T0 O0 Tk O : Nat → Nat → Nat} {G : Nat → Nat → Nat → Nat → Prop} {a b : Nat} (R0 : ms_R T0 O0 G) (R : ms_R Tk O (ms_Gk G a b 10)) : ms_R Tk O (ms_Gn G a b) := by
  have key : ∀ x y, y < 10 → ms_rn a b x = ms_rk a b 10 x y := by
    intro x y h
    unfold ms_rn ms_rk
    by_cases e : x = b
    · rw [if_pos e, if_pos ⟨e, h⟩]
    · rw [if_neg e, if_neg (fun q => e q.1)]
  refine ms_Rcg R ?_
  intro i x y z
  constructor
  · rintro ⟨x', y', z', g, e1, e2, e3⟩
    have f := ms_Gf R0 g
    exact ⟨x', y', z', g, e1.trans (key _ _ f.2.1), e2.trans (key _ _ f.2.2.1), e3.trans (key _ _ f.1)⟩
  · rintro ⟨x', y', z', g, e1, e2, e3⟩
    have f := ms_Gf R0 g
    exact ⟨x', y', z', g, e1.trans (key _ _ f.2.1).symm, e2.trans (key _ _ f.2.2.1).symm, e3.trans (key _ _ f.1).symm⟩
