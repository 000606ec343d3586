/-! the drawn surface is a surface -/
theorem ms_rn_n {a b x : Nat} (h : x ≠ b) : ms_rn a b x = x := if_neg h
theorem ms_rn_b (a b : Nat) : ms_rn a b b = a := if_pos rfl
theorem ms_rn_o (a b x : Nat) : (x = b ∧ ms_rn a b x = a) ∨ (x ≠ b ∧ ms_rn a b x = x) := by
  by_cases e : x = b
  · exact Or.inl ⟨e, if_pos e⟩
  · exact Or.inr ⟨e, if_neg e⟩
theorem ms_cnt_rem (f : Nat → Bool) (j : Nat) : ∀ k, ms_cnt f k ≤ ms_cnt (fun i => f i && decide (i ≠ j)) k + 1 := by
  intro k
  by_cases hj : j < k
  · by_cases hf : f j = true
    · have := ms_cnt_up (f := fun i => f i && decide (i ≠ j)) (g := f) (j := j) (by simp) hf (by intro i hi; simp [hi]) k hj
      omega
    · rw [ms_cnt_cg (f := f) (g := fun i => f i && decide (i ≠ j)) k]
      · omega
      · intro i _
        by_cases e : i = j
        · subst e; simp [hf]
        · simp [e]
  · rw [ms_cnt_cg (f := f) (g := fun i => f i && decide (i ≠ j)) k]
    · omega
    · intro i hi
      have : i ≠ j := by omega
      simp [this]
theorem ms_cnt_0 {f : Nat → Bool} : ∀ k, (∀ i, i < k → f i = false) → ms_cnt f k = 0 := by
  intro k
  induction k with
  | zero => intro _; rfl
  | succ k ih => intro h; unfold ms_cnt; rw [ih (fun i hi => h i (by omega)), h k (by omega)]; rfl
theorem ms_pc4 {p a b c d : Nat} (h : ∀ x, x < 10 → p.testBit x = true → x = a ∨ x = b ∨ x = c ∨ x = d) : ms_pc p ≤ 4 := by
  unfold ms_pc
  have h1 := ms_cnt_rem p.testBit a 10
  have h2 := ms_cnt_rem (fun i => p.testBit i && decide (i ≠ a)) b 10
  have h3 := ms_cnt_rem (fun i => (p.testBit i && decide (i ≠ a)) && decide (i ≠ b)) c 10
  have h4 := ms_cnt_rem (fun i => ((p.testBit i && decide (i ≠ a)) && decide (i ≠ b)) && decide (i ≠ c)) d 10
  have h5 := ms_cnt_0 (f := fun i => (((p.testBit i && decide (i ≠ a)) && decide (i ≠ b)) && decide (i ≠ c)) && decide (i ≠ d)) 10 (by
    intro i hi
    cases e : p.testBit i
    · rfl
    · rcases h i hi e with q | q | q | q <;> simp [q])
  omega
def ms_six (a b c d x y : Nat) : Prop := (x = a ∧ y = b) ∨ (x = b ∧ y = c) ∨ (x = c ∧ y = a) ∨ (x = b ∧ y = a) ∨ (x = a ∧ y = d) ∨ (x = d ∧ y = b)
def ms_ne (a b c d : Nat) : Prop := a ≠ b ∧ c ≠ a ∧ c ≠ b ∧ d ≠ a ∧ d ≠ b ∧ c ≠ d
/-- the edge a b with its two faces -/
def ms_ed (T : Nat → Nat → Nat) (a b c d : Nat) : Prop := T a b = c ∧ T b c = a ∧ T c a = b ∧ T b a = d ∧ T a d = b ∧ T d b = a
def ms_en (T : Nat → Nat → Nat) (a b c d : Nat) : Prop := T a b ≠ 10 ∧ T b c ≠ 10 ∧ T c a ≠ 10 ∧ T b a ≠ 10 ∧ T a d ≠ 10 ∧ T d b ≠ 10
theorem ms_edge {T : Nat → Nat → Nat} {a b c d : Nat} (K : ms_K T) (cl : ms_cl T) (nd : ms_nd T) (hc : T a b = c) (hd : T b a = d) (hc10 : c ≠ 10) :
    (a < 10 ∧ b < 10 ∧ c < 10 ∧ d < 10) ∧ ms_ne a b c d ∧ ms_ed T a b c d ∧ ms_en T a b c d := by
  have n1 : T a b ≠ 10 := by rw [hc]; exact hc10
  have n2 : T b a ≠ 10 := cl a b n1
  have hcd : c ≠ d := by have := nd a b n1; rw [hc, hd] at this; exact this
  have k1 := K a b n1
  have k2 := K b a n2
  rw [hc] at k1
  rw [hd] at k2
  obtain ⟨ha, hb, hcc, hab, hca, hcb, tbc, tca⟩ := k1
  obtain ⟨-, -, hdd, -, hdb, hda, tad, tdb⟩ := k2
  refine ⟨⟨ha, hb, hcc, hdd⟩, ⟨hab, hca, hcb, hda, hdb, hcd⟩, ⟨hc, tbc, tca, hd, tad, tdb⟩, n1, ?_, ?_, n2, ?_, ?_⟩
  · rw [tbc]; exact Nat.ne_of_lt ha
  · rw [tca]; exact Nat.ne_of_lt hb
  · rw [tad]; exact Nat.ne_of_lt hb
  · rw [tdb]; exact Nat.ne_of_lt ha
/-- the two faces taken out -/
theorem ms_two_e {T : Nat → Nat → Nat} {a b c d : Nat} (x y : Nat) : (ms_six a b c d x y → ms_drop (ms_drop T a b c) b a d x y = 10) ∧ (¬ ms_six a b c d x y → ms_drop (ms_drop T a b c) b a d x y = T x y) := by
  rw [ms_drop_e, ms_drop_e]
  unfold ms_six
  constructor
  · rintro (h | h | h | h | h | h)
    · rw [if_pos h]; split; rfl; split; rfl; split; rfl; split; rfl; split; rfl; rfl
    · rw [if_pos h]; split; rfl; split; rfl; split; rfl; split; rfl; rfl
    · rw [if_pos h]; split; rfl; split; rfl; split; rfl; rfl
    · rw [if_pos h]; split; rfl; split; rfl; rfl
    · rw [if_pos h]; split; rfl; rfl
    · rw [if_pos h]
  · intro h
    rw [if_neg (fun q => h (Or.inr (Or.inr (Or.inr (Or.inr (Or.inr q)))))), if_neg (fun q => h (Or.inr (Or.inr (Or.inr (Or.inr (Or.inl q)))))), if_neg (fun q => h (Or.inr (Or.inr (Or.inr (Or.inl q))))),
      if_neg (fun q => h (Or.inr (Or.inr (Or.inl q)))), if_neg (fun q => h (Or.inr (Or.inl q))), if_neg (fun q => h (Or.inl q))]
/-- T' is T without the two faces -/
def ms_wo (T T' : Nat → Nat → Nat) (a b c d : Nat) : Prop := ∀ x y, (ms_six a b c d x y ∧ T' x y = 10) ∨ (¬ ms_six a b c d x y ∧ T' x y = T x y)
theorem ms_wo_i {T : Nat → Nat → Nat} {a b c d : Nat} : ms_wo T (ms_drop (ms_drop T a b c) b a d) a b c d := by
  intro x y
  by_cases h : ms_six a b c d x y
  · exact Or.inl ⟨h, (ms_two_e x y).1 h⟩
  · exact Or.inr ⟨h, (ms_two_e x y).2 h⟩
theorem ms_wo_t {T T' : Nat → Nat → Nat} {a b c d : Nat} (W : ms_wo T T' a b c d) {x y : Nat} (h : T' x y ≠ 10) : T x y = T' x y ∧ T x y ≠ 10 ∧ ¬ ms_six a b c d x y := by
  rcases W x y with q | q
  · exact absurd q.2 h
  · exact ⟨q.2.symm, by rw [← q.2]; exact h, q.1⟩
theorem ms_wo_n {T T' : Nat → Nat → Nat} {a b c d : Nat} (W : ms_wo T T' a b c d) {x y : Nat} (h : T x y ≠ 10) (n : ¬ ms_six a b c d x y) : T' x y = T x y ∧ T' x y ≠ 10 := by
  rcases W x y with q | q
  · exact absurd q.1 n
  · exact ⟨q.2, by rw [q.2]; exact h⟩
theorem ms_wo_z {T T' : Nat → Nat → Nat} {a b c d : Nat} (W : ms_wo T T' a b c d) {x y : Nat} (n : ms_six a b c d x y) : T' x y = 10 := by
  rcases W x y with q | q
  · exact q.2
  · exact absurd n q.1
theorem ms_wo_4 {T T' : Nat → Nat → Nat} {a b c d : Nat} (W : ms_wo T T' a b c d) (N : ms_ne a b c d) (cl : ms_cl T) (En : ms_en T a b c d) :
    T' a c ≠ 10 ∧ T' c b ≠ 10 ∧ T' b d ≠ 10 ∧ T' d a ≠ 10 := by
  obtain ⟨hab, hca, hcb, hda, hdb, hcd⟩ := N
  obtain ⟨n1, n2, n3, n4, n5, n6⟩ := En
  refine ⟨(ms_wo_n W (cl _ _ n3) ?_).2, (ms_wo_n W (cl _ _ n2) ?_).2, (ms_wo_n W (cl _ _ n6) ?_).2, (ms_wo_n W (cl _ _ n5) ?_).2⟩ <;> (clear W cl n1 n2 n3 n4 n5 n6; unfold ms_six; omega)
/-- T'' is T' with b called a -/
def ms_br (T' T'' : Nat → Nat → Nat) (a b : Nat) : Prop :=
  (∀ x y, T' x y ≠ 10 → T'' (ms_rn a b x) (ms_rn a b y) = ms_rn a b (T' x y) ∧ T'' (ms_rn a b x) (ms_rn a b y) ≠ 10)
  ∧ (∀ x y, T'' x y ≠ 10 → ∃ x' y', T' x' y' ≠ 10 ∧ x = ms_rn a b x' ∧ y = ms_rn a b y' ∧ T'' x y = ms_rn a b (T' x' y'))
theorem ms_rn10 {a b z : Nat} (ha : a < 10) (hz : z < 10) : ms_rn a b z ≠ 10 := by
  rcases ms_rn_o a b z with q | q <;> omega
theorem ms_br_i {T' T'' O' O'' : Nat → Nat → Nat} {G : Nat → Nat → Nat → Nat → Prop} {a b : Nat} (ha : a < 10) (R0 : ms_R T' O' G) (R2 : ms_R T'' O'' (ms_Gn G a b)) : ms_br T' T'' a b := by
  constructor
  · intro x y h
    have g := R0.2.2.1 x y h
    have e := (ms_Gf R2 ⟨x, y, _, g, rfl, rfl, rfl⟩).2.2.2.2.2.2.1
    refine ⟨e, ?_⟩
    rw [e]
    exact ms_rn10 ha (ms_Gf R0 g).2.2.1
  · intro x y h
    obtain ⟨x', y', z', g, e1, e2, e3⟩ := R2.2.2.1 x y h
    have f := ms_Gf R0 g
    refine ⟨x', y', ?_, e1, e2, ?_⟩
    · rw [f.2.2.2.2.2.2.1]; exact Nat.ne_of_lt f.2.2.1
    · rw [e3, f.2.2.2.2.2.2.1]
theorem ms_br_4 {T' T'' : Nat → Nat → Nat} {a b c d : Nat} (Br : ms_br T' T'' a b) (N : ms_ne a b c d) (F : T' a c ≠ 10 ∧ T' c b ≠ 10 ∧ T' b d ≠ 10 ∧ T' d a ≠ 10) :
    T'' a c ≠ 10 ∧ T'' c a ≠ 10 ∧ T'' a d ≠ 10 ∧ T'' d a ≠ 10 := by
  obtain ⟨hab, hca, hcb, hda, hdb, hcd⟩ := N
  have ra := ms_rn_n (a := a) (b := b) hab
  have rb := ms_rn_b a b
  have rc := ms_rn_n (a := a) (b := b) hcb
  have rd := ms_rn_n (a := a) (b := b) hdb
  have m1 := (Br.1 a c F.1).2
  have m2 := (Br.1 c b F.2.1).2
  have m3 := (Br.1 b d F.2.2.1).2
  have m4 := (Br.1 d a F.2.2.2).2
  rw [ra, rc] at m1
  rw [rb, rc] at m2
  rw [rb, rd] at m3
  rw [ra, rd] at m4
  exact ⟨m1, m2, m3, m4⟩
theorem ms_co1 {T T' T'' : Nat → Nat → Nat} {a b c d : Nat} (cl : ms_cl T) (N : ms_ne a b c d) (W : ms_wo T T' a b c d) (Br : ms_br T' T'' a b) (M : T'' a c ≠ 10 ∧ T'' c a ≠ 10 ∧ T'' a d ≠ 10 ∧ T'' d a ≠ 10) : ms_cl T'' := by
  obtain ⟨hab, hca, hcb, hda, hdb, hcd⟩ := N
  have ra := ms_rn_n (a := a) (b := b) hab
  have rb := ms_rn_b a b
  have rc := ms_rn_n (a := a) (b := b) hcb
  have rd := ms_rn_n (a := a) (b := b) hdb
  intro x y h
  obtain ⟨x', y', h', ex, ey, _⟩ := Br.2 x y h
  have hT := ms_wo_t W h'
  have hr := cl x' y' hT.2.1
  by_cases n : ms_six a b c d y' x'
  · rcases n with q | q | q | q | q | q
    · exact absurd (Or.inr (Or.inr (Or.inr (Or.inl ⟨q.2, q.1⟩)))) hT.2.2
    · rw [q.1, rb] at ey; rw [q.2, rc] at ex; rw [ex, ey]; exact M.1
    · rw [q.1, rc] at ey; rw [q.2, ra] at ex; rw [ex, ey]; exact M.2.1
    · exact absurd (Or.inl ⟨q.2, q.1⟩) hT.2.2
    · rw [q.1, ra] at ey; rw [q.2, rd] at ex; rw [ex, ey]; exact M.2.2.1
    · rw [q.1, rd] at ey; rw [q.2, rb] at ex; rw [ex, ey]; exact M.2.2.2
  · rw [ex, ey]; exact (Br.1 y' x' (ms_wo_n W hr n).2).2
theorem ms_co3 {T T' T'' : Nat → Nat → Nat} {a b c d p p' : Nat} (vx : ms_vx T p) (N : ms_ne a b c d) (En : ms_en T a b c d) (W : ms_wo T T' a b c d) (Br : ms_br T' T'' a b) (M : T'' a c ≠ 10 ∧ T'' c a ≠ 10 ∧ T'' a d ≠ 10 ∧ T'' d a ≠ 10)
    (hp' : ∀ x, x < 10 → (p'.testBit x = true ↔ (p.testBit x = true ∧ x ≠ b))) : ms_vx T'' p' := by
  obtain ⟨hab, hca, hcb, hda, hdb, hcd⟩ := N
  intro x hx
  rw [hp' x hx, vx x hx]
  constructor
  · rintro ⟨⟨y, hy⟩, hxb⟩
    by_cases n : ms_six a b c d x y
    · rcases n with q | q | q | q | q | q
      · exact ⟨c, by rw [q.1]; exact M.1⟩
      · exact absurd q.1 hxb
      · exact ⟨a, by rw [q.1]; exact M.2.1⟩
      · exact absurd q.1 hxb
      · exact ⟨c, by rw [q.1]; exact M.1⟩
      · exact ⟨a, by rw [q.1]; exact M.2.2.2⟩
    · have := (Br.1 x y (ms_wo_n W hy n).2).2
      rw [ms_rn_n hxb] at this
      exact ⟨_, this⟩
  · rintro ⟨y, hy⟩
    obtain ⟨x', y', h', ex, ey, _⟩ := Br.2 x y hy
    rcases ms_rn_o a b x' with q | q
    · rw [q.2] at ex; rw [ex]; exact ⟨⟨b, En.1⟩, hab⟩
    · rw [q.2] at ex; rw [ex]; exact ⟨⟨y', (ms_wo_t W h').2.1⟩, q.1⟩
theorem ms_co4 {T T' T'' : Nat → Nat → Nat} {a b c d : Nat} (co : ms_co T) (N : ms_ne a b c d) (W : ms_wo T T' a b c d) (Br : ms_br T' T'' a b) (M : T'' a c ≠ 10 ∧ T'' c a ≠ 10 ∧ T'' a d ≠ 10 ∧ T'' d a ≠ 10) : ms_co T'' := by
  obtain ⟨hab, hca, hcb, hda, hdb, hcd⟩ := N
  have ra := ms_rn_n (a := a) (b := b) hab
  have rb := ms_rn_b a b
  have rc := ms_rn_n (a := a) (b := b) hcb
  have rd := ms_rn_n (a := a) (b := b) hdb
  intro S hS
  have main := co (fun x => S (ms_rn a b x)) (by
    intro x y h sx
    show S (ms_rn a b y)
    have sx' : S (ms_rn a b x) := sx
    by_cases n : ms_six a b c d x y
    · rcases n with q | q | q | q | q | q
      · rw [q.1, ra] at sx'; rw [q.2, rb]; exact sx'
      · rw [q.1, rb] at sx'; rw [q.2, rc]; exact hS a c M.1 sx'
      · rw [q.1, rc] at sx'; rw [q.2, ra]; exact hS c a M.2.1 sx'
      · rw [q.1, rb] at sx'; rw [q.2, ra]; exact sx'
      · rw [q.1, ra] at sx'; rw [q.2, rd]; exact hS a d M.2.2.1 sx'
      · rw [q.1, rd] at sx'; rw [q.2, rb]; exact hS d a M.2.2.2 sx'
    · exact hS _ _ (Br.1 x y (ms_wo_n W h n).2).2 sx')
  intro x y x' y' hx hy sx
  obtain ⟨x1, x2, h1, e1, _, _⟩ := Br.2 x x' hx
  obtain ⟨y1, y2, h2, e2, _, _⟩ := Br.2 y y' hy
  rw [e2]
  exact main x1 y1 x2 y2 (ms_wo_t W h1).2.1 (ms_wo_t W h2).2.1 (by rw [e1] at sx; exact sx)
/-- a tetrahedron by itself has four vertices -/
theorem ms_tet {T T' : Nat → Nat → Nat} {a b c d p : Nat} (K : ms_K T) (cl : ms_cl T) (vx : ms_vx T p) (co : ms_co T) (lk : ms_lk T) (Ed : ms_ed T a b c d) (En : ms_en T a b c d) (W : ms_wo T T' a b c d)
    (com : ∀ v, T a v ≠ 10 → T b v ≠ 10 → v = c ∨ v = d) (h4 : 4 < ms_pc p) (u w : Nat) (e1 : T' a u = w) (e2 : T' b w = u) (hu : u ≠ 10) (hw : w ≠ 10) : False := by
  have f1 := (ms_wo_t W (x := a) (y := u) (by rw [e1]; exact hw))
  have f2 := (ms_wo_t W (x := b) (y := w) (by rw [e2]; exact hu))
  have g1 := K a u f1.2.1
  have g2 := K b w f2.2.1
  rw [f1.1, e1] at g1
  rw [f2.1, e2] at g2
  obtain ⟨ga, gu, gw, gau, gwa, gwu, tuw, twa⟩ := g1
  obtain ⟨gb, -, -, gbw, gub, guw, twu, tub⟩ := g2
  have cu := com u f1.2.1 (cl _ _ (by rw [tub]; exact hw))
  have cw := com w (cl _ _ (by rw [twa]; exact hu)) f2.2.1
  have hud : u ≠ d := by
    rintro rfl
    exact f1.2.2 (Or.inr (Or.inr (Or.inr (Or.inr (Or.inl ⟨rfl, rfl⟩)))))
  have hu2 : u = c := Or.resolve_right cu hud
  have hw2 : w = d := Or.resolve_left cw (fun q => gwu (q.trans hu2.symm))
  subst hu2 hw2
  obtain ⟨tab, tbc, tca, tba, tad, tdb⟩ := Ed
  obtain ⟨n1, n2, n3, n4, n5, n6⟩ := En
  have f1' := f1.1.trans e1
  have f2' := f2.1.trans e2
  have la := lk a (fun y => y = b ∨ y = u ∨ y = w) (by
    intro y _ sy
    rcases sy with q | q | q
    · rw [q]; exact Or.inr (Or.inl tab)
    · rw [q]; exact Or.inr (Or.inr f1')
    · rw [q]; exact Or.inl tad) b
  have lb := lk b (fun y => y = a ∨ y = u ∨ y = w) (by
    intro y _ sy
    rcases sy with q | q | q
    · rw [q]; exact Or.inr (Or.inr tba)
    · rw [q]; exact Or.inl tbc
    · rw [q]; exact Or.inr (Or.inl f2')) a
  have lc := lk u (fun y => y = a ∨ y = b ∨ y = w) (by
    intro y _ sy
    rcases sy with q | q | q
    · rw [q]; exact Or.inr (Or.inl tca)
    · rw [q]; exact Or.inr (Or.inr tub)
    · rw [q]; exact Or.inl tuw) a
  have ld := lk w (fun y => y = a ∨ y = b ∨ y = u) (by
    intro y _ sy
    rcases sy with q | q | q
    · rw [q]; exact Or.inr (Or.inr twa)
    · rw [q]; exact Or.inl tdb
    · rw [q]; exact Or.inr (Or.inl twu)) a
  have all := co (fun x => x = a ∨ x = b ∨ x = u ∨ x = w) (by
    intro x y h sx
    rcases sx with q | q | q | q
    · rw [q] at h
      rcases la y n1 h (Or.inl rfl) with q | q | q
      · exact Or.inr (Or.inl q)
      · exact Or.inr (Or.inr (Or.inl q))
      · exact Or.inr (Or.inr (Or.inr q))
    · rw [q] at h
      rcases lb y n4 h (Or.inl rfl) with q | q | q
      · exact Or.inl q
      · exact Or.inr (Or.inr (Or.inl q))
      · exact Or.inr (Or.inr (Or.inr q))
    · rw [q] at h
      rcases lc y n3 h (Or.inl rfl) with q | q | q
      · exact Or.inl q
      · exact Or.inr (Or.inl q)
      · exact Or.inr (Or.inr (Or.inr q))
    · rw [q] at h
      rcases ld y (cl _ _ n5) h (Or.inl rfl) with q | q | q
      · exact Or.inl q
      · exact Or.inr (Or.inl q)
      · exact Or.inr (Or.inr (Or.inl q))) a
  have := ms_pc4 (p := p) (a := a) (b := b) (c := u) (d := w) (by
    intro x hx hbit
    obtain ⟨y, hy⟩ := (vx x hx).mp hbit
    exact all x b y n1 hy (Or.inl rfl))
  exact absurd h4 (Nat.not_lt.mpr this)
theorem ms_rn_eq {a b x1 x2 : Nat} (ex : ms_rn a b x1 = ms_rn a b x2) : x1 = x2 ∨ (x1 = a ∧ x2 = b) ∨ (x1 = b ∧ x2 = a) := by
  rcases ms_rn_o a b x1 with ⟨q, q'⟩ | ⟨q, q'⟩ <;> rcases ms_rn_o a b x2 with ⟨r, r'⟩ | ⟨r, r'⟩ <;> rw [q', r'] at ex
  · exact Or.inl (q.trans r.symm)
  · exact Or.inr (Or.inr ⟨q, ex.symm⟩)
  · exact Or.inr (Or.inl ⟨ex, r⟩)
  · exact Or.inl ex
theorem ms_diff {a b x1 y1 z1 x2 y2 z2 : Nat} (hab : a ≠ b) (ex : ms_rn a b x1 = ms_rn a b x2) (ey : ms_rn a b y1 = ms_rn a b y2) (ez : ms_rn a b z1 = ms_rn a b z2)
    (p1 : ¬ (x1 = a ∧ y1 = b)) (p2 : ¬ (x1 = b ∧ y1 = a)) (p3 : ¬ (y1 = a ∧ z1 = b)) (p4 : ¬ (y1 = b ∧ z1 = a)) (p5 : ¬ (z1 = a ∧ x1 = b)) (p6 : ¬ (z1 = b ∧ x1 = a)) (d1 : x1 ≠ y1) (d2 : y1 ≠ z1) (d3 : z1 ≠ x1) :
    (x1 = x2 ∧ y1 = y2 ∧ z1 = z2) ∨ (x1 = a ∧ x2 = b ∧ y1 = y2 ∧ z1 = z2) ∨ (x1 = b ∧ x2 = a ∧ y1 = y2 ∧ z1 = z2)
    ∨ (y1 = a ∧ y2 = b ∧ x1 = x2 ∧ z1 = z2) ∨ (y1 = b ∧ y2 = a ∧ x1 = x2 ∧ z1 = z2) ∨ (z1 = a ∧ z2 = b ∧ x1 = x2 ∧ y1 = y2) ∨ (z1 = b ∧ z2 = a ∧ x1 = x2 ∧ y1 = y2) := by
  rcases ms_rn_eq ex with sx | ⟨sx, sx'⟩ | ⟨sx, sx'⟩
  · rcases ms_rn_eq ey with sy | ⟨sy, sy'⟩ | ⟨sy, sy'⟩
    · rcases ms_rn_eq ez with sz | ⟨sz, sz'⟩ | ⟨sz, sz'⟩
      · exact Or.inl ⟨sx, sy, sz⟩
      · exact Or.inr (Or.inr (Or.inr (Or.inr (Or.inr (Or.inl ⟨sz, sz', sx, sy⟩)))))
      · exact Or.inr (Or.inr (Or.inr (Or.inr (Or.inr (Or.inr ⟨sz, sz', sx, sy⟩)))))
    · rcases ms_rn_eq ez with sz | ⟨sz, sz'⟩ | ⟨sz, sz'⟩
      · exact Or.inr (Or.inr (Or.inr (Or.inl ⟨sy, sy', sx, sz⟩)))
      · exact absurd (sy.trans sz.symm) d2
      · exact absurd ⟨sy, sz⟩ p3
    · rcases ms_rn_eq ez with sz | ⟨sz, sz'⟩ | ⟨sz, sz'⟩
      · exact Or.inr (Or.inr (Or.inr (Or.inr (Or.inl ⟨sy, sy', sx, sz⟩))))
      · exact absurd ⟨sy, sz⟩ p4
      · exact absurd (sy.trans sz.symm) d2
  · rcases ms_rn_eq ey with sy | ⟨sy, sy'⟩ | ⟨sy, sy'⟩
    · rcases ms_rn_eq ez with sz | ⟨sz, sz'⟩ | ⟨sz, sz'⟩
      · exact Or.inr (Or.inl ⟨sx, sx', sy, sz⟩)
      · exact absurd (sz.trans sx.symm) d3
      · exact absurd ⟨sz, sx⟩ p6
    · exact absurd (sx.trans sy.symm) d1
    · exact absurd ⟨sx, sy⟩ p1
  · rcases ms_rn_eq ey with sy | ⟨sy, sy'⟩ | ⟨sy, sy'⟩
    · rcases ms_rn_eq ez with sz | ⟨sz, sz'⟩ | ⟨sz, sz'⟩
      · exact Or.inr (Or.inr (Or.inl ⟨sx, sx', sy, sz⟩))
      · exact absurd ⟨sz, sx⟩ p5
      · exact absurd (sz.trans sx.symm) d3
    · exact absurd ⟨sx, sy⟩ p2
    · exact absurd (sx.trans sy.symm) d1
theorem ms_co2 {T T' T'' O' : Nat → Nat → Nat} {G : Nat → Nat → Nat → Nat → Prop} {a b c d : Nat} (nd : ms_nd T) (hab : a ≠ b) (R0 : ms_R T' O' G) (W : ms_wo T T' a b c d) (Br : ms_br T' T'' a b)
    (tet : ∀ u w, T' a u = w → T' b w = u → u ≠ 10 → w ≠ 10 → False) : ms_nd T'' := by
  have K' := ms_RK R0
  have z1 : T' a b = 10 := ms_wo_z W (Or.inl ⟨rfl, rfl⟩)
  have z2 : T' b a = 10 := ms_wo_z W (Or.inr (Or.inr (Or.inr (Or.inl ⟨rfl, rfl⟩))))
  have no : ∀ x y, T' x y ≠ 10 → ¬ (x = a ∧ y = b) ∧ ¬ (x = b ∧ y = a) := by
    intro x y h
    exact ⟨fun q => h (by rw [q.1, q.2]; exact z1), fun q => h (by rw [q.1, q.2]; exact z2)⟩
  intro x y h e
  obtain ⟨x1, y1, h1, ex1, ey1, ez1⟩ := Br.2 x y h
  obtain ⟨y2, x2, h2, ey2, ex2, ez2⟩ := Br.2 y x (by rw [← e]; exact h)
  have f1 := K' x1 y1 h1
  have f2 := K' y2 x2 h2
  have g1 := ms_wo_t W h1
  have g2 := ms_wo_t W h2
  have n1 := nd x1 y1 g1.2.1
  rw [ez1, ez2] at e
  rw [g1.1] at n1
  have g21 := g2.1
  obtain ⟨u1, hz1⟩ : ∃ u, T' x1 y1 = u := ⟨_, rfl⟩
  obtain ⟨u2, hz2⟩ : ∃ u, T' y2 x2 = u := ⟨_, rfl⟩
  rw [hz1] at f1 n1 e h1
  rw [hz2] at f2 g21 e h2
  obtain ⟨a1, a2, a3, a4, a5, a6, a7, a8⟩ := f1
  obtain ⟨b1, b2, b3, b4, b5, b6, b7, b8⟩ := f2
  have i10 : ∀ {z : Nat}, z < 10 → z ≠ 10 := fun hz => Nat.ne_of_lt hz
  have q1 := no x1 y1 (by rw [hz1]; exact h1)
  have q2 := no y1 u1 (by rw [a7]; exact i10 a1)
  have q3 := no u1 x1 (by rw [a8]; exact i10 a2)
  rcases ms_diff hab (ex1.symm.trans ex2) (ey1.symm.trans ey2) e q1.1 q1.2 q2.1 q2.2 q3.1 q3.2 a4 (Ne.symm a6) a5 with r | r | r | r | r | r | r
  · obtain ⟨r1, r2, r3⟩ := r
    rw [← r1, ← r2] at g21
    exact n1 (r3.trans g21.symm)
  · obtain ⟨r1, r2, r3, r4⟩ := r
    rw [r1] at hz1
    rw [r2, ← r3, ← r4] at b7
    exact tet y1 u1 hz1 b7 (i10 a2) h1
  · obtain ⟨r1, r2, r3, r4⟩ := r
    rw [r1] at hz1
    rw [r2, ← r3, ← r4] at b7
    exact tet u1 y1 b7 hz1 h1 (i10 a2)
  · obtain ⟨r1, r2, r3, r4⟩ := r
    rw [r1] at a7
    rw [r2, ← r3, ← r4] at hz2
    exact tet u1 x1 a7 hz2 h1 (i10 a1)
  · obtain ⟨r1, r2, r3, r4⟩ := r
    rw [r1] at a7
    rw [r2, ← r3, ← r4] at hz2
    exact tet x1 u1 hz2 a7 (i10 a1) h1
  · obtain ⟨r1, r2, r3, r4⟩ := r
    rw [r1] at a8
    rw [r2, ← r3, ← r4] at b8
    exact tet x1 y1 a8 b8 (i10 a1) (i10 a2)
  · obtain ⟨r1, r2, r3, r4⟩ := r
    rw [r1] at a8
    rw [r2, ← r3, ← r4] at b8
    exact tet y1 x1 b8 a8 (i10 a2) (i10 a1)
theorem ms_co5 {T T' T'' O' : Nat → Nat → Nat} {G : Nat → Nat → Nat → Nat → Prop} {a b c d : Nat} (K : ms_K T) (cl : ms_cl T) (lk : ms_lk T) (N : ms_ne a b c d) (Ed : ms_ed T a b c d) (En : ms_en T a b c d) (R0 : ms_R T' O' G) (W : ms_wo T T' a b c d) (Br : ms_br T' T'' a b) : ms_lk T'' := by
  obtain ⟨hab, hca, hcb, hda, hdb, hcd⟩ := N
  obtain ⟨tab, tbc, tca, tba, tad, tdb⟩ := Ed
  obtain ⟨n1, n2, n3, n4, n5, n6⟩ := En
  have K' := ms_RK R0
  have z1 : T' a b = 10 := ms_wo_z W (Or.inl ⟨rfl, rfl⟩)
  have z2 : T' b a = 10 := ms_wo_z W (Or.inr (Or.inr (Or.inr (Or.inl ⟨rfl, rfl⟩))))
  have ra := ms_rn_n (a := a) (b := b) hab
  have rb := ms_rn_b a b
  intro w S hS
  have st : ∀ y z, T'' w y = z → z ≠ 10 → S y → S z := by
    intro y z e h s
    have := hS y (by rw [e]; exact h) s
    rw [e] at this; exact this
  by_cases wa : w = a
  · rw [wa] at hS st ⊢
    have va : ∀ y, T a y ≠ 10 → y ≠ b → y ≠ d → T a y ≠ b ∧ T'' a y = T a y := by
      intro y h m1 m2
      have e1 := ms_wo_n W h (by
        rintro (q | q | q | q | q | q)
        · exact m1 q.2
        · exact hab q.1
        · exact hca q.1.symm
        · exact hab q.1
        · exact m2 q.2
        · exact hda q.1.symm)
      have nb : T a y ≠ b := by
        intro e
        have := (K a y h).2.2.2.2.2.2.2
        rw [e, tba] at this; exact m2 this.symm
      refine ⟨nb, ?_⟩
      have := (Br.1 a y e1.2).1
      rw [ra, ms_rn_n m1, e1.1, ms_rn_n nb] at this; exact this
    have vb : ∀ y, T b y ≠ 10 → y ≠ a → y ≠ c → T b y ≠ a ∧ T'' a y = T b y := by
      intro y h m1 m2
      have e1 := ms_wo_n W h (by
        rintro (q | q | q | q | q | q)
        · exact hab q.1.symm
        · exact m2 q.2
        · exact hcb q.1.symm
        · exact m1 q.2
        · exact hab q.1.symm
        · exact hdb q.1.symm)
      have kb := K b y h
      have nb : T b y ≠ a := by
        intro e
        have := kb.2.2.2.2.2.2.2
        rw [e, tab] at this; exact m2 this.symm
      refine ⟨nb, ?_⟩
      have := (Br.1 b y e1.2).1
      rw [rb, ms_rn_n (Ne.symm kb.2.2.2.1), e1.1, ms_rn_n kb.2.2.2.2.1] at this; exact this
    have dall : S d → ∀ y', T b y' ≠ 10 → y' = a ∨ S y' := by
      intro sd y' hy'
      refine lk b (fun y => y = a ∨ S y) ?_ a y' n4 hy' (Or.inl rfl)
      intro y hy sy
      show T b y = a ∨ S (T b y)
      by_cases m1 : y = a
      · rw [m1, tba]; exact Or.inr sd
      · have sy' : S y := Or.resolve_left sy m1
        by_cases m2 : y = c
        · rw [m2]; exact Or.inl tbc
        · exact Or.inr (st y _ (vb y hy m1 m2).2 hy sy')
    have call : S c → ∀ y', T a y' ≠ 10 → y' = b ∨ S y' := by
      intro sc y' hy'
      refine lk a (fun y => y = b ∨ S y) ?_ b y' n1 hy' (Or.inl rfl)
      intro y hy sy
      show T a y = b ∨ S (T a y)
      by_cases m1 : y = b
      · rw [m1, tab]; exact Or.inr sc
      · have sy' : S y := Or.resolve_left sy m1
        by_cases m2 : y = d
        · rw [m2]; exact Or.inl tad
        · exact Or.inr (st y _ (va y hy m1 m2).2 hy sy')
    have d2c : S d → S c := fun s => Or.resolve_left (dall s c n2) hca
    have c2d : S c → S d := fun s => Or.resolve_left (call s d n5) hdb
    have froma : ∀ y, T a y ≠ 10 → y ≠ b → S y → S c := by
      intro y hy n sy
      have := lk a (fun z => (z = b ∧ S d) ∨ (z ≠ b ∧ S z)) (by
        intro z hz sz
        show (T a z = b ∧ S d) ∨ (T a z ≠ b ∧ S (T a z))
        rcases sz with ⟨q, s⟩ | ⟨q, s⟩
        · rw [q, tab]; exact Or.inr ⟨hcb, d2c s⟩
        · by_cases m2 : z = d
          · rw [m2] at s ⊢; exact Or.inl ⟨tad, s⟩
          · have v := va z hz q m2
            exact Or.inr ⟨v.1, st z _ v.2 hz s⟩) y c hy (cl _ _ n3) (Or.inr ⟨n, sy⟩)
      rcases this with q | q
      · exact absurd q.1 hcb
      · exact q.2
    have fromb : ∀ y, T b y ≠ 10 → y ≠ a → S y → S c := by
      intro y hy n sy
      have := lk b (fun z => (z = a ∧ S c) ∨ (z ≠ a ∧ S z)) (by
        intro z hz sz
        show (T b z = a ∧ S c) ∨ (T b z ≠ a ∧ S (T b z))
        rcases sz with ⟨q, s⟩ | ⟨q, s⟩
        · rw [q, tba]; exact Or.inr ⟨hda, c2d s⟩
        · by_cases m2 : z = c
          · rw [m2] at s ⊢; exact Or.inl ⟨tbc, s⟩
          · have v := vb z hz q m2
            exact Or.inr ⟨v.1, st z _ v.2 hz s⟩) y d hy (cl _ _ n6) (Or.inr ⟨n, sy⟩)
      rcases this with q | q
      · exact absurd q.1 hda
      · exact d2c q.2
    have sub : ∀ y, T'' a y ≠ 10 → (T a y ≠ 10 ∧ y ≠ b) ∨ (T b y ≠ 10 ∧ y ≠ a) := by
      intro y h
      obtain ⟨x', y', h', ex, ey, _⟩ := Br.2 a y h
      have t' := ms_wo_t W h'
      have k' := K' x' y' h'
      rcases ms_rn_o a b x' with q | q
      · rw [q.1] at h' t' k'
        have m1 : y' ≠ a := by intro q; rw [q] at h'; exact h' z2
        rw [ms_rn_n (Ne.symm k'.2.2.2.1)] at ey
        rw [ey]; exact Or.inr ⟨t'.2.1, m1⟩
      · rw [q.2] at ex
        rw [← ex] at h' t' k'
        have m1 : y' ≠ b := by intro q; rw [q] at h'; exact h' z1
        rw [ms_rn_n m1] at ey
        rw [ey]; exact Or.inl ⟨t'.2.1, m1⟩
    intro y y' hy hy' sy
    have sc : S c := by
      rcases sub y hy with q | q
      · exact froma y q.1 q.2 sy
      · exact fromb y q.1 q.2 sy
    rcases sub y' hy' with q | q
    · exact Or.resolve_left (call sc y' q.1) q.2
    · exact Or.resolve_left (dall (c2d sc) y' q.1) q.2
  · have wx : ∀ y, T'' w y ≠ 10 → w ≠ b ∧ ∃ y1, T w y1 ≠ 10 ∧ y = ms_rn a b y1 := by
      intro y h
      obtain ⟨x', y', h', ex, ey, _⟩ := Br.2 w y h
      rcases ms_rn_o a b x' with q | q
      · rw [q.2] at ex; exact absurd ex wa
      · rw [q.2] at ex
        exact ⟨by rw [ex]; exact q.1, y', by rw [ex]; exact (ms_wo_t W h').2.1, ey⟩
    intro y y' hy hy' sy
    obtain ⟨wb, y1, h1, e1⟩ := wx y hy
    obtain ⟨_, y2, h2, e2⟩ := wx y' hy'
    rw [e2]
    refine lk w (fun z => S (ms_rn a b z)) ?_ y1 y2 h1 h2 (by rw [e1] at sy; exact sy)
    intro z hz sz
    show S (ms_rn a b (T w z))
    have sz' : S (ms_rn a b z) := sz
    by_cases n : ms_six a b c d w z
    · rcases n with q | q | q | q | q | q
      · exact absurd q.1 wa
      · exact absurd q.1 wb
      · rw [q.2, ra] at sz'; rw [q.1, q.2, tca, rb]; exact sz'
      · exact absurd q.1 wb
      · exact absurd q.1 wa
      · rw [q.2, rb] at sz'; rw [q.1, q.2, tdb, ra]; exact sz'
    · have e3 := ms_wo_n W hz n
      have b1 := Br.1 w z e3.2
      rw [ms_rn_n wb, e3.1] at b1
      exact st _ _ b1.1 (by rw [← b1.1]; exact b1.2) sz'
theorem ms_coV {T T' T'' O' O'' : Nat → Nat → Nat} {G : Nat → Nat → Nat → Nat → Prop} {p p' a b c d : Nat} (K : ms_K T) (V : ms_V T p) (hc : T a b = c) (hd : T b a = d) (hc10 : c ≠ 10)
    (eT' : T' = ms_drop (ms_drop T a b c) b a d) (R0 : ms_R T' O' G) (R2 : ms_R T'' O'' (ms_Gn G a b))
    (com : ∀ v, T a v ≠ 10 → T b v ≠ 10 → v = c ∨ v = d) (h4 : 4 < ms_pc p) (hp' : ∀ x, x < 10 → (p'.testBit x = true ↔ (p.testBit x = true ∧ x ≠ b))) : ms_V T'' p' := by
  obtain ⟨cl, nd, vx, co, lk⟩ := V
  obtain ⟨lts, N, Ed, En⟩ := ms_edge K cl nd hc hd hc10
  have W : ms_wo T T' a b c d := by rw [eT']; exact ms_wo_i
  have Br := ms_br_i lts.1 R0 R2
  have M := ms_br_4 Br N (ms_wo_4 W N cl En)
  exact ⟨ms_co1 cl N W Br M, ms_co2 nd N.1 R0 W Br (ms_tet K cl vx co lk Ed En W com h4), ms_co3 vx N En W Br M hp', ms_co4 co N W Br M, ms_co5 K cl lk N Ed En R0 W Br⟩
