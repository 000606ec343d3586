/-! collapse -/
theorem ms_cnt3 {f : Nat → Bool} {a b c : Nat} (ha : a < 10) (hb : b < 10) (hc : c < 10) (hab : a ≠ b) (hac : a ≠ c) (hbc : b ≠ c) (fa : f a = true) (fb : f b = true) (fc : f c = true) : 3 ≤ ms_cnt f 10 := by
  have h1 := ms_cnt_up (f := fun i => f i && decide (i ≠ a)) (g := f) (j := a) (by simp) fa (by intro i hi; simp [hi]) 10 ha
  have h2 := ms_cnt_up (f := fun i => (f i && decide (i ≠ a)) && decide (i ≠ b)) (g := fun i => f i && decide (i ≠ a)) (j := b) (by simp) (by simp [fb, Ne.symm hab]) (by intro i hi; simp [hi]) 10 hb
  have h3 := ms_cnt_up (f := fun i => ((f i && decide (i ≠ a)) && decide (i ≠ b)) && decide (i ≠ c)) (g := fun i => (f i && decide (i ≠ a)) && decide (i ≠ b)) (j := c) (by simp) (by simp [fc, Ne.symm hac, Ne.symm hbc]) (by intro i hi; simp [hi]) 10 hc
  omega
theorem ms_common {T : Nat → Nat → Nat} {a b c d : Nat} (K : ms_K T) (cl : ms_cl T) (h : ms_pc (ms_nb T a &&& ms_nb T b) ≤ 2) (lts : a < 10 ∧ b < 10 ∧ c < 10 ∧ d < 10) (hcd : c ≠ d) (En : ms_en T a b c d) : ∀ v, T a v ≠ 10 → T b v ≠ 10 → v = c ∨ v = d := by
  obtain ⟨n1, n2, n3, n4, n5, n6⟩ := En
  intro v h1 h2
  by_cases q1 : v = c
  · exact Or.inl q1
  · by_cases q2 : v = d
    · exact Or.inr q2
    · exfalso
      have key : ∀ x, T a x ≠ 10 → T b x ≠ 10 → (ms_nb T a &&& ms_nb T b).testBit x = true := by
        intro x e1 e2
        rw [Nat.testBit_and, ms_nb_b K, ms_nb_b K]
        simp [e1, e2]
      have := ms_cnt3 (f := (ms_nb T a &&& ms_nb T b).testBit) (K a v h1).2.1 lts.2.2.1 lts.2.2.2 q1 q2 hcd (key v h1 h2) (key c (cl _ _ n3) n2) (key d n5 (cl _ _ n6))
      have h' : ms_cnt (ms_nb T a &&& ms_nb T b).testBit 10 ≤ 2 := h
      omega
theorem ms_H {T T' : Nat → Nat → Nat} {a b c d : Nat} (cl : ms_cl T) (W : ms_wo T T' a b c d) (com : ∀ v, T a v ≠ 10 → T b v ≠ 10 → v = c ∨ v = d) : T' a b = 10 ∧ T' b a = 10 ∧ (∀ v, T' a v ≠ 10 → T' b v = 10) ∧ (∀ v, T' v a ≠ 10 → T' v b = 10) := by
  refine ⟨ms_wo_z W (Or.inl ⟨rfl, rfl⟩), ms_wo_z W (Or.inr (Or.inr (Or.inr (Or.inl ⟨rfl, rfl⟩)))), ?_, ?_⟩
  · intro v h1
    by_cases h2 : T' b v = 10
    · exact h2
    · exfalso
      have t1 := ms_wo_t W h1
      have t2 := ms_wo_t W h2
      rcases com v t1.2.1 t2.2.1 with q | q
      · exact t2.2.2 (Or.inr (Or.inl ⟨rfl, q⟩))
      · exact t1.2.2 (Or.inr (Or.inr (Or.inr (Or.inr (Or.inl ⟨rfl, q⟩)))))
  · intro v h1
    by_cases h2 : T' v b = 10
    · exact h2
    · exfalso
      have t1 := ms_wo_t W h1
      have t2 := ms_wo_t W h2
      rcases com v (cl _ _ t1.2.1) (cl _ _ t2.2.1) with q | q
      · exact t1.2.2 (Or.inr (Or.inr (Or.inl ⟨q, rfl⟩)))
      · exact t2.2.2 (Or.inr (Or.inr (Or.inr (Or.inr (Or.inr ⟨q, rfl⟩)))))
/-- b handed over to a, up to the arrow b to k -/
def ms_ho (a b : Nat) (T : Nat → Nat → Nat) : Nat → (Nat → Nat → Nat)
  | 0 => T
  | k + 1 => if ms_ho a b T k b k = 10 then ms_ho a b T k else ms_put (ms_drop (ms_ho a b T k) b k (ms_ho a b T k b k)) a k (ms_ho a b T k b k)
theorem ms_ho0 {a b k : Nat} {T : Nat → Nat → Nat} (h : ms_ho a b T k b k = 10) : ms_ho a b T (k + 1) = ms_ho a b T k := by
  show (if ms_ho a b T k b k = 10 then ms_ho a b T k else ms_put (ms_drop (ms_ho a b T k) b k (ms_ho a b T k b k)) a k (ms_ho a b T k b k)) = _
  rw [if_pos h]
theorem ms_ho1 {a b k w : Nat} {T : Nat → Nat → Nat} (h : ms_ho a b T k b k = w) (hw : w ≠ 10) : ms_ho a b T (k + 1) = ms_put (ms_drop (ms_ho a b T k) b k w) a k w := by
  show (if ms_ho a b T k b k = 10 then ms_ho a b T k else ms_put (ms_drop (ms_ho a b T k) b k (ms_ho a b T k b k)) a k (ms_ho a b T k b k)) = _
  rw [h, if_neg hw]
theorem ms_hoR {T0 O0 : Nat → Nat → Nat} {G : Nat → Nat → Nat → Nat → Prop} {a b : Nat} (R0 : ms_R T0 O0 G) (hab : a ≠ b) (ha : a < 10)
    (H : T0 a b = 10 ∧ T0 b a = 10 ∧ (∀ v, T0 a v ≠ 10 → T0 b v = 10) ∧ (∀ v, T0 v a ≠ 10 → T0 v b = 10)) :
    ∀ k, (∃ O, ms_R (ms_ho a b T0 k) O (ms_Gk G a b k)) ∧ ms_cn (ms_ho a b T0 k) = ms_cn T0 := by
  intro k
  induction k with
  | zero => exact ⟨⟨O0, ms_Gk0 a b R0⟩, rfl⟩
  | succ k ih =>
    obtain ⟨⟨O, R⟩, hcn⟩ := ih
    by_cases e : ms_ho a b T0 k b k = 10
    · rw [ms_ho0 e]
      exact ⟨⟨O, ms_hoN R0 R e⟩, hcn⟩
    · have s := ms_hoS R0 hab ha H.1 H.2.1 H.2.2.1 H.2.2.2 R rfl e
      rw [ms_ho1 rfl e]
      exact ⟨s.2.1, s.2.2.trans hcn⟩
theorem ms_xho {post : SX → Prop} {P : Int32} {T0 O0 : Nat → Nat → Nat} {G : Nat → Nat → Nat → Nat → Prop} {a b : Nat} (R0 : ms_R T0 O0 G) (hab : a ≠ b) (ha : a < 10) (hb : b < 10)
    (H : T0 a b = 10 ∧ T0 b a = 10 ∧ (∀ v, T0 a v ≠ 10 → T0 b v = 10) ∧ (∀ v, T0 v a ≠ 10 → T0 v b = 10)) (h : post (P, ms_C (ms_ho a b T0 10))) : wpX_handOver post (P, ms_C T0) (nI b) (nI a) := by
  refine loop_0 (fun n i (s : Nat → Int32) => wX_handOver_2 post (nI b) (nI a) n (nI i) P s) (fun i s => s = ms_C (ms_ho a b T0 i)) 10 (ms_C T0) rfl ?_ ?_
  · intro n s hs
    subst hs
    exact br_t (nI_le (a := 10) (by omega) (by decide)) h
  · intro n i s hi hs ih
    subst hs
    obtain ⟨⟨O, R⟩, _⟩ := ms_hoR R0 hab ha H i
    have K := ms_RK R
    refine br_f (nI_ge (b := 10) hi (by decide)) (ms_xcorN K hb hi ?_)
    by_cases e : ms_ho a b T0 i b i = 10
    · rw [e]
      exact br_t rfl (nm_r (nI_1 i) (ih _ (by rw [ms_ho0 e])))
    · obtain ⟨w, hw⟩ : ∃ w, ms_ho a b T0 i b i = w := ⟨_, rfl⟩
      have w10 : w < 10 := by rw [← hw]; exact (K _ _ e).2.2.1
      rw [hw, ms_e_lt w10]
      refine br_f (ms_n1 (by omega)) (ms_xdrop hb hi w10 ?_)
      dsimp only
      refine ms_xput ha hi w10 ?_
      exact nm_r (nI_1 i) (ih _ (by rw [ms_ho1 hw (Nat.ne_of_lt w10)]))
/-- the list's first k faces with b called a -/
def ms_ra (a b : Nat) (A : Nat → Nat) (k : Nat) : Nat → Nat := fun i => if i < k then ms_rn a b (A i) else A i
theorem ms_ra_at (a b : Nat) (A : Nat → Nat) (i : Nat) : ms_ra a b A i i = A i := if_neg (Nat.lt_irrefl i)
theorem ms_ra_s (a b : Nat) (A : Nat → Nat) (i : Nat) : ms_u (ms_ra a b A i) i (ms_rn a b (A i)) = ms_ra a b A (i + 1) := by
  funext j
  unfold ms_u ms_ra
  by_cases e : j = i
  · subst e; rw [if_pos rfl, if_pos (Nat.lt_succ_self _)]
  · rw [if_neg e]
    by_cases h : j < i
    · rw [if_pos h, if_pos (by omega)]
    · rw [if_neg h, if_neg (by omega)]
theorem ms_ra_up {a b : Nat} (A : Nat → Nat) {i : Nat} (h : i < 16) : upd (ms_N (ms_ra a b A i)) (nI i).toNatClampNeg (nI (ms_rn a b (A i))) = ms_N (ms_ra a b A (i + 1)) := by
  rw [ms_N_up _ h, ms_ra_s]
theorem ms_raF {n a b : Nat} {A B D : Nat → Nat} (i x y z : Nat) : ms_F n (ms_ra a b A n) (ms_ra a b B n) (ms_ra a b D n) i x y z ↔ ms_Gn (ms_F n A B D) a b i x y z := by
  have e : ∀ (E : Nat → Nat), i < n → ms_ra a b E n i = ms_rn a b (E i) := fun E h => if_pos h
  constructor
  · rintro ⟨hi, q⟩
    rw [e A hi, e B hi, e D hi] at q
    rcases q with ⟨q1, q2, q3⟩ | ⟨q1, q2, q3⟩ | ⟨q1, q2, q3⟩
    · exact ⟨A i, B i, D i, ⟨hi, Or.inl ⟨rfl, rfl, rfl⟩⟩, q1.symm, q2.symm, q3.symm⟩
    · exact ⟨B i, D i, A i, ⟨hi, Or.inr (Or.inl ⟨rfl, rfl, rfl⟩)⟩, q1.symm, q2.symm, q3.symm⟩
    · exact ⟨D i, A i, B i, ⟨hi, Or.inr (Or.inr ⟨rfl, rfl, rfl⟩)⟩, q1.symm, q2.symm, q3.symm⟩
  · rintro ⟨x', y', z', ⟨hi, q⟩, e1, e2, e3⟩
    refine ⟨hi, ?_⟩
    rw [e A hi, e B hi, e D hi]
    rcases q with ⟨q1, q2, q3⟩ | ⟨q1, q2, q3⟩ | ⟨q1, q2, q3⟩
    · exact Or.inl ⟨by rw [q1, e1], by rw [q2, e2], by rw [q3, e3]⟩
    · exact Or.inr (Or.inl ⟨by rw [q1, e1], by rw [q2, e2], by rw [q3, e3]⟩)
    · exact Or.inr (Or.inr ⟨by rw [q1, e1], by rw [q2, e2], by rw [q3, e3]⟩)
theorem ms_yren {post : Int32 → SY → Prop} {T O : Nat → Nat → Nat} {n a b : Nat} {A B D : Nat → Nat} (R : ms_R T O (ms_F n A B D)) (hn : n ≤ 16) (ha : a < 10) (hb : b < 10)
    (h : wpY_vertices (fun r => wpY_size (fun r' => post r' (nI n, ms_N (ms_ra a b A n), ms_N (ms_ra a b B n), ms_N (ms_ra a b D n))) (nI n, ms_N (ms_ra a b A n), ms_N (ms_ra a b B n), ms_N (ms_ra a b D n)) r) (nI n, ms_N (ms_ra a b A n), ms_N (ms_ra a b B n), ms_N (ms_ra a b D n))) :
    ∃ m, wY_collapse_49 post (nI a) (nI b) (nI n) m 0 (ms_N A) (ms_N B) (ms_N D) := by
  have z0 : ∀ E : Nat → Nat, ms_ra a b E 0 = E := fun E => by funext j; exact if_neg (Nat.not_lt_zero _)
  have key : ∀ d i, i + d = n → wY_collapse_49 post (nI a) (nI b) (nI n) (d + 1) (nI i) (ms_N (ms_ra a b A i)) (ms_N (ms_ra a b B i)) (ms_N (ms_ra a b D i)) := by
    intro d
    induction d with
    | zero =>
      intro i hi
      have : i = n := by omega
      subst this
      exact br_t (nI_le (Nat.le_refl _) (by omega)) h
    | succ d ih =>
      intro i hi
      have hin : i < n := by omega
      have hi16 : i < 16 := by omega
      have hv : vp_in (nI i) 16 := vp_in_nI hi16 (by decide)
      have f := ms_Fi R hin
      have J := ih (i + 1) (by omega)
      have at1 : ∀ E : Nat → Nat, ms_N (ms_ra a b E i) (nI i).toNatClampNeg = nI (E i) := fun E => by rw [ms_N_at _ hi16, ms_ra_at]
      have bq : ∀ (E : Nat → Nat) (P Q : Prop), E i < 10 → (E i = b → P) → (E i ≠ b → Q) → (ms_N (ms_ra a b E i) (nI i).toNatClampNeg = nI b → P) ∧ (¬ ms_N (ms_ra a b E i) (nI i).toNatClampNeg = nI b → Q) := by
        intro E P Q hE f g
        rw [at1 E, nI_eq (by omega) (by omega)]
        exact ⟨f, g⟩
      have r1 : ∀ E : Nat → Nat, E i = b → nI a = nI (ms_rn a b (E i)) := fun E e => by rw [e, ms_rn_b]
      have r2 : ∀ E : Nat → Nat, E i ≠ b → ms_N (ms_ra a b E i) (nI i).toNatClampNeg = nI (ms_rn a b (E i)) := fun E e => by rw [at1 E, ms_rn_n e]
      have c108 : ∀ w : Int32, w = nI (ms_rn a b (B i)) → wY_collapse_108 post (wY_collapse_49 post (nI a) (nI b) (nI n) (d + 1)) (nI a) (nI b) (nI i) w (nI i) (nI n) (ms_N (ms_ra a b A (i + 1))) (ms_N (ms_ra a b B i)) (ms_N (ms_ra a b D i)) := by
        intro w ew
        subst ew
        refine ⟨hv, nm_r (ms_ra_up B hi16) ⟨hv, bq D _ _ f.2.2.1 (fun e => ⟨hv, nm_r (e' := ms_N (ms_ra a b D (i + 1))) ?_ (nm_r (nI_1 i) J)⟩) (fun e => ⟨hv, hv, nm_r (e' := ms_N (ms_ra a b D (i + 1))) ?_ (nm_r (nI_1 i) J)⟩)⟩⟩
        · rw [← ms_ra_up D hi16, ← r1 D e]
        · rw [← ms_ra_up D hi16, ← r2 D e]
      have c82 : ∀ w : Int32, w = nI (ms_rn a b (A i)) → wY_collapse_82 post (wY_collapse_49 post (nI a) (nI b) (nI n) (d + 1)) (nI a) (nI b) (nI i) w (nI i) (nI n) (ms_N (ms_ra a b A i)) (ms_N (ms_ra a b B i)) (ms_N (ms_ra a b D i)) := by
        intro w ew
        subst ew
        exact ⟨hv, nm_r (ms_ra_up A hi16) ⟨hv, bq B _ _ f.2.1 (fun e => c108 _ (r1 B e)) (fun e => ⟨hv, c108 _ (r2 B e)⟩)⟩⟩
      exact br_f (nI_ge hin (by omega)) ⟨hv, bq A _ _ f.1 (fun e => c82 _ (r1 A e)) (fun e => ⟨hv, c82 _ (r2 A e)⟩)⟩
  have := key n 0 (by omega)
  rw [z0, z0, z0] at this
  exact ⟨n + 1, this⟩
theorem ms_pc_clr {p p' b : Nat} (hp : p < 1024) (hp' : p' < 1024) (hb : b < 10) (h : p.testBit b = true) (e : ∀ x, x < 10 → p'.testBit x = (p.testBit x && decide (x ≠ b))) : ms_pc p = ms_pc p' + 1 := by
  refine ms_cnt_up (f := p'.testBit) (g := p.testBit) (j := b) ?_ h ?_ 10 hb
  · rw [e b hb]; simp
  · intro i hi
    by_cases h10 : i < 10
    · rw [e i h10]; simp [hi]
    · have h1 : 1024 ≤ 2 ^ i := Nat.pow_le_pow_right (n := 2) (by decide) (show 10 ≤ i by omega)
      rw [Nat.testBit_lt_two_pow (by omega), Nat.testBit_lt_two_pow (by omega)]
theorem ms_two {T O : Nat → Nat → Nat} {n : Nat} {A B D : Nat → Nat} {a b : Nat} (R : ms_R T O (ms_F n A B D)) (cl : ms_cl T) (nd : ms_nd T) (e : T a b ≠ 10) : O a b ≠ O b a ∧ ∃ m, n = m + 2 := by
  have K := ms_RK R
  have g0 := R.2.2.1 a b e
  have g1 := R.2.2.1 b a (cl _ _ e)
  have l0 := g0.1
  have l1 := g1.1
  have ne : O a b ≠ O b a := by
    intro q
    rw [q] at g0
    have := R.2.2.2 _ _ _ _ _ _ _ g1 g0
    have kk := K _ _ e
    have nn := nd a b e
    rcases this with w | w | w
    · exact kk.2.2.2.1 w.1
    · exact kk.2.2.2.2.2.1 w.2.2
    · exact nn (w.1.symm ▸ w.2.2 ▸ by omega)
  exact ⟨ne, n - 2, by omega⟩
theorem ms_ccI {T O : Nat → Nat → Nat} {A B D : Nat → Nat} {n p p' a b c d : Nat} (I : ms_Inv T O A B D (n + 2) p) (hc : T a b = c) (hd : T b a = d) (hc10 : c ≠ 10) (cp : ms_cp T p a b) (hp' : p' < 1024) (ep : ∀ x, x < 10 → p'.testBit x = (p.testBit x && decide (x ≠ b))) {f : Nat} (g : ms_F (n + 2) A B D f a b c) :
    ms_drop T a b c b a = d ∧ d ≠ 10 ∧ (∃ O1, ms_R (ms_drop T a b c) O1 (ms_F (n + 1) (ms_u A f (A (n + 1))) (ms_u B f (B (n + 1))) (ms_u D f (D (n + 1))))) ∧
    ∀ f2, ms_F (n + 1) (ms_u A f (A (n + 1))) (ms_u B f (B (n + 1))) (ms_u D f (D (n + 1))) f2 b a d →
    (∃ O2, ms_R (ms_drop (ms_drop T a b c) b a d) O2 (ms_F n (ms_u (ms_u A f (A (n + 1))) f2 (ms_u A f (A (n + 1)) n)) (ms_u (ms_u B f (B (n + 1))) f2 (ms_u B f (B (n + 1)) n)) (ms_u (ms_u D f (D (n + 1))) f2 (ms_u D f (D (n + 1)) n)))) ∧
    ∃ O', ms_Inv (ms_ho a b (ms_drop (ms_drop T a b c) b a d) 10) O' (ms_ra a b (ms_u (ms_u A f (A (n + 1))) f2 (ms_u A f (A (n + 1)) n)) n) (ms_ra a b (ms_u (ms_u B f (B (n + 1))) f2 (ms_u B f (B (n + 1)) n)) n) (ms_ra a b (ms_u (ms_u D f (D (n + 1))) f2 (ms_u D f (D (n + 1)) n)) n) n p' := by
  obtain ⟨R, V, hp, he, hcn⟩ := I
  have K := ms_RK R
  have V' := V
  obtain ⟨cl, nd, vx, co, lk⟩ := V
  obtain ⟨lts, N, Ed, En⟩ := ms_edge K cl nd hc hd hc10
  have lts' := lts
  have N' := N
  have En' := En
  obtain ⟨ha, hb, hcc, hdd⟩ := lts
  obtain ⟨hab, hca, hcb, hda, hdb, hcd⟩ := N
  obtain ⟨tab, tbc, tca, tba, tad, tdb⟩ := Ed
  obtain ⟨n1, n2, n3, n4, n5, n6⟩ := En
  have hba := Ne.symm hab
  have hac := Ne.symm hca
  have hbc := Ne.symm hcb
  have had := Ne.symm hda
  have hbd := Ne.symm hdb
  have hdc := Ne.symm hcd
  have d10 : d ≠ 10 := Nat.ne_of_lt hdd
  obtain ⟨O1, R1⟩ := ms_Rtake R g
  have c1 := ms_cn_drop (T := T) ha hb hcc hab hbc hca n1 n2 n3
  have s1 : ms_drop T a b c b a = d := by simp [ms_drop_e, tba, hab, hac, had, hba, hbc, hbd, hca, hcb, hcd, hda, hdb, hdc]
  have s2 : ms_drop T a b c a d = b := by simp [ms_drop_e, tad, hab, hac, had, hba, hbc, hbd, hca, hcb, hcd, hda, hdb, hdc]
  have s3 : ms_drop T a b c d b = a := by simp [ms_drop_e, tdb, hab, hac, had, hba, hbc, hbd, hca, hcb, hcd, hda, hdb, hdc]
  refine ⟨s1, d10, ⟨O1, R1⟩, ?_⟩
  intro f2 g2
  obtain ⟨O2, R2⟩ := ms_Rtake R1 g2
  refine ⟨⟨O2, R2⟩, ?_⟩
  have c2 := ms_cn_drop (T := ms_drop T a b c) hb ha hdd hba had hdb (by rw [s1]; exact d10) (by rw [s2]; exact Nat.ne_of_lt hb) (by rw [s3]; exact Nat.ne_of_lt ha)
  have com := ms_common K cl cp.2.2 lts' hcd En'
  have H := ms_H cl (ms_wo_i (T := T) (a := a) (b := b) (c := c) (d := d)) com
  obtain ⟨⟨O3, R3⟩, c3⟩ := ms_hoR R2 hab ha H 10
  have R4 := ms_hoE R2 R3
  have bb : p.testBit b = true := (vx b hb).mpr ⟨a, n4⟩
  have pcc := ms_pc_clr hp hp' hb bb ep
  refine ⟨O3, ms_Rcg R4 ms_raF, ms_coV K V' hc hd hc10 rfl R2 R4 com cp.2.1 ?_, hp', ?_, ?_⟩
  · intro x hx
    rw [ep x hx, Bool.and_eq_true, decide_eq_true_eq]
  · omega
  · omega
theorem i_vc_collapse {k : Nat} {u : SX} {v : SY} (I : i_Rel k u v) (hk : k + 4 ≤ 2048) (v1 : Int32) (v2 : Int32) : wpX_collapse (fun r u' => wpY_collapse (fun r' v' => r' = r ∧ i_Rel (k + 4) u' v') v v1 v2) u v1 v2 := by
  have J : i_Rel (k + 4) u v := i_up I
  obtain ⟨T, O, A, B, D, n, p, rfl, rfl, In⟩ := I
  have In' := In
  obtain ⟨R, ⟨cl, nd, vx, co, lk⟩, hp, he, hcn⟩ := In
  have hn := ms_n16 he
  have K := ms_RK R
  unfold wpX_collapse
  dsimp only
  refine ms_xjoin K (fun e => br_t rfl ?_) (fun e => br_f (by decide) ?_)
  · unfold wpY_collapse
    dsimp only
    refine ms_yopp R hn ?_
    rw [e]
    exact br_f (by decide) ⟨rfl, J⟩
  · have E := e
    obtain ⟨a, b, ha, hb, rfl, rfl, ea, eb⟩ := ms_nm K e
    rw [ea, eb] at e
    have e2 := cl _ _ e
    obtain ⟨c, hc⟩ : ∃ c, T a b = c := ⟨_, rfl⟩
    obtain ⟨d, hd⟩ : ∃ d, T b a = d := ⟨_, rfl⟩
    have c10 : c < 10 := by rw [← hc]; exact (K _ _ e).2.2.1
    have d10 : d < 10 := by rw [← hd]; exact (K _ _ e2).2.2.1
    have hc' : c ≠ 10 := Nat.ne_of_lt c10
    have hd' : d ≠ 10 := Nat.ne_of_lt d10
    have hab : a ≠ b := (K _ _ e).2.2.2.1
    refine ms_xcol K hp E (fun z => br_f (by decide) (ms_xcor K (ms_xcor K ?_))) (fun z => br_t rfl ?_)
    · rw [ea, eb] at z
      rw [ea, eb, hc, hd, ms_e_lt c10, ms_e_lt d10]
      refine ms_xdrop ha hb c10 ?_
      dsimp only
      refine ms_xdrop hb ha d10 ?_
      dsimp only
      obtain ⟨oo, m, rfl⟩ := ms_two R cl nd e
      -- the table without the two faces, for the component's own walk
      have lts : a < 10 ∧ b < 10 ∧ c < 10 ∧ d < 10 := ⟨ha, hb, c10, d10⟩
      obtain ⟨_, N, _, En⟩ := ms_edge K cl nd hc hd hc'
      have com := ms_common K cl z.2.2 lts N.2.2.2.2.2 En
      have H := ms_H cl (ms_wo_i (T := T) (a := a) (b := b) (c := c) (d := d)) com
      have g0 := R.2.2.1 a b e
      have g1 := R.2.2.1 b a e2
      rw [hc] at g0
      rw [hd] at g1
      have Rx := ms_Rrm (ms_Rrm R g0) (i := O b a) (x := b) (y := a) (z := d) ⟨g1, Ne.symm oo⟩
      refine ms_xho Rx hab ha hb H ?_
      dsimp only
      obtain ⟨p', hp', es, ep⟩ := ms_clr hp hb
      refine nm_r es (ms_xcb hp' ?_)
      unfold wpY_collapse
      dsimp only
      refine ms_yopp R hn ?_
      rw [ea, eb, hc, ms_e_lt c10]
      refine br_t (nI_pos' (by omega)) (ms_ycol R hn hp cl vx (fun _ => br_f (by decide) (ms_yopp R hn ?_)) (fun z' => absurd (by rw [ea, eb]; exact z) z'))
      rw [ea, eb, hc, ms_e_lt c10]
      refine ms_ytake (n := m + 1) R hn hc hc' (fun f g => ?_)
      dsimp only
      obtain ⟨s1, _, ⟨O1, R1⟩, fin⟩ := ms_ccI In' hc hd hc' z hp' ep g
      refine ms_yopp R1 (by omega) ?_
      rw [ea, eb, s1, ms_e_lt d10]
      refine ms_ytake (n := m) R1 (by omega) s1 hd' (fun f2 g2 => ?_)
      dsimp only
      obtain ⟨⟨O2, R2⟩, O', I'⟩ := fin f2 g2
      refine ms_yren R2 (by omega) ha hb ?_
      refine ms_yvert I'.1 (by omega) hp' I'.2.1.2.2.1 (ms_ysize hp' ?_)
      exact ⟨rfl, _, O', _, _, _, _, _, rfl, rfl, I'⟩
    · unfold wpY_collapse
      dsimp only
      refine ms_yopp R hn ?_
      rw [ea, eb, hc, ms_e_lt c10]
      exact br_t (nI_pos' (by omega)) (ms_ycol R hn hp cl vx (fun z' => absurd z' z) (fun _ => br_t rfl ⟨rfl, J⟩))
