/-! distance, ofDegree, flippable, collapsible -/
def ms_wf (T : Nat → Nat → Nat) (s : Nat) : Nat → Nat
  | 0 => s
  | k + 1 => if s.testBit k = true then ms_wf T s k ||| ms_nb T k else ms_wf T s k
def ms_wd (T : Nat → Nat → Nat) (s : Nat) : Nat := ms_wf T s 10
theorem ms_wf_lt {T : Nat → Nat → Nat} {s : Nat} (hs : s < 1024) : ∀ k, ms_wf T s k < 1024 := by
  intro k
  induction k with
  | zero => exact hs
  | succ k ih =>
    unfold ms_wf
    split
    · exact ms_lt ih (ms_nb_lt _ _)
    · exact ih
theorem ms_wf_b {T : Nat → Nat → Nat} (K : ms_K T) (s x : Nat) : ∀ k, (ms_wf T s k).testBit x = true ↔ (s.testBit x = true ∨ ∃ v, v < k ∧ s.testBit v = true ∧ T v x ≠ 10) := by
  intro k
  induction k with
  | zero =>
    show s.testBit x = true ↔ _
    exact ⟨Or.inl, fun q => q.elim id (fun ⟨v, hv, _⟩ => absurd hv (Nat.not_lt_zero _))⟩
  | succ k ih =>
    unfold ms_wf
    by_cases e : s.testBit k = true
    · rw [if_pos e, Nat.testBit_or, Bool.or_eq_true, ih, ms_nb_b K, decide_eq_true_eq]
      constructor
      · rintro ((q | ⟨v, hv, q⟩) | q)
        · exact Or.inl q
        · exact Or.inr ⟨v, by omega, q⟩
        · exact Or.inr ⟨k, by omega, e, q⟩
      · rintro (q | ⟨v, hv, q⟩)
        · exact Or.inl (Or.inl q)
        · by_cases ev : v = k
          · rw [ev] at q; exact Or.inr q.2
          · exact Or.inl (Or.inr ⟨v, by omega, q⟩)
    · rw [if_neg e, ih]
      constructor
      · rintro (q | ⟨v, hv, q⟩)
        · exact Or.inl q
        · exact Or.inr ⟨v, by omega, q⟩
      · rintro (q | ⟨v, hv, q⟩)
        · exact Or.inl q
        · by_cases ev : v = k
          · rw [ev] at q; exact absurd q.1 e
          · exact Or.inr ⟨v, by omega, q⟩
theorem ms_tb10 {s x : Nat} (hs : s < 1024) (h : s.testBit x = true) : x < 10 := by
  by_cases hx : x < 10
  · exact hx
  · have h1 : 1024 ≤ 2 ^ x := Nat.pow_le_pow_right (n := 2) (by decide) (show 10 ≤ x by omega)
    rw [Nat.testBit_lt_two_pow (by omega)] at h
    exact absurd h (by decide)
theorem ms_grow {T : Nat → Nat → Nat} (K : ms_K T) (co : ms_co T) {s x x' y y' : Nat} (hs : s < 1024) (hx : T x x' ≠ 10) (sx : s.testBit x = true) (hy : T y y' ≠ 10) (sy : s.testBit y = false) : ms_pc s + 1 ≤ ms_pc (ms_wd T s) := by
  by_cases h : ∃ z, s.testBit z = false ∧ (ms_wd T s).testBit z = true
  · obtain ⟨z, z1, z2⟩ := h
    exact ms_cnt_gr (f := s.testBit) (g := (ms_wd T s).testBit) (j := z) (fun i hi => (ms_wf_b K s i 10).mpr (Or.inl hi)) z1 z2 10 (ms_tb10 (ms_wf_lt hs 10) z2)
  · exfalso
    have := co (fun z => s.testBit z = true) (by
      intro a b hab sa
      show s.testBit b = true
      cases e : s.testBit b
      · exact absurd ⟨b, e, (ms_wf_b K s b 10).mpr (Or.inr ⟨a, ms_tb10 hs sa, sa, hab⟩)⟩ h
      · rfl) x y x' y' hx hy sx
    have this' : s.testBit y = true := this
    rw [sy] at this'
    exact absurd this' (by decide)
theorem ms_xwd {post : Int32 → Prop} {T : Nat → Nat → Nat} {P : Int32} {s : Nat} (K : ms_K T) (hs : s < 1024) (h : post (nI (ms_wd T s))) : wpX_widened post (P, ms_C T) (nI s) := by
  refine loop_0 (fun n i (c : Nat) => wX_widened_4 post (nI s) P (ms_C T) n (nI c) (nI i)) (fun i c => c = ms_wf T s i) 10 s rfl ?_ ?_
  · intro n c hc
    subst hc
    exact br_t (nI_le (a := 10) (by omega) (by decide)) h
  · intro n i c hi hc ih
    refine br_f (nI_ge (b := 10) hi (by decide)) (ms_xholds hs hi (fun e => br_f (by decide) (ms_xnb K ?_)) (fun e => br_t rfl (nm_r (nI_1 i) (ih c ?_))))
    · rw [ms_ix_n hi]
      refine nm_r (ms_or _ _) (nm_r (nI_1 i) (ih _ ?_))
      show c ||| ms_nb T i = ms_wf T s (i + 1)
      unfold ms_wf; rw [if_pos e, hc]
    · unfold ms_wf; rw [if_neg (by rw [e]; decide), hc]
theorem ms_ywd {post : Int32 → Prop} {J : Int32 → Int32 → Prop} {T O : Nat → Nat → Nat} {n : Nat} {A B D : Nat → Nat} {q : Int32} {s j : Nat} (R : ms_R T O (ms_F n A B D)) (hn : n ≤ 16) (cl : ms_cl T) (hs : s < 1024) (h : J (nI (ms_wd T s)) (nI (j + 1))) : ∃ m, wY_distance_74 post J q (nI s) (nI j) (nI n) (ms_N A) (ms_N B) (ms_N D) m (nI s) 0 := by
  refine loop_0 (fun m i (c : Nat) => wY_distance_74 post J q (nI s) (nI j) (nI n) (ms_N A) (ms_N B) (ms_N D) m (nI c) (nI i)) (fun i c => c = ms_wf T s i) 10 s rfl ?_ ?_
  · intro m c hc
    subst hc
    exact br_t (nI_le (a := 10) (by omega) (by decide)) (nm_r (nI_1 j) h)
  · intro m i c hi hc ih
    refine br_f (nI_ge (b := 10) hi (by decide)) ?_
    cases e : s.testBit i
    · rw [ms_bit_f hs hi e]
      refine br_f (by decide) (nm_r (nI_1 i) (ih c ?_))
      unfold ms_wf; rw [if_neg (by rw [e]; decide), hc]
    · rw [ms_bit_t hs hi e]
      refine br_t rfl (ms_yjoin R hn cl ?_)
      rw [ms_ix_n hi]
      refine nm_r (ms_or _ _) (nm_r (nI_1 i) (ih _ ?_))
      show c ||| ms_nb T i = ms_wf T s (i + 1)
      unfold ms_wf; rw [if_pos e, hc]
theorem ms_dist {T O : Nat → Nat → Nat} {n : Nat} {A B D : Nat → Nat} {P : Int32} {y y' : Nat} (R : ms_R T O (ms_F n A B D)) (hn : n ≤ 16) (cl : ms_cl T) (co : ms_co T) (hy : T y y' ≠ 10) :
    ∀ d j s, j + d = 10 → s < 1024 → j + 1 ≤ ms_pc s → (∃ x x', T x x' ≠ 10 ∧ s.testBit x = true) →
    ∃ r, (∀ post : Int32 → Prop, post r → wX_distance_25 post (nI y) P (ms_C T) (d + 1) (nI s) (nI j)) ∧ (∀ post : Int32 → Prop, post r → wY_distance_51 post (nI y) (nI n) (ms_N A) (ms_N B) (ms_N D) (d + 1) (nI s) (nI j)) := by
  have K := ms_RK R
  have y10 := (K y y' hy).1
  intro d
  induction d with
  | zero =>
    intro j s hj hs hpc _
    have := ms_pc_le s
    omega
  | succ d ih =>
    intro j s hj hs hpc hx
    have hj10 : j < 10 := by omega
    have nle : ¬ (10 : Int32) ≤ nI j := nI_ge (b := 10) hj10 (by decide)
    cases e : s.testBit y
    · obtain ⟨x, x', h1, h2⟩ := hx
      have gr := ms_grow K co hs h1 h2 hy e
      obtain ⟨r, hX, hY⟩ := ih (j + 1) (ms_wd T s) (by omega) (ms_wf_lt hs 10) (by omega) ⟨x, x', h1, (ms_wf_b K s x 10).mpr (Or.inl h2)⟩
      refine ⟨r, fun post hp => br_f nle (ms_xholds hs y10 (fun z => absurd (z.symm.trans e) (by decide)) (fun _ => br_t rfl (ms_xwd K hs (nm_r (nI_1 j) (hX post hp))))), fun post hp => br_f nle ?_⟩
      rw [ms_bit_f hs y10 e]
      exact br_t rfl (ms_ywd R hn cl hs (hY post hp))
    · refine ⟨nI j, fun post hp => br_f nle (ms_xholds hs y10 (fun _ => br_f (by decide) hp) (fun z => absurd (z.symm.trans e) (by decide))), fun post hp => br_f nle ?_⟩
      rw [ms_bit_t hs y10 e]
      exact br_f (by decide) hp
theorem ms_9 {q : Int32} (h : 10 ≤ q) : 9 < q := by
  have t1 : (10 : Int32).toInt = 10 := by decide
  have t2 : (9 : Int32).toInt = 9 := by decide
  rw [Int32.le_iff_toInt_le, t1] at h
  rw [Int32.lt_iff_toInt_lt, t2]
  omega
theorem ms_ydist {post : Int32 → Prop} {T O : Nat → Nat → Nat} {n p : Nat} {A B D : Nat → Nat} {q1 q2 : Int32} (R : ms_R T O (ms_F n A B D)) (hn : n ≤ 16) (hp : p < 1024) (vx : ms_vx T p)
    (h0 : ¬ (ms_ix q1 < 10 ∧ p.testBit (ms_ix q1) = true) ∨ ¬ (ms_ix q2 < 10 ∧ p.testBit (ms_ix q2) = true) → post (-1))
    (h1 : ms_ix q1 < 10 ∧ p.testBit (ms_ix q1) = true → ms_ix q2 < 10 ∧ p.testBit (ms_ix q2) = true → ∃ m, wY_distance_51 post q2 (nI n) (ms_N A) (ms_N B) (ms_N D) m (nI (2 ^ ms_ix q1)) 0) : wpY_distance post (nI n, ms_N A, ms_N B, ms_N D) q1 q2 := by
  unfold wpY_distance
  dsimp only
  refine ms_yvert R hn hp vx ?_
  rcases ms_ix_o q1 with ⟨a, ha, rfl⟩ | ⟨_, e1, n1⟩
  · refine br_f (nI_pos (by omega)) (br_f (nI_nlt (a := 9) (by omega) (by decide)) ?_)
    rcases ms_ix_o q2 with ⟨b, hb, rfl⟩ | ⟨_, e2, n2⟩
    · refine br_f (nI_pos (by omega)) (br_f (nI_nlt (a := 9) (by omega) (by decide)) ?_)
      rw [ms_ix_n ha, ms_ix_n hb] at h0 h1
      cases ba : p.testBit a
      · rw [ms_bit_f hp ha ba]
        exact br_t rfl (h0 (Or.inl (fun z => by rw [ba] at z; exact absurd z.2 (by decide))))
      · rw [ms_bit_t hp ha ba]
        refine br_f (by decide) ?_
        cases bb : p.testBit b
        · rw [ms_bit_f hp hb bb]
          exact br_t rfl (h0 (Or.inr (fun z => by rw [bb] at z; exact absurd z.2 (by decide))))
        · rw [ms_bit_t hp hb bb]
          exact br_f (by decide) (nm_r (ms_sh ha) (h1 ⟨ha, ba⟩ ⟨hb, bb⟩))
    · have bad : post (-1) := h0 (Or.inr (fun z => by rw [e2] at z; exact absurd z.1 (by decide)))
      exact br_c (fun _ => bad) (fun c1 => br_t (ms_9 (Or.resolve_left n2 c1)) bad)
  · have bad : post (-1) := h0 (Or.inl (fun z => by rw [e1] at z; exact absurd z.1 (by decide)))
    exact br_c (fun _ => bad) (fun c1 => br_t (ms_9 (Or.resolve_left n1 c1)) bad)
theorem i_vc_distance {k : Nat} {u : SX} {v : SY} (I : i_Rel k u v) (hk : k + 4 ≤ 2048) (v1 : Int32) (v2 : Int32) : wpX_distance (fun r => wpY_distance (fun r' => r' = r ∧ i_Rel (k + 4) u v) v v1 v2) u v1 v2 := by
  have J : i_Rel (k + 4) u v := i_up I
  obtain ⟨T, O, A, B, D, n, p, rfl, rfl, R, ⟨cl, nd, vx, co, lk⟩, hp, he, hc⟩ := I
  have hn := ms_n16 he
  have K := ms_RK R
  unfold wpX_distance
  dsimp only
  refine ms_xvert hp (fun a1 a2 => br_f (by decide) (ms_xvert hp (fun b1 b2 => br_f (by decide) ?_) (fun z => br_t rfl (ms_ydist R hn hp vx (fun _ => ⟨rfl, J⟩) (fun _ h => absurd h z))))) (fun z => br_t rfl (ms_ydist R hn hp vx (fun _ => ⟨rfl, J⟩) (fun h _ => absurd h z)))
  obtain ⟨x', hx'⟩ := (vx _ a1).mp a2
  obtain ⟨y', hy'⟩ := (vx _ b1).mp b2
  have e1 : v1 = nI (ms_ix v1) := by
    rcases ms_ix_o v1 with ⟨a, ha, q⟩ | ⟨_, e, _⟩
    · rw [q, ms_ix_n ha]
    · omega
  have e2 : v2 = nI (ms_ix v2) := by
    rcases ms_ix_o v2 with ⟨a, ha, q⟩ | ⟨_, e, _⟩
    · rw [q, ms_ix_n ha]
    · omega
  have hb : (2 ^ ms_ix v1).testBit (ms_ix v1) = true := by rw [ms_tb2]; simp
  have pc1 : 0 + 1 ≤ ms_pc (2 ^ ms_ix v1) := by
    have := ms_pc_or (p := 0) a1 (by rw [Nat.zero_testBit])
    rw [Nat.zero_or] at this
    omega
  obtain ⟨r, hX, hY⟩ := ms_dist (P := nI p) R hn cl co hy' 10 0 (2 ^ ms_ix v1) (by omega) (ms_pow a1) pc1 ⟨_, x', hx', hb⟩
  rw [← e2] at hX hY
  refine nm_r (e' := nI (2 ^ ms_ix v1)) ?_ ⟨11, hX _ (ms_ydist R hn hp vx (fun _ => ?_) (fun _ _ => ⟨11, hY _ ⟨rfl, J⟩⟩))⟩
  · have := ms_sh a1
    rw [← e1] at this; exact this
  · rename_i z
    exact z.elim (fun z => absurd ⟨a1, a2⟩ z) (fun z => absurd ⟨b1, b2⟩ z)
/-! ofDegree -/
theorem i_vc_ofDegree {k : Nat} {u : SX} {v : SY} (I : i_Rel k u v) (hk : k + 4 ≤ 2048) (v1 : Int32) : wpX_ofDegree (fun r => wpY_ofDegree (fun r' => r' = r ∧ i_Rel (k + 4) u v) v v1) u v1 := by
  have J : i_Rel (k + 4) u v := i_up I
  obtain ⟨T, O, A, B, D, n, p, rfl, rfl, R, ⟨cl, nd, vx, co, lk⟩, hp, he, hc⟩ := I
  have hn := ms_n16 he
  have K := ms_RK R
  have s1 : ∀ (f : Nat → Bool) i, f i = true → ms_cnt f (i + 1) = ms_cnt f i + 1 := fun f i e => by
    show ms_cnt f i + (if f i = true then 1 else 0) = _
    rw [if_pos e]
  have s0 : ∀ (f : Nat → Bool) i, ¬ f i = true → ms_cnt f (i + 1) = ms_cnt f i := fun f i e => by
    show ms_cnt f i + (if f i = true then 1 else 0) = _
    rw [if_neg e]; rfl
  have hX : ∀ post : Int32 → Prop, post (nI (ms_cnt (fun v => p.testBit v && decide (nI (ms_pc (ms_nb T v)) = v1)) 10)) → wpX_ofDegree post (nI p, ms_C T) v1 := by
    intro post h
    refine loop_0 (fun m i (c : Nat) => wX_ofDegree_4 post v1 (nI p) (ms_C T) m (nI c) (nI i)) (fun i c => c = ms_cnt (fun v => p.testBit v && decide (nI (ms_pc (ms_nb T v)) = v1)) i) 10 0 rfl ?_ ?_
    · intro m c hcc
      subst hcc
      exact br_t (nI_le (a := 10) (by omega) (by decide)) h
    · intro m i c hi hcc ih
      refine br_f (nI_ge (b := 10) hi (by decide)) (ms_xnb K ?_)
      rw [ms_ix_n hi]
      refine ms_xvert hp (fun _ e => br_f (by decide) (ms_xcb (ms_nb_lt _ _) ?_)) (fun z => br_t rfl (nm_r (nI_1 i) (ih c ?_)))
      · rw [ms_ix_n hi] at e
        refine br_c (fun q => nm_r (nI_1 c) (nm_r (nI_1 i) (ih (c + 1) ?_))) (fun q => nm_r (nI_1 i) (ih c ?_))
        · rw [s1 _ i (by simp [e, q]), hcc]
        · rw [s0 _ i (by simp [e, q]), hcc]
      · rw [ms_ix_n hi] at z
        have : ¬ p.testBit i = true := fun q => z ⟨hi, q⟩
        rw [s0 _ i (by simp [this]), hcc]
  refine hX _ ?_
  unfold wpY_ofDegree
  dsimp only
  refine ms_yvert R hn hp vx ?_
  refine loop_0 (fun m i (c : Nat) => wY_ofDegree_10 _ v1 (nI p) (nI n) (ms_N A) (ms_N B) (ms_N D) m (nI c) (nI i)) (fun i c => c = ms_cnt (fun v => p.testBit v && decide (nI (ms_pc (ms_nb T v)) = v1)) i) 10 0 rfl ?_ ?_
  · intro m c hcc
    subst hcc
    exact br_t (nI_le (a := 10) (by omega) (by decide)) ⟨rfl, J⟩
  · intro m i c hi hcc ih
    refine br_f (nI_ge (b := 10) hi (by decide)) ?_
    cases e : p.testBit i
    · rw [ms_bit_f hp hi e]
      refine br_f (by decide) (nm_r (nI_1 i) (ih c ?_))
      rw [s0 _ i (by simp [e]), hcc]
    · rw [ms_bit_t hp hi e]
      refine br_t rfl (ms_yjoin R hn cl ?_)
      rw [ms_ix_n hi]
      refine ms_ysize (ms_nb_lt _ _) (br_c (fun q => nm_r (nI_1 c) (nm_r (nI_1 i) (ih (c + 1) ?_))) (fun q => nm_r (nI_1 i) (ih c ?_)))
      · rw [s1 _ i (by simp [e, q]), hcc]
      · rw [s0 _ i (by simp [e, q]), hcc]
