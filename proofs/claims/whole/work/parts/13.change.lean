/-! the methods that change: the pure side -/
theorem ms_newv {T : Nat → Nat → Nat} {p v : Nat} (K : ms_K T) (cl : ms_cl T) (vx : ms_vx T p) (hv : v < 10) (hpv : p.testBit v = false) : (∀ y, T v y = 10) ∧ (∀ x, T x v = 10) ∧ (∀ x y, T x y ≠ v) := by
  have hv1 : ∀ y, T v y = 10 := by
    intro y
    by_cases e : T v y = 10
    · exact e
    · have := (vx v hv).mpr ⟨y, e⟩
      rw [hpv] at this
      exact absurd this (by decide)
  refine ⟨hv1, ?_, ?_⟩
  · intro x
    by_cases e : T x v = 10
    · exact e
    · exact absurd (hv1 x) (cl _ _ e)
  · intro x y e
    have h10 : T x y ≠ 10 := by rw [e]; exact Nat.ne_of_lt hv
    have k := (K x y h10).2.2.2.2.2.2.2
    have k2 := (K x y h10).2.1
    rw [e, hv1 x] at k
    omega
theorem ms_sf_d {T : Nat → Nat → Nat} {a b c v : Nat} : ms_put (ms_put (ms_put (ms_drop T a b c) a b v) b c v) c a v = ms_sf T a b c v := by
  funext x y
  unfold ms_sf
  simp only [ms_put_e, ms_drop_e]
  by_cases h1 : x = a ∧ y = b
  · rw [if_pos h1, if_pos h1]
  · by_cases h2 : x = b ∧ y = c
    · rw [if_pos h2, if_pos h2]
    · by_cases h3 : x = c ∧ y = a
      · rw [if_pos h3, if_pos h3]
      · simp only [h1, h2, h3, if_false]
theorem ms_sfI {T O : Nat → Nat → Nat} {A B D : Nat → Nat} {n p a b c v : Nat} (I : ms_Inv T O A B D (n + 1) p) (hc : T a b = c) (hc10 : c ≠ 10) (hv : ms_least p v) {f : Nat} (g : ms_F (n + 1) A B D f a b c) :
    ∃ O', ms_Inv (ms_sf T a b c v) O' (ms_u (ms_u (ms_u (ms_u A f (A n)) n a) (n + 1) b) (n + 2) c) (ms_u (ms_u (ms_u (ms_u B f (B n)) n b) (n + 1) c) (n + 2) a) (ms_u (ms_u (ms_u (ms_u D f (D n)) n v) (n + 1) v) (n + 2) v) (n + 3) (p ||| 2 ^ v) := by
  obtain ⟨R, V, hp, he, hcn⟩ := I
  have K := ms_RK R
  have V' := V
  obtain ⟨cl, nd, vx, co, lk⟩ := V
  obtain ⟨v10, pv, _⟩ := hv
  obtain ⟨t1, t2, t3⟩ := ms_newv K cl vx v10 pv
  have nab : T a b ≠ 10 := by rw [hc]; exact hc10
  have k1 := K a b nab
  rw [hc] at k1
  obtain ⟨ha, hb, hcc, hab, hca, hcb, tbc, tca⟩ := k1
  have hav : a ≠ v := by intro e; rw [e] at nab; exact nab (t1 b)
  have hbv : b ≠ v := by intro e; rw [e] at nab; exact nab (t2 a)
  have hcv : c ≠ v := by rw [← hc]; exact t3 a b
  have hba := Ne.symm hab
  have hac := Ne.symm hca
  have hbc := Ne.symm hcb
  have hva := Ne.symm hav
  have hvb := Ne.symm hbv
  have hvc := Ne.symm hcv
  obtain ⟨O1, R1⟩ := ms_Rtake R g
  have c1 := ms_cn_drop (T := T) ha hb hcc hab hbc hca nab (by rw [tbc]; exact Nat.ne_of_lt ha) (by rw [tca]; exact Nat.ne_of_lt hb)
  have p1 : ms_drop T a b c a b = 10 := by simp [ms_drop_e, hab, hac, hav, hba, hbc, hbv, hca, hcb, hcv, hva, hvb, hvc]
  have p2 : ms_drop T a b c b v = 10 := by simp [ms_drop_e, t2, hab, hac, hav, hba, hbc, hbv, hca, hcb, hcv, hva, hvb, hvc]
  have p3 : ms_drop T a b c v a = 10 := by simp [ms_drop_e, t1, hab, hac, hav, hba, hbc, hbv, hca, hcb, hcv, hva, hvb, hvc]
  obtain ⟨O2, R2⟩ := ms_Rput R1 ha hb v10 hab hbv hva p1 p2 p3
  have c2 := ms_cn_put ha hb v10 hab hbv hva p1 p2 p3
  have q1 : ms_put (ms_drop T a b c) a b v b c = 10 := by simp [ms_put_e, ms_drop_e, hab, hac, hav, hba, hbc, hbv, hca, hcb, hcv, hva, hvb, hvc]
  have q2 : ms_put (ms_drop T a b c) a b v c v = 10 := by simp [ms_put_e, ms_drop_e, t2, hab, hac, hav, hba, hbc, hbv, hca, hcb, hcv, hva, hvb, hvc]
  have q3 : ms_put (ms_drop T a b c) a b v v b = 10 := by simp [ms_put_e, ms_drop_e, t1, hab, hac, hav, hba, hbc, hbv, hca, hcb, hcv, hva, hvb, hvc]
  obtain ⟨O3, R3⟩ := ms_Rput R2 hb hcc v10 hbc hcv hvb q1 q2 q3
  have c3 := ms_cn_put hb hcc v10 hbc hcv hvb q1 q2 q3
  have r1 : ms_put (ms_put (ms_drop T a b c) a b v) b c v c a = 10 := by simp [ms_put_e, ms_drop_e, hab, hac, hav, hba, hbc, hbv, hca, hcb, hcv, hva, hvb, hvc]
  have r2 : ms_put (ms_put (ms_drop T a b c) a b v) b c v a v = 10 := by simp [ms_put_e, ms_drop_e, t2, hab, hac, hav, hba, hbc, hbv, hca, hcb, hcv, hva, hvb, hvc]
  have r3 : ms_put (ms_put (ms_drop T a b c) a b v) b c v v c = 10 := by simp [ms_put_e, ms_drop_e, t1, hab, hac, hav, hba, hbc, hbv, hca, hcb, hcv, hva, hvb, hvc]
  obtain ⟨O4, R4⟩ := ms_Rput R3 hcc ha v10 hca hav hvc r1 r2 r3
  have c4 := ms_cn_put hcc ha v10 hca hav hvc r1 r2 r3
  rw [ms_sf_d] at R4 c4
  refine ⟨O4, R4, ms_sfV K V' hc hc10 v10 pv, ms_lt hp (ms_pow v10), ?_, ?_⟩
  · rw [ms_pc_or v10 pv]; omega
  · omega
theorem ms_flI {T O : Nat → Nat → Nat} {A B D : Nat → Nat} {n p a b c d : Nat} (I : ms_Inv T O A B D (n + 2) p) (hc : T a b = c) (hd : T b a = d) (hc10 : c ≠ 10) (tcd : T c d = 10) {f : Nat} (g : ms_F (n + 2) A B D f a b c) :
    ms_drop T a b c b a = d ∧ d ≠ 10 ∧ (∃ O1, ms_R (ms_drop T a b c) O1 (ms_F (n + 1) (ms_u A f (A (n + 1))) (ms_u B f (B (n + 1))) (ms_u D f (D (n + 1))))) ∧
    ∀ f2, ms_F (n + 1) (ms_u A f (A (n + 1))) (ms_u B f (B (n + 1))) (ms_u D f (D (n + 1))) f2 b a d →
    ∃ O', ms_Inv (ms_fl T a b c d) O' (ms_u (ms_u (ms_u (ms_u A f (A (n + 1))) f2 (ms_u A f (A (n + 1)) n)) n c) (n + 1) d) (ms_u (ms_u (ms_u (ms_u B f (B (n + 1))) f2 (ms_u B f (B (n + 1)) n)) n a) (n + 1) b) (ms_u (ms_u (ms_u (ms_u D f (D (n + 1))) f2 (ms_u D f (D (n + 1)) n)) n d) (n + 1) c) (n + 2) p := by
  obtain ⟨R, V, hp, he, hcn⟩ := I
  have K := ms_RK R
  have V' := V
  obtain ⟨cl, nd, vx, co, lk⟩ := V
  obtain ⟨⟨ha, hb, hcc, hdd⟩, ⟨hab, hca, hcb, hda, hdb, hcd⟩, ⟨tab, tbc, tca, tba, tad, tdb⟩, ⟨n1, n2, n3, n4, n5, n6⟩⟩ := ms_edge K cl nd hc hd hc10
  have hba := Ne.symm hab
  have hac := Ne.symm hca
  have hbc := Ne.symm hcb
  have had := Ne.symm hda
  have hbd := Ne.symm hdb
  have hdc := Ne.symm hcd
  have tdc : T d c = 10 := by
    by_cases e : T d c = 10
    · exact e
    · exact absurd tcd (cl _ _ e)
  have d10 : d ≠ 10 := Nat.ne_of_lt hdd
  obtain ⟨O1, R1⟩ := ms_Rtake R g
  have c1 := ms_cn_drop (T := T) ha hb hcc hab hbc hca n1 n2 n3
  have s1 : ms_drop T a b c b a = d := by simp [ms_drop_e, tba, hab, hac, had, hba, hbc, hbd, hca, hcb, hcd, hda, hdb, hdc]
  have s2 : ms_drop T a b c a d = b := by simp [ms_drop_e, tad, hab, hac, had, hba, hbc, hbd, hca, hcb, hcd, hda, hdb, hdc]
  have s3 : ms_drop T a b c d b = a := by simp [ms_drop_e, tdb, hab, hac, had, hba, hbc, hbd, hca, hcb, hcd, hda, hdb, hdc]
  refine ⟨s1, d10, ⟨O1, R1⟩, ?_⟩
  intro f2 g2
  obtain ⟨O2, R2⟩ := ms_Rtake R1 g2
  have c2 := ms_cn_drop (T := ms_drop T a b c) hb ha hdd hba had hdb (by rw [s1]; exact d10) (by rw [s2]; exact Nat.ne_of_lt hb) (by rw [s3]; exact Nat.ne_of_lt ha)
  have p1 : ms_drop (ms_drop T a b c) b a d c a = 10 := by simp [ms_drop_e, hab, hac, had, hba, hbc, hbd, hca, hcb, hcd, hda, hdb, hdc]
  have p2 : ms_drop (ms_drop T a b c) b a d a d = 10 := by simp [ms_drop_e, hab, hac, had, hba, hbc, hbd, hca, hcb, hcd, hda, hdb, hdc]
  have p3 : ms_drop (ms_drop T a b c) b a d d c = 10 := by simp [ms_drop_e, tdc, hab, hac, had, hba, hbc, hbd, hca, hcb, hcd, hda, hdb, hdc]
  obtain ⟨O3, R3⟩ := ms_Rput R2 hcc ha hdd hca had hdc p1 p2 p3
  have c3 := ms_cn_put hcc ha hdd hca had hdc p1 p2 p3
  have q1 : ms_put (ms_drop (ms_drop T a b c) b a d) c a d d b = 10 := by simp [ms_put_e, ms_drop_e, hab, hac, had, hba, hbc, hbd, hca, hcb, hcd, hda, hdb, hdc]
  have q2 : ms_put (ms_drop (ms_drop T a b c) b a d) c a d b c = 10 := by simp [ms_put_e, ms_drop_e, hab, hac, had, hba, hbc, hbd, hca, hcb, hcd, hda, hdb, hdc]
  have q3 : ms_put (ms_drop (ms_drop T a b c) b a d) c a d c d = 10 := by simp [ms_put_e, ms_drop_e, tcd, hab, hac, had, hba, hbc, hbd, hca, hcb, hcd, hda, hdb, hdc]
  obtain ⟨O4, R4⟩ := ms_Rput R3 hdd hb hcc hdb hbc hcd q1 q2 q3
  have c4 := ms_cn_put hdd hb hcc hdb hbc hcd q1 q2 q3
  refine ⟨O4, R4, ms_flV K V' hc hd hc10 tcd, hp, he, ?_⟩
  show ms_cn (ms_put (ms_put (ms_drop (ms_drop T a b c) b a d) c a d) d b c) = _
  omega
theorem ms_seI {T O : Nat → Nat → Nat} {A B D : Nat → Nat} {n p a b c d v : Nat} (I : ms_Inv T O A B D (n + 2) p) (hc : T a b = c) (hd : T b a = d) (hc10 : c ≠ 10) (hv : ms_least p v) {f : Nat} (g : ms_F (n + 2) A B D f a b c) :
    ms_drop T a b c b a = d ∧ d ≠ 10 ∧ (∃ O1, ms_R (ms_drop T a b c) O1 (ms_F (n + 1) (ms_u A f (A (n + 1))) (ms_u B f (B (n + 1))) (ms_u D f (D (n + 1))))) ∧
    ∀ f2, ms_F (n + 1) (ms_u A f (A (n + 1))) (ms_u B f (B (n + 1))) (ms_u D f (D (n + 1))) f2 b a d →
    ∃ O', ms_Inv (ms_se T a b c d v) O' (ms_u (ms_u (ms_u (ms_u (ms_u (ms_u A f (A (n + 1))) f2 (ms_u A f (A (n + 1)) n)) n a) (n + 1) v) (n + 2) b) (n + 3) v) (ms_u (ms_u (ms_u (ms_u (ms_u (ms_u B f (B (n + 1))) f2 (ms_u B f (B (n + 1)) n)) n v) (n + 1) b) (n + 2) v) (n + 3) a) (ms_u (ms_u (ms_u (ms_u (ms_u (ms_u D f (D (n + 1))) f2 (ms_u D f (D (n + 1)) n)) n c) (n + 1) c) (n + 2) d) (n + 3) d) (n + 4) (p ||| 2 ^ v) := by
  obtain ⟨Osf, Isf⟩ := ms_sfI (n := n + 1) I hc hc10 hv g
  have Ksf := ms_RK Isf.1
  have Vsf := Isf.2.1
  clear Isf
  obtain ⟨R, V, hp, he, hcn⟩ := I
  have K := ms_RK R
  obtain ⟨cl, nd, vx, co, lk⟩ := V
  obtain ⟨v10, pv, _⟩ := hv
  obtain ⟨t1, t2, t3⟩ := ms_newv K cl vx v10 pv
  obtain ⟨⟨ha, hb, hcc, hdd⟩, ⟨hab, hca, hcb, hda, hdb, hcd⟩, ⟨tab, tbc, tca, tba, tad, tdb⟩, ⟨n1, n2, n3, n4, n5, n6⟩⟩ := ms_edge K cl nd hc hd hc10
  have hav : a ≠ v := by intro e; rw [e] at n1; exact n1 (t1 b)
  have hbv : b ≠ v := by intro e; rw [e] at n1; exact n1 (t2 a)
  have hcv : c ≠ v := by rw [← hc]; exact t3 a b
  have hdv : d ≠ v := by rw [← hd]; exact t3 b a
  have hba := Ne.symm hab
  have hac := Ne.symm hca
  have hbc := Ne.symm hcb
  have had := Ne.symm hda
  have hbd := Ne.symm hdb
  have hdc := Ne.symm hcd
  have hva := Ne.symm hav
  have hvb := Ne.symm hbv
  have hvc := Ne.symm hcv
  have hvd := Ne.symm hdv
  have d10 : d ≠ 10 := Nat.ne_of_lt hdd
  obtain ⟨O1, R1⟩ := ms_Rtake R g
  have c1 := ms_cn_drop (T := T) ha hb hcc hab hbc hca n1 n2 n3
  have s1 : ms_drop T a b c b a = d := by simp [ms_drop_e, tba, hab, hac, had, hav, hba, hbc, hbd, hbv, hca, hcb, hcd, hcv, hda, hdb, hdc, hdv, hva, hvb, hvc, hvd]
  have s2 : ms_drop T a b c a d = b := by simp [ms_drop_e, tad, hab, hac, had, hav, hba, hbc, hbd, hbv, hca, hcb, hcd, hcv, hda, hdb, hdc, hdv, hva, hvb, hvc, hvd]
  have s3 : ms_drop T a b c d b = a := by simp [ms_drop_e, tdb, hab, hac, had, hav, hba, hbc, hbd, hbv, hca, hcb, hcd, hcv, hda, hdb, hdc, hdv, hva, hvb, hvc, hvd]
  refine ⟨s1, d10, ⟨O1, R1⟩, ?_⟩
  intro f2 g2
  obtain ⟨O2, R2⟩ := ms_Rtake R1 g2
  have c2 := ms_cn_drop (T := ms_drop T a b c) hb ha hdd hba had hdb (by rw [s1]; exact d10) (by rw [s2]; exact Nat.ne_of_lt hb) (by rw [s3]; exact Nat.ne_of_lt ha)
  have p1 : ms_drop (ms_drop T a b c) b a d a v = 10 := by simp [ms_drop_e, t2, hab, hac, had, hav, hba, hbc, hbd, hbv, hca, hcb, hcd, hcv, hda, hdb, hdc, hdv, hva, hvb, hvc, hvd]
  have p2 : ms_drop (ms_drop T a b c) b a d v c = 10 := by simp [ms_drop_e, t1, hab, hac, had, hav, hba, hbc, hbd, hbv, hca, hcb, hcd, hcv, hda, hdb, hdc, hdv, hva, hvb, hvc, hvd]
  have p3 : ms_drop (ms_drop T a b c) b a d c a = 10 := by simp [ms_drop_e, hab, hac, had, hav, hba, hbc, hbd, hbv, hca, hcb, hcd, hcv, hda, hdb, hdc, hdv, hva, hvb, hvc, hvd]
  obtain ⟨O3, R3⟩ := ms_Rput R2 ha v10 hcc hav hvc hca p1 p2 p3
  have c3 := ms_cn_put ha v10 hcc hav hvc hca p1 p2 p3
  have q1 : ms_put (ms_drop (ms_drop T a b c) b a d) a v c v b = 10 := by simp [ms_put_e, ms_drop_e, t1, hab, hac, had, hav, hba, hbc, hbd, hbv, hca, hcb, hcd, hcv, hda, hdb, hdc, hdv, hva, hvb, hvc, hvd]
  have q2 : ms_put (ms_drop (ms_drop T a b c) b a d) a v c b c = 10 := by simp [ms_put_e, ms_drop_e, hab, hac, had, hav, hba, hbc, hbd, hbv, hca, hcb, hcd, hcv, hda, hdb, hdc, hdv, hva, hvb, hvc, hvd]
  have q3 : ms_put (ms_drop (ms_drop T a b c) b a d) a v c c v = 10 := by simp [ms_put_e, ms_drop_e, t2, hab, hac, had, hav, hba, hbc, hbd, hbv, hca, hcb, hcd, hcv, hda, hdb, hdc, hdv, hva, hvb, hvc, hvd]
  obtain ⟨O4, R4⟩ := ms_Rput R3 v10 hb hcc hvb hbc hcv q1 q2 q3
  have c4 := ms_cn_put v10 hb hcc hvb hbc hcv q1 q2 q3
  have r1 : ms_put (ms_put (ms_drop (ms_drop T a b c) b a d) a v c) v b c b v = 10 := by simp [ms_put_e, ms_drop_e, t2, hab, hac, had, hav, hba, hbc, hbd, hbv, hca, hcb, hcd, hcv, hda, hdb, hdc, hdv, hva, hvb, hvc, hvd]
  have r2 : ms_put (ms_put (ms_drop (ms_drop T a b c) b a d) a v c) v b c v d = 10 := by simp [ms_put_e, ms_drop_e, t1, hab, hac, had, hav, hba, hbc, hbd, hbv, hca, hcb, hcd, hcv, hda, hdb, hdc, hdv, hva, hvb, hvc, hvd]
  have r3 : ms_put (ms_put (ms_drop (ms_drop T a b c) b a d) a v c) v b c d b = 10 := by simp [ms_put_e, ms_drop_e, hab, hac, had, hav, hba, hbc, hbd, hbv, hca, hcb, hcd, hcv, hda, hdb, hdc, hdv, hva, hvb, hvc, hvd]
  obtain ⟨O5, R5⟩ := ms_Rput R4 hb v10 hdd hbv hvd hdb r1 r2 r3
  have c5 := ms_cn_put hb v10 hdd hbv hvd hdb r1 r2 r3
  have w1 : ms_put (ms_put (ms_put (ms_drop (ms_drop T a b c) b a d) a v c) v b c) b v d v a = 10 := by simp [ms_put_e, ms_drop_e, t1, hab, hac, had, hav, hba, hbc, hbd, hbv, hca, hcb, hcd, hcv, hda, hdb, hdc, hdv, hva, hvb, hvc, hvd]
  have w2 : ms_put (ms_put (ms_put (ms_drop (ms_drop T a b c) b a d) a v c) v b c) b v d a d = 10 := by simp [ms_put_e, ms_drop_e, hab, hac, had, hav, hba, hbc, hbd, hbv, hca, hcb, hcd, hcv, hda, hdb, hdc, hdv, hva, hvb, hvc, hvd]
  have w3 : ms_put (ms_put (ms_put (ms_drop (ms_drop T a b c) b a d) a v c) v b c) b v d d v = 10 := by simp [ms_put_e, ms_drop_e, t2, hab, hac, had, hav, hba, hbc, hbd, hbv, hca, hcb, hcd, hcv, hda, hdb, hdc, hdv, hva, hvb, hvc, hvd]
  obtain ⟨O6, R6⟩ := ms_Rput R5 v10 ha hdd hva had hdv w1 w2 w3
  have c6 := ms_cn_put v10 ha hdd hva had hdv w1 w2 w3
  refine ⟨O6, R6, ?_, ms_lt hp (ms_pow v10), ?_, ?_⟩
  · rw [ms_se_e hab hac hbc had hbd hcd hav hbv hcv hdv]
    have E := fun x y => ms_sf_e hab hbc hca hav hbv hcv x y (t1 y) (t2 x)
    refine ms_flV Ksf Vsf ?_ ?_ (Nat.ne_of_lt v10) ?_
    · rw [E]; simp [hab, hac, had, hav, hba, hbc, hbd, hbv, hca, hcb, hcd, hcv, hda, hdb, hdc, hdv, hva, hvb, hvc, hvd]
    · rw [E]; simp [tba, hab, hac, had, hav, hba, hbc, hbd, hbv, hca, hcb, hcd, hcv, hda, hdb, hdc, hdv, hva, hvb, hvc, hvd]
    · rw [E]; simp [hab, hac, had, hav, hba, hbc, hbd, hbv, hca, hcb, hcd, hcv, hda, hdb, hdc, hdv, hva, hvb, hvc, hvd]
  · rw [ms_pc_or v10 pv]; omega
  · show ms_cn (ms_put (ms_put (ms_put (ms_put (ms_drop (ms_drop T a b c) b a d) a v c) v b c) b v d) v a d) = _
    omega
