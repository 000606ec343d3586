/-! the beginning, splitFace, splitEdge, flip -/
theorem ms_nm {T : Nat → Nat → Nat} (K : ms_K T) {q1 q2 : Int32} (e : T (ms_ix q1) (ms_ix q2) ≠ 10) : ∃ a b, a < 10 ∧ b < 10 ∧ q1 = nI a ∧ q2 = nI b ∧ ms_ix q1 = a ∧ ms_ix q2 = b := by
  have k := K _ _ e
  rcases ms_ix_o q1 with ⟨a, ha, rfl⟩ | ⟨_, e1, _⟩
  · rcases ms_ix_o q2 with ⟨b, hb, rfl⟩ | ⟨_, e2, _⟩
    · exact ⟨a, b, ha, hb, rfl, rfl, ms_ix_n ha, ms_ix_n hb⟩
    · rw [e2] at k; exact absurd k.2.1 (by decide)
  · rw [e1] at k; exact absurd k.1 (by decide)
theorem ms_ne10 {v : Nat} (h : v < 10) : ¬ nI v = 10 := fun e => by
  have : nI v = nI 10 := e
  rw [nI_eq (by omega) (by decide)] at this
  omega
theorem i_vc_splitFace {k : Nat} {u : SX} {v : SY} (I : i_Rel k u v) (hk : k + 4 ≤ 2048) (v1 : Int32) (v2 : Int32) (v3 : Int32) : wpX_splitFace (fun r u' => wpY_splitFace (fun r' v' => r' = r ∧ i_Rel (k + 4) u' v') v v1 v2 v3) u v1 v2 v3 := by
  have J : i_Rel (k + 4) u v := i_up I
  obtain ⟨T, O, A, B, D, n, p, rfl, rfl, In⟩ := I
  have In' := In
  obtain ⟨R, ⟨cl, nd, vx, co, lk⟩, hp, he, hcn⟩ := In
  have hn := ms_n16 he
  have K := ms_RK R
  unfold wpX_splitFace
  dsimp only
  refine ms_xhas K (fun e e10 => br_f (by decide) ?_) (fun z => br_t rfl ?_)
  · obtain ⟨a, b, ha, hb, rfl, rfl, ea, eb⟩ := ms_nm K (q1 := v1) (q2 := v2) (by rw [e]; exact e10)
    obtain ⟨c, hc, rfl⟩ : ∃ c, c < 10 ∧ v3 = nI c := by
      rcases ms_ix_o v3 with q | ⟨_, q, _⟩
      · exact q
      · exact absurd q e10
    have E0 := e
    have E10 := e10
    rw [ms_ix_n ha, ms_ix_n hb, ms_ix_n hc] at e
    rw [ms_ix_n hc] at e10
    rcases ms_least_o p with ⟨w, hw⟩ | full
    · refine ms_xfree hp hw (br_f (ms_n2 (by have := hw.1; omega)) (nm_r (e' := nI (p ||| 2 ^ w)) (by rw [ms_sh hw.1, ms_or]) ?_))
      refine ms_xput ha hb hw.1 ?_
      dsimp only
      refine ms_xput hb hc hw.1 ?_
      dsimp only
      refine ms_xput hc ha hw.1 ?_
      dsimp only
      unfold wpY_splitFace
      dsimp only
      refine ms_yisF R hn (fun _ _ => br_f (by decide) (ms_yfree R hn hp vx hw (br_f (ms_ne10 hw.1) ?_))) (fun z => absurd ⟨E0, E10⟩ z)
      have g0 := R.2.2.1 a b (by rw [e]; exact e10)
      obtain ⟨m, rfl⟩ : ∃ m, n = m + 1 := ⟨n - 1, by have := g0.1; omega⟩
      refine ms_ytake R hn e e10 (fun f g => ?_)
      dsimp only
      obtain ⟨O', I'⟩ := ms_sfI In' e e10 hw g
      have m16 := ms_n16 I'.2.2.2.1
      refine ms_yput (by omega) ?_
      dsimp only
      refine ms_yput (by omega) ?_
      dsimp only
      refine ms_yput (by omega) ?_
      exact ⟨rfl, _, O', _, _, _, _, _, rfl, rfl, I'⟩
    · refine ms_xfull hp full (br_t rfl ?_)
      unfold wpY_splitFace
      dsimp only
      exact ms_yisF R hn (fun _ _ => br_f (by decide) (ms_yfull R hn hp vx full (br_t rfl ⟨rfl, J⟩))) (fun z => absurd ⟨E0, E10⟩ z)
  · unfold wpY_splitFace
    dsimp only
    exact ms_yisF R hn (fun e e10 => absurd ⟨e, e10⟩ z) (fun _ => br_t rfl ⟨rfl, J⟩)
theorem i_vc_splitEdge {k : Nat} {u : SX} {v : SY} (I : i_Rel k u v) (hk : k + 4 ≤ 2048) (v1 : Int32) (v2 : Int32) : wpX_splitEdge (fun r u' => wpY_splitEdge (fun r' v' => r' = r ∧ i_Rel (k + 4) u' v') v v1 v2) u v1 v2 := by
  have J : i_Rel (k + 4) u v := i_up I
  obtain ⟨T, O, A, B, D, n, p, rfl, rfl, In⟩ := I
  have In' := In
  obtain ⟨R, ⟨cl, nd, vx, co, lk⟩, hp, he, hcn⟩ := In
  have hn := ms_n16 he
  have K := ms_RK R
  unfold wpX_splitEdge
  dsimp only
  refine ms_xjoin K (fun e => br_t rfl ?_) (fun e => br_f (by decide) ?_)
  · unfold wpY_splitEdge
    dsimp only
    refine ms_yopp R hn (ms_yopp R hn ?_)
    rw [e]
    exact br_f (by decide) ⟨rfl, J⟩
  · obtain ⟨a, b, ha, hb, rfl, rfl, ea, eb⟩ := ms_nm K e
    rw [ea, eb] at e
    have e2 := cl _ _ e
    obtain ⟨c, hc⟩ : ∃ c, T a b = c := ⟨_, rfl⟩
    obtain ⟨d, hd⟩ : ∃ d, T b a = d := ⟨_, rfl⟩
    have c10 : c < 10 := by rw [← hc]; exact (K _ _ e).2.2.1
    have d10 : d < 10 := by rw [← hd]; exact (K _ _ e2).2.2.1
    have hc' : c ≠ 10 := Nat.ne_of_lt c10
    have yo : ∀ post : Int32 → SY → Prop, (wpY_fresh (fun r_12 => (r_12 = 10 → post (-2) (nI n, ms_N A, ms_N B, ms_N D)) ∧ (¬ r_12 = 10 → wpY_takeOut (fun u => match u with | (s1, s2, s3, s4) => wpY_takeOut (fun u => match u with | (s1, s2, s3, s4) => wpY_put (fun u => match u with | (s1, s2, s3, s4) => wpY_put (fun u => match u with | (s1, s2, s3, s4) => wpY_put (fun u => match u with | (s1, s2, s3, s4) => wpY_put (fun u => match u with | (s1, s2, s3, s4) => post r_12 (s1, s2, s3, s4)) (s1, s2, s3, s4) r_12 (nI a) (nI d)) (s1, s2, s3, s4) (nI b) r_12 (nI d)) (s1, s2, s3, s4) r_12 (nI b) (nI c)) (s1, s2, s3, s4) (nI a) r_12 (nI c)) (s1, s2, s3, s4) (nI b) (nI a) (nI d)) (nI n, ms_N A, ms_N B, ms_N D) (nI a) (nI b) (nI c))) (nI n, ms_N A, ms_N B, ms_N D)) → wpY_splitEdge post (nI n, ms_N A, ms_N B, ms_N D) (nI a) (nI b) := by
      intro post h
      unfold wpY_splitEdge
      dsimp only
      refine ms_yopp R hn (ms_yopp R hn ?_)
      rw [ea, eb, hc, hd, ms_e_lt c10, ms_e_lt d10]
      exact br_t (nI_pos' (by omega)) h
    rcases ms_least_o p with ⟨w, hw⟩ | full
    · refine ms_xfree hp hw (br_f (ms_n2 (by have := hw.1; omega)) (ms_xcor K (ms_xcor K ?_)))
      rw [ea, eb, hc, hd, ms_e_lt c10, ms_e_lt d10]
      refine nm_r (e' := nI (p ||| 2 ^ w)) (by rw [ms_sh hw.1, ms_or]) ?_
      refine ms_xdrop ha hb c10 ?_
      dsimp only
      refine ms_xdrop hb ha d10 ?_
      dsimp only
      refine ms_xput ha hw.1 c10 ?_
      dsimp only
      refine ms_xput hw.1 hb c10 ?_
      dsimp only
      refine ms_xput hb hw.1 d10 ?_
      dsimp only
      refine ms_xput hw.1 ha d10 ?_
      dsimp only
      refine yo _ (ms_yfree R hn hp vx hw (br_f (ms_ne10 hw.1) ?_))
      have g0 := R.2.2.1 a b e
      have g1 := R.2.2.1 b a e2
      obtain ⟨m, rfl⟩ : ∃ m, n = m + 2 := by
        refine ⟨n - 2, ?_⟩
        have l0 := g0.1
        have l1 := g1.1
        have : O a b ≠ O b a := by
          intro q
          rw [q] at g0
          have := R.2.2.2 _ _ _ _ _ _ _ g1 g0
          have kk := K _ _ e
          have nn := nd a b e
          rcases this with w | w | w
          · exact kk.2.2.2.1 w.1
          · exact kk.2.2.2.2.2.1 w.2.2
          · exact nn (w.1.symm ▸ w.2.2 ▸ by omega)
        omega
      refine ms_ytake (n := m + 1) R hn hc hc' (fun f g => ?_)
      dsimp only
      obtain ⟨s1, d10', ⟨O1, R1⟩, fin⟩ := ms_seI In' hc hd hc' hw g
      refine ms_ytake (n := m) R1 (by omega) s1 d10' (fun f2 g2 => ?_)
      dsimp only
      obtain ⟨O', I'⟩ := fin f2 g2
      have m16 := ms_n16 I'.2.2.2.1
      refine ms_yput (by omega) ?_
      dsimp only
      refine ms_yput (by omega) ?_
      dsimp only
      refine ms_yput (by omega) ?_
      dsimp only
      refine ms_yput (by omega) ?_
      exact ⟨rfl, _, O', _, _, _, _, _, rfl, rfl, I'⟩
    · refine ms_xfull hp full (br_t rfl ?_)
      exact yo _ (ms_yfull R hn hp vx full (br_t rfl ⟨rfl, J⟩))
theorem i_vc_flip {k : Nat} {u : SX} {v : SY} (I : i_Rel k u v) (hk : k + 4 ≤ 2048) (v1 : Int32) (v2 : Int32) : wpX_flip (fun r u' => wpY_flip (fun r' v' => r' = r ∧ i_Rel (k + 4) u' v') v v1 v2) u v1 v2 := by
  have J : i_Rel (k + 4) u v := i_up I
  obtain ⟨T, O, A, B, D, n, p, rfl, rfl, In⟩ := I
  have In' := In
  obtain ⟨R, ⟨cl, nd, vx, co, lk⟩, hp, he, hcn⟩ := In
  have hn := ms_n16 he
  have K := ms_RK R
  unfold wpX_flip
  dsimp only
  refine ms_xjoin K (fun e => br_t rfl ?_) (fun e => br_f (by decide) ?_)
  · unfold wpY_flip
    dsimp only
    refine ms_yopp R hn (ms_yopp R hn ?_)
    rw [e]
    exact br_f (by decide) ⟨rfl, J⟩
  · have E := e
    obtain ⟨a, b, ha, hb, rfl, rfl, ea, eb⟩ := ms_nm K e
    rw [ea, eb] at e
    have e2 := cl _ _ e
    obtain ⟨c, hc⟩ : ∃ c, T a b = c := ⟨_, rfl⟩
    obtain ⟨d, hd⟩ : ∃ d, T b a = d := ⟨_, rfl⟩
    have c10 : c < 10 := by rw [← hc]; exact (K _ _ e).2.2.1
    have d10 : d < 10 := by rw [← hd]; exact (K _ _ e2).2.2.1
    have hc' : c ≠ 10 := Nat.ne_of_lt c10
    have yo : ∀ post : Int32 → SY → Prop, (wpY_flips (fun r_12 => (r_12 = 0 → post (-3) (nI n, ms_N A, ms_N B, ms_N D)) ∧ (¬ r_12 = 0 → wpY_takeOut (fun u => match u with | (s1, s2, s3, s4) => wpY_takeOut (fun u => match u with | (s1, s2, s3, s4) => wpY_put (fun u => match u with | (s1, s2, s3, s4) => wpY_put (fun u => match u with | (s1, s2, s3, s4) => post 0 (s1, s2, s3, s4)) (s1, s2, s3, s4) (nI d) (nI b) (nI c)) (s1, s2, s3, s4) (nI c) (nI a) (nI d)) (s1, s2, s3, s4) (nI b) (nI a) (nI d)) (nI n, ms_N A, ms_N B, ms_N D) (nI a) (nI b) (nI c))) (nI n, ms_N A, ms_N B, ms_N D) (nI a) (nI b)) → wpY_flip post (nI n, ms_N A, ms_N B, ms_N D) (nI a) (nI b) := by
      intro post h
      unfold wpY_flip
      dsimp only
      refine ms_yopp R hn (ms_yopp R hn ?_)
      rw [ea, eb, hc, hd, ms_e_lt c10, ms_e_lt d10]
      exact br_t (nI_pos' (by omega)) h
    refine ms_xflips K cl E (fun z => br_f (by decide) (ms_xcor K (ms_xcor K ?_))) (fun z => br_t rfl (yo _ (ms_yflips R hn cl (fun z' => absurd z' z) (fun _ => br_t rfl ⟨rfl, J⟩))))
    rw [ea, eb, hc, hd, ms_e_lt c10, ms_e_lt d10]
    refine ms_xdrop ha hb c10 ?_
    dsimp only
    refine ms_xdrop hb ha d10 ?_
    dsimp only
    refine ms_xput c10 ha d10 ?_
    dsimp only
    refine ms_xput d10 hb c10 ?_
    dsimp only
    refine yo _ (ms_yflips R hn cl (fun _ => br_f (by decide) ?_) (fun z' => absurd z z'))
    rw [ea, eb] at z
    have tcd : T c d = 10 := by have := z.2.2; rw [hc, hd] at this; exact this
    have g0 := R.2.2.1 a b e
    have g1 := R.2.2.1 b a e2
    obtain ⟨m, rfl⟩ : ∃ m, n = m + 2 := by
      refine ⟨n - 2, ?_⟩
      have l0 := g0.1
      have l1 := g1.1
      have : O a b ≠ O b a := by
        intro q
        rw [q] at g0
        have := R.2.2.2 _ _ _ _ _ _ _ g1 g0
        have kk := K _ _ e
        have nn := nd a b e
        rcases this with w | w | w
        · exact kk.2.2.2.1 w.1
        · exact kk.2.2.2.2.2.1 w.2.2
        · exact nn (w.1.symm ▸ w.2.2 ▸ by omega)
      omega
    refine ms_ytake (n := m + 1) R hn hc hc' (fun f g => ?_)
    dsimp only
    obtain ⟨s1, d10', ⟨O1, R1⟩, fin⟩ := ms_flI In' hc hd hc' tcd g
    refine ms_ytake (n := m) R1 (by omega) s1 d10' (fun f2 g2 => ?_)
    dsimp only
    obtain ⟨O', I'⟩ := fin f2 g2
    refine ms_yput (by omega) ?_
    dsimp only
    refine ms_yput (by omega) ?_
    exact ⟨rfl, _, O', _, _, _, _, _, rfl, rfl, I'⟩
