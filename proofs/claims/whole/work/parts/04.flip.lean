/-! an edge turned -/
def ms_fl (T : Nat → Nat → Nat) (a b c d : Nat) : Nat → Nat → Nat := ms_put (ms_put (ms_drop (ms_drop T a b c) b a d) c a d) d b c
theorem ms_fl_e {T : Nat → Nat → Nat} {a b c d : Nat} (hab : a ≠ b) (hac : a ≠ c) (hbc : b ≠ c) (had : a ≠ d) (hbd : b ≠ d) (hcd : c ≠ d) (x y : Nat) :
    ms_fl T a b c d x y = if x = c ∧ y = a then d else if x = a ∧ y = d then c else if x = d ∧ y = c then a else if x = d ∧ y = b then c else if x = b ∧ y = c then d else if x = c ∧ y = d then b else if (x = a ∧ y = b) ∨ (x = b ∧ y = a) then 10 else T x y := by
  unfold ms_fl
  rw [ms_put_e, ms_put_e, ms_drop_e, ms_drop_e]
  grind
theorem ms_flV {T : Nat → Nat → Nat} {p a b c d : Nat} (K : ms_K T) (V : ms_V T p) (hc : T a b = c) (hd : T b a = d) (hc10 : c ≠ 10) (tcd : T c d = 10) : ms_V (ms_fl T a b c d) p := by
  obtain ⟨cl, nd, vx, co, lk⟩ := V
  have hd10 : d ≠ 10 := by have := cl a b (by omega); omega
  have hcd : c ≠ d := by have := nd a b (by omega); omega
  have tdc : T d c = 10 := by
    by_cases e : T d c = 10
    · exact e
    · exact absurd tcd (cl _ _ e)
  have k1 := K a b (by omega)
  have k2 := K b a (by omega)
  rw [hc] at k1
  rw [hd] at k2
  obtain ⟨ha, hb, hcc, hab, hca, hcb, tbc, tca⟩ := k1
  obtain ⟨-, -, hdd, -, hdb, hda, tad, tdb⟩ := k2
  have hac := Ne.symm hca
  have hbc := Ne.symm hcb
  have had := Ne.symm hda
  have hbd := Ne.symm hdb
  have nac : T a c ≠ d := by
    intro e
    have := (K a c (by omega)).2.2.2.2.2.2.1
    rw [e] at this; omega
  have nda : T d a ≠ c := by
    intro e
    have := (K d a (by omega)).2.2.2.2.2.2.2
    rw [e] at this; omega
  have nbd : T b d ≠ c := by
    intro e
    have := (K b d (by omega)).2.2.2.2.2.2.1
    rw [e] at this; omega
  have ncb : T c b ≠ d := by
    intro e
    have := (K c b (by omega)).2.2.2.2.2.2.2
    rw [e] at this; omega
  have E := ms_fl_e (T := T) hab hac hbc had hbd hcd
  have eca : ms_fl T a b c d c a = d := by rw [E]; simp
  have ead : ms_fl T a b c d a d = c := by rw [E]; simp [hac, hda]
  have edc : ms_fl T a b c d d c = a := by rw [E]; simp [hca, hda]
  have edb : ms_fl T a b c d d b = c := by rw [E]; simp [hda, hbc, Ne.symm hcd]
  have ebc : ms_fl T a b c d b c = d := by rw [E]; simp [hca, Ne.symm hab, hbd]
  have ecd : ms_fl T a b c d c d = b := by rw [E]; simp [hda, hca, hcb, hcd]
  have oth : ∀ x y, T x y ≠ 10 → ¬ (x = a ∧ y = b) → ¬ (x = b ∧ y = a) → ms_fl T a b c d x y ≠ 10 := by
    intro x y h h1 h2
    rw [E]
    clear E K cl nd vx co lk
    grind
  have sam : ∀ x y, ¬ (x = c ∧ y = a) → ¬ (x = a ∧ y = d) → ¬ (x = d ∧ y = c) → ¬ (x = d ∧ y = b) → ¬ (x = b ∧ y = c) → ¬ (x = c ∧ y = d) → ¬ (x = a ∧ y = b) → ¬ (x = b ∧ y = a) → ms_fl T a b c d x y = T x y := by
    intro x y h1 h2 h3 h4 h5 h6 h7 h8
    rw [E, if_neg h1, if_neg h2, if_neg h3, if_neg h4, if_neg h5, if_neg h6, if_neg (fun q => q.elim h7 h8)]
  have hsub : ∀ x y, ms_fl T a b c d x y ≠ 10 → ((T x y ≠ 10 ∧ ¬ (x = a ∧ y = b) ∧ ¬ (x = b ∧ y = a)) ∨ (x = c ∧ y = d) ∨ (x = d ∧ y = c)) := by
    intro x y h
    rw [E] at h
    clear E K cl nd vx co lk oth sam
    grind
  refine ⟨?_, ?_, ?_, ?_, ?_⟩
  · intro x y h
    rcases hsub x y h with ⟨q, q1, q2⟩ | ⟨rfl, rfl⟩ | ⟨rfl, rfl⟩
    · exact oth y x (cl _ _ q) (fun z => q2 ⟨z.2, z.1⟩) (fun z => q1 ⟨z.2, z.1⟩)
    · rw [edc]; omega
    · rw [ecd]; omega
  · intro x y h
    have c0 := nd x y
    rw [E] at h
    rw [E, E]
    clear E K cl nd vx co lk oth sam hsub eca ead edc edb ebc ecd
    grind (splits := 40)
  · intro x hx
    rw [vx x hx]
    constructor
    · rintro ⟨y, hy⟩
      by_cases q1 : x = a ∧ y = b
      · exact ⟨d, by rw [q1.1, ead]; omega⟩
      · by_cases q2 : x = b ∧ y = a
        · exact ⟨c, by rw [q2.1, ebc]; omega⟩
        · exact ⟨y, oth x y hy q1 q2⟩
    · rintro ⟨y, hy⟩
      rcases hsub x y hy with ⟨q, q1, q2⟩ | ⟨rfl, rfl⟩ | ⟨rfl, rfl⟩
      · exact ⟨y, q⟩
      · exact ⟨a, by omega⟩
      · exact ⟨b, by omega⟩
  · intro S hS
    have hS' : ∀ x y, T x y ≠ 10 → S x → S y := by
      intro x y h sx
      by_cases q1 : x = a ∧ y = b
      · obtain ⟨rfl, rfl⟩ := q1
        exact hS d y (by rw [edb]; omega) (hS x d (by rw [ead]; omega) sx)
      · by_cases q2 : x = b ∧ y = a
        · obtain ⟨rfl, rfl⟩ := q2
          exact hS c y (by rw [eca]; omega) (hS x c (by rw [ebc]; omega) sx)
        · exact hS x y (oth x y h q1 q2) sx
    have fo : ∀ x x', ms_fl T a b c d x x' ≠ 10 → ∃ z, T x z ≠ 10 := by
      intro x x' h
      rcases hsub x x' h with ⟨q, q1, q2⟩ | ⟨rfl, rfl⟩ | ⟨rfl, rfl⟩
      · exact ⟨x', q⟩
      · exact ⟨a, by omega⟩
      · exact ⟨b, by omega⟩
    intro x y x' y' hx hy sx
    obtain ⟨z, hz⟩ := fo x x' hx
    obtain ⟨z', hz'⟩ := fo y y' hy
    exact co S hS' x y z z' hz hz' sx
  · intro w S hS
    have st : ∀ y z, ms_fl T a b c d w y = z → z ≠ 10 → S y → S z := by
      intro y z e h s
      have := hS y (by omega) s
      rw [e] at this; exact this
    by_cases wa : w = a
    · subst wa
      have main := lk w (fun y => if y = b then S d else S y) (by
        intro y hy sy
        show if T w y = b then S d else S (T w y)
        have sy' : if y = b then S d else S y := sy
        by_cases yb : y = b
        · subst yb
          rw [if_pos rfl] at sy'
          rw [hc, if_neg hcb]
          exact st d c ead hc10 sy'
        · rw [if_neg yb] at sy'
          by_cases yd : y = d
          · subst yd; rw [tad, if_pos rfl]; exact sy'
          · have hb' : T w y ≠ b := by
              intro e
              have := (K w y hy).2.2.2.2.2.2.2
              rw [e, hd] at this; exact yd this.symm
            rw [if_neg hb']
            exact st y _ (sam w y (fun q => hac q.1) (fun q => yd q.2) (fun q => had q.1) (fun q => had q.1) (fun q => hab q.1) (fun q => hac q.1) (fun q => yb q.2) (fun q => hab q.1)) hy sy')
      have nb : ∀ y, ms_fl T w b c d w y ≠ 10 → T w y ≠ 10 ∧ y ≠ b := by
        intro y h
        rcases hsub w y h with ⟨q, q1, q2⟩ | ⟨q, _⟩ | ⟨q, _⟩
        · exact ⟨q, fun z => q1 ⟨rfl, z⟩⟩
        · exact absurd q hac
        · exact absurd q had
      intro y y' hy hy' sy
      obtain ⟨t1, n1⟩ := nb y hy
      obtain ⟨t2, n2⟩ := nb y' hy'
      have := main y y' t1 t2 (by show if y = b then S d else S y; rw [if_neg n1]; exact sy)
      have this' : if y' = b then S d else S y' := this
      rw [if_neg n2] at this'; exact this'
    · by_cases wb : w = b
      · subst wb
        have main := lk w (fun y => if y = a then S c else S y) (by
          intro y hy sy
          show if T w y = a then S c else S (T w y)
          have sy' : if y = a then S c else S y := sy
          by_cases ya : y = a
          · subst ya
            rw [if_pos rfl] at sy'
            rw [hd, if_neg hda]
            exact st c d ebc hd10 sy'
          · rw [if_neg ya] at sy'
            by_cases yc : y = c
            · subst yc; rw [tbc, if_pos rfl]; exact sy'
            · have hb' : T w y ≠ a := by
                intro e
                have := (K w y hy).2.2.2.2.2.2.2
                rw [e, hc] at this; exact yc this.symm
              rw [if_neg hb']
              exact st y _ (sam w y (fun q => hbc q.1) (fun q => wa q.1) (fun q => hbd q.1) (fun q => hbd q.1) (fun q => yc q.2) (fun q => hbc q.1) (fun q => wa q.1) (fun q => ya q.2)) hy sy')
        have nb : ∀ y, ms_fl T a w c d w y ≠ 10 → T w y ≠ 10 ∧ y ≠ a := by
          intro y h
          rcases hsub w y h with ⟨q, q1, q2⟩ | ⟨q, _⟩ | ⟨q, _⟩
          · exact ⟨q, fun z => q2 ⟨rfl, z⟩⟩
          · exact absurd q hbc
          · exact absurd q hbd
        intro y y' hy hy' sy
        obtain ⟨t1, n1⟩ := nb y hy
        obtain ⟨t2, n2⟩ := nb y' hy'
        have := main y y' t1 t2 (by show if y = a then S c else S y; rw [if_neg n1]; exact sy)
        have this' : if y' = a then S c else S y' := this
        rw [if_neg n2] at this'; exact this'
      · have main := lk w S (by
          intro y hy sy
          by_cases q1 : w = c ∧ y = a
          · obtain ⟨rfl, rfl⟩ := q1
            rw [tca]; exact st d b ecd (by omega) (st y d eca hd10 sy)
          · by_cases q2 : w = d ∧ y = b
            · obtain ⟨rfl, rfl⟩ := q2
              rw [tdb]; exact st c a edc (by omega) (st y c edb hc10 sy)
            · exact st y _ (sam w y q1 (fun q => wa q.1) (fun q => hy (by rw [q.1, q.2]; exact tdc)) q2 (fun q => wb q.1) (fun q => hy (by rw [q.1, q.2]; exact tcd)) (fun q => wa q.1) (fun q => wb q.1)) hy sy)
        have fv : ∀ y, ms_fl T a b c d w y ≠ 10 → S y → ∃ y0, T w y0 ≠ 10 ∧ S y0 := by
          intro y hy sy
          rcases hsub w y hy with ⟨q, _⟩ | ⟨rfl, rfl⟩ | ⟨rfl, rfl⟩
          · exact ⟨y, q, sy⟩
          · exact ⟨b, cl _ _ (by omega), st y b ecd (by omega) sy⟩
          · exact ⟨a, cl _ _ (by omega), st y a edc (by omega) sy⟩
        intro y y' hy hy' sy
        obtain ⟨y0, t0, s0⟩ := fv y hy sy
        rcases hsub w y' hy' with ⟨q, _⟩ | ⟨rfl, rfl⟩ | ⟨rfl, rfl⟩
        · exact main y0 y' t0 q s0
        · exact st a y' eca hd10 (main y0 a t0 (by omega) s0)
        · exact st b y' edb hc10 (main y0 b t0 (by omega) s0)
/-- an edge cut: its face cut, then the edge turned -/
def ms_se (T : Nat → Nat → Nat) (a b c d v : Nat) : Nat → Nat → Nat := ms_put (ms_put (ms_put (ms_put (ms_drop (ms_drop T a b c) b a d) a v c) v b c) b v d) v a d
theorem ms_se_e {T : Nat → Nat → Nat} {a b c d v : Nat} (hab : a ≠ b) (hac : a ≠ c) (hbc : b ≠ c) (had : a ≠ d) (hbd : b ≠ d) (hcd : c ≠ d) (hav : a ≠ v) (hbv : b ≠ v) (hcv : c ≠ v) (hdv : d ≠ v) :
    ms_se T a b c d v = ms_fl (ms_sf T a b c v) a b v d := by
  have hba := Ne.symm hab
  have hca := Ne.symm hac
  have hcb := Ne.symm hbc
  have hda := Ne.symm had
  have hdb := Ne.symm hbd
  have hdc := Ne.symm hcd
  have hva := Ne.symm hav
  have hvb := Ne.symm hbv
  have hvc := Ne.symm hcv
  have hvd := Ne.symm hdv
  funext x y
  simp only [ms_se, ms_fl, ms_sf, ms_put_e, ms_drop_e]
  by_cases xa : x = a
  · subst xa
    simp only [hab, hba, hac, hca, hbc, hcb, had, hda, hbd, hdb, hcd, hdc, hav, hva, hbv, hvb, hcv, hvc, hdv, hvd, false_and, true_and, if_false]
    repeat' split
    all_goals first | rfl | omega
  · by_cases xb : x = b
    · subst xb
      simp only [hab, hba, hac, hca, hbc, hcb, had, hda, hbd, hdb, hcd, hdc, hav, hva, hbv, hvb, hcv, hvc, hdv, hvd, false_and, true_and, if_false]
      repeat' split
      all_goals first | rfl | omega
    · by_cases xc : x = c
      · subst xc
        simp only [hab, hba, hac, hca, hbc, hcb, had, hda, hbd, hdb, hcd, hdc, hav, hva, hbv, hvb, hcv, hvc, hdv, hvd, false_and, true_and, if_false]
        repeat' split
        all_goals first | rfl | omega
      · by_cases xd : x = d
        · subst xd
          simp only [hab, hba, hac, hca, hbc, hcb, had, hda, hbd, hdb, hcd, hdc, hav, hva, hbv, hvb, hcv, hvc, hdv, hvd, false_and, true_and, if_false]
          repeat' split
          all_goals first | rfl | omega
        · by_cases xv : x = v
          · subst xv
            simp only [hab, hba, hac, hca, hbc, hcb, had, hda, hbd, hdb, hcd, hdc, hav, hva, hbv, hvb, hcv, hvc, hdv, hvd, false_and, true_and, if_false]
            repeat' split
            all_goals first | rfl | omega
          · simp only [xa, xb, xc, xd, xv, false_and, if_false]
