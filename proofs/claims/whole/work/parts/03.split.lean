/-! what keeps a surface a surface: arrows both ways, no doubled face, the vertices, one piece, one fan a vertex -/
def ms_cl (T : Nat → Nat → Nat) : Prop := ∀ x y, T x y ≠ 10 → T y x ≠ 10
def ms_nd (T : Nat → Nat → Nat) : Prop := ∀ x y, T x y ≠ 10 → T x y ≠ T y x
def ms_vx (T : Nat → Nat → Nat) (p : Nat) : Prop := ∀ x, x < 10 → (p.testBit x = true ↔ ∃ y, T x y ≠ 10)
def ms_co (T : Nat → Nat → Nat) : Prop := ∀ S : Nat → Prop, (∀ x y, T x y ≠ 10 → S x → S y) → ∀ x y x' y', T x x' ≠ 10 → T y y' ≠ 10 → S x → S y
def ms_lk (T : Nat → Nat → Nat) : Prop := ∀ (w : Nat) (S : Nat → Prop), (∀ y, T w y ≠ 10 → S y → S (T w y)) → ∀ y y', T w y ≠ 10 → T w y' ≠ 10 → S y → S y'
def ms_V (T : Nat → Nat → Nat) (p : Nat) : Prop := ms_cl T ∧ ms_nd T ∧ ms_vx T p ∧ ms_co T ∧ ms_lk T
/-- a face cut in three -/
def ms_sf (T : Nat → Nat → Nat) (a b c v : Nat) : Nat → Nat → Nat := ms_put (ms_put (ms_put T a b v) b c v) c a v
theorem ms_sf_e {T : Nat → Nat → Nat} {a b c v : Nat} (hab : a ≠ b) (hbc : b ≠ c) (hca : c ≠ a) (hav : a ≠ v) (hbv : b ≠ v) (hcv : c ≠ v) (x y : Nat) (h1 : T v y = 10) (h2 : T x v = 10) :
    ms_sf T a b c v x y = if x = v then (if y = a then b else if y = b then c else if y = c then a else 10) else if y = v then (if x = a then c else if x = b then a else if x = c then b else 10) else if (x = a ∧ y = b) ∨ (x = b ∧ y = c) ∨ (x = c ∧ y = a) then v else T x y := by
  unfold ms_sf
  rw [ms_put_e, ms_put_e, ms_put_e]
  grind
theorem ms_sfV {T : Nat → Nat → Nat} {p a b c v : Nat} (K : ms_K T) (V : ms_V T p) (hc : T a b = c) (hc10 : c ≠ 10) (hv : v < 10) (hpv : p.testBit v = false) : ms_V (ms_sf T a b c v) (p ||| 2 ^ v) := by
  obtain ⟨cl, nd, vx, co, lk⟩ := V
  have hv1 : ∀ y, T v y = 10 := by
    intro y
    by_cases e : T v y = 10
    · exact e
    · have := (vx v hv).mpr ⟨y, e⟩
      rw [hpv] at this
      exact absurd this (by decide)
  have hv2 : ∀ x, T x v = 10 := by
    intro x
    by_cases e : T x v = 10
    · exact e
    · exact absurd (hv1 x) (cl _ _ e)
  have hv3 : ∀ x y, T x y ≠ v := by
    intro x y e
    have h10 : T x y ≠ 10 := by omega
    have k := K x y h10
    rw [e] at k
    have := hv1 x
    omega
  have k1 := K a b (by omega)
  rw [hc] at k1
  obtain ⟨ha, hb, hcc, hab, hca, hcb, tbc, tca⟩ := k1
  have hbc := Ne.symm hcb
  have hav : a ≠ v := by rintro rfl; have := hv1 b; omega
  have hbv : b ≠ v := by rintro rfl; have := hv2 a; omega
  have hcv : c ≠ v := by have := hv3 a b; omega
  have E : ∀ x y, ms_sf T a b c v x y = if x = v then (if y = a then b else if y = b then c else if y = c then a else 10) else if y = v then (if x = a then c else if x = b then a else if x = c then b else 10) else if (x = a ∧ y = b) ∨ (x = b ∧ y = c) ∨ (x = c ∧ y = a) then v else T x y :=
    fun x y => ms_sf_e hab hbc hca hav hbv hcv x y (hv1 y) (hv2 x)
  have hsup : ∀ x y, T x y ≠ 10 → ms_sf T a b c v x y ≠ 10 := by
    intro x y h
    have q1 := hv1 y
    have q2 := hv2 x
    rw [E]
    clear E K cl nd vx co lk hv1 hv2 hv3
    grind
  have eva : ms_sf T a b c v v a = b := by rw [E]; simp
  have evb : ms_sf T a b c v v b = c := by rw [E]; simp [Ne.symm hab]
  have evc : ms_sf T a b c v v c = a := by rw [E]; simp [hca, hcb]
  have eav : ms_sf T a b c v a v = c := by rw [E]; simp [hav]
  have ebv : ms_sf T a b c v b v = a := by rw [E]; simp [hbv, Ne.symm hab]
  have ecv : ms_sf T a b c v c v = b := by rw [E]; simp [hcv, hca, hcb]
  have eab : ms_sf T a b c v a b = v := by rw [E]; simp [hav, hbv]
  have ebc : ms_sf T a b c v b c = v := by rw [E]; simp [hcv, hbv]
  have eca : ms_sf T a b c v c a = v := by rw [E]; simp [hcv, hav]
  have oth : ∀ x y, x ≠ v → y ≠ v → ¬ ((x = a ∧ y = b) ∨ (x = b ∧ y = c) ∨ (x = c ∧ y = a)) → ms_sf T a b c v x y = T x y := by
    intro x y h1 h2 h3
    rw [E, if_neg h1, if_neg h2, if_neg h3]
  have hsub : ∀ x y, ms_sf T a b c v x y ≠ 10 → x ≠ v → (T x y ≠ 10 ∨ (y = v ∧ (x = a ∨ x = b ∨ x = c))) := by
    intro x y h hxv
    rw [E] at h
    have f1 : T a b ≠ 10 := by omega
    have f2 : T b c ≠ 10 := by omega
    have f3 : T c a ≠ 10 := by omega
    clear E K cl nd vx co lk hv1 hv2 hv3 hsup oth
    grind
  refine ⟨?_, ?_, ?_, ?_, ?_⟩
  · intro x y h
    have c0 := cl x y
    have c1 := cl a b
    have c2 := cl b c
    have c3 := cl c a
    rw [E] at h
    rw [E]
    clear E K cl nd vx co lk hv1 hv2 hv3 hsup oth hsub
    grind
  · intro x y h
    have c0 := nd x y
    have q1 := hv3 x y
    have q2 := hv3 y x
    rw [E] at h
    rw [E, E]
    clear E K cl nd vx co lk hv1 hv2 hv3 hsup oth hsub
    grind
  · intro x hx
    rw [Nat.testBit_or, ms_tb2, Bool.or_eq_true, decide_eq_true_eq, vx x hx]
    constructor
    · rintro (⟨y, hy⟩ | rfl)
      · exact ⟨y, hsup _ _ hy⟩
      · exact ⟨a, by rw [eva]; omega⟩
    · rintro ⟨y, hy⟩
      by_cases e : x = v
      · exact Or.inr e.symm
      · refine Or.inl ?_
        rcases hsub x y hy e with q | ⟨_, q | q | q⟩
        · exact ⟨y, q⟩
        · subst q; exact ⟨b, by omega⟩
        · subst q; exact ⟨c, by omega⟩
        · subst q; exact ⟨a, by omega⟩
  · intro S hS
    have hS' : ∀ x y, T x y ≠ 10 → S x → S y := fun x y h => hS x y (hsup x y h)
    have main := co S hS'
    have fa : ∀ x x', ms_sf T a b c v x x' ≠ 10 → S x → S a := by
      intro x x' h sx
      by_cases e : x = v
      · subst e; exact hS x a (by rw [eva]; omega) sx
      · rcases hsub x x' h e with q | ⟨_, q | q | q⟩
        · exact main x a x' b q (by omega) sx
        · subst q; exact sx
        · rw [q] at sx; exact main b a c b (by omega) (by omega) sx
        · rw [q] at sx; exact main c a a b (by omega) (by omega) sx
    intro x y x' y' hx hy sx
    have sa := fa x x' hx sx
    by_cases e : y = v
    · subst e; exact hS a y (by rw [eav]; omega) sa
    · rcases hsub y y' hy e with q | ⟨_, q | q | q⟩
      · exact main a y b y' (by omega) q sa
      · subst q; exact sa
      · rw [q]; exact main a b b c (by omega) (by omega) sa
      · rw [q]; exact main a c b a (by omega) (by omega) sa
  · intro w S hS
    by_cases hw : w = v
    · subst hw
      have s1 : S a → S b := fun s => by have := hS a (by rw [eva]; omega) s; rw [eva] at this; exact this
      have s2 : S b → S c := fun s => by have := hS b (by rw [evb]; omega) s; rw [evb] at this; exact this
      have s3 : S c → S a := fun s => by have := hS c (by rw [evc]; omega) s; rw [evc] at this; exact this
      have in3 : ∀ y, ms_sf T a b c w w y ≠ 10 → y = a ∨ y = b ∨ y = c := by
        intro y h
        rw [E, if_pos rfl] at h
        clear E K cl nd vx co lk hv1 hv2 hv3 hsup oth hsub
        grind
      intro y y' hy hy' sy
      have sa : S a := by
        rcases in3 y hy with q | q | q
        · subst q; exact sy
        · subst q; exact s3 (s2 sy)
        · subst q; exact s3 sy
      rcases in3 y' hy' with q | q | q
      · subst q; exact sa
      · subst q; exact s1 sa
      · subst q; exact s2 (s1 sa)
    · have main := lk w S (by
        intro y hy sy
        by_cases q : (w = a ∧ y = b) ∨ (w = b ∧ y = c) ∨ (w = c ∧ y = a)
        · rcases q with ⟨rfl, rfl⟩ | ⟨rfl, rfl⟩ | ⟨rfl, rfl⟩
          · rw [hc]
            have := hS y (by rw [eab]; omega) sy; rw [eab] at this
            have := hS v (by rw [eav]; omega) this; rw [eav] at this; exact this
          · rw [tbc]
            have := hS y (by rw [ebc]; omega) sy; rw [ebc] at this
            have := hS v (by rw [ebv]; omega) this; rw [ebv] at this; exact this
          · rw [tca]
            have := hS y (by rw [eca]; omega) sy; rw [eca] at this
            have := hS v (by rw [ecv]; omega) this; rw [ecv] at this; exact this
        · have hyv : y ≠ v := by rintro rfl; exact hy (hv2 w)
          have := hS y (hsup _ _ hy) sy
          rw [oth w y hw hyv q] at this; exact this)
      -- from v on, and to v
      have fv : ∀ y, ms_sf T a b c v w y ≠ 10 → S y → ∃ y0, T w y0 ≠ 10 ∧ S y0 := by
        intro y hy sy
        rcases hsub w y hy hw with q | ⟨rfl, q⟩
        · exact ⟨y, q, sy⟩
        · have s0 := hS y hy sy
          rcases q with rfl | rfl | rfl
          · rw [eav] at s0; exact ⟨c, cl _ _ (by omega), s0⟩
          · rw [ebv] at s0; exact ⟨a, cl _ _ (by omega), s0⟩
          · rw [ecv] at s0; exact ⟨b, cl _ _ (by omega), s0⟩
      intro y y' hy hy' sy
      obtain ⟨y0, t0, s0⟩ := fv y hy sy
      rcases hsub w y' hy' hw with q | ⟨rfl, q⟩
      · exact main y0 y' t0 q s0
      · rcases q with rfl | rfl | rfl
        · have := hS b (by rw [eab]; omega) (main y0 b t0 (by omega) s0); rw [eab] at this; exact this
        · have := hS c (by rw [ebc]; omega) (main y0 c t0 (by omega) s0); rw [ebc] at this; exact this
        · have := hS a (by rw [eca]; omega) (main y0 a t0 (by omega) s0); rw [eca] at this; exact this
