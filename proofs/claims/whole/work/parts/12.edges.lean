/-! flippable, collapsible: the hundred arrows -/
theorem ms_c1 {f : Nat → Bool} {i : Nat} (e : f i = true) : ms_cnt f (i + 1) = ms_cnt f i + 1 := by
  show ms_cnt f i + (if f i = true then 1 else 0) = _
  rw [if_pos e]
theorem ms_c0 {f : Nat → Bool} {i : Nat} (e : ¬ f i = true) : ms_cnt f (i + 1) = ms_cnt f i := by
  show ms_cnt f i + (if f i = true then 1 else 0) = _
  rw [if_neg e]; rfl
def ms_fb (T : Nat → Nat → Nat) (c : Nat) : Bool := decide (c / 10 < c % 10) && (decide (T (c / 10) (c % 10) ≠ 10) && (decide (T (c / 10) (c % 10) ≠ T (c % 10) (c / 10)) && decide (T (T (c / 10) (c % 10)) (T (c % 10) (c / 10)) = 10)))
theorem ms_fb_i (T : Nat → Nat → Nat) (c : Nat) : ms_fb T c = true ↔ (c / 10 < c % 10 ∧ ms_fp T (c / 10) (c % 10)) := by
  unfold ms_fb ms_fp
  simp
theorem ms_fb_n {T : Nat → Nat → Nat} {a b : Nat} (hb : b < 10) : ms_fb T (10 * a + b) = true ↔ (a < b ∧ ms_fp T a b) := by
  rw [ms_fb_i, show (10 * a + b) / 10 = a by omega, show (10 * a + b) % 10 = b by omega]
theorem ms_d10 {c : Nat} (hc : c < 100) : nI c / 10 = nI (c / 10) := pk_div (a := c) (d := 10) (by omega) (by decide) (by decide)
theorem ms_r10 {c : Nat} (hc : c < 100) : nI c - nI c / 10 * 10 = nI (c % 10) := pk_rem (a := c) (d := 10) (by omega) (by decide) (by decide)
theorem ms_xfl {post : Int32 → Prop} {T : Nat → Nat → Nat} {P : Int32} (K : ms_K T) (cl : ms_cl T) (h : post (nI (ms_cnt (ms_fb T) 100))) : wpX_flippable post (P, ms_C T) := by
  have inner : ∀ (J : Int32 → Int32 → Prop) a, a < 10 → J (nI (ms_cnt (ms_fb T) (10 * a + 10))) (nI (a + 1)) → ∀ d b, b + d = 10 → a + 1 ≤ b → wX_flippable_14 post J (nI a) P (ms_C T) (d + 1) (nI (ms_cnt (ms_fb T) (10 * a + b))) (nI b) := by
    intro J a ha hJ d
    induction d with
    | zero =>
      intro b hb _
      have : b = 10 := by omega
      subst this
      exact br_t (nI_le (a := 10) (by omega) (by decide)) (nm_r (nI_1 a) hJ)
    | succ d ih =>
      intro b hb hab
      have hb10 : b < 10 := by omega
      have ih' := ih (b + 1) (by omega) (by omega)
      rw [show 10 * a + (b + 1) = (10 * a + b) + 1 by omega] at ih'
      have no : ¬ ms_fp T a b → wX_flippable_14 post J (nI a) P (ms_C T) (d + 1) (nI (ms_cnt (ms_fb T) (10 * a + b))) (nI (b + 1)) := by
        intro z
        rw [ms_c0 (fun q => z ((ms_fb_n hb10).mp q).2)] at ih'
        exact ih'
      refine br_f (nI_ge (b := 10) hb10 (by decide)) (ms_xjoin K (fun e => br_t rfl (nm_r (nI_1 b) (no ?_))) (fun e => br_f (by decide) (ms_xflips K cl e (fun z => br_f (by decide) ?_) (fun z => br_t rfl (nm_r (nI_1 b) (no ?_))))))
      · rw [ms_ix_n ha, ms_ix_n hb10] at e
        exact fun z => z.1 e
      · rw [ms_ix_n ha, ms_ix_n hb10] at z
        rw [ms_c1 ((ms_fb_n hb10).mpr ⟨by omega, z⟩)] at ih'
        exact nm_r (nI_1 _) (nm_r (nI_1 b) ih')
      · rw [ms_ix_n ha, ms_ix_n hb10] at z; exact z
  have skip : ∀ a, a < 10 → ∀ m, m ≤ a + 1 → ms_cnt (ms_fb T) (10 * a + m) = ms_cnt (ms_fb T) (10 * a) := by
    intro a ha m
    induction m with
    | zero => intro _; rfl
    | succ m ih =>
      intro hm
      rw [show 10 * a + (m + 1) = (10 * a + m) + 1 by omega, ms_c0, ih (by omega)]
      intro q
      have := ((ms_fb_n (by omega)).mp q).1
      omega
  have outer : ∀ d a, a + d = 10 → wX_flippable_4 post P (ms_C T) (d + 1) (nI (ms_cnt (ms_fb T) (10 * a))) (nI a) := by
    intro d
    induction d with
    | zero =>
      intro a ha
      have : a = 10 := by omega
      subst this
      exact br_t (nI_le (a := 10) (by omega) (by decide)) h
    | succ d ih =>
      intro a ha
      have ha10 : a < 10 := by omega
      refine br_f (nI_ge (b := 10) ha10 (by decide)) (nm_r (nI_1 a) ⟨(9 - a) + 1, ?_⟩)
      have := inner (wX_flippable_4 post P (ms_C T) (d + 1)) a ha10 (ih (a + 1) (by omega)) (9 - a) (a + 1) (by omega) (by omega)
      rw [skip a ha10 (a + 1) (by omega)] at this
      exact this
  exact ⟨11, outer 10 0 (by omega)⟩
theorem ms_yfl {post : Int32 → Prop} {T O : Nat → Nat → Nat} {n : Nat} {A B D : Nat → Nat} (R : ms_R T O (ms_F n A B D)) (hn : n ≤ 16) (cl : ms_cl T) (h : post (nI (ms_cnt (ms_fb T) 100))) : wpY_flippable post (nI n, ms_N A, ms_N B, ms_N D) := by
  refine loop_0 (fun m i (c : Nat) => wY_flippable_4 post (nI n) (ms_N A) (ms_N B) (ms_N D) m (nI c) (nI i)) (fun i c => c = ms_cnt (ms_fb T) i) 100 0 rfl ?_ ?_
  · intro m c hcc
    subst hcc
    exact br_t (nI_le (a := 100) (by omega) (by decide)) h
  · intro m i c hi hcc ih
    have hd : i / 10 < 10 := by omega
    have hr : i % 10 < 10 := by omega
    refine br_f (nI_ge (b := 100) hi (by decide)) ⟨by decide, by decide, ?_⟩
    rw [ms_r10 hi, ms_d10 hi]
    refine pk_le _ _ (fun q => nm_r (nI_1 i) (ih c ?_)) (fun q => ⟨by decide, by decide, ms_yflips R hn cl (fun z => br_f (by decide) (nm_r (nI_1 c) (nm_r (nI_1 i) (ih (c + 1) ?_)))) (fun z => br_t rfl (nm_r (nI_1 i) (ih c ?_)))⟩)
    · rw [ms_c0, hcc]
      intro z
      have := ((ms_fb_i T i).mp z).1
      omega
    · rw [ms_ix_n hd, ms_ix_n hr] at z
      rw [ms_c1 ((ms_fb_i T i).mpr ⟨q, z⟩), hcc]
    · rw [ms_ix_n hd, ms_ix_n hr] at z
      rw [ms_c0 (fun w => z ((ms_fb_i T i).mp w).2), hcc]
theorem i_vc_flippable {k : Nat} {u : SX} {v : SY} (I : i_Rel k u v) (hk : k + 4 ≤ 2048) : wpX_flippable (fun r => wpY_flippable (fun r' => r' = r ∧ i_Rel (k + 4) u v) v) u := by
  have J : i_Rel (k + 4) u v := i_up I
  obtain ⟨T, O, A, B, D, n, p, rfl, rfl, R, ⟨cl, nd, vx, co, lk⟩, hp, he, hc⟩ := I
  exact ms_xfl (ms_RK R) cl (ms_yfl R (ms_n16 he) cl ⟨rfl, J⟩)
def ms_cb (T : Nat → Nat → Nat) (p c : Nat) : Bool := decide (T (c / 10) (c % 10) ≠ 10) && (decide (4 < ms_pc p) && decide (ms_pc (ms_nb T (c / 10) &&& ms_nb T (c % 10)) ≤ 2))
theorem ms_cb_i (T : Nat → Nat → Nat) (p c : Nat) : ms_cb T p c = true ↔ ms_cp T p (c / 10) (c % 10) := by
  unfold ms_cb ms_cp
  simp
theorem ms_cb_n {T : Nat → Nat → Nat} {p a b : Nat} (hb : b < 10) : ms_cb T p (10 * a + b) = true ↔ ms_cp T p a b := by
  rw [ms_cb_i, show (10 * a + b) / 10 = a by omega, show (10 * a + b) % 10 = b by omega]
theorem ms_xcl {post : Int32 → Prop} {T : Nat → Nat → Nat} {p : Nat} (K : ms_K T) (hp : p < 1024) (h : post (nI (ms_cnt (ms_cb T p) 100))) : wpX_collapsible post (nI p, ms_C T) := by
  have inner : ∀ (J : Int32 → Int32 → Prop) a, a < 10 → J (nI (ms_cnt (ms_cb T p) (10 * a + 10))) (nI (a + 1)) → ∀ d b, b + d = 10 → wX_collapsible_12 post J (nI a) (nI p) (ms_C T) (d + 1) (nI (ms_cnt (ms_cb T p) (10 * a + b))) (nI b) := by
    intro J a ha hJ d
    induction d with
    | zero =>
      intro b hb
      have : b = 10 := by omega
      subst this
      exact br_t (nI_le (a := 10) (by omega) (by decide)) (nm_r (nI_1 a) hJ)
    | succ d ih =>
      intro b hb
      have hb10 : b < 10 := by omega
      have ih' := ih (b + 1) (by omega)
      rw [show 10 * a + (b + 1) = (10 * a + b) + 1 by omega] at ih'
      have no : ¬ ms_cp T p a b → wX_collapsible_12 post J (nI a) (nI p) (ms_C T) (d + 1) (nI (ms_cnt (ms_cb T p) (10 * a + b))) (nI (b + 1)) := by
        intro z
        rw [ms_c0 (fun q => z ((ms_cb_n hb10).mp q))] at ih'
        exact ih'
      refine br_f (nI_ge (b := 10) hb10 (by decide)) (ms_xjoin K (fun e => br_t rfl (nm_r (nI_1 b) (no ?_))) (fun e => br_f (by decide) (ms_xcol K hp e (fun z => br_f (by decide) ?_) (fun z => br_t rfl (nm_r (nI_1 b) (no ?_))))))
      · rw [ms_ix_n ha, ms_ix_n hb10] at e
        exact fun z => z.1 e
      · rw [ms_ix_n ha, ms_ix_n hb10] at z
        rw [ms_c1 ((ms_cb_n hb10).mpr z)] at ih'
        exact nm_r (nI_1 _) (nm_r (nI_1 b) ih')
      · rw [ms_ix_n ha, ms_ix_n hb10] at z; exact z
  have outer : ∀ d a, a + d = 10 → wX_collapsible_4 post (nI p) (ms_C T) (d + 1) (nI (ms_cnt (ms_cb T p) (10 * a))) (nI a) := by
    intro d
    induction d with
    | zero =>
      intro a ha
      have : a = 10 := by omega
      subst this
      exact br_t (nI_le (a := 10) (by omega) (by decide)) h
    | succ d ih =>
      intro a ha
      have ha10 : a < 10 := by omega
      exact br_f (nI_ge (b := 10) ha10 (by decide)) ⟨11, inner (wX_collapsible_4 post (nI p) (ms_C T) (d + 1)) a ha10 (ih (a + 1) (by omega)) 10 0 (by omega)⟩
  exact ⟨11, outer 10 0 (by omega)⟩
theorem ms_ycl {post : Int32 → Prop} {T O : Nat → Nat → Nat} {n p : Nat} {A B D : Nat → Nat} (R : ms_R T O (ms_F n A B D)) (hn : n ≤ 16) (hp : p < 1024) (cl : ms_cl T) (vx : ms_vx T p) (h : post (nI (ms_cnt (ms_cb T p) 100))) : wpY_collapsible post (nI n, ms_N A, ms_N B, ms_N D) := by
  refine loop_0 (fun m i (c : Nat) => wY_collapsible_4 post (nI n) (ms_N A) (ms_N B) (ms_N D) m (nI c) (nI i)) (fun i c => c = ms_cnt (ms_cb T p) i) 100 0 rfl ?_ ?_
  · intro m c hcc
    subst hcc
    exact br_t (nI_le (a := 100) (by omega) (by decide)) h
  · intro m i c hi hcc ih
    have hd : i / 10 < 10 := by omega
    have hr : i % 10 < 10 := by omega
    refine br_f (nI_ge (b := 100) hi (by decide)) ⟨by decide, by decide, ?_⟩
    rw [ms_r10 hi, ms_d10 hi]
    refine ms_ycol R hn hp cl vx (fun z => br_f (by decide) (nm_r (nI_1 c) (nm_r (nI_1 i) (ih (c + 1) ?_)))) (fun z => br_t rfl (nm_r (nI_1 i) (ih c ?_)))
    · rw [ms_ix_n hd, ms_ix_n hr] at z
      rw [ms_c1 ((ms_cb_i T p i).mpr z), hcc]
    · rw [ms_ix_n hd, ms_ix_n hr] at z
      rw [ms_c0 (fun w => z ((ms_cb_i T p i).mp w)), hcc]
theorem i_vc_collapsible {k : Nat} {u : SX} {v : SY} (I : i_Rel k u v) (hk : k + 4 ≤ 2048) : wpX_collapsible (fun r => wpY_collapsible (fun r' => r' = r ∧ i_Rel (k + 4) u v) v) u := by
  have J : i_Rel (k + 4) u v := i_up I
  obtain ⟨T, O, A, B, D, n, p, rfl, rfl, R, ⟨cl, nd, vx, co, lk⟩, hp, he, hc⟩ := I
  exact ms_xcl (ms_RK R) hp (ms_ycl R (ms_n16 he) hp cl vx ⟨rfl, J⟩)
