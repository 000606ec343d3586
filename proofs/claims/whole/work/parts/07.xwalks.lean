/-! the component's walks against the pure table -/
def ms_e (c : Nat) : Int32 := if c < 10 then nI c else -1
theorem ms_e_lt {c : Nat} (h : c < 10) : ms_e c = nI c := if_pos h
theorem ms_e_10 : ms_e 10 = -1 := rfl
def ms_C (T : Nat → Nat → Nat) : Nat → Int32 := fun i => if i < 100 then ms_e (T (i / 10) (i % 10)) else 0
def ms_ix (q : Int32) : Nat := if q < 0 then 10 else if 10 ≤ q then 10 else q.toNatClampNeg
theorem ms_ix_n {j : Nat} (h : j < 10) : ms_ix (nI j) = j := by
  have h1 : ¬ (10 : Int32) ≤ nI j := nI_ge (b := 10) h (by decide)
  unfold ms_ix
  rw [if_neg (nI_pos (by omega)), if_neg h1, nI_clamp (by omega)]
theorem ms_ix_o (q : Int32) : (∃ j, j < 10 ∧ q = nI j) ∨ ((∀ j, j < 10 → q ≠ nI j) ∧ ms_ix q = 10 ∧ (q < 0 ∨ 10 ≤ q)) := by
  by_cases h0 : q < 0
  · refine Or.inr ⟨?_, if_pos h0, Or.inl h0⟩
    intro j hj e
    rw [e] at h0
    exact nI_pos (by omega) h0
  · by_cases h1 : 10 ≤ q
    · refine Or.inr ⟨?_, by unfold ms_ix; rw [if_neg h0, if_pos h1], Or.inr h1⟩
      intro j hj e
      rw [e] at h1
      exact nI_ge (b := 10) hj (by decide) h1
    · obtain ⟨j, hj, rfl⟩ := nI_of h0
      refine Or.inl ⟨j, ?_, rfl⟩
      have : ¬ nI 10 ≤ nI j := h1
      rw [nI_leI (by decide) hj] at this
      omega
theorem ms_ixI (x y : Nat) : nI x * 10 + nI y = nI (x * 10 + y) := by
  show nI x * nI 10 + nI y = _
  rw [pk_mul, nI_add]
theorem ms_C_at {T : Nat → Nat → Nat} {x y : Nat} (hx : x < 10) (hy : y < 10) : ms_C T (x * 10 + y) = ms_e (T x y) := by
  unfold ms_C
  rw [if_pos (by omega), show (x * 10 + y) / 10 = x by omega, show (x * 10 + y) % 10 = y by omega]
theorem ms_C_up {T : Nat → Nat → Nat} {x y z : Nat} (hx : x < 10) (hy : y < 10) : upd (ms_C T) (x * 10 + y) (ms_e z) = ms_C (ms_up T x y z) := by
  funext i
  unfold upd ms_C ms_up
  by_cases e : i = x * 10 + y
  · rw [if_pos e, if_pos (by omega), if_pos (by omega)]
  · rw [if_neg e]
    by_cases h : i < 100
    · rw [if_pos h, if_pos h, if_neg (by omega)]
    · rw [if_neg h, if_neg h]
theorem ms_num_t {post : Int32 → Prop} {j : Nat} (hj : j < 10) (h : post 1) : wpX_isNumber post (nI j) :=
  br_f (nI_pos (by omega)) (br_f (nI_ge (b := 10) hj (by decide)) h)
theorem ms_num_f {post : Int32 → Prop} {q : Int32} (hq : q < 0 ∨ 10 ≤ q) (h : post 0) : wpX_isNumber post q :=
  br_c (fun _ => h) (fun n => br_c (fun _ => h) (fun m => absurd hq (fun o => o.elim n m)))
theorem ms_T10 {T : Nat → Nat → Nat} (K : ms_K T) (y : Nat) : T 10 y = 10 := by
  by_cases e : T 10 y = 10
  · exact e
  · exact absurd (K 10 y e).1 (by decide)
theorem ms_T01 {T : Nat → Nat → Nat} (K : ms_K T) (x : Nat) : T x 10 = 10 := by
  by_cases e : T x 10 = 10
  · exact e
  · exact absurd (K x 10 e).2.1 (by decide)
theorem ms_xcor {post : Int32 → Prop} {T : Nat → Nat → Nat} {P q1 q2 : Int32} (K : ms_K T) (h : post (ms_e (T (ms_ix q1) (ms_ix q2)))) : wpX_corner post (P, ms_C T) q1 q2 := by
  unfold wpX_corner
  dsimp only
  rcases ms_ix_o q1 with ⟨a, ha, rfl⟩ | ⟨_, e1, n1⟩
  · refine ms_num_t ha (br_f (by decide) ?_)
    rcases ms_ix_o q2 with ⟨b, hb, rfl⟩ | ⟨_, e2, n2⟩
    · rw [ms_ix_n ha, ms_ix_n hb] at h
      refine ms_num_t hb (br_f (by decide) ?_)
      rw [ms_ixI, nI_clamp (by omega), ms_C_at ha hb]
      exact ⟨vp_in_nI (by omega) (by decide), h⟩
    · rw [e2, ms_T01 K] at h
      exact ms_num_f n2 (br_t rfl h)
  · rw [e1, ms_T10 K] at h
    exact ms_num_f n1 (br_t rfl h)
theorem ms_xcorN {post : Int32 → Prop} {T : Nat → Nat → Nat} {P : Int32} {a b : Nat} (K : ms_K T) (ha : a < 10) (hb : b < 10) (h : post (ms_e (T a b))) : wpX_corner post (P, ms_C T) (nI a) (nI b) :=
  ms_xcor K (by rw [ms_ix_n ha, ms_ix_n hb]; exact h)
theorem ms_xset {post : SX → Prop} {T : Nat → Nat → Nat} {P : Int32} {x y z : Nat} (hx : x < 10) (hy : y < 10) (h : post (P, ms_C (ms_up T x y z))) : wpX_setCorner post (P, ms_C T) (nI x) (nI y) (ms_e z) := by
  unfold wpX_setCorner
  dsimp only
  refine ms_num_t hx (br_f (by decide) (ms_num_t hy (br_f (by decide) ?_)))
  rw [ms_ixI, nI_clamp (by omega)]
  refine ⟨vp_in_nI (by omega) (by decide), nm_r (ms_C_up hx hy) h⟩
theorem ms_xput {post : SX → Prop} {T : Nat → Nat → Nat} {P : Int32} {a b c : Nat} (ha : a < 10) (hb : b < 10) (hc : c < 10) (h : post (P, ms_C (ms_put T a b c))) : wpX_putFace post (P, ms_C T) (nI a) (nI b) (nI c) := by
  unfold wpX_putFace
  dsimp only
  have e1 := ms_xset (post := fun u => match u with | (f, g) => wpX_setCorner (fun u => match u with | (f, g) => wpX_setCorner (fun u => match u with | (f, g) => post (f, g)) (f, g) (nI c) (nI a) (nI b)) (f, g) (nI b) (nI c) (nI a)) (T := T) (P := P) (z := c) ha hb
    (by
      have e2 := ms_xset (post := fun u => match u with | (f, g) => wpX_setCorner (fun u => match u with | (f, g) => post (f, g)) (f, g) (nI c) (nI a) (nI b)) (T := ms_up T a b c) (P := P) (z := a) hb hc
        (by
          have e3 := ms_xset (post := fun u => match u with | (f, g) => post (f, g)) (T := ms_up (ms_up T a b c) b c a) (P := P) (z := b) hc ha h
          rw [ms_e_lt hb] at e3; exact e3)
      rw [ms_e_lt ha] at e2; exact e2)
  rw [ms_e_lt hc] at e1
  exact e1
theorem ms_xdrop {post : SX → Prop} {T : Nat → Nat → Nat} {P : Int32} {a b c : Nat} (ha : a < 10) (hb : b < 10) (hc : c < 10) (h : post (P, ms_C (ms_drop T a b c))) : wpX_dropFace post (P, ms_C T) (nI a) (nI b) (nI c) := by
  unfold wpX_dropFace
  dsimp only
  exact ms_xset (post := fun u => match u with | (f, g) => wpX_setCorner (fun u => match u with | (f, g) => wpX_setCorner (fun u => match u with | (f, g) => post (f, g)) (f, g) (nI c) (nI a) (-1)) (f, g) (nI b) (nI c) (-1)) (T := T) (P := P) (z := 10) ha hb
    (ms_xset (post := fun u => match u with | (f, g) => wpX_setCorner (fun u => match u with | (f, g) => post (f, g)) (f, g) (nI c) (nI a) (-1)) (T := ms_up T a b 10) (P := P) (z := 10) hb hc
      (ms_xset (post := fun u => match u with | (f, g) => post (f, g)) (T := ms_up (ms_up T a b 10) b c 10) (P := P) (z := 10) hc ha h))
theorem ms_e_m1 {c : Nat} (h : c < 10) : ¬ ms_e c = -1 := by rw [ms_e_lt h]; exact ms_n1 (by omega)
theorem ms_xjoin {post : Int32 → Prop} {T : Nat → Nat → Nat} {P q1 q2 : Int32} (K : ms_K T) (h0 : T (ms_ix q1) (ms_ix q2) = 10 → post 0) (h1 : T (ms_ix q1) (ms_ix q2) ≠ 10 → post 1) : wpX_areJoined post (P, ms_C T) q1 q2 := by
  unfold wpX_areJoined
  dsimp only
  refine ms_xcor K ?_
  by_cases e : T (ms_ix q1) (ms_ix q2) = 10
  · rw [e]; exact br_t rfl (h0 e)
  · exact br_f (ms_e_m1 (K _ _ e).2.2.1) (h1 e)
theorem ms_xhas {post : Int32 → Prop} {T : Nat → Nat → Nat} {P q1 q2 q3 : Int32} (K : ms_K T) (h1 : T (ms_ix q1) (ms_ix q2) = ms_ix q3 → ms_ix q3 ≠ 10 → post 1) (h0 : ¬ (T (ms_ix q1) (ms_ix q2) = ms_ix q3 ∧ ms_ix q3 ≠ 10) → post 0) : wpX_hasFace post (P, ms_C T) q1 q2 q3 := by
  unfold wpX_hasFace
  dsimp only
  rcases ms_ix_o q3 with ⟨c, hc, rfl⟩ | ⟨_, e1, n1⟩
  · rw [ms_ix_n hc] at h1 h0
    refine ms_num_t hc (br_f (by decide) (ms_xcor K ?_))
    by_cases e : T (ms_ix q1) (ms_ix q2) = c
    · rw [e, ms_e_lt hc]; exact br_t rfl (h1 e (by omega))
    · refine br_f ?_ (h0 (fun q => e q.1))
      by_cases e2 : T (ms_ix q1) (ms_ix q2) = 10
      · rw [e2]; intro z; exact ms_n1 (j := c) (by omega) z.symm
      · have k := K _ _ e2
        rw [ms_e_lt k.2.2.1, nI_eq (by omega) (by omega)]; exact e
  · exact ms_num_f n1 (br_t rfl (h0 (fun q => q.2 e1)))
theorem ms_xholds {post : Int32 → Prop} {s v : Nat} (hs : s < 1024) (hv : v < 10) (h1 : s.testBit v = true → post 1) (h0 : s.testBit v = false → post 0) : wpX_holds post (nI s) (nI v) := by
  unfold wpX_holds
  cases e : s.testBit v
  · rw [ms_bit_f hs hv e]; exact br_f (by decide) (h0 e)
  · rw [ms_bit_t hs hv e]; exact br_t rfl (h1 e)
theorem ms_xvert {post : Int32 → Prop} {p : Nat} {C : Nat → Int32} {q : Int32} (hp : p < 1024) (h1 : ms_ix q < 10 → p.testBit (ms_ix q) = true → post 1) (h0 : ¬ (ms_ix q < 10 ∧ p.testBit (ms_ix q) = true) → post 0) : wpX_isVertex post (nI p, C) q := by
  unfold wpX_isVertex
  dsimp only
  rcases ms_ix_o q with ⟨c, hc, rfl⟩ | ⟨_, e1, n1⟩
  · rw [ms_ix_n hc] at h1 h0
    exact ms_num_t hc (br_f (by decide) (ms_xholds hp hc (fun e => br_f (by decide) (h1 hc e)) (fun e => br_t rfl (h0 (fun z => by rw [e] at z; exact absurd z.2 (by decide))))))
  · exact ms_num_f n1 (br_t rfl (h0 (fun z => by rw [e1] at z; exact absurd z.1 (by decide))))
/-- the least vertex number that is free -/
def ms_least (p v : Nat) : Prop := v < 10 ∧ p.testBit v = false ∧ ∀ j, j < v → p.testBit j = true
theorem ms_least_o (p : Nat) : (∃ v, ms_least p v) ∨ ∀ j, j < 10 → p.testBit j = true := by
  have key : ∀ k, k ≤ 10 → (∃ v, ms_least p v) ∨ ∀ j, j < k → p.testBit j = true := by
    intro k
    induction k with
    | zero => intro _; exact Or.inr (fun j hj => absurd hj (Nat.not_lt_zero _))
    | succ k ih =>
      intro hk
      rcases ih (by omega) with q | q
      · exact Or.inl q
      · cases e : p.testBit k
        · exact Or.inl ⟨k, by omega, e, q⟩
        · exact Or.inr (fun j hj => by
            by_cases ej : j = k
            · rw [ej]; exact e
            · exact q j (by omega))
  exact key 10 (by omega)
theorem ms_xfree {post : Int32 → Prop} {p v : Nat} {C : Nat → Int32} (hp : p < 1024) (hv : ms_least p v) (h : post (nI v)) : wpX_leastFree post (nI p, C) := by
  obtain ⟨h1, h2, h3⟩ := hv
  have key : ∀ d j, j + d = v → wX_leastFree_2 post (nI p) C (d + 1) (nI j) := by
    intro d
    induction d with
    | zero =>
      intro j hj
      have : j = v := by omega
      subst this
      exact br_f (nI_ge (b := 10) h1 (by decide)) (ms_xholds hp h1 (fun e => by rw [h2] at e; exact absurd e (by decide)) (fun _ => br_t rfl h))
    | succ d ih =>
      intro j hj
      have hj10 : j < 10 := by omega
      exact br_f (nI_ge (b := 10) hj10 (by decide)) (ms_xholds hp hj10 (fun _ => br_f (by decide) (nm_r (nI_1 j) (ih (j + 1) (by omega)))) (fun e => by rw [h3 j (by omega)] at e; exact absurd e (by decide)))
  exact ⟨v + 1, key v 0 (by omega)⟩
theorem ms_xfull {post : Int32 → Prop} {p : Nat} {C : Nat → Int32} (hp : p < 1024) (hv : ∀ j, j < 10 → p.testBit j = true) (h : post (-2)) : wpX_leastFree post (nI p, C) := by
  have key : ∀ d j, j + d = 10 → wX_leastFree_2 post (nI p) C (d + 1) (nI j) := by
    intro d
    induction d with
    | zero =>
      intro j hj
      have : j = 10 := by omega
      subst this
      exact br_t (nI_le (a := 10) (by omega) (by decide)) h
    | succ d ih =>
      intro j hj
      have hj10 : j < 10 := by omega
      exact br_f (nI_ge (b := 10) hj10 (by decide)) (ms_xholds hp hj10 (fun _ => br_f (by decide) (nm_r (nI_1 j) (ih (j + 1) (by omega)))) (fun e => by rw [hv j hj10] at e; exact absurd e (by decide)))
  exact ⟨11, key 10 0 (by omega)⟩
/-- a set from its members -/
def ms_mk (f : Nat → Bool) : Nat → Nat
  | 0 => 0
  | k + 1 => if f k = true then ms_mk f k ||| 2 ^ k else ms_mk f k
theorem ms_mk_lt (f : Nat → Bool) : ∀ k, k ≤ 10 → ms_mk f k < 1024 := by
  intro k
  induction k with
  | zero => intro _; show 0 < 1024; decide
  | succ k ih =>
    intro hk
    unfold ms_mk
    split
    · exact ms_lt (ih (by omega)) (ms_pow (by omega))
    · exact ih (by omega)
theorem ms_mk_b (f : Nat → Bool) (x : Nat) : ∀ k, (ms_mk f k).testBit x = (decide (x < k) && f x) := by
  intro k
  induction k with
  | zero => simp [ms_mk]
  | succ k ih =>
    unfold ms_mk
    by_cases e : f k = true
    · rw [if_pos e, Nat.testBit_or, ih, ms_tb2]
      by_cases ex : k = x
      · subst ex; simp [e]
      · have : (x < k) ↔ (x < k + 1) := by omega
        simp [ex, this]
    · rw [if_neg e, ih]
      by_cases ex : k = x
      · subst ex; simp [e]
      · have : (x < k) ↔ (x < k + 1) := by omega
        simp [this]
def ms_nb (T : Nat → Nat → Nat) (x : Nat) : Nat := ms_mk (fun v => decide (T x v ≠ 10)) 10
theorem ms_nb_lt (T : Nat → Nat → Nat) (x : Nat) : ms_nb T x < 1024 := ms_mk_lt _ 10 (by decide)
theorem ms_nb_b {T : Nat → Nat → Nat} (K : ms_K T) (x v : Nat) : (ms_nb T x).testBit v = decide (T x v ≠ 10) := by
  unfold ms_nb
  rw [ms_mk_b]
  by_cases e : T x v ≠ 10
  · have := (K x v e).2.1
    simp [e, this]
  · simp [e]
theorem ms_xnb {post : Int32 → Prop} {T : Nat → Nat → Nat} {P q : Int32} (K : ms_K T) (h : post (nI (ms_nb T (ms_ix q)))) : wpX_neighbours post (P, ms_C T) q := by
  refine loop_0 (fun n i (s : Nat) => wX_neighbours_4 post q P (ms_C T) n (nI s) (nI i)) (fun i s => s = ms_mk (fun v => decide (T (ms_ix q) v ≠ 10)) i) 10 0 rfl ?_ ?_
  · intro n s hs
    subst hs
    exact br_t (nI_le (a := 10) (by omega) (by decide)) h
  · intro n i s hi hs ih
    refine br_f (nI_ge (b := 10) hi (by decide)) (ms_xcor K ?_)
    rw [ms_ix_n hi]
    by_cases e : T (ms_ix q) i = 10
    · rw [e]
      refine br_t rfl (nm_r (nI_1 i) (ih s ?_))
      unfold ms_mk
      rw [if_neg (by simp [e])]; exact hs
    · refine br_f (ms_e_m1 (K _ _ e).2.2.1) (nm_r ?_ (nm_r (nI_1 i) (ih (s ||| 2 ^ i) ?_)))
      · rw [ms_sh hi, ms_or]
      · unfold ms_mk
        rw [if_pos (by simp [e]), hs]
theorem ms_xcb {post : Int32 → Prop} {s : Nat} (hs : s < 1024) (h : post (nI (ms_pc s))) : wpX_countBits post (nI s) := by
  refine loop_0 (fun n i (c : Nat) => wX_countBits_4 post (nI s) n (nI c) (nI i)) (fun i c => c = ms_cnt s.testBit i) 10 0 rfl ?_ ?_
  · intro n c hc
    subst hc
    exact br_t (nI_le (a := 10) (by omega) (by decide)) h
  · intro n i c hi hc ih
    refine br_f (nI_ge (b := 10) hi (by decide)) (ms_xholds hs hi (fun e => br_f (by decide) (nm_r (nI_1 c) (nm_r (nI_1 i) (ih (c + 1) ?_)))) (fun e => br_t rfl (nm_r (nI_1 i) (ih c ?_))))
    · unfold ms_cnt; rw [if_pos e, hc]
    · unfold ms_cnt; rw [if_neg (by rw [e]; decide), hc]; rfl
