section
/-! rows pasted from the kit's rows to paste (numbers, bits) -/
theorem pk_us {f : Nat → Int32} {k : Nat} {x : Int32} : upd f k x k = x := if_pos rfl
theorem pk_un {f : Nat → Int32} {k j : Nat} {x : Int32} (h : j ≠ k) : upd f k x j = f j := if_neg h
theorem pk_sub {a b : Nat} (h : b ≤ a) : nI a - nI b = nI (a - b) := by
  obtain ⟨c, rfl⟩ : ∃ c, a = c + b := ⟨a - b, by omega⟩
  rw [← nI_add, Int32.add_sub_cancel, Nat.add_sub_cancel]
theorem pk_m1 (n : Nat) : nI (n + 1) + (-1) = nI n := by
  rw [← nI_1, Int32.add_assoc, show (1 : Int32) + (-1) = 0 from rfl, Int32.add_zero]
theorem pk_mul (a b : Nat) : nI a * nI b = nI (a * b) := (Int32.ofNat_mul a b).symm
theorem pk_div {a d : Nat} (ha : a < 2 ^ 31) (h0 : 0 < d) (hd : d < 2 ^ 31) : nI a / nI d = nI (a / d) := by
  apply Int32.toInt_inj.mp
  rw [lg_idiv_nonneg (by rw [nI_toInt ha]; omega) (by rw [nI_toInt hd]; omega), nI_toInt ha, nI_toInt hd, nI_toInt (Nat.lt_of_le_of_lt (Nat.div_le_self a d) ha)]
  first | rfl | exact (Int.natCast_ediv _ _).symm
theorem pk_rem {a d : Nat} (ha : a < 2 ^ 31) (h0 : 0 < d) (hd : d < 2 ^ 31) : nI a - nI a / nI d * nI d = nI (a % d) := by
  rw [pk_div ha h0 hd, pk_mul, pk_sub (Nat.div_mul_le_self a d)]
  exact congrArg nI (by have := Nat.div_add_mod' a d; omega)
theorem pk_ix (x : Int32) {n : Nat} (hn : n < 2 ^ 31) : x < 0 ∨ nI n ≤ x ∨ ∃ j : Nat, j < n ∧ x = nI j := by
  by_cases h : x < 0
  · exact Or.inl h
  · obtain ⟨j, hj, rfl⟩ := nI_of h
    by_cases h2 : j < n
    · exact Or.inr (Or.inr ⟨j, h2, rfl⟩)
    · exact Or.inr (Or.inl (nI_le (by omega) hj))
theorem pk_le {x y : Int32} {A B : Prop} (a b : Nat) (f : a ≤ b → A) (g : b < a → B) (hx : x = nI a := by rfl) (hy : y = nI b := by rfl) (ha : a < 2 ^ 31 := by omega) (hb : b < 2 ^ 31 := by omega) : (x ≤ y → A) ∧ (¬ x ≤ y → B) := by
  subst hx hy
  rw [nI_leI ha hb]
  exact ⟨f, fun z => g (by omega)⟩
theorem pk_lt {x y : Int32} {A B : Prop} (a b : Nat) (f : a < b → A) (g : b ≤ a → B) (hx : x = nI a := by rfl) (hy : y = nI b := by rfl) (ha : a < 2 ^ 31 := by omega) (hb : b < 2 ^ 31 := by omega) : (x < y → A) ∧ (¬ x < y → B) := by
  subst hx hy
  rw [nI_ltI ha hb]
  exact ⟨f, fun z => g (by omega)⟩
theorem pk_eq {x y : Int32} {A B : Prop} (a b : Nat) (f : a = b → A) (g : a ≠ b → B) (hx : x = nI a := by rfl) (hy : y = nI b := by rfl) (ha : a < 2 ^ 31 := by omega) (hb : b < 2 ^ 31 := by omega) : (x = y → A) ∧ (¬ x = y → B) := by
  subst hx hy
  rw [nI_eq ha hb]
  exact ⟨f, g⟩
theorem pk_in {x : Int32} (n N : Nat) (h : n < N) (hx : x = nI n := by rfl) (hN : N < 2 ^ 31 := by omega) : vp_in x N := by
  subst hx
  exact vp_in_nI h hN
theorem pk_cl {x : Int32} (n : Nat) (hx : x = nI n := by rfl) (h : n < 2 ^ 31 := by omega) : x.toNatClampNeg = n := by
  subst hx
  exact nI_clamp h
theorem pk_tn {n : Nat} (h : n < 2 ^ 32) : (nI n).toBitVec.toNat = n := Nat.mod_eq_of_lt h
theorem pk_and (x : Int32) {m : Int32} (k : Nat) (hm : m.toBitVec.toNat = 2 ^ k - 1) : x &&& m = nI (x.toBitVec.toNat % 2 ^ k) := by
  apply Int32.toBitVec_inj.mp
  apply BitVec.eq_of_toNat_eq
  rw [Int32.toBitVec_and, BitVec.toNat_and, hm, Nat.and_two_pow_sub_one_eq_mod]
  show _ = (BitVec.ofNat 32 _).toNat
  rw [BitVec.toNat_ofNat]
  exact (Nat.mod_eq_of_lt (Nat.lt_of_le_of_lt (Nat.mod_le _ _) x.toBitVec.isLt)).symm
theorem pk_andN {n : Nat} (h : n < 2 ^ 32) {m : Int32} (k : Nat) (hm : m.toBitVec.toNat = 2 ^ k - 1) : nI n &&& m = nI (n % 2 ^ k) := by
  rw [pk_and _ k hm, pk_tn h]
theorem pk_shl (a s : Int32) (k : Nat) (hs : (s.toBitVec.smod 32).toNat = k) : (a <<< s).toBitVec.toNat = a.toBitVec.toNat * 2 ^ k % 2 ^ 32 := by
  show (a.toBitVec <<< (s.toBitVec.smod 32).toNat).toNat = _
  rw [hs, BitVec.toNat_shiftLeft, Nat.shiftLeft_eq]
theorem pk_shlN {n : Nat} (s : Int32) (k : Nat) (hs : (s.toBitVec.smod 32).toNat = k) (h : n * 2 ^ k < 2 ^ 32) : nI n <<< s = nI (n * 2 ^ k) := by
  apply Int32.toBitVec_inj.mp
  apply BitVec.eq_of_toNat_eq
  have hn : n < 2 ^ 32 := Nat.lt_of_le_of_lt (Nat.le_mul_of_pos_right n (Nat.two_pow_pos k)) h
  rw [pk_shl _ _ k hs, pk_tn hn, pk_tn h, Nat.mod_eq_of_lt h]
theorem pk_shr (a s : Int32) (k : Nat) (hs : (s.toBitVec.smod 32).toNat = k) : (a >>> s).toInt = a.toInt >>> k := by
  show (a.toBitVec.sshiftRight (s.toBitVec.smod 32).toNat).toInt = _
  rw [hs, BitVec.toInt_sshiftRight]
  rfl
theorem pk_shrN {n : Nat} (h : n < 2 ^ 31) (s : Int32) (k : Nat) (hs : (s.toBitVec.smod 32).toNat = k) : nI n >>> s = nI (n / 2 ^ k) := by
  apply Int32.toInt_inj.mp
  have h2 : n / 2 ^ k ≤ n := Nat.div_le_self _ _
  rw [pk_shr _ _ k hs, nI_toInt h, nI_toInt (by omega), Int.shiftRight_eq_div_pow]
  rfl
theorem s_l : ∀ n, n < 32 → ((nI n &&& 31).toBitVec.smod 32).toNat = n := by decide +kernel
theorem nx_and (a b : Nat) : nI a &&& nI b = nI (a &&& b) := by
  apply Int32.toBitVec_inj.1
  show BitVec.ofNat 32 a &&& BitVec.ofNat 32 b = BitVec.ofNat 32 (a &&& b)
  apply BitVec.eq_of_getLsbD_eq
  intro i hi
  simp [hi]
theorem nx_xor (a b : Nat) : nI a ^^^ nI b = nI (a ^^^ b) := by
  apply Int32.toBitVec_inj.1
  show BitVec.ofNat 32 a ^^^ BitVec.ofNat 32 b = BitVec.ofNat 32 (a ^^^ b)
  apply BitVec.eq_of_getLsbD_eq
  intro i hi
  simp [hi]
/-! own rows: numbers -/
theorem ms_or (a b : Nat) : nI a ||| nI b = nI (a ||| b) := by
  apply Int32.toBitVec_inj.1
  show BitVec.ofNat 32 a ||| BitVec.ofNat 32 b = BitVec.ofNat 32 (a ||| b)
  apply BitVec.eq_of_getLsbD_eq
  intro i hi
  simp [hi]
theorem ms_sh {v : Nat} (h : v < 10) : (1 : Int32) <<< (nI v &&& 31) = nI (2 ^ v) := by
  have e : nI 1 <<< (nI v &&& 31) = nI (1 * 2 ^ v) := pk_shlN _ v (s_l v (by omega)) (by
    have : 2 ^ v < 2 ^ 10 := Nat.pow_lt_pow_right (by decide) h
    omega)
  rw [Nat.one_mul] at e
  exact e
theorem ms_bit {s v : Nat} (hs : s < 1024) (hv : v < 10) : (nI s >>> (nI v &&& 31)) &&& 1 = nI (s / 2 ^ v % 2) := by
  rw [pk_shrN (by omega) _ v (s_l v (by omega))]
  exact pk_andN (m := 1) (Nat.lt_of_le_of_lt (Nat.div_le_self _ _) (by omega)) 1 (by decide)
theorem ms_bit_t {s v : Nat} (hs : s < 1024) (hv : v < 10) (h : s.testBit v = true) : (nI s >>> (nI v &&& 31)) &&& 1 = nI 1 := by
  rw [ms_bit hs hv]
  rw [Nat.testBit_eq_decide_div_mod_eq, decide_eq_true_eq] at h
  rw [h]
theorem ms_bit_f {s v : Nat} (hs : s < 1024) (hv : v < 10) (h : s.testBit v = false) : (nI s >>> (nI v &&& 31)) &&& 1 = nI 0 := by
  rw [ms_bit hs hv]
  rw [Nat.testBit_eq_decide_div_mod_eq, decide_eq_false_iff_not] at h
  have : s / 2 ^ v % 2 = 0 := by omega
  rw [this]
theorem ms_01 : ¬ nI 0 = 1 := by decide
theorem ms_10 : ¬ nI 1 = 0 := by decide
theorem ms_n1 {j : Nat} (h : j < 2 ^ 31) : ¬ nI j = -1 := by
  intro e
  have := nI_pos h
  rw [e] at this
  exact this (by decide)
theorem ms_n2 {j : Nat} (h : j < 2 ^ 31) : ¬ nI j = -2 := by
  intro e
  have := nI_pos h
  rw [e] at this
  exact this (by decide)
theorem ms_lt {s t : Nat} (hs : s < 1024) (ht : t < 1024) : s ||| t < 1024 := Nat.or_lt_two_pow (n := 10) hs ht
theorem ms_pow {v : Nat} (h : v < 10) : 2 ^ v < 1024 := by
  have : 2 ^ v < 2 ^ 10 := Nat.pow_lt_pow_right (by decide) h
  exact this
theorem ms_tb2 (v x : Nat) : (2 ^ v).testBit x = decide (v = x) := Nat.testBit_two_pow
theorem ms_ext {s t : Nat} (hs : s < 1024) (ht : t < 1024) (h : ∀ x, x < 10 → s.testBit x = t.testBit x) : s = t := by
  apply Nat.eq_of_testBit_eq
  intro i
  by_cases hi : i < 10
  · exact h i hi
  · have h1 : 1024 ≤ 2 ^ i := Nat.pow_le_pow_right (n := 2) (by decide) (show 10 ≤ i by omega)
    rw [Nat.testBit_lt_two_pow (by omega), Nat.testBit_lt_two_pow (by omega)]
/-- counts -/
def ms_cnt (f : Nat → Bool) : Nat → Nat
  | 0 => 0
  | k + 1 => ms_cnt f k + (if f k = true then 1 else 0)
theorem ms_cnt_le (f : Nat → Bool) : ∀ k, ms_cnt f k ≤ k := by
  intro k
  induction k with
  | zero => exact Nat.le_refl _
  | succ k ih => unfold ms_cnt; split <;> omega
theorem ms_cnt_cg {f g : Nat → Bool} : ∀ k, (∀ i, i < k → f i = g i) → ms_cnt f k = ms_cnt g k := by
  intro k
  induction k with
  | zero => intro _; rfl
  | succ k ih => intro h; unfold ms_cnt; rw [ih (fun i hi => h i (by omega)), h k (by omega)]
theorem ms_cnt_up {f g : Nat → Bool} {j : Nat} (hf : f j = false) (hg : g j = true) (h : ∀ i, i ≠ j → g i = f i) : ∀ k, j < k → ms_cnt g k = ms_cnt f k + 1 := by
  intro k
  induction k with
  | zero => intro hj; omega
  | succ k ih =>
    intro hj
    unfold ms_cnt
    by_cases e : j = k
    · subst e
      rw [ms_cnt_cg (f := g) (g := f) j (fun i hi => h i (by omega)), hf, hg]
      simp
    · rw [ih (by omega), h k (by omega)]
      omega
theorem ms_cnt_full {f : Nat → Bool} {j : Nat} (hf : f j = false) : ∀ k, j < k → ms_cnt f k < k := by
  intro k
  induction k with
  | zero => intro hj; omega
  | succ k ih =>
    intro hj
    unfold ms_cnt
    by_cases e : j = k
    · subst e
      have := ms_cnt_le f j
      rw [hf]; simp; omega
    · have := ih (by omega)
      split <;> omega
theorem ms_cnt_mono {f g : Nat → Bool} (h : ∀ i, f i = true → g i = true) : ∀ k, ms_cnt f k ≤ ms_cnt g k := by
  intro k
  induction k with
  | zero => exact Nat.le_refl _
  | succ k ih =>
    unfold ms_cnt
    by_cases e : f k = true
    · rw [if_pos e, if_pos (h k e)]; omega
    · rw [if_neg e]; omega
theorem ms_cnt_gr {f g : Nat → Bool} {j : Nat} (h : ∀ i, f i = true → g i = true) (hf : f j = false) (hg : g j = true) : ∀ k, j < k → ms_cnt f k + 1 ≤ ms_cnt g k := by
  intro k
  induction k with
  | zero => intro hj; omega
  | succ k ih =>
    intro hj
    unfold ms_cnt
    by_cases e : j = k
    · subst e
      rw [hf, hg]
      have := ms_cnt_mono h j
      simp; omega
    · have := ih (by omega)
      by_cases e2 : f k = true
      · rw [if_pos e2, if_pos (h k e2)]; omega
      · rw [if_neg e2]; omega
def ms_pc (s : Nat) : Nat := ms_cnt s.testBit 10
theorem ms_pc_le (s : Nat) : ms_pc s ≤ 10 := ms_cnt_le _ _
theorem ms_pc_or {p v : Nat} (hv : v < 10) (h : p.testBit v = false) : ms_pc (p ||| 2 ^ v) = ms_pc p + 1 := by
  unfold ms_pc
  refine ms_cnt_up (j := v) h ?_ ?_ 10 hv
  · rw [Nat.testBit_or, ms_tb2]; simp
  · intro i hi
    rw [Nat.testBit_or, ms_tb2]
    simp [Ne.symm hi]
end
section
/-! the pure mesh: T x y is the vertex opposite the arrow x to y, or 10 -/
def ms_up (T : Nat → Nat → Nat) (a b c : Nat) : Nat → Nat → Nat := fun x y => if x = a ∧ y = b then c else T x y
def ms_put (T : Nat → Nat → Nat) (a b c : Nat) : Nat → Nat → Nat := ms_up (ms_up (ms_up T a b c) b c a) c a b
def ms_drop (T : Nat → Nat → Nat) (a b c : Nat) : Nat → Nat → Nat := ms_up (ms_up (ms_up T a b 10) b c 10) c a 10
theorem ms_put_e (T : Nat → Nat → Nat) (a b c x y : Nat) : ms_put T a b c x y = if x = c ∧ y = a then b else if x = b ∧ y = c then a else if x = a ∧ y = b then c else T x y := rfl
theorem ms_drop_e (T : Nat → Nat → Nat) (a b c x y : Nat) : ms_drop T a b c x y = if x = c ∧ y = a then 10 else if x = b ∧ y = c then 10 else if x = a ∧ y = b then 10 else T x y := rfl
theorem ms_up3_e (T : Nat → Nat → Nat) (a b c i x y : Nat) : ms_up (ms_up (ms_up T a b i) b c i) c a i x y = if x = c ∧ y = a then i else if x = b ∧ y = c then i else if x = a ∧ y = b then i else T x y := rfl
/-- G i x y z: face i is (x, y, z) or a turn of it; T is its table, O the owner of an arrow -/
def ms_R (T O : Nat → Nat → Nat) (G : Nat → Nat → Nat → Nat → Prop) : Prop :=
  (∀ i x y z, G i x y z → G i y z x) ∧ (∀ i x y z, G i x y z → T x y = z ∧ O x y = i ∧ x < 10 ∧ x ≠ y)
  ∧ (∀ x y, T x y ≠ 10 → G (O x y) x y (T x y))
  ∧ (∀ i x y z x' y' z', G i x y z → G i x' y' z' → (x' = x ∧ y' = y ∧ z' = z) ∨ (x' = y ∧ y' = z ∧ z' = x) ∨ (x' = z ∧ y' = x ∧ z' = y))
/-- what each arrow says of its face -/
def ms_K (T : Nat → Nat → Nat) : Prop :=
  ∀ x y, T x y ≠ 10 → x < 10 ∧ y < 10 ∧ T x y < 10 ∧ x ≠ y ∧ T x y ≠ x ∧ T x y ≠ y ∧ T y (T x y) = x ∧ T (T x y) x = y
theorem ms_RK {T O : Nat → Nat → Nat} {G : Nat → Nat → Nat → Nat → Prop} (h : ms_R T O G) : ms_K T := by
  obtain ⟨h1, h2, h3, h4⟩ := h
  intro x y hxy
  have g1 := h3 x y hxy
  have g2 := h1 _ _ _ _ g1
  have g3 := h1 _ _ _ _ g2
  have f1 := h2 _ _ _ _ g1
  have f2 := h2 _ _ _ _ g2
  have f3 := h2 _ _ _ _ g3
  exact ⟨f1.2.2.1, f2.2.2.1, f3.2.2.1, f1.2.2.2, f3.2.2.2, Ne.symm f2.2.2.2, f2.1, f3.1⟩
theorem ms_Rrm {T O : Nat → Nat → Nat} {G : Nat → Nat → Nat → Nat → Prop} (h : ms_R T O G) {i x y z : Nat} (g1 : G i x y z) : ms_R (ms_drop T x y z) O (fun j x' y' z' => G j x' y' z' ∧ j ≠ i) := by
  obtain ⟨h1, h2, h3, h4⟩ := h
  have g2 := h1 _ _ _ _ g1
  have g3 := h1 _ _ _ _ g2
  have f1 := h2 _ _ _ _ g1
  have f2 := h2 _ _ _ _ g2
  have f3 := h2 _ _ _ _ g3
  refine ⟨?_, ?_, ?_, ?_⟩
  · rintro j a b c ⟨g, hj⟩
    exact ⟨h1 _ _ _ _ g, hj⟩
  · rintro j a b c ⟨g, hj⟩
    have f := h2 _ _ _ _ g
    rw [ms_drop_e]
    clear h1 h2 h3 h4 g1 g2 g3 g
    grind
  · intro a b hab
    rw [ms_drop_e] at hab ⊢
    have hT : T a b ≠ 10 ∧ ¬ (a = x ∧ b = y) ∧ ¬ (a = y ∧ b = z) ∧ ¬ (a = z ∧ b = x) := by
      clear h1 h2 h3 h4 g1 g2 g3 f1 f2 f3
      grind
    obtain ⟨hT, n1, n2, n3⟩ := hT
    rw [if_neg n3, if_neg n2, if_neg n1]
    refine ⟨h3 a b hT, fun e => ?_⟩
    have g := h3 a b hT
    rw [e] at g
    rcases h4 _ _ _ _ _ _ _ g1 g with q | q | q
    · exact n1 ⟨q.1, q.2.1⟩
    · exact n2 ⟨q.1, q.2.1⟩
    · exact n3 ⟨q.1, q.2.1⟩
  · rintro j a b c a' b' c' ⟨g, hj⟩ ⟨g', hj'⟩
    exact h4 _ _ _ _ _ _ _ g g'
theorem ms_Rad {T O : Nat → Nat → Nat} {G : Nat → Nat → Nat → Nat → Prop} (h : ms_R T O G) {i x y z : Nat} (hi : ∀ a b c, ¬ G i a b c)
    (hx : x < 10) (hy : y < 10) (hz : z < 10) (hxy : x ≠ y) (hyz : y ≠ z) (hzx : z ≠ x) (txy : T x y = 10) (tyz : T y z = 10) (tzx : T z x = 10) :
    ms_R (ms_put T x y z) (ms_up (ms_up (ms_up O x y i) y z i) z x i) (fun j a b c => G j a b c ∨ (j = i ∧ ((a = x ∧ b = y ∧ c = z) ∨ (a = y ∧ b = z ∧ c = x) ∨ (a = z ∧ b = x ∧ c = y)))) := by
  obtain ⟨h1, h2, h3, h4⟩ := h
  have hG : ∀ j a b c, G j a b c → c ≠ 10 := by
    intro j a b c g
    have := (h2 _ _ _ _ (h1 _ _ _ _ (h1 _ _ _ _ g))).2.2.1
    omega
  refine ⟨?_, ?_, ?_, ?_⟩
  · rintro j a b c (g | ⟨hj, q⟩)
    · exact Or.inl (h1 _ _ _ _ g)
    · refine Or.inr ⟨hj, ?_⟩
      rcases q with ⟨q1, q2, q3⟩ | ⟨q1, q2, q3⟩ | ⟨q1, q2, q3⟩
      · exact Or.inr (Or.inl ⟨q2, q3, q1⟩)
      · exact Or.inr (Or.inr ⟨q2, q3, q1⟩)
      · exact Or.inl ⟨q2, q3, q1⟩
  · rintro j a b c (g | ⟨hj, q⟩)
    · have f := h2 _ _ _ _ g
      have g10 := hG _ _ _ _ g
      rw [ms_put_e, ms_up3_e]
      clear h1 h2 h3 h4 hG g hi
      grind
    · rw [ms_put_e, ms_up3_e]
      clear h1 h2 h3 h4 hG hi
      grind
  · intro a b hab
    rw [ms_put_e, ms_up3_e] at *
    by_cases n3 : a = z ∧ b = x
    · rw [if_pos n3, if_pos n3]; exact Or.inr ⟨rfl, Or.inr (Or.inr ⟨n3.1, n3.2, rfl⟩)⟩
    · rw [if_neg n3] at hab
      rw [if_neg n3, if_neg n3]
      by_cases n2 : a = y ∧ b = z
      · rw [if_pos n2, if_pos n2]; exact Or.inr ⟨rfl, Or.inr (Or.inl ⟨n2.1, n2.2, rfl⟩)⟩
      · rw [if_neg n2] at hab
        rw [if_neg n2, if_neg n2]
        by_cases n1 : a = x ∧ b = y
        · rw [if_pos n1, if_pos n1]; exact Or.inr ⟨rfl, Or.inl ⟨n1.1, n1.2, rfl⟩⟩
        · rw [if_neg n1] at hab
          rw [if_neg n1, if_neg n1]
          exact Or.inl (h3 a b hab)
  · rintro j a b c a' b' c' (g | ⟨hj, q⟩) (g' | ⟨hj', q'⟩)
    · exact h4 _ _ _ _ _ _ _ g g'
    · subst hj'; exact absurd g (hi _ _ _)
    · subst hj; exact absurd g' (hi _ _ _)
    · clear h1 h2 h3 h4 hG hi txy tyz tzx hx hy hz hxy hyz hzx hj hj'
      rcases q with ⟨rfl, rfl, rfl⟩ | ⟨rfl, rfl, rfl⟩ | ⟨rfl, rfl, rfl⟩
      · exact q'
      · rcases q' with q' | q' | q'
        · exact Or.inr (Or.inr q')
        · exact Or.inl q'
        · exact Or.inr (Or.inl q')
      · rcases q' with q' | q' | q'
        · exact Or.inr (Or.inl q')
        · exact Or.inr (Or.inr q')
        · exact Or.inl q'
theorem ms_Rmv {T O : Nat → Nat → Nat} {G : Nat → Nat → Nat → Nat → Prop} (h : ms_R T O G) {i j : Nat} (hi : ∀ a b c, ¬ G i a b c) :
    ms_R T (fun x y => if O x y = j then i else O x y) (fun k a b c => (G k a b c ∧ k ≠ j) ∨ (k = i ∧ G j a b c)) := by
  obtain ⟨h1, h2, h3, h4⟩ := h
  refine ⟨?_, ?_, ?_, ?_⟩
  · rintro k a b c (⟨g, q⟩ | ⟨q, g⟩)
    · exact Or.inl ⟨h1 _ _ _ _ g, q⟩
    · exact Or.inr ⟨q, h1 _ _ _ _ g⟩
  · rintro k a b c (⟨g, q⟩ | ⟨q, g⟩)
    · have f := h2 _ _ _ _ g
      refine ⟨f.1, ?_, f.2.2⟩
      show (if O a b = j then i else O a b) = k
      rw [if_neg (by omega)]; exact f.2.1
    · have f := h2 _ _ _ _ g
      refine ⟨f.1, ?_, f.2.2⟩
      show (if O a b = j then i else O a b) = k
      rw [if_pos f.2.1]; exact q.symm
  · intro a b hab
    have g := h3 a b hab
    by_cases e : O a b = j
    · show ((G (if O a b = j then i else O a b) a b (T a b) ∧ (if O a b = j then i else O a b) ≠ j) ∨ ((if O a b = j then i else O a b) = i ∧ G j a b (T a b)))
      rw [if_pos e]
      rw [e] at g
      exact Or.inr ⟨rfl, g⟩
    · show ((G (if O a b = j then i else O a b) a b (T a b) ∧ (if O a b = j then i else O a b) ≠ j) ∨ ((if O a b = j then i else O a b) = i ∧ G j a b (T a b)))
      rw [if_neg e]
      exact Or.inl ⟨g, e⟩
  · rintro k a b c a' b' c' (⟨g, q⟩ | ⟨q, g⟩) (⟨g', q'⟩ | ⟨q', g'⟩)
    · exact h4 _ _ _ _ _ _ _ g g'
    · subst q'; exact absurd g (hi _ _ _)
    · subst q; exact absurd g' (hi _ _ _)
    · exact h4 _ _ _ _ _ _ _ g g'
theorem ms_Rcg {T O : Nat → Nat → Nat} {G G' : Nat → Nat → Nat → Nat → Prop} (h : ms_R T O G) (e : ∀ i a b c, G' i a b c ↔ G i a b c) : ms_R T O G' := by
  have : G' = G := by funext i a b c; exact propext (e i a b c)
  rw [this]; exact h
/-- the list's faces -/
def ms_F (n : Nat) (A B D : Nat → Nat) (i x y z : Nat) : Prop :=
  i < n ∧ ((A i = x ∧ B i = y ∧ D i = z) ∨ (B i = x ∧ D i = y ∧ A i = z) ∨ (D i = x ∧ A i = y ∧ B i = z))
def ms_u (A : Nat → Nat) (k v : Nat) : Nat → Nat := fun j => if j = k then v else A j
theorem ms_us (A : Nat → Nat) (k v : Nat) : ms_u A k v k = v := if_pos rfl
theorem ms_un (A : Nat → Nat) {k j v : Nat} (h : j ≠ k) : ms_u A k v j = A j := if_neg h
theorem ms_rot3 {a b c x y z : Nat} : ((x = a ∧ y = b ∧ z = c) ∨ (y = a ∧ z = b ∧ x = c) ∨ (z = a ∧ x = b ∧ y = c)) ↔ ((a = x ∧ b = y ∧ c = z) ∨ (a = y ∧ b = z ∧ c = x) ∨ (a = z ∧ b = x ∧ c = y)) :=
  ⟨fun q => q.elim (fun q => Or.inl ⟨q.1.symm, q.2.1.symm, q.2.2.symm⟩) (fun q => q.elim (fun q => Or.inr (Or.inl ⟨q.1.symm, q.2.1.symm, q.2.2.symm⟩)) (fun q => Or.inr (Or.inr ⟨q.1.symm, q.2.1.symm, q.2.2.symm⟩))),
   fun q => q.elim (fun q => Or.inl ⟨q.1.symm, q.2.1.symm, q.2.2.symm⟩) (fun q => q.elim (fun q => Or.inr (Or.inl ⟨q.1.symm, q.2.1.symm, q.2.2.symm⟩)) (fun q => Or.inr (Or.inr ⟨q.1.symm, q.2.1.symm, q.2.2.symm⟩)))⟩
theorem ms_Rput {T O : Nat → Nat → Nat} {n : Nat} {A B D : Nat → Nat} (h : ms_R T O (ms_F n A B D)) {x y z : Nat}
    (hx : x < 10) (hy : y < 10) (hz : z < 10) (hxy : x ≠ y) (hyz : y ≠ z) (hzx : z ≠ x) (txy : T x y = 10) (tyz : T y z = 10) (tzx : T z x = 10) :
    ∃ O', ms_R (ms_put T x y z) O' (ms_F (n + 1) (ms_u A n x) (ms_u B n y) (ms_u D n z)) := by
  refine ⟨_, ms_Rcg (ms_Rad h (i := n) (fun a b c g => absurd g.1 (Nat.lt_irrefl n)) hx hy hz hxy hyz hzx txy tyz tzx) ?_⟩
  intro i a b c
  unfold ms_F
  by_cases e : i = n
  · subst e
    rw [ms_us, ms_us, ms_us, ms_rot3]
    exact ⟨fun q => Or.inr ⟨rfl, q.2⟩, fun q => q.elim (fun q => absurd q.1 (Nat.lt_irrefl _)) (fun q => ⟨Nat.lt_succ_self _, q.2⟩)⟩
  · rw [ms_un _ e, ms_un _ e, ms_un _ e]
    exact ⟨fun q => Or.inl ⟨Nat.lt_of_le_of_ne (Nat.le_of_lt_succ q.1) e, q.2⟩, fun q => q.elim (fun q => ⟨Nat.lt_succ_of_lt q.1, q.2⟩) (fun q => absurd q.1 e)⟩
theorem ms_Rtake {T O : Nat → Nat → Nat} {n : Nat} {A B D : Nat → Nat} (h : ms_R T O (ms_F (n + 1) A B D)) {f x y z : Nat} (g : ms_F (n + 1) A B D f x y z) :
    ∃ O', ms_R (ms_drop T x y z) O' (ms_F n (ms_u A f (A n)) (ms_u B f (B n)) (ms_u D f (D n))) := by
  have hf := g.1
  by_cases e : f = n
  · refine ⟨_, ms_Rcg (ms_Rrm h g) ?_⟩
    intro i a b c
    unfold ms_F
    by_cases e2 : i = f
    · exact ⟨fun q => absurd (e2.trans e) (Nat.ne_of_lt q.1), fun q => absurd e2 q.2⟩
    · rw [ms_un _ e2, ms_un _ e2, ms_un _ e2]
      exact ⟨fun q => ⟨⟨Nat.lt_succ_of_lt q.1, q.2⟩, e2⟩, fun q => ⟨Nat.lt_of_le_of_ne (Nat.le_of_lt_succ q.1.1) (fun z => e2 (z.trans e.symm)), q.1.2⟩⟩
  · refine ⟨_, ms_Rcg (ms_Rmv (ms_Rrm h g) (i := f) (j := n) (fun a b c q => q.2 rfl)) ?_⟩
    intro i a b c
    unfold ms_F
    by_cases e2 : i = f
    · subst e2
      rw [ms_us, ms_us, ms_us]
      exact ⟨fun q => Or.inr ⟨rfl, ⟨⟨Nat.lt_succ_self _, q.2⟩, Ne.symm e⟩⟩, fun q => q.elim (fun q => absurd rfl q.1.2) (fun q => ⟨Nat.lt_of_le_of_ne (Nat.le_of_lt_succ hf) e, q.2.1.2⟩)⟩
    · rw [ms_un _ e2, ms_un _ e2, ms_un _ e2]
      exact ⟨fun q => Or.inl ⟨⟨⟨Nat.lt_succ_of_lt q.1, q.2⟩, e2⟩, Nat.ne_of_lt q.1⟩, fun q => q.elim (fun q => ⟨Nat.lt_of_le_of_ne (Nat.le_of_lt_succ q.1.1.1) q.2, q.1.1.2⟩) (fun q => absurd q.1 e2)⟩
/-- an arrow's count -/
def ms_cn (T : Nat → Nat → Nat) : Nat := ms_cnt (fun i => decide (T (i / 10) (i % 10) ≠ 10)) 100
theorem ms_cn_up {T : Nat → Nat → Nat} {a b c : Nat} (ha : a < 10) (hb : b < 10) (h : T a b = 10) (hc : c ≠ 10) : ms_cn (ms_up T a b c) = ms_cn T + 1 := by
  unfold ms_cn
  have e1 : (10 * a + b) / 10 = a := by omega
  have e2 : (10 * a + b) % 10 = b := by omega
  refine ms_cnt_up (j := 10 * a + b) ?_ ?_ ?_ 100 (by omega)
  · rw [e1, e2, h]; rfl
  · rw [e1, e2]; unfold ms_up; simp [hc]
  · intro i hi
    unfold ms_up
    rw [if_neg (by omega)]
theorem ms_cn_dn {T : Nat → Nat → Nat} {a b : Nat} (ha : a < 10) (hb : b < 10) (h : T a b ≠ 10) : ms_cn T = ms_cn (ms_up T a b 10) + 1 := by
  unfold ms_cn
  have e1 : (10 * a + b) / 10 = a := by omega
  have e2 : (10 * a + b) % 10 = b := by omega
  refine ms_cnt_up (j := 10 * a + b) ?_ ?_ ?_ 100 (by omega)
  · rw [e1, e2]; unfold ms_up; simp
  · rw [e1, e2]; simp [h]
  · intro i hi
    unfold ms_up
    rw [if_neg (by omega)]
theorem ms_cn_put {T : Nat → Nat → Nat} {x y z : Nat} (hx : x < 10) (hy : y < 10) (hz : z < 10) (hxy : x ≠ y) (hyz : y ≠ z) (hzx : z ≠ x) (txy : T x y = 10) (tyz : T y z = 10) (tzx : T z x = 10) : ms_cn (ms_put T x y z) = ms_cn T + 3 := by
  unfold ms_put
  rw [ms_cn_up hz hx, ms_cn_up hy hz, ms_cn_up hx hy txy (by omega)]
  · unfold ms_up; rw [if_neg (by omega)]; exact tyz
  · omega
  · unfold ms_up; rw [if_neg (by omega), if_neg (by omega)]; exact tzx
  · omega
theorem ms_cn_drop {T : Nat → Nat → Nat} {x y z : Nat} (hx : x < 10) (hy : y < 10) (hz : z < 10) (hxy : x ≠ y) (hyz : y ≠ z) (hzx : z ≠ x) (txy : T x y ≠ 10) (tyz : T y z ≠ 10) (tzx : T z x ≠ 10) : ms_cn T = ms_cn (ms_drop T x y z) + 3 := by
  unfold ms_drop
  rw [ms_cn_dn hx hy txy, ms_cn_dn (T := ms_up T x y 10) hy hz, ms_cn_dn (T := ms_up (ms_up T x y 10) y z 10) hz hx]
  · unfold ms_up; rw [if_neg (by omega), if_neg (by omega)]; exact tzx
  · unfold ms_up; rw [if_neg (by omega)]; exact tyz
end
section
/-! what keeps a surface a surface: arrows both ways, no doubled face, the vertices, one piece, one fan a vertex -/
def ms_cl (T : Nat → Nat → Nat) : Prop := ∀ x y, T x y ≠ 10 → T y x ≠ 10
def ms_nd (T : Nat → Nat → Nat) : Prop := ∀ x y, T x y ≠ 10 → T x y ≠ T y x
def ms_vx (T : Nat → Nat → Nat) (p : Nat) : Prop := ∀ x, x < 10 → (p.testBit x = true ↔ ∃ y, T x y ≠ 10)
def ms_co (T : Nat → Nat → Nat) : Prop := ∀ S : Nat → Prop, (∀ x y, T x y ≠ 10 → S x → S y) → ∀ x y x' y', T x x' ≠ 10 → T y y' ≠ 10 → S x → S y
def ms_lk (T : Nat → Nat → Nat) : Prop := ∀ (w : Nat) (S : Nat → Prop), (∀ y, T w y ≠ 10 → S y → S (T w y)) → ∀ y y', T w y ≠ 10 → T w y' ≠ 10 → S y → S y'
def ms_V (T : Nat → Nat → Nat) (p : Nat) : Prop := ms_cl T ∧ ms_nd T ∧ ms_vx T p ∧ ms_co T ∧ ms_lk T
/-- a face cut in three -/
def ms_sf (T : Nat → Nat → Nat) (a b c v : Nat) : Nat → Nat → Nat := ms_put (ms_put (ms_put T a b v) b c v) c a v
theorem ms_sf_e {T : Nat → Nat → Nat} {a b c v : Nat} (hab : a ≠ b) (hbc : b ≠ c) (hca : c ≠ a) (hav : a ≠ v) (hbv : b ≠ v) (hcv : c ≠ v) (x y : Nat) (h1 : T v y = 10) (h2 : T x v = 10) :
    ms_sf T a b c v x y = if x = v then (if y = a then b else if y = b then c else if y = c then a else 10) else if y = v then (if x = a then c else if x = b then a else if x = c then b else 10) else if (x = a ∧ y = b) ∨ (x = b ∧ y = c) ∨ (x = c ∧ y = a) then v else T x y := by
  unfold ms_sf
  rw [ms_put_e, ms_put_e, ms_put_e]
  grind
theorem ms_sfV {T : Nat → Nat → Nat} {p a b c v : Nat} (K : ms_K T) (V : ms_V T p) (hc : T a b = c) (hc10 : c ≠ 10) (hv : v < 10) (hpv : p.testBit v = false) : ms_V (ms_sf T a b c v) (p ||| 2 ^ v) := by
  obtain ⟨cl, nd, vx, co, lk⟩ := V
  have hv1 : ∀ y, T v y = 10 := by
    intro y
    by_cases e : T v y = 10
    · exact e
    · have := (vx v hv).mpr ⟨y, e⟩
      rw [hpv] at this
      exact absurd this (by decide)
  have hv2 : ∀ x, T x v = 10 := by
    intro x
    by_cases e : T x v = 10
    · exact e
    · exact absurd (hv1 x) (cl _ _ e)
  have hv3 : ∀ x y, T x y ≠ v := by
    intro x y e
    have h10 : T x y ≠ 10 := by omega
    have k := K x y h10
    rw [e] at k
    have := hv1 x
    omega
  have k1 := K a b (by omega)
  rw [hc] at k1
  obtain ⟨ha, hb, hcc, hab, hca, hcb, tbc, tca⟩ := k1
  have hbc := Ne.symm hcb
  have hav : a ≠ v := by rintro rfl; have := hv1 b; omega
  have hbv : b ≠ v := by rintro rfl; have := hv2 a; omega
  have hcv : c ≠ v := by have := hv3 a b; omega
  have E : ∀ x y, ms_sf T a b c v x y = if x = v then (if y = a then b else if y = b then c else if y = c then a else 10) else if y = v then (if x = a then c else if x = b then a else if x = c then b else 10) else if (x = a ∧ y = b) ∨ (x = b ∧ y = c) ∨ (x = c ∧ y = a) then v else T x y :=
    fun x y => ms_sf_e hab hbc hca hav hbv hcv x y (hv1 y) (hv2 x)
  have hsup : ∀ x y, T x y ≠ 10 → ms_sf T a b c v x y ≠ 10 := by
    intro x y h
    have q1 := hv1 y
    have q2 := hv2 x
    rw [E]
    clear E K cl nd vx co lk hv1 hv2 hv3
    grind
  have eva : ms_sf T a b c v v a = b := by rw [E]; simp
  have evb : ms_sf T a b c v v b = c := by rw [E]; simp [Ne.symm hab]
  have evc : ms_sf T a b c v v c = a := by rw [E]; simp [hca, hcb]
  have eav : ms_sf T a b c v a v = c := by rw [E]; simp [hav]
  have ebv : ms_sf T a b c v b v = a := by rw [E]; simp [hbv, Ne.symm hab]
  have ecv : ms_sf T a b c v c v = b := by rw [E]; simp [hcv, hca, hcb]
  have eab : ms_sf T a b c v a b = v := by rw [E]; simp [hav, hbv]
  have ebc : ms_sf T a b c v b c = v := by rw [E]; simp [hcv, hbv]
  have eca : ms_sf T a b c v c a = v := by rw [E]; simp [hcv, hav]
  have oth : ∀ x y, x ≠ v → y ≠ v → ¬ ((x = a ∧ y = b) ∨ (x = b ∧ y = c) ∨ (x = c ∧ y = a)) → ms_sf T a b c v x y = T x y := by
    intro x y h1 h2 h3
    rw [E, if_neg h1, if_neg h2, if_neg h3]
  have hsub : ∀ x y, ms_sf T a b c v x y ≠ 10 → x ≠ v → (T x y ≠ 10 ∨ (y = v ∧ (x = a ∨ x = b ∨ x = c))) := by
    intro x y h hxv
    rw [E] at h
    have f1 : T a b ≠ 10 := by omega
    have f2 : T b c ≠ 10 := by omega
    have f3 : T c a ≠ 10 := by omega
    clear E K cl nd vx co lk hv1 hv2 hv3 hsup oth
    grind
  refine ⟨?_, ?_, ?_, ?_, ?_⟩
  · intro x y h
    have c0 := cl x y
    have c1 := cl a b
    have c2 := cl b c
    have c3 := cl c a
    rw [E] at h
    rw [E]
    clear E K cl nd vx co lk hv1 hv2 hv3 hsup oth hsub
    grind
  · intro x y h
    have c0 := nd x y
    have q1 := hv3 x y
    have q2 := hv3 y x
    rw [E] at h
    rw [E, E]
    clear E K cl nd vx co lk hv1 hv2 hv3 hsup oth hsub
    grind
  · intro x hx
    rw [Nat.testBit_or, ms_tb2, Bool.or_eq_true, decide_eq_true_eq, vx x hx]
    constructor
    · rintro (⟨y, hy⟩ | rfl)
      · exact ⟨y, hsup _ _ hy⟩
      · exact ⟨a, by rw [eva]; omega⟩
    · rintro ⟨y, hy⟩
      by_cases e : x = v
      · exact Or.inr e.symm
      · refine Or.inl ?_
        rcases hsub x y hy e with q | ⟨_, q | q | q⟩
        · exact ⟨y, q⟩
        · subst q; exact ⟨b, by omega⟩
        · subst q; exact ⟨c, by omega⟩
        · subst q; exact ⟨a, by omega⟩
  · intro S hS
    have hS' : ∀ x y, T x y ≠ 10 → S x → S y := fun x y h => hS x y (hsup x y h)
    have main := co S hS'
    have fa : ∀ x x', ms_sf T a b c v x x' ≠ 10 → S x → S a := by
      intro x x' h sx
      by_cases e : x = v
      · subst e; exact hS x a (by rw [eva]; omega) sx
      · rcases hsub x x' h e with q | ⟨_, q | q | q⟩
        · exact main x a x' b q (by omega) sx
        · subst q; exact sx
        · rw [q] at sx; exact main b a c b (by omega) (by omega) sx
        · rw [q] at sx; exact main c a a b (by omega) (by omega) sx
    intro x y x' y' hx hy sx
    have sa := fa x x' hx sx
    by_cases e : y = v
    · subst e; exact hS a y (by rw [eav]; omega) sa
    · rcases hsub y y' hy e with q | ⟨_, q | q | q⟩
      · exact main a y b y' (by omega) q sa
      · subst q; exact sa
      · rw [q]; exact main a b b c (by omega) (by omega) sa
      · rw [q]; exact main a c b a (by omega) (by omega) sa
  · intro w S hS
    by_cases hw : w = v
    · subst hw
      have s1 : S a → S b := fun s => by have := hS a (by rw [eva]; omega) s; rw [eva] at this; exact this
      have s2 : S b → S c := fun s => by have := hS b (by rw [evb]; omega) s; rw [evb] at this; exact this
      have s3 : S c → S a := fun s => by have := hS c (by rw [evc]; omega) s; rw [evc] at this; exact this
      have in3 : ∀ y, ms_sf T a b c w w y ≠ 10 → y = a ∨ y = b ∨ y = c := by
        intro y h
        rw [E, if_pos rfl] at h
        clear E K cl nd vx co lk hv1 hv2 hv3 hsup oth hsub
        grind
      intro y y' hy hy' sy
      have sa : S a := by
        rcases in3 y hy with q | q | q
        · subst q; exact sy
        · subst q; exact s3 (s2 sy)
        · subst q; exact s3 sy
      rcases in3 y' hy' with q | q | q
      · subst q; exact sa
      · subst q; exact s1 sa
      · subst q; exact s2 (s1 sa)
    · have main := lk w S (by
        intro y hy sy
        by_cases q : (w = a ∧ y = b) ∨ (w = b ∧ y = c) ∨ (w = c ∧ y = a)
        · rcases q with ⟨rfl, rfl⟩ | ⟨rfl, rfl⟩ | ⟨rfl, rfl⟩
          · rw [hc]
            have := hS y (by rw [eab]; omega) sy; rw [eab] at this
            have := hS v (by rw [eav]; omega) this; rw [eav] at this; exact this
          · rw [tbc]
            have := hS y (by rw [ebc]; omega) sy; rw [ebc] at this
            have := hS v (by rw [ebv]; omega) this; rw [ebv] at this; exact this
          · rw [tca]
            have := hS y (by rw [eca]; omega) sy; rw [eca] at this
            have := hS v (by rw [ecv]; omega) this; rw [ecv] at this; exact this
        · have hyv : y ≠ v := by rintro rfl; exact hy (hv2 w)
          have := hS y (hsup _ _ hy) sy
          rw [oth w y hw hyv q] at this; exact this)
      -- from v on, and to v
      have fv : ∀ y, ms_sf T a b c v w y ≠ 10 → S y → ∃ y0, T w y0 ≠ 10 ∧ S y0 := by
        intro y hy sy
        rcases hsub w y hy hw with q | ⟨rfl, q⟩
        · exact ⟨y, q, sy⟩
        · have s0 := hS y hy sy
          rcases q with rfl | rfl | rfl
          · rw [eav] at s0; exact ⟨c, cl _ _ (by omega), s0⟩
          · rw [ebv] at s0; exact ⟨a, cl _ _ (by omega), s0⟩
          · rw [ecv] at s0; exact ⟨b, cl _ _ (by omega), s0⟩
      intro y y' hy hy' sy
      obtain ⟨y0, t0, s0⟩ := fv y hy sy
      rcases hsub w y' hy' hw with q | ⟨rfl, q⟩
      · exact main y0 y' t0 q s0
      · rcases q with rfl | rfl | rfl
        · have := hS b (by rw [eab]; omega) (main y0 b t0 (by omega) s0); rw [eab] at this; exact this
        · have := hS c (by rw [ebc]; omega) (main y0 c t0 (by omega) s0); rw [ebc] at this; exact this
        · have := hS a (by rw [eca]; omega) (main y0 a t0 (by omega) s0); rw [eca] at this; exact this
end
section
/-! an edge turned -/
def ms_fl (T : Nat → Nat → Nat) (a b c d : Nat) : Nat → Nat → Nat := ms_put (ms_put (ms_drop (ms_drop T a b c) b a d) c a d) d b c
theorem ms_fl_e {T : Nat → Nat → Nat} {a b c d : Nat} (hab : a ≠ b) (hac : a ≠ c) (hbc : b ≠ c) (had : a ≠ d) (hbd : b ≠ d) (hcd : c ≠ d) (x y : Nat) :
    ms_fl T a b c d x y = if x = c ∧ y = a then d else if x = a ∧ y = d then c else if x = d ∧ y = c then a else if x = d ∧ y = b then c else if x = b ∧ y = c then d else if x = c ∧ y = d then b else if (x = a ∧ y = b) ∨ (x = b ∧ y = a) then 10 else T x y := by
  unfold ms_fl
  rw [ms_put_e, ms_put_e, ms_drop_e, ms_drop_e]
  grind
theorem ms_flV {T : Nat → Nat → Nat} {p a b c d : Nat} (K : ms_K T) (V : ms_V T p) (hc : T a b = c) (hd : T b a = d) (hc10 : c ≠ 10) (tcd : T c d = 10) : ms_V (ms_fl T a b c d) p := by
  obtain ⟨cl, nd, vx, co, lk⟩ := V
  have hd10 : d ≠ 10 := by have := cl a b (by omega); omega
  have hcd : c ≠ d := by have := nd a b (by omega); omega
  have tdc : T d c = 10 := by
    by_cases e : T d c = 10
    · exact e
    · exact absurd tcd (cl _ _ e)
  have k1 := K a b (by omega)
  have k2 := K b a (by omega)
  rw [hc] at k1
  rw [hd] at k2
  obtain ⟨ha, hb, hcc, hab, hca, hcb, tbc, tca⟩ := k1
  obtain ⟨-, -, hdd, -, hdb, hda, tad, tdb⟩ := k2
  have hac := Ne.symm hca
  have hbc := Ne.symm hcb
  have had := Ne.symm hda
  have hbd := Ne.symm hdb
  have nac : T a c ≠ d := by
    intro e
    have := (K a c (by omega)).2.2.2.2.2.2.1
    rw [e] at this; omega
  have nda : T d a ≠ c := by
    intro e
    have := (K d a (by omega)).2.2.2.2.2.2.2
    rw [e] at this; omega
  have nbd : T b d ≠ c := by
    intro e
    have := (K b d (by omega)).2.2.2.2.2.2.1
    rw [e] at this; omega
  have ncb : T c b ≠ d := by
    intro e
    have := (K c b (by omega)).2.2.2.2.2.2.2
    rw [e] at this; omega
  have E := ms_fl_e (T := T) hab hac hbc had hbd hcd
  have eca : ms_fl T a b c d c a = d := by rw [E]; simp
  have ead : ms_fl T a b c d a d = c := by rw [E]; simp [hac, hda]
  have edc : ms_fl T a b c d d c = a := by rw [E]; simp [hca, hda]
  have edb : ms_fl T a b c d d b = c := by rw [E]; simp [hda, hbc, Ne.symm hcd]
  have ebc : ms_fl T a b c d b c = d := by rw [E]; simp [hca, Ne.symm hab, hbd]
  have ecd : ms_fl T a b c d c d = b := by rw [E]; simp [hda, hca, hcb, hcd]
  have oth : ∀ x y, T x y ≠ 10 → ¬ (x = a ∧ y = b) → ¬ (x = b ∧ y = a) → ms_fl T a b c d x y ≠ 10 := by
    intro x y h h1 h2
    rw [E]
    clear E K cl nd vx co lk
    grind
  have sam : ∀ x y, ¬ (x = c ∧ y = a) → ¬ (x = a ∧ y = d) → ¬ (x = d ∧ y = c) → ¬ (x = d ∧ y = b) → ¬ (x = b ∧ y = c) → ¬ (x = c ∧ y = d) → ¬ (x = a ∧ y = b) → ¬ (x = b ∧ y = a) → ms_fl T a b c d x y = T x y := by
    intro x y h1 h2 h3 h4 h5 h6 h7 h8
    rw [E, if_neg h1, if_neg h2, if_neg h3, if_neg h4, if_neg h5, if_neg h6, if_neg (fun q => q.elim h7 h8)]
  have hsub : ∀ x y, ms_fl T a b c d x y ≠ 10 → ((T x y ≠ 10 ∧ ¬ (x = a ∧ y = b) ∧ ¬ (x = b ∧ y = a)) ∨ (x = c ∧ y = d) ∨ (x = d ∧ y = c)) := by
    intro x y h
    rw [E] at h
    clear E K cl nd vx co lk oth sam
    grind
  refine ⟨?_, ?_, ?_, ?_, ?_⟩
  · intro x y h
    rcases hsub x y h with ⟨q, q1, q2⟩ | ⟨rfl, rfl⟩ | ⟨rfl, rfl⟩
    · exact oth y x (cl _ _ q) (fun z => q2 ⟨z.2, z.1⟩) (fun z => q1 ⟨z.2, z.1⟩)
    · rw [edc]; omega
    · rw [ecd]; omega
  · intro x y h
    have c0 := nd x y
    rw [E] at h
    rw [E, E]
    clear E K cl nd vx co lk oth sam hsub eca ead edc edb ebc ecd
    grind (splits := 40)
  · intro x hx
    rw [vx x hx]
    constructor
    · rintro ⟨y, hy⟩
      by_cases q1 : x = a ∧ y = b
      · exact ⟨d, by rw [q1.1, ead]; omega⟩
      · by_cases q2 : x = b ∧ y = a
        · exact ⟨c, by rw [q2.1, ebc]; omega⟩
        · exact ⟨y, oth x y hy q1 q2⟩
    · rintro ⟨y, hy⟩
      rcases hsub x y hy with ⟨q, q1, q2⟩ | ⟨rfl, rfl⟩ | ⟨rfl, rfl⟩
      · exact ⟨y, q⟩
      · exact ⟨a, by omega⟩
      · exact ⟨b, by omega⟩
  · intro S hS
    have hS' : ∀ x y, T x y ≠ 10 → S x → S y := by
      intro x y h sx
      by_cases q1 : x = a ∧ y = b
      · obtain ⟨rfl, rfl⟩ := q1
        exact hS d y (by rw [edb]; omega) (hS x d (by rw [ead]; omega) sx)
      · by_cases q2 : x = b ∧ y = a
        · obtain ⟨rfl, rfl⟩ := q2
          exact hS c y (by rw [eca]; omega) (hS x c (by rw [ebc]; omega) sx)
        · exact hS x y (oth x y h q1 q2) sx
    have fo : ∀ x x', ms_fl T a b c d x x' ≠ 10 → ∃ z, T x z ≠ 10 := by
      intro x x' h
      rcases hsub x x' h with ⟨q, q1, q2⟩ | ⟨rfl, rfl⟩ | ⟨rfl, rfl⟩
      · exact ⟨x', q⟩
      · exact ⟨a, by omega⟩
      · exact ⟨b, by omega⟩
    intro x y x' y' hx hy sx
    obtain ⟨z, hz⟩ := fo x x' hx
    obtain ⟨z', hz'⟩ := fo y y' hy
    exact co S hS' x y z z' hz hz' sx
  · intro w S hS
    have st : ∀ y z, ms_fl T a b c d w y = z → z ≠ 10 → S y → S z := by
      intro y z e h s
      have := hS y (by omega) s
      rw [e] at this; exact this
    by_cases wa : w = a
    · subst wa
      have main := lk w (fun y => if y = b then S d else S y) (by
        intro y hy sy
        show if T w y = b then S d else S (T w y)
        have sy' : if y = b then S d else S y := sy
        by_cases yb : y = b
        · subst yb
          rw [if_pos rfl] at sy'
          rw [hc, if_neg hcb]
          exact st d c ead hc10 sy'
        · rw [if_neg yb] at sy'
          by_cases yd : y = d
          · subst yd; rw [tad, if_pos rfl]; exact sy'
          · have hb' : T w y ≠ b := by
              intro e
              have := (K w y hy).2.2.2.2.2.2.2
              rw [e, hd] at this; exact yd this.symm
            rw [if_neg hb']
            exact st y _ (sam w y (fun q => hac q.1) (fun q => yd q.2) (fun q => had q.1) (fun q => had q.1) (fun q => hab q.1) (fun q => hac q.1) (fun q => yb q.2) (fun q => hab q.1)) hy sy')
      have nb : ∀ y, ms_fl T w b c d w y ≠ 10 → T w y ≠ 10 ∧ y ≠ b := by
        intro y h
        rcases hsub w y h with ⟨q, q1, q2⟩ | ⟨q, _⟩ | ⟨q, _⟩
        · exact ⟨q, fun z => q1 ⟨rfl, z⟩⟩
        · exact absurd q hac
        · exact absurd q had
      intro y y' hy hy' sy
      obtain ⟨t1, n1⟩ := nb y hy
      obtain ⟨t2, n2⟩ := nb y' hy'
      have := main y y' t1 t2 (by show if y = b then S d else S y; rw [if_neg n1]; exact sy)
      have this' : if y' = b then S d else S y' := this
      rw [if_neg n2] at this'; exact this'
    · by_cases wb : w = b
      · subst wb
        have main := lk w (fun y => if y = a then S c else S y) (by
          intro y hy sy
          show if T w y = a then S c else S (T w y)
          have sy' : if y = a then S c else S y := sy
          by_cases ya : y = a
          · subst ya
            rw [if_pos rfl] at sy'
            rw [hd, if_neg hda]
            exact st c d ebc hd10 sy'
          · rw [if_neg ya] at sy'
            by_cases yc : y = c
            · subst yc; rw [tbc, if_pos rfl]; exact sy'
            · have hb' : T w y ≠ a := by
                intro e
                have := (K w y hy).2.2.2.2.2.2.2
                rw [e, hc] at this; exact yc this.symm
              rw [if_neg hb']
              exact st y _ (sam w y (fun q => hbc q.1) (fun q => wa q.1) (fun q => hbd q.1) (fun q => hbd q.1) (fun q => yc q.2) (fun q => hbc q.1) (fun q => wa q.1) (fun q => ya q.2)) hy sy')
        have nb : ∀ y, ms_fl T a w c d w y ≠ 10 → T w y ≠ 10 ∧ y ≠ a := by
          intro y h
          rcases hsub w y h with ⟨q, q1, q2⟩ | ⟨q, _⟩ | ⟨q, _⟩
          · exact ⟨q, fun z => q2 ⟨rfl, z⟩⟩
          · exact absurd q hbc
          · exact absurd q hbd
        intro y y' hy hy' sy
        obtain ⟨t1, n1⟩ := nb y hy
        obtain ⟨t2, n2⟩ := nb y' hy'
        have := main y y' t1 t2 (by show if y = a then S c else S y; rw [if_neg n1]; exact sy)
        have this' : if y' = a then S c else S y' := this
        rw [if_neg n2] at this'; exact this'
      · have main := lk w S (by
          intro y hy sy
          by_cases q1 : w = c ∧ y = a
          · obtain ⟨rfl, rfl⟩ := q1
            rw [tca]; exact st d b ecd (by omega) (st y d eca hd10 sy)
          · by_cases q2 : w = d ∧ y = b
            · obtain ⟨rfl, rfl⟩ := q2
              rw [tdb]; exact st c a edc (by omega) (st y c edb hc10 sy)
            · exact st y _ (sam w y q1 (fun q => wa q.1) (fun q => hy (by rw [q.1, q.2]; exact tdc)) q2 (fun q => wb q.1) (fun q => hy (by rw [q.1, q.2]; exact tcd)) (fun q => wa q.1) (fun q => wb q.1)) hy sy)
        have fv : ∀ y, ms_fl T a b c d w y ≠ 10 → S y → ∃ y0, T w y0 ≠ 10 ∧ S y0 := by
          intro y hy sy
          rcases hsub w y hy with ⟨q, _⟩ | ⟨rfl, rfl⟩ | ⟨rfl, rfl⟩
          · exact ⟨y, q, sy⟩
          · exact ⟨b, cl _ _ (by omega), st y b ecd (by omega) sy⟩
          · exact ⟨a, cl _ _ (by omega), st y a edc (by omega) sy⟩
        intro y y' hy hy' sy
        obtain ⟨y0, t0, s0⟩ := fv y hy sy
        rcases hsub w y' hy' with ⟨q, _⟩ | ⟨rfl, rfl⟩ | ⟨rfl, rfl⟩
        · exact main y0 y' t0 q s0
        · exact st a y' eca hd10 (main y0 a t0 (by omega) s0)
        · exact st b y' edb hc10 (main y0 b t0 (by omega) s0)
/-- an edge cut: its face cut, then the edge turned -/
def ms_se (T : Nat → Nat → Nat) (a b c d v : Nat) : Nat → Nat → Nat := ms_put (ms_put (ms_put (ms_put (ms_drop (ms_drop T a b c) b a d) a v c) v b c) b v d) v a d
theorem ms_se_e {T : Nat → Nat → Nat} {a b c d v : Nat} (hab : a ≠ b) (hac : a ≠ c) (hbc : b ≠ c) (had : a ≠ d) (hbd : b ≠ d) (hcd : c ≠ d) (hav : a ≠ v) (hbv : b ≠ v) (hcv : c ≠ v) (hdv : d ≠ v) :
    ms_se T a b c d v = ms_fl (ms_sf T a b c v) a b v d := by
  have hba := Ne.symm hab
  have hca := Ne.symm hac
  have hcb := Ne.symm hbc
  have hda := Ne.symm had
  have hdb := Ne.symm hbd
  have hdc := Ne.symm hcd
  have hva := Ne.symm hav
  have hvb := Ne.symm hbv
  have hvc := Ne.symm hcv
  have hvd := Ne.symm hdv
  funext x y
  simp only [ms_se, ms_fl, ms_sf, ms_put_e, ms_drop_e]
  by_cases xa : x = a
  · subst xa
    simp only [hab, hba, hac, hca, hbc, hcb, had, hda, hbd, hdb, hcd, hdc, hav, hva, hbv, hvb, hcv, hvc, hdv, hvd, false_and, true_and, if_false]
    repeat' split
    all_goals first | rfl | omega
  · by_cases xb : x = b
    · subst xb
      simp only [hab, hba, hac, hca, hbc, hcb, had, hda, hbd, hdb, hcd, hdc, hav, hva, hbv, hvb, hcv, hvc, hdv, hvd, false_and, true_and, if_false]
      repeat' split
      all_goals first | rfl | omega
    · by_cases xc : x = c
      · subst xc
        simp only [hab, hba, hac, hca, hbc, hcb, had, hda, hbd, hdb, hcd, hdc, hav, hva, hbv, hvb, hcv, hvc, hdv, hvd, false_and, true_and, if_false]
        repeat' split
        all_goals first | rfl | omega
      · by_cases xd : x = d
        · subst xd
          simp only [hab, hba, hac, hca, hbc, hcb, had, hda, hbd, hdb, hcd, hdc, hav, hva, hbv, hvb, hcv, hvc, hdv, hvd, false_and, true_and, if_false]
          repeat' split
          all_goals first | rfl | omega
        · by_cases xv : x = v
          · subst xv
            simp only [hab, hba, hac, hca, hbc, hcb, had, hda, hbd, hdb, hcd, hdc, hav, hva, hbv, hvb, hcv, hvc, hdv, hvd, false_and, true_and, if_false]
            repeat' split
            all_goals first | rfl | omega
          · simp only [xa, xb, xc, xd, xv, false_and, if_false]
end
section
/-! a vertex drawn into another: b is handed over to a, arrow by arrow -/
def ms_rn (a b x : Nat) : Nat := if x = b then a else x
def ms_rk (a b k x y : Nat) : Nat := if x = b ∧ y < k then a else x
def ms_Gk (G : Nat → Nat → Nat → Nat → Prop) (a b k i x y z : Nat) : Prop := ∃ x' y' z', G i x' y' z' ∧ x = ms_rk a b k x' y' ∧ y = ms_rk a b k y' z' ∧ z = ms_rk a b k z' x'
def ms_Gn (G : Nat → Nat → Nat → Nat → Prop) (a b i x y z : Nat) : Prop := ∃ x' y' z', G i x' y' z' ∧ x = ms_rn a b x' ∧ y = ms_rn a b y' ∧ z = ms_rn a b z'
theorem ms_Gf {T O : Nat → Nat → Nat} {G : Nat → Nat → Nat → Nat → Prop} (h : ms_R T O G) {i x y z : Nat} (g : G i x y z) :
    x < 10 ∧ y < 10 ∧ z < 10 ∧ x ≠ y ∧ y ≠ z ∧ z ≠ x ∧ T x y = z ∧ T y z = x ∧ T z x = y ∧ O x y = i ∧ O y z = i ∧ O z x = i := by
  obtain ⟨h1, h2, h3, h4⟩ := h
  have g2 := h1 _ _ _ _ g
  have g3 := h1 _ _ _ _ g2
  have f1 := h2 _ _ _ _ g
  have f2 := h2 _ _ _ _ g2
  have f3 := h2 _ _ _ _ g3
  exact ⟨f1.2.2.1, f2.2.2.1, f3.2.2.1, f1.2.2.2, f2.2.2.2, f3.2.2.2, f1.1, f2.1, f3.1, f1.2.1, f2.2.1, f3.2.1⟩
theorem ms_rk0 (a b x y : Nat) : ms_rk a b 0 x y = x := if_neg (fun q => absurd q.2 (Nat.not_lt_zero _))
theorem ms_rk_n {a b k x y : Nat} (h : x ≠ b) : ms_rk a b k x y = x := if_neg (fun q => h q.1)
theorem ms_rk_t {a b k y : Nat} (h : y < k) : ms_rk a b k b y = a := if_pos ⟨rfl, h⟩
theorem ms_rk_f {a b k x y : Nat} (h : ¬ y < k) : ms_rk a b k x y = x := if_neg (fun q => h q.2)
theorem ms_rk_s {a b k x y : Nat} (h : ¬ (x = b ∧ y = k)) : ms_rk a b (k + 1) x y = ms_rk a b k x y := by
  unfold ms_rk
  by_cases e : x = b ∧ y < k
  · rw [if_pos e, if_pos ⟨e.1, by omega⟩]
  · rw [if_neg e, if_neg (by omega)]
theorem ms_rk_o {a b k x y z : Nat} (h : z = ms_rk a b k x y) : (x = b ∧ y < k ∧ z = a) ∨ z = x := by
  unfold ms_rk at h
  by_cases e : x = b ∧ y < k
  · rw [if_pos e] at h; exact Or.inl ⟨e.1, e.2, h⟩
  · rw [if_neg e] at h; exact Or.inr h
theorem ms_Gk0 {T O : Nat → Nat → Nat} {G : Nat → Nat → Nat → Nat → Prop} (a b : Nat) (h : ms_R T O G) : ms_R T O (ms_Gk G a b 0) := by
  refine ms_Rcg h ?_
  intro i x y z
  unfold ms_Gk
  constructor
  · rintro ⟨x', y', z', g, e1, e2, e3⟩
    rw [ms_rk0] at e1 e2 e3
    rw [e1, e2, e3]; exact g
  · intro g
    exact ⟨x, y, z, g, (ms_rk0 _ _ _ _).symm, (ms_rk0 _ _ _ _).symm, (ms_rk0 _ _ _ _).symm⟩
theorem ms_GkC {G : Nat → Nat → Nat → Nat → Prop} {a b k i : Nat} (key : ∀ x y z, G i x y z → ms_rk a b (k + 1) x y = ms_rk a b k x y) (rot : ∀ x y z, G i x y z → G i y z x) (x y z : Nat) : ms_Gk G a b (k + 1) i x y z ↔ ms_Gk G a b k i x y z := by
  unfold ms_Gk
  constructor
  · rintro ⟨x', y', z', g, e1, e2, e3⟩
    have g2 := rot _ _ _ g
    have g3 := rot _ _ _ g2
    exact ⟨x', y', z', g, e1.trans (key _ _ _ g), e2.trans (key _ _ _ g2), e3.trans (key _ _ _ g3)⟩
  · rintro ⟨x', y', z', g, e1, e2, e3⟩
    have g2 := rot _ _ _ g
    have g3 := rot _ _ _ g2
    exact ⟨x', y', z', g, e1.trans (key _ _ _ g).symm, e2.trans (key _ _ _ g2).symm, e3.trans (key _ _ _ g3).symm⟩
theorem ms_hoN {T0 O0 Tk O : Nat → Nat → Nat} {G : Nat → Nat → Nat → Nat → Prop} {a b k : Nat} (R0 : ms_R T0 O0 G) (R : ms_R Tk O (ms_Gk G a b k)) (h : Tk b k = 10) : ms_R Tk O (ms_Gk G a b (k + 1)) := by
  refine ms_Rcg R ?_
  intro i
  apply ms_GkC
  · intro x y z g
    apply ms_rk_s
    rintro ⟨rfl, rfl⟩
    have f := ms_Gf R0 g
    have gk : ms_Gk G a x y i x y z := ⟨x, y, z, g, (ms_rk_f (Nat.lt_irrefl _)).symm, (ms_rk_n (Ne.symm f.2.2.2.1)).symm, (ms_rk_n f.2.2.2.2.2.1).symm⟩
    have := (ms_Gf R gk).2.2.2.2.2.2.1
    omega
  · exact R0.1 i
theorem ms_hoS {T0 O0 Tk O : Nat → Nat → Nat} {G : Nat → Nat → Nat → Nat → Prop} {a b k w : Nat} (R0 : ms_R T0 O0 G) (hab : a ≠ b) (ha : a < 10)
    (tab : T0 a b = 10) (tba : T0 b a = 10) (H1 : ∀ v, T0 a v ≠ 10 → T0 b v = 10) (H2 : ∀ v, T0 v a ≠ 10 → T0 v b = 10)
    (R : ms_R Tk O (ms_Gk G a b k)) (hw : Tk b k = w) (w10 : w ≠ 10) :
    w < 10 ∧ (∃ O2, ms_R (ms_put (ms_drop Tk b k w) a k w) O2 (ms_Gk G a b (k + 1))) ∧ ms_cn (ms_put (ms_drop Tk b k w) a k w) = ms_cn Tk := by
  have gk := R.2.2.1 b k (by omega)
  rw [hw] at gk
  have kk := ms_Gf R gk
  have g : G (O b k) b k w := by
    obtain ⟨x', y', z', g, e1, e2, e3⟩ := gk
    have f := ms_Gf R0 g
    have hx : b = x' := by
      rcases ms_rk_o e1 with q | q
      · exact absurd q.2.2.symm hab
      · exact q
    subst hx
    have hy : k = y' := by
      rcases ms_rk_o e2 with q | q
      · exact absurd q.1.symm f.2.2.2.1
      · exact q
    have hz : w = z' := by
      rcases ms_rk_o e3 with q | q
      · exact absurd q.1 f.2.2.2.2.2.1
      · exact q
    rw [hy, hz]; rw [hy] at g; exact g
  obtain ⟨hb, hk, hw9, hbk, hkw, hwb, t1, t2, t3, o1, o2, o3⟩ := ms_Gf R0 g
  have hak : a ≠ k := by rintro rfl; omega
  have hwa : w ≠ a := by rintro rfl; omega
  have s1 : Tk a k = 10 := by
    by_cases e : Tk a k = 10
    · exact e
    · exfalso
      obtain ⟨x2, y2, z2, g2, q1, q2, q3⟩ := R.2.2.1 a k e
      have f2 := ms_Gf R0 g2
      have hy : k = y2 := by
        rcases ms_rk_o q2 with q | q
        · exact absurd q.2.2.symm hak
        · exact q
      subst hy
      rcases ms_rk_o q1 with q | q
      · exact absurd q.2.1 (Nat.lt_irrefl _)
      · subst q
        have := H1 k (by have := f2.2.2.1; have := f2.2.2.2.2.2.2.1; omega)
        omega
  have s3 : Tk w a = 10 := by
    by_cases e : Tk w a = 10
    · exact e
    · exfalso
      obtain ⟨x2, y2, z2, g2, q1, q2, q3⟩ := R.2.2.1 w a e
      have f2 := ms_Gf R0 g2
      have hx : w = x2 := by
        rcases ms_rk_o q1 with q | q
        · exact absurd q.2.2 hwa
        · exact q
      subst hx
      rcases ms_rk_o q2 with q | q
      · have e1 := f2.2.2.2.2.2.2.1
        rw [q.1, t3] at e1
        omega
      · subst q
        have := H2 w (by have := f2.2.2.1; have := f2.2.2.2.2.2.2.1; omega)
        omega
  have d1 : ms_drop Tk b k w a k = 10 := by
    rw [ms_drop_e]; split; rfl; split; rfl; split; rfl; exact s1
  have d2 : ms_drop Tk b k w k w = 10 := by
    rw [ms_drop_e]; split; rfl; rw [if_pos ⟨rfl, rfl⟩]
  have d3 : ms_drop Tk b k w w a = 10 := by
    rw [ms_drop_e]; split; rfl; split; rfl; split; rfl; exact s3
  have R2 := ms_Rad (ms_Rrm R gk) (i := O b k) (fun a b c q => q.2 rfl) ha hk hw9 hak hkw hwa d1 d2 d3
  refine ⟨hw9, ⟨_, ms_Rcg R2 ?_⟩, ?_⟩
  · intro i x y z
    by_cases e : i = O b k
    · subst e
      have r1 : ms_rk a b (k + 1) b k = a := ms_rk_t (Nat.lt_succ_self _)
      have r2 : ms_rk a b (k + 1) k w = k := ms_rk_n (Ne.symm hbk)
      have r3 : ms_rk a b (k + 1) w b = w := ms_rk_n hwb
      constructor
      · rintro ⟨x2, y2, z2, g2, q1, q2, q3⟩
        refine Or.inr ⟨rfl, ?_⟩
        rcases R0.2.2.2 _ _ _ _ _ _ _ g g2 with ⟨w1, w2, w3⟩ | ⟨w1, w2, w3⟩ | ⟨w1, w2, w3⟩
        · rw [w1, w2] at q1; rw [w2, w3] at q2; rw [w3, w1] at q3
          exact Or.inl ⟨q1.trans r1, q2.trans r2, q3.trans r3⟩
        · rw [w1, w2] at q1; rw [w2, w3] at q2; rw [w3, w1] at q3
          exact Or.inr (Or.inl ⟨q1.trans r2, q2.trans r3, q3.trans r1⟩)
        · rw [w1, w2] at q1; rw [w2, w3] at q2; rw [w3, w1] at q3
          exact Or.inr (Or.inr ⟨q1.trans r3, q2.trans r1, q3.trans r2⟩)
      · rintro (q | ⟨_, q⟩)
        · exact absurd rfl q.2
        · have g2 := R0.1 _ _ _ _ g
          have g3 := R0.1 _ _ _ _ g2
          rcases q with ⟨q1, q2, q3⟩ | ⟨q1, q2, q3⟩ | ⟨q1, q2, q3⟩
          · exact ⟨b, k, w, g, q1.trans r1.symm, q2.trans r2.symm, q3.trans r3.symm⟩
          · exact ⟨k, w, b, g2, q1.trans r2.symm, q2.trans r3.symm, q3.trans r1.symm⟩
          · exact ⟨w, b, k, g3, q1.trans r3.symm, q2.trans r1.symm, q3.trans r2.symm⟩
    · rw [ms_GkC (G := G) (a := a) (b := b) (k := k) (i := i) ?_ (R0.1 i) x y z]
      · exact ⟨fun q => Or.inl ⟨q, e⟩, fun q => q.elim (fun q => q.1) (fun q => absurd q.1 e)⟩
      · intro x2 y2 z2 g2
        apply ms_rk_s
        rintro ⟨rfl, rfl⟩
        exact e ((ms_Gf R0 g2).2.2.2.2.2.2.2.2.2.1.symm.trans o1)
  · obtain ⟨_, _, _, _, _, _, u1, u2, u3, _⟩ := kk
    have c1 := ms_cn_drop (T := Tk) hb hk hw9 hbk hkw hwb (by omega) (by omega) (by omega)
    have c2 := ms_cn_put (T := ms_drop Tk b k w) ha hk hw9 hak hkw hwa d1 d2 d3
    omega
theorem ms_hoE {T0 O0 Tk O : Nat → Nat → Nat} {G : Nat → Nat → Nat → Nat → Prop} {a b : Nat} (R0 : ms_R T0 O0 G) (R : ms_R Tk O (ms_Gk G a b 10)) : ms_R Tk O (ms_Gn G a b) := by
  have key : ∀ x y, y < 10 → ms_rn a b x = ms_rk a b 10 x y := by
    intro x y h
    unfold ms_rn ms_rk
    by_cases e : x = b
    · rw [if_pos e, if_pos ⟨e, h⟩]
    · rw [if_neg e, if_neg (fun q => e q.1)]
  refine ms_Rcg R ?_
  intro i x y z
  constructor
  · rintro ⟨x', y', z', g, e1, e2, e3⟩
    have f := ms_Gf R0 g
    exact ⟨x', y', z', g, e1.trans (key _ _ f.2.1), e2.trans (key _ _ f.2.2.1), e3.trans (key _ _ f.1)⟩
  · rintro ⟨x', y', z', g, e1, e2, e3⟩
    have f := ms_Gf R0 g
    exact ⟨x', y', z', g, e1.trans (key _ _ f.2.1).symm, e2.trans (key _ _ f.2.2.1).symm, e3.trans (key _ _ f.1).symm⟩
end
section
/-! the drawn surface is a surface -/
theorem ms_rn_n {a b x : Nat} (h : x ≠ b) : ms_rn a b x = x := if_neg h
theorem ms_rn_b (a b : Nat) : ms_rn a b b = a := if_pos rfl
theorem ms_rn_o (a b x : Nat) : (x = b ∧ ms_rn a b x = a) ∨ (x ≠ b ∧ ms_rn a b x = x) := by
  by_cases e : x = b
  · exact Or.inl ⟨e, if_pos e⟩
  · exact Or.inr ⟨e, if_neg e⟩
theorem ms_cnt_rem (f : Nat → Bool) (j : Nat) : ∀ k, ms_cnt f k ≤ ms_cnt (fun i => f i && decide (i ≠ j)) k + 1 := by
  intro k
  by_cases hj : j < k
  · by_cases hf : f j = true
    · have := ms_cnt_up (f := fun i => f i && decide (i ≠ j)) (g := f) (j := j) (by simp) hf (by intro i hi; simp [hi]) k hj
      omega
    · rw [ms_cnt_cg (f := f) (g := fun i => f i && decide (i ≠ j)) k]
      · omega
      · intro i _
        by_cases e : i = j
        · subst e; simp [hf]
        · simp [e]
  · rw [ms_cnt_cg (f := f) (g := fun i => f i && decide (i ≠ j)) k]
    · omega
    · intro i hi
      have : i ≠ j := by omega
      simp [this]
theorem ms_cnt_0 {f : Nat → Bool} : ∀ k, (∀ i, i < k → f i = false) → ms_cnt f k = 0 := by
  intro k
  induction k with
  | zero => intro _; rfl
  | succ k ih => intro h; unfold ms_cnt; rw [ih (fun i hi => h i (by omega)), h k (by omega)]; rfl
theorem ms_pc4 {p a b c d : Nat} (h : ∀ x, x < 10 → p.testBit x = true → x = a ∨ x = b ∨ x = c ∨ x = d) : ms_pc p ≤ 4 := by
  unfold ms_pc
  have h1 := ms_cnt_rem p.testBit a 10
  have h2 := ms_cnt_rem (fun i => p.testBit i && decide (i ≠ a)) b 10
  have h3 := ms_cnt_rem (fun i => (p.testBit i && decide (i ≠ a)) && decide (i ≠ b)) c 10
  have h4 := ms_cnt_rem (fun i => ((p.testBit i && decide (i ≠ a)) && decide (i ≠ b)) && decide (i ≠ c)) d 10
  have h5 := ms_cnt_0 (f := fun i => (((p.testBit i && decide (i ≠ a)) && decide (i ≠ b)) && decide (i ≠ c)) && decide (i ≠ d)) 10 (by
    intro i hi
    cases e : p.testBit i
    · rfl
    · rcases h i hi e with q | q | q | q <;> simp [q])
  omega
def ms_six (a b c d x y : Nat) : Prop := (x = a ∧ y = b) ∨ (x = b ∧ y = c) ∨ (x = c ∧ y = a) ∨ (x = b ∧ y = a) ∨ (x = a ∧ y = d) ∨ (x = d ∧ y = b)
def ms_ne (a b c d : Nat) : Prop := a ≠ b ∧ c ≠ a ∧ c ≠ b ∧ d ≠ a ∧ d ≠ b ∧ c ≠ d
/-- the edge a b with its two faces -/
def ms_ed (T : Nat → Nat → Nat) (a b c d : Nat) : Prop := T a b = c ∧ T b c = a ∧ T c a = b ∧ T b a = d ∧ T a d = b ∧ T d b = a
def ms_en (T : Nat → Nat → Nat) (a b c d : Nat) : Prop := T a b ≠ 10 ∧ T b c ≠ 10 ∧ T c a ≠ 10 ∧ T b a ≠ 10 ∧ T a d ≠ 10 ∧ T d b ≠ 10
theorem ms_edge {T : Nat → Nat → Nat} {a b c d : Nat} (K : ms_K T) (cl : ms_cl T) (nd : ms_nd T) (hc : T a b = c) (hd : T b a = d) (hc10 : c ≠ 10) :
    (a < 10 ∧ b < 10 ∧ c < 10 ∧ d < 10) ∧ ms_ne a b c d ∧ ms_ed T a b c d ∧ ms_en T a b c d := by
  have n1 : T a b ≠ 10 := by rw [hc]; exact hc10
  have n2 : T b a ≠ 10 := cl a b n1
  have hcd : c ≠ d := by have := nd a b n1; rw [hc, hd] at this; exact this
  have k1 := K a b n1
  have k2 := K b a n2
  rw [hc] at k1
  rw [hd] at k2
  obtain ⟨ha, hb, hcc, hab, hca, hcb, tbc, tca⟩ := k1
  obtain ⟨-, -, hdd, -, hdb, hda, tad, tdb⟩ := k2
  refine ⟨⟨ha, hb, hcc, hdd⟩, ⟨hab, hca, hcb, hda, hdb, hcd⟩, ⟨hc, tbc, tca, hd, tad, tdb⟩, n1, ?_, ?_, n2, ?_, ?_⟩
  · rw [tbc]; exact Nat.ne_of_lt ha
  · rw [tca]; exact Nat.ne_of_lt hb
  · rw [tad]; exact Nat.ne_of_lt hb
  · rw [tdb]; exact Nat.ne_of_lt ha
/-- the two faces taken out -/
theorem ms_two_e {T : Nat → Nat → Nat} {a b c d : Nat} (x y : Nat) : (ms_six a b c d x y → ms_drop (ms_drop T a b c) b a d x y = 10) ∧ (¬ ms_six a b c d x y → ms_drop (ms_drop T a b c) b a d x y = T x y) := by
  rw [ms_drop_e, ms_drop_e]
  unfold ms_six
  constructor
  · rintro (h | h | h | h | h | h)
    · rw [if_pos h]; split; rfl; split; rfl; split; rfl; split; rfl; split; rfl; rfl
    · rw [if_pos h]; split; rfl; split; rfl; split; rfl; split; rfl; rfl
    · rw [if_pos h]; split; rfl; split; rfl; split; rfl; rfl
    · rw [if_pos h]; split; rfl; split; rfl; rfl
    · rw [if_pos h]; split; rfl; rfl
    · rw [if_pos h]
  · intro h
    rw [if_neg (fun q => h (Or.inr (Or.inr (Or.inr (Or.inr (Or.inr q)))))), if_neg (fun q => h (Or.inr (Or.inr (Or.inr (Or.inr (Or.inl q)))))), if_neg (fun q => h (Or.inr (Or.inr (Or.inr (Or.inl q))))),
      if_neg (fun q => h (Or.inr (Or.inr (Or.inl q)))), if_neg (fun q => h (Or.inr (Or.inl q))), if_neg (fun q => h (Or.inl q))]
/-- T' is T without the two faces -/
def ms_wo (T T' : Nat → Nat → Nat) (a b c d : Nat) : Prop := ∀ x y, (ms_six a b c d x y ∧ T' x y = 10) ∨ (¬ ms_six a b c d x y ∧ T' x y = T x y)
theorem ms_wo_i {T : Nat → Nat → Nat} {a b c d : Nat} : ms_wo T (ms_drop (ms_drop T a b c) b a d) a b c d := by
  intro x y
  by_cases h : ms_six a b c d x y
  · exact Or.inl ⟨h, (ms_two_e x y).1 h⟩
  · exact Or.inr ⟨h, (ms_two_e x y).2 h⟩
theorem ms_wo_t {T T' : Nat → Nat → Nat} {a b c d : Nat} (W : ms_wo T T' a b c d) {x y : Nat} (h : T' x y ≠ 10) : T x y = T' x y ∧ T x y ≠ 10 ∧ ¬ ms_six a b c d x y := by
  rcases W x y with q | q
  · exact absurd q.2 h
  · exact ⟨q.2.symm, by rw [← q.2]; exact h, q.1⟩
theorem ms_wo_n {T T' : Nat → Nat → Nat} {a b c d : Nat} (W : ms_wo T T' a b c d) {x y : Nat} (h : T x y ≠ 10) (n : ¬ ms_six a b c d x y) : T' x y = T x y ∧ T' x y ≠ 10 := by
  rcases W x y with q | q
  · exact absurd q.1 n
  · exact ⟨q.2, by rw [q.2]; exact h⟩
theorem ms_wo_z {T T' : Nat → Nat → Nat} {a b c d : Nat} (W : ms_wo T T' a b c d) {x y : Nat} (n : ms_six a b c d x y) : T' x y = 10 := by
  rcases W x y with q | q
  · exact q.2
  · exact absurd n q.1
theorem ms_wo_4 {T T' : Nat → Nat → Nat} {a b c d : Nat} (W : ms_wo T T' a b c d) (N : ms_ne a b c d) (cl : ms_cl T) (En : ms_en T a b c d) :
    T' a c ≠ 10 ∧ T' c b ≠ 10 ∧ T' b d ≠ 10 ∧ T' d a ≠ 10 := by
  obtain ⟨hab, hca, hcb, hda, hdb, hcd⟩ := N
  obtain ⟨n1, n2, n3, n4, n5, n6⟩ := En
  refine ⟨(ms_wo_n W (cl _ _ n3) ?_).2, (ms_wo_n W (cl _ _ n2) ?_).2, (ms_wo_n W (cl _ _ n6) ?_).2, (ms_wo_n W (cl _ _ n5) ?_).2⟩ <;> (clear W cl n1 n2 n3 n4 n5 n6; unfold ms_six; omega)
/-- T'' is T' with b called a -/
def ms_br (T' T'' : Nat → Nat → Nat) (a b : Nat) : Prop :=
  (∀ x y, T' x y ≠ 10 → T'' (ms_rn a b x) (ms_rn a b y) = ms_rn a b (T' x y) ∧ T'' (ms_rn a b x) (ms_rn a b y) ≠ 10)
  ∧ (∀ x y, T'' x y ≠ 10 → ∃ x' y', T' x' y' ≠ 10 ∧ x = ms_rn a b x' ∧ y = ms_rn a b y' ∧ T'' x y = ms_rn a b (T' x' y'))
theorem ms_rn10 {a b z : Nat} (ha : a < 10) (hz : z < 10) : ms_rn a b z ≠ 10 := by
  rcases ms_rn_o a b z with q | q <;> omega
theorem ms_br_i {T' T'' O' O'' : Nat → Nat → Nat} {G : Nat → Nat → Nat → Nat → Prop} {a b : Nat} (ha : a < 10) (R0 : ms_R T' O' G) (R2 : ms_R T'' O'' (ms_Gn G a b)) : ms_br T' T'' a b := by
  constructor
  · intro x y h
    have g := R0.2.2.1 x y h
    have e := (ms_Gf R2 ⟨x, y, _, g, rfl, rfl, rfl⟩).2.2.2.2.2.2.1
    refine ⟨e, ?_⟩
    rw [e]
    exact ms_rn10 ha (ms_Gf R0 g).2.2.1
  · intro x y h
    obtain ⟨x', y', z', g, e1, e2, e3⟩ := R2.2.2.1 x y h
    have f := ms_Gf R0 g
    refine ⟨x', y', ?_, e1, e2, ?_⟩
    · rw [f.2.2.2.2.2.2.1]; exact Nat.ne_of_lt f.2.2.1
    · rw [e3, f.2.2.2.2.2.2.1]
theorem ms_br_4 {T' T'' : Nat → Nat → Nat} {a b c d : Nat} (Br : ms_br T' T'' a b) (N : ms_ne a b c d) (F : T' a c ≠ 10 ∧ T' c b ≠ 10 ∧ T' b d ≠ 10 ∧ T' d a ≠ 10) :
    T'' a c ≠ 10 ∧ T'' c a ≠ 10 ∧ T'' a d ≠ 10 ∧ T'' d a ≠ 10 := by
  obtain ⟨hab, hca, hcb, hda, hdb, hcd⟩ := N
  have ra := ms_rn_n (a := a) (b := b) hab
  have rb := ms_rn_b a b
  have rc := ms_rn_n (a := a) (b := b) hcb
  have rd := ms_rn_n (a := a) (b := b) hdb
  have m1 := (Br.1 a c F.1).2
  have m2 := (Br.1 c b F.2.1).2
  have m3 := (Br.1 b d F.2.2.1).2
  have m4 := (Br.1 d a F.2.2.2).2
  rw [ra, rc] at m1
  rw [rb, rc] at m2
  rw [rb, rd] at m3
  rw [ra, rd] at m4
  exact ⟨m1, m2, m3, m4⟩
theorem ms_co1 {T T' T'' : Nat → Nat → Nat} {a b c d : Nat} (cl : ms_cl T) (N : ms_ne a b c d) (W : ms_wo T T' a b c d) (Br : ms_br T' T'' a b) (M : T'' a c ≠ 10 ∧ T'' c a ≠ 10 ∧ T'' a d ≠ 10 ∧ T'' d a ≠ 10) : ms_cl T'' := by
  obtain ⟨hab, hca, hcb, hda, hdb, hcd⟩ := N
  have ra := ms_rn_n (a := a) (b := b) hab
  have rb := ms_rn_b a b
  have rc := ms_rn_n (a := a) (b := b) hcb
  have rd := ms_rn_n (a := a) (b := b) hdb
  intro x y h
  obtain ⟨x', y', h', ex, ey, _⟩ := Br.2 x y h
  have hT := ms_wo_t W h'
  have hr := cl x' y' hT.2.1
  by_cases n : ms_six a b c d y' x'
  · rcases n with q | q | q | q | q | q
    · exact absurd (Or.inr (Or.inr (Or.inr (Or.inl ⟨q.2, q.1⟩)))) hT.2.2
    · rw [q.1, rb] at ey; rw [q.2, rc] at ex; rw [ex, ey]; exact M.1
    · rw [q.1, rc] at ey; rw [q.2, ra] at ex; rw [ex, ey]; exact M.2.1
    · exact absurd (Or.inl ⟨q.2, q.1⟩) hT.2.2
    · rw [q.1, ra] at ey; rw [q.2, rd] at ex; rw [ex, ey]; exact M.2.2.1
    · rw [q.1, rd] at ey; rw [q.2, rb] at ex; rw [ex, ey]; exact M.2.2.2
  · rw [ex, ey]; exact (Br.1 y' x' (ms_wo_n W hr n).2).2
theorem ms_co3 {T T' T'' : Nat → Nat → Nat} {a b c d p p' : Nat} (vx : ms_vx T p) (N : ms_ne a b c d) (En : ms_en T a b c d) (W : ms_wo T T' a b c d) (Br : ms_br T' T'' a b) (M : T'' a c ≠ 10 ∧ T'' c a ≠ 10 ∧ T'' a d ≠ 10 ∧ T'' d a ≠ 10)
    (hp' : ∀ x, x < 10 → (p'.testBit x = true ↔ (p.testBit x = true ∧ x ≠ b))) : ms_vx T'' p' := by
  obtain ⟨hab, hca, hcb, hda, hdb, hcd⟩ := N
  intro x hx
  rw [hp' x hx, vx x hx]
  constructor
  · rintro ⟨⟨y, hy⟩, hxb⟩
    by_cases n : ms_six a b c d x y
    · rcases n with q | q | q | q | q | q
      · exact ⟨c, by rw [q.1]; exact M.1⟩
      · exact absurd q.1 hxb
      · exact ⟨a, by rw [q.1]; exact M.2.1⟩
      · exact absurd q.1 hxb
      · exact ⟨c, by rw [q.1]; exact M.1⟩
      · exact ⟨a, by rw [q.1]; exact M.2.2.2⟩
    · have := (Br.1 x y (ms_wo_n W hy n).2).2
      rw [ms_rn_n hxb] at this
      exact ⟨_, this⟩
  · rintro ⟨y, hy⟩
    obtain ⟨x', y', h', ex, ey, _⟩ := Br.2 x y hy
    rcases ms_rn_o a b x' with q | q
    · rw [q.2] at ex; rw [ex]; exact ⟨⟨b, En.1⟩, hab⟩
    · rw [q.2] at ex; rw [ex]; exact ⟨⟨y', (ms_wo_t W h').2.1⟩, q.1⟩
theorem ms_co4 {T T' T'' : Nat → Nat → Nat} {a b c d : Nat} (co : ms_co T) (N : ms_ne a b c d) (W : ms_wo T T' a b c d) (Br : ms_br T' T'' a b) (M : T'' a c ≠ 10 ∧ T'' c a ≠ 10 ∧ T'' a d ≠ 10 ∧ T'' d a ≠ 10) : ms_co T'' := by
  obtain ⟨hab, hca, hcb, hda, hdb, hcd⟩ := N
  have ra := ms_rn_n (a := a) (b := b) hab
  have rb := ms_rn_b a b
  have rc := ms_rn_n (a := a) (b := b) hcb
  have rd := ms_rn_n (a := a) (b := b) hdb
  intro S hS
  have main := co (fun x => S (ms_rn a b x)) (by
    intro x y h sx
    show S (ms_rn a b y)
    have sx' : S (ms_rn a b x) := sx
    by_cases n : ms_six a b c d x y
    · rcases n with q | q | q | q | q | q
      · rw [q.1, ra] at sx'; rw [q.2, rb]; exact sx'
      · rw [q.1, rb] at sx'; rw [q.2, rc]; exact hS a c M.1 sx'
      · rw [q.1, rc] at sx'; rw [q.2, ra]; exact hS c a M.2.1 sx'
      · rw [q.1, rb] at sx'; rw [q.2, ra]; exact sx'
      · rw [q.1, ra] at sx'; rw [q.2, rd]; exact hS a d M.2.2.1 sx'
      · rw [q.1, rd] at sx'; rw [q.2, rb]; exact hS d a M.2.2.2 sx'
    · exact hS _ _ (Br.1 x y (ms_wo_n W h n).2).2 sx')
  intro x y x' y' hx hy sx
  obtain ⟨x1, x2, h1, e1, _, _⟩ := Br.2 x x' hx
  obtain ⟨y1, y2, h2, e2, _, _⟩ := Br.2 y y' hy
  rw [e2]
  exact main x1 y1 x2 y2 (ms_wo_t W h1).2.1 (ms_wo_t W h2).2.1 (by rw [e1] at sx; exact sx)
/-- a tetrahedron by itself has four vertices -/
theorem ms_tet {T T' : Nat → Nat → Nat} {a b c d p : Nat} (K : ms_K T) (cl : ms_cl T) (vx : ms_vx T p) (co : ms_co T) (lk : ms_lk T) (Ed : ms_ed T a b c d) (En : ms_en T a b c d) (W : ms_wo T T' a b c d)
    (com : ∀ v, T a v ≠ 10 → T b v ≠ 10 → v = c ∨ v = d) (h4 : 4 < ms_pc p) (u w : Nat) (e1 : T' a u = w) (e2 : T' b w = u) (hu : u ≠ 10) (hw : w ≠ 10) : False := by
  have f1 := (ms_wo_t W (x := a) (y := u) (by rw [e1]; exact hw))
  have f2 := (ms_wo_t W (x := b) (y := w) (by rw [e2]; exact hu))
  have g1 := K a u f1.2.1
  have g2 := K b w f2.2.1
  rw [f1.1, e1] at g1
  rw [f2.1, e2] at g2
  obtain ⟨ga, gu, gw, gau, gwa, gwu, tuw, twa⟩ := g1
  obtain ⟨gb, -, -, gbw, gub, guw, twu, tub⟩ := g2
  have cu := com u f1.2.1 (cl _ _ (by rw [tub]; exact hw))
  have cw := com w (cl _ _ (by rw [twa]; exact hu)) f2.2.1
  have hud : u ≠ d := by
    rintro rfl
    exact f1.2.2 (Or.inr (Or.inr (Or.inr (Or.inr (Or.inl ⟨rfl, rfl⟩)))))
  have hu2 : u = c := Or.resolve_right cu hud
  have hw2 : w = d := Or.resolve_left cw (fun q => gwu (q.trans hu2.symm))
  subst hu2 hw2
  obtain ⟨tab, tbc, tca, tba, tad, tdb⟩ := Ed
  obtain ⟨n1, n2, n3, n4, n5, n6⟩ := En
  have f1' := f1.1.trans e1
  have f2' := f2.1.trans e2
  have la := lk a (fun y => y = b ∨ y = u ∨ y = w) (by
    intro y _ sy
    rcases sy with q | q | q
    · rw [q]; exact Or.inr (Or.inl tab)
    · rw [q]; exact Or.inr (Or.inr f1')
    · rw [q]; exact Or.inl tad) b
  have lb := lk b (fun y => y = a ∨ y = u ∨ y = w) (by
    intro y _ sy
    rcases sy with q | q | q
    · rw [q]; exact Or.inr (Or.inr tba)
    · rw [q]; exact Or.inl tbc
    · rw [q]; exact Or.inr (Or.inl f2')) a
  have lc := lk u (fun y => y = a ∨ y = b ∨ y = w) (by
    intro y _ sy
    rcases sy with q | q | q
    · rw [q]; exact Or.inr (Or.inl tca)
    · rw [q]; exact Or.inr (Or.inr tub)
    · rw [q]; exact Or.inl tuw) a
  have ld := lk w (fun y => y = a ∨ y = b ∨ y = u) (by
    intro y _ sy
    rcases sy with q | q | q
    · rw [q]; exact Or.inr (Or.inr twa)
    · rw [q]; exact Or.inl tdb
    · rw [q]; exact Or.inr (Or.inl twu)) a
  have all := co (fun x => x = a ∨ x = b ∨ x = u ∨ x = w) (by
    intro x y h sx
    rcases sx with q | q | q | q
    · rw [q] at h
      rcases la y n1 h (Or.inl rfl) with q | q | q
      · exact Or.inr (Or.inl q)
      · exact Or.inr (Or.inr (Or.inl q))
      · exact Or.inr (Or.inr (Or.inr q))
    · rw [q] at h
      rcases lb y n4 h (Or.inl rfl) with q | q | q
      · exact Or.inl q
      · exact Or.inr (Or.inr (Or.inl q))
      · exact Or.inr (Or.inr (Or.inr q))
    · rw [q] at h
      rcases lc y n3 h (Or.inl rfl) with q | q | q
      · exact Or.inl q
      · exact Or.inr (Or.inl q)
      · exact Or.inr (Or.inr (Or.inr q))
    · rw [q] at h
      rcases ld y (cl _ _ n5) h (Or.inl rfl) with q | q | q
      · exact Or.inl q
      · exact Or.inr (Or.inl q)
      · exact Or.inr (Or.inr (Or.inl q))) a
  have := ms_pc4 (p := p) (a := a) (b := b) (c := u) (d := w) (by
    intro x hx hbit
    obtain ⟨y, hy⟩ := (vx x hx).mp hbit
    exact all x b y n1 hy (Or.inl rfl))
  exact absurd h4 (Nat.not_lt.mpr this)
theorem ms_rn_eq {a b x1 x2 : Nat} (ex : ms_rn a b x1 = ms_rn a b x2) : x1 = x2 ∨ (x1 = a ∧ x2 = b) ∨ (x1 = b ∧ x2 = a) := by
  rcases ms_rn_o a b x1 with ⟨q, q'⟩ | ⟨q, q'⟩ <;> rcases ms_rn_o a b x2 with ⟨r, r'⟩ | ⟨r, r'⟩ <;> rw [q', r'] at ex
  · exact Or.inl (q.trans r.symm)
  · exact Or.inr (Or.inr ⟨q, ex.symm⟩)
  · exact Or.inr (Or.inl ⟨ex, r⟩)
  · exact Or.inl ex
theorem ms_diff {a b x1 y1 z1 x2 y2 z2 : Nat} (hab : a ≠ b) (ex : ms_rn a b x1 = ms_rn a b x2) (ey : ms_rn a b y1 = ms_rn a b y2) (ez : ms_rn a b z1 = ms_rn a b z2)
    (p1 : ¬ (x1 = a ∧ y1 = b)) (p2 : ¬ (x1 = b ∧ y1 = a)) (p3 : ¬ (y1 = a ∧ z1 = b)) (p4 : ¬ (y1 = b ∧ z1 = a)) (p5 : ¬ (z1 = a ∧ x1 = b)) (p6 : ¬ (z1 = b ∧ x1 = a)) (d1 : x1 ≠ y1) (d2 : y1 ≠ z1) (d3 : z1 ≠ x1) :
    (x1 = x2 ∧ y1 = y2 ∧ z1 = z2) ∨ (x1 = a ∧ x2 = b ∧ y1 = y2 ∧ z1 = z2) ∨ (x1 = b ∧ x2 = a ∧ y1 = y2 ∧ z1 = z2)
    ∨ (y1 = a ∧ y2 = b ∧ x1 = x2 ∧ z1 = z2) ∨ (y1 = b ∧ y2 = a ∧ x1 = x2 ∧ z1 = z2) ∨ (z1 = a ∧ z2 = b ∧ x1 = x2 ∧ y1 = y2) ∨ (z1 = b ∧ z2 = a ∧ x1 = x2 ∧ y1 = y2) := by
  rcases ms_rn_eq ex with sx | ⟨sx, sx'⟩ | ⟨sx, sx'⟩
  · rcases ms_rn_eq ey with sy | ⟨sy, sy'⟩ | ⟨sy, sy'⟩
    · rcases ms_rn_eq ez with sz | ⟨sz, sz'⟩ | ⟨sz, sz'⟩
      · exact Or.inl ⟨sx, sy, sz⟩
      · exact Or.inr (Or.inr (Or.inr (Or.inr (Or.inr (Or.inl ⟨sz, sz', sx, sy⟩)))))
      · exact Or.inr (Or.inr (Or.inr (Or.inr (Or.inr (Or.inr ⟨sz, sz', sx, sy⟩)))))
    · rcases ms_rn_eq ez with sz | ⟨sz, sz'⟩ | ⟨sz, sz'⟩
      · exact Or.inr (Or.inr (Or.inr (Or.inl ⟨sy, sy', sx, sz⟩)))
      · exact absurd (sy.trans sz.symm) d2
      · exact absurd ⟨sy, sz⟩ p3
    · rcases ms_rn_eq ez with sz | ⟨sz, sz'⟩ | ⟨sz, sz'⟩
      · exact Or.inr (Or.inr (Or.inr (Or.inr (Or.inl ⟨sy, sy', sx, sz⟩))))
      · exact absurd ⟨sy, sz⟩ p4
      · exact absurd (sy.trans sz.symm) d2
  · rcases ms_rn_eq ey with sy | ⟨sy, sy'⟩ | ⟨sy, sy'⟩
    · rcases ms_rn_eq ez with sz | ⟨sz, sz'⟩ | ⟨sz, sz'⟩
      · exact Or.inr (Or.inl ⟨sx, sx', sy, sz⟩)
      · exact absurd (sz.trans sx.symm) d3
      · exact absurd ⟨sz, sx⟩ p6
    · exact absurd (sx.trans sy.symm) d1
    · exact absurd ⟨sx, sy⟩ p1
  · rcases ms_rn_eq ey with sy | ⟨sy, sy'⟩ | ⟨sy, sy'⟩
    · rcases ms_rn_eq ez with sz | ⟨sz, sz'⟩ | ⟨sz, sz'⟩
      · exact Or.inr (Or.inr (Or.inl ⟨sx, sx', sy, sz⟩))
      · exact absurd ⟨sz, sx⟩ p5
      · exact absurd (sz.trans sx.symm) d3
    · exact absurd ⟨sx, sy⟩ p2
    · exact absurd (sx.trans sy.symm) d1
theorem ms_co2 {T T' T'' O' : Nat → Nat → Nat} {G : Nat → Nat → Nat → Nat → Prop} {a b c d : Nat} (nd : ms_nd T) (hab : a ≠ b) (R0 : ms_R T' O' G) (W : ms_wo T T' a b c d) (Br : ms_br T' T'' a b)
    (tet : ∀ u w, T' a u = w → T' b w = u → u ≠ 10 → w ≠ 10 → False) : ms_nd T'' := by
  have K' := ms_RK R0
  have z1 : T' a b = 10 := ms_wo_z W (Or.inl ⟨rfl, rfl⟩)
  have z2 : T' b a = 10 := ms_wo_z W (Or.inr (Or.inr (Or.inr (Or.inl ⟨rfl, rfl⟩))))
  have no : ∀ x y, T' x y ≠ 10 → ¬ (x = a ∧ y = b) ∧ ¬ (x = b ∧ y = a) := by
    intro x y h
    exact ⟨fun q => h (by rw [q.1, q.2]; exact z1), fun q => h (by rw [q.1, q.2]; exact z2)⟩
  intro x y h e
  obtain ⟨x1, y1, h1, ex1, ey1, ez1⟩ := Br.2 x y h
  obtain ⟨y2, x2, h2, ey2, ex2, ez2⟩ := Br.2 y x (by rw [← e]; exact h)
  have f1 := K' x1 y1 h1
  have f2 := K' y2 x2 h2
  have g1 := ms_wo_t W h1
  have g2 := ms_wo_t W h2
  have n1 := nd x1 y1 g1.2.1
  rw [ez1, ez2] at e
  rw [g1.1] at n1
  have g21 := g2.1
  obtain ⟨u1, hz1⟩ : ∃ u, T' x1 y1 = u := ⟨_, rfl⟩
  obtain ⟨u2, hz2⟩ : ∃ u, T' y2 x2 = u := ⟨_, rfl⟩
  rw [hz1] at f1 n1 e h1
  rw [hz2] at f2 g21 e h2
  obtain ⟨a1, a2, a3, a4, a5, a6, a7, a8⟩ := f1
  obtain ⟨b1, b2, b3, b4, b5, b6, b7, b8⟩ := f2
  have i10 : ∀ {z : Nat}, z < 10 → z ≠ 10 := fun hz => Nat.ne_of_lt hz
  have q1 := no x1 y1 (by rw [hz1]; exact h1)
  have q2 := no y1 u1 (by rw [a7]; exact i10 a1)
  have q3 := no u1 x1 (by rw [a8]; exact i10 a2)
  rcases ms_diff hab (ex1.symm.trans ex2) (ey1.symm.trans ey2) e q1.1 q1.2 q2.1 q2.2 q3.1 q3.2 a4 (Ne.symm a6) a5 with r | r | r | r | r | r | r
  · obtain ⟨r1, r2, r3⟩ := r
    rw [← r1, ← r2] at g21
    exact n1 (r3.trans g21.symm)
  · obtain ⟨r1, r2, r3, r4⟩ := r
    rw [r1] at hz1
    rw [r2, ← r3, ← r4] at b7
    exact tet y1 u1 hz1 b7 (i10 a2) h1
  · obtain ⟨r1, r2, r3, r4⟩ := r
    rw [r1] at hz1
    rw [r2, ← r3, ← r4] at b7
    exact tet u1 y1 b7 hz1 h1 (i10 a2)
  · obtain ⟨r1, r2, r3, r4⟩ := r
    rw [r1] at a7
    rw [r2, ← r3, ← r4] at hz2
    exact tet u1 x1 a7 hz2 h1 (i10 a1)
  · obtain ⟨r1, r2, r3, r4⟩ := r
    rw [r1] at a7
    rw [r2, ← r3, ← r4] at hz2
    exact tet x1 u1 hz2 a7 (i10 a1) h1
  · obtain ⟨r1, r2, r3, r4⟩ := r
    rw [r1] at a8
    rw [r2, ← r3, ← r4] at b8
    exact tet x1 y1 a8 b8 (i10 a1) (i10 a2)
  · obtain ⟨r1, r2, r3, r4⟩ := r
    rw [r1] at a8
    rw [r2, ← r3, ← r4] at b8
    exact tet y1 x1 b8 a8 (i10 a2) (i10 a1)
theorem ms_co5 {T T' T'' O' : Nat → Nat → Nat} {G : Nat → Nat → Nat → Nat → Prop} {a b c d : Nat} (K : ms_K T) (cl : ms_cl T) (lk : ms_lk T) (N : ms_ne a b c d) (Ed : ms_ed T a b c d) (En : ms_en T a b c d) (R0 : ms_R T' O' G) (W : ms_wo T T' a b c d) (Br : ms_br T' T'' a b) : ms_lk T'' := by
  obtain ⟨hab, hca, hcb, hda, hdb, hcd⟩ := N
  obtain ⟨tab, tbc, tca, tba, tad, tdb⟩ := Ed
  obtain ⟨n1, n2, n3, n4, n5, n6⟩ := En
  have K' := ms_RK R0
  have z1 : T' a b = 10 := ms_wo_z W (Or.inl ⟨rfl, rfl⟩)
  have z2 : T' b a = 10 := ms_wo_z W (Or.inr (Or.inr (Or.inr (Or.inl ⟨rfl, rfl⟩))))
  have ra := ms_rn_n (a := a) (b := b) hab
  have rb := ms_rn_b a b
  intro w S hS
  have st : ∀ y z, T'' w y = z → z ≠ 10 → S y → S z := by
    intro y z e h s
    have := hS y (by rw [e]; exact h) s
    rw [e] at this; exact this
  by_cases wa : w = a
  · rw [wa] at hS st ⊢
    have va : ∀ y, T a y ≠ 10 → y ≠ b → y ≠ d → T a y ≠ b ∧ T'' a y = T a y := by
      intro y h m1 m2
      have e1 := ms_wo_n W h (by
        rintro (q | q | q | q | q | q)
        · exact m1 q.2
        · exact hab q.1
        · exact hca q.1.symm
        · exact hab q.1
        · exact m2 q.2
        · exact hda q.1.symm)
      have nb : T a y ≠ b := by
        intro e
        have := (K a y h).2.2.2.2.2.2.2
        rw [e, tba] at this; exact m2 this.symm
      refine ⟨nb, ?_⟩
      have := (Br.1 a y e1.2).1
      rw [ra, ms_rn_n m1, e1.1, ms_rn_n nb] at this; exact this
    have vb : ∀ y, T b y ≠ 10 → y ≠ a → y ≠ c → T b y ≠ a ∧ T'' a y = T b y := by
      intro y h m1 m2
      have e1 := ms_wo_n W h (by
        rintro (q | q | q | q | q | q)
        · exact hab q.1.symm
        · exact m2 q.2
        · exact hcb q.1.symm
        · exact m1 q.2
        · exact hab q.1.symm
        · exact hdb q.1.symm)
      have kb := K b y h
      have nb : T b y ≠ a := by
        intro e
        have := kb.2.2.2.2.2.2.2
        rw [e, tab] at this; exact m2 this.symm
      refine ⟨nb, ?_⟩
      have := (Br.1 b y e1.2).1
      rw [rb, ms_rn_n (Ne.symm kb.2.2.2.1), e1.1, ms_rn_n kb.2.2.2.2.1] at this; exact this
    have dall : S d → ∀ y', T b y' ≠ 10 → y' = a ∨ S y' := by
      intro sd y' hy'
      refine lk b (fun y => y = a ∨ S y) ?_ a y' n4 hy' (Or.inl rfl)
      intro y hy sy
      show T b y = a ∨ S (T b y)
      by_cases m1 : y = a
      · rw [m1, tba]; exact Or.inr sd
      · have sy' : S y := Or.resolve_left sy m1
        by_cases m2 : y = c
        · rw [m2]; exact Or.inl tbc
        · exact Or.inr (st y _ (vb y hy m1 m2).2 hy sy')
    have call : S c → ∀ y', T a y' ≠ 10 → y' = b ∨ S y' := by
      intro sc y' hy'
      refine lk a (fun y => y = b ∨ S y) ?_ b y' n1 hy' (Or.inl rfl)
      intro y hy sy
      show T a y = b ∨ S (T a y)
      by_cases m1 : y = b
      · rw [m1, tab]; exact Or.inr sc
      · have sy' : S y := Or.resolve_left sy m1
        by_cases m2 : y = d
        · rw [m2]; exact Or.inl tad
        · exact Or.inr (st y _ (va y hy m1 m2).2 hy sy')
    have d2c : S d → S c := fun s => Or.resolve_left (dall s c n2) hca
    have c2d : S c → S d := fun s => Or.resolve_left (call s d n5) hdb
    have froma : ∀ y, T a y ≠ 10 → y ≠ b → S y → S c := by
      intro y hy n sy
      have := lk a (fun z => (z = b ∧ S d) ∨ (z ≠ b ∧ S z)) (by
        intro z hz sz
        show (T a z = b ∧ S d) ∨ (T a z ≠ b ∧ S (T a z))
        rcases sz with ⟨q, s⟩ | ⟨q, s⟩
        · rw [q, tab]; exact Or.inr ⟨hcb, d2c s⟩
        · by_cases m2 : z = d
          · rw [m2] at s ⊢; exact Or.inl ⟨tad, s⟩
          · have v := va z hz q m2
            exact Or.inr ⟨v.1, st z _ v.2 hz s⟩) y c hy (cl _ _ n3) (Or.inr ⟨n, sy⟩)
      rcases this with q | q
      · exact absurd q.1 hcb
      · exact q.2
    have fromb : ∀ y, T b y ≠ 10 → y ≠ a → S y → S c := by
      intro y hy n sy
      have := lk b (fun z => (z = a ∧ S c) ∨ (z ≠ a ∧ S z)) (by
        intro z hz sz
        show (T b z = a ∧ S c) ∨ (T b z ≠ a ∧ S (T b z))
        rcases sz with ⟨q, s⟩ | ⟨q, s⟩
        · rw [q, tba]; exact Or.inr ⟨hda, c2d s⟩
        · by_cases m2 : z = c
          · rw [m2] at s ⊢; exact Or.inl ⟨tbc, s⟩
          · have v := vb z hz q m2
            exact Or.inr ⟨v.1, st z _ v.2 hz s⟩) y d hy (cl _ _ n6) (Or.inr ⟨n, sy⟩)
      rcases this with q | q
      · exact absurd q.1 hda
      · exact d2c q.2
    have sub : ∀ y, T'' a y ≠ 10 → (T a y ≠ 10 ∧ y ≠ b) ∨ (T b y ≠ 10 ∧ y ≠ a) := by
      intro y h
      obtain ⟨x', y', h', ex, ey, _⟩ := Br.2 a y h
      have t' := ms_wo_t W h'
      have k' := K' x' y' h'
      rcases ms_rn_o a b x' with q | q
      · rw [q.1] at h' t' k'
        have m1 : y' ≠ a := by intro q; rw [q] at h'; exact h' z2
        rw [ms_rn_n (Ne.symm k'.2.2.2.1)] at ey
        rw [ey]; exact Or.inr ⟨t'.2.1, m1⟩
      · rw [q.2] at ex
        rw [← ex] at h' t' k'
        have m1 : y' ≠ b := by intro q; rw [q] at h'; exact h' z1
        rw [ms_rn_n m1] at ey
        rw [ey]; exact Or.inl ⟨t'.2.1, m1⟩
    intro y y' hy hy' sy
    have sc : S c := by
      rcases sub y hy with q | q
      · exact froma y q.1 q.2 sy
      · exact fromb y q.1 q.2 sy
    rcases sub y' hy' with q | q
    · exact Or.resolve_left (call sc y' q.1) q.2
    · exact Or.resolve_left (dall (c2d sc) y' q.1) q.2
  · have wx : ∀ y, T'' w y ≠ 10 → w ≠ b ∧ ∃ y1, T w y1 ≠ 10 ∧ y = ms_rn a b y1 := by
      intro y h
      obtain ⟨x', y', h', ex, ey, _⟩ := Br.2 w y h
      rcases ms_rn_o a b x' with q | q
      · rw [q.2] at ex; exact absurd ex wa
      · rw [q.2] at ex
        exact ⟨by rw [ex]; exact q.1, y', by rw [ex]; exact (ms_wo_t W h').2.1, ey⟩
    intro y y' hy hy' sy
    obtain ⟨wb, y1, h1, e1⟩ := wx y hy
    obtain ⟨_, y2, h2, e2⟩ := wx y' hy'
    rw [e2]
    refine lk w (fun z => S (ms_rn a b z)) ?_ y1 y2 h1 h2 (by rw [e1] at sy; exact sy)
    intro z hz sz
    show S (ms_rn a b (T w z))
    have sz' : S (ms_rn a b z) := sz
    by_cases n : ms_six a b c d w z
    · rcases n with q | q | q | q | q | q
      · exact absurd q.1 wa
      · exact absurd q.1 wb
      · rw [q.2, ra] at sz'; rw [q.1, q.2, tca, rb]; exact sz'
      · exact absurd q.1 wb
      · exact absurd q.1 wa
      · rw [q.2, rb] at sz'; rw [q.1, q.2, tdb, ra]; exact sz'
    · have e3 := ms_wo_n W hz n
      have b1 := Br.1 w z e3.2
      rw [ms_rn_n wb, e3.1] at b1
      exact st _ _ b1.1 (by rw [← b1.1]; exact b1.2) sz'
theorem ms_coV {T T' T'' O' O'' : Nat → Nat → Nat} {G : Nat → Nat → Nat → Nat → Prop} {p p' a b c d : Nat} (K : ms_K T) (V : ms_V T p) (hc : T a b = c) (hd : T b a = d) (hc10 : c ≠ 10)
    (eT' : T' = ms_drop (ms_drop T a b c) b a d) (R0 : ms_R T' O' G) (R2 : ms_R T'' O'' (ms_Gn G a b))
    (com : ∀ v, T a v ≠ 10 → T b v ≠ 10 → v = c ∨ v = d) (h4 : 4 < ms_pc p) (hp' : ∀ x, x < 10 → (p'.testBit x = true ↔ (p.testBit x = true ∧ x ≠ b))) : ms_V T'' p' := by
  obtain ⟨cl, nd, vx, co, lk⟩ := V
  obtain ⟨lts, N, Ed, En⟩ := ms_edge K cl nd hc hd hc10
  have W : ms_wo T T' a b c d := by rw [eT']; exact ms_wo_i
  have Br := ms_br_i lts.1 R0 R2
  have M := ms_br_4 Br N (ms_wo_4 W N cl En)
  exact ⟨ms_co1 cl N W Br M, ms_co2 nd N.1 R0 W Br (ms_tet K cl vx co lk Ed En W com h4), ms_co3 vx N En W Br M hp', ms_co4 co N W Br M, ms_co5 K cl lk N Ed En R0 W Br⟩
end
section
/-! the component's walks against the pure table -/
def ms_e (c : Nat) : Int32 := if c < 10 then nI c else -1
theorem ms_e_lt {c : Nat} (h : c < 10) : ms_e c = nI c := if_pos h
theorem ms_e_10 : ms_e 10 = -1 := rfl
def ms_C (T : Nat → Nat → Nat) : Nat → Int32 := fun i => if i < 100 then ms_e (T (i / 10) (i % 10)) else 0
def ms_ix (q : Int32) : Nat := if q < 0 then 10 else if 10 ≤ q then 10 else q.toNatClampNeg
theorem ms_ix_n {j : Nat} (h : j < 10) : ms_ix (nI j) = j := by
  have h1 : ¬ (10 : Int32) ≤ nI j := nI_ge (b := 10) h (by decide)
  unfold ms_ix
  rw [if_neg (nI_pos (by omega)), if_neg h1, nI_clamp (by omega)]
theorem ms_ix_o (q : Int32) : (∃ j, j < 10 ∧ q = nI j) ∨ ((∀ j, j < 10 → q ≠ nI j) ∧ ms_ix q = 10 ∧ (q < 0 ∨ 10 ≤ q)) := by
  by_cases h0 : q < 0
  · refine Or.inr ⟨?_, if_pos h0, Or.inl h0⟩
    intro j hj e
    rw [e] at h0
    exact nI_pos (by omega) h0
  · by_cases h1 : 10 ≤ q
    · refine Or.inr ⟨?_, by unfold ms_ix; rw [if_neg h0, if_pos h1], Or.inr h1⟩
      intro j hj e
      rw [e] at h1
      exact nI_ge (b := 10) hj (by decide) h1
    · obtain ⟨j, hj, rfl⟩ := nI_of h0
      refine Or.inl ⟨j, ?_, rfl⟩
      have : ¬ nI 10 ≤ nI j := h1
      rw [nI_leI (by decide) hj] at this
      omega
theorem ms_ixI (x y : Nat) : nI x * 10 + nI y = nI (x * 10 + y) := by
  show nI x * nI 10 + nI y = _
  rw [pk_mul, nI_add]
theorem ms_C_at {T : Nat → Nat → Nat} {x y : Nat} (hx : x < 10) (hy : y < 10) : ms_C T (x * 10 + y) = ms_e (T x y) := by
  unfold ms_C
  rw [if_pos (by omega), show (x * 10 + y) / 10 = x by omega, show (x * 10 + y) % 10 = y by omega]
theorem ms_C_up {T : Nat → Nat → Nat} {x y z : Nat} (hx : x < 10) (hy : y < 10) : upd (ms_C T) (x * 10 + y) (ms_e z) = ms_C (ms_up T x y z) := by
  funext i
  unfold upd ms_C ms_up
  by_cases e : i = x * 10 + y
  · rw [if_pos e, if_pos (by omega), if_pos (by omega)]
  · rw [if_neg e]
    by_cases h : i < 100
    · rw [if_pos h, if_pos h, if_neg (by omega)]
    · rw [if_neg h, if_neg h]
theorem ms_num_t {post : Int32 → Prop} {j : Nat} (hj : j < 10) (h : post 1) : wpX_isNumber post (nI j) :=
  br_f (nI_pos (by omega)) (br_f (nI_ge (b := 10) hj (by decide)) h)
theorem ms_num_f {post : Int32 → Prop} {q : Int32} (hq : q < 0 ∨ 10 ≤ q) (h : post 0) : wpX_isNumber post q :=
  br_c (fun _ => h) (fun n => br_c (fun _ => h) (fun m => absurd hq (fun o => o.elim n m)))
theorem ms_T10 {T : Nat → Nat → Nat} (K : ms_K T) (y : Nat) : T 10 y = 10 := by
  by_cases e : T 10 y = 10
  · exact e
  · exact absurd (K 10 y e).1 (by decide)
theorem ms_T01 {T : Nat → Nat → Nat} (K : ms_K T) (x : Nat) : T x 10 = 10 := by
  by_cases e : T x 10 = 10
  · exact e
  · exact absurd (K x 10 e).2.1 (by decide)
theorem ms_xcor {post : Int32 → Prop} {T : Nat → Nat → Nat} {P q1 q2 : Int32} (K : ms_K T) (h : post (ms_e (T (ms_ix q1) (ms_ix q2)))) : wpX_corner post (P, ms_C T) q1 q2 := by
  unfold wpX_corner
  dsimp only
  rcases ms_ix_o q1 with ⟨a, ha, rfl⟩ | ⟨_, e1, n1⟩
  · refine ms_num_t ha (br_f (by decide) ?_)
    rcases ms_ix_o q2 with ⟨b, hb, rfl⟩ | ⟨_, e2, n2⟩
    · rw [ms_ix_n ha, ms_ix_n hb] at h
      refine ms_num_t hb (br_f (by decide) ?_)
      rw [ms_ixI, nI_clamp (by omega), ms_C_at ha hb]
      exact ⟨vp_in_nI (by omega) (by decide), h⟩
    · rw [e2, ms_T01 K] at h
      exact ms_num_f n2 (br_t rfl h)
  · rw [e1, ms_T10 K] at h
    exact ms_num_f n1 (br_t rfl h)
theorem ms_xcorN {post : Int32 → Prop} {T : Nat → Nat → Nat} {P : Int32} {a b : Nat} (K : ms_K T) (ha : a < 10) (hb : b < 10) (h : post (ms_e (T a b))) : wpX_corner post (P, ms_C T) (nI a) (nI b) :=
  ms_xcor K (by rw [ms_ix_n ha, ms_ix_n hb]; exact h)
theorem ms_xset {post : SX → Prop} {T : Nat → Nat → Nat} {P : Int32} {x y z : Nat} (hx : x < 10) (hy : y < 10) (h : post (P, ms_C (ms_up T x y z))) : wpX_setCorner post (P, ms_C T) (nI x) (nI y) (ms_e z) := by
  unfold wpX_setCorner
  dsimp only
  refine ms_num_t hx (br_f (by decide) (ms_num_t hy (br_f (by decide) ?_)))
  rw [ms_ixI, nI_clamp (by omega)]
  refine ⟨vp_in_nI (by omega) (by decide), nm_r (ms_C_up hx hy) h⟩
theorem ms_xput {post : SX → Prop} {T : Nat → Nat → Nat} {P : Int32} {a b c : Nat} (ha : a < 10) (hb : b < 10) (hc : c < 10) (h : post (P, ms_C (ms_put T a b c))) : wpX_putFace post (P, ms_C T) (nI a) (nI b) (nI c) := by
  unfold wpX_putFace
  dsimp only
  have e1 := ms_xset (post := fun u => match u with | (f, g) => wpX_setCorner (fun u => match u with | (f, g) => wpX_setCorner (fun u => match u with | (f, g) => post (f, g)) (f, g) (nI c) (nI a) (nI b)) (f, g) (nI b) (nI c) (nI a)) (T := T) (P := P) (z := c) ha hb
    (by
      have e2 := ms_xset (post := fun u => match u with | (f, g) => wpX_setCorner (fun u => match u with | (f, g) => post (f, g)) (f, g) (nI c) (nI a) (nI b)) (T := ms_up T a b c) (P := P) (z := a) hb hc
        (by
          have e3 := ms_xset (post := fun u => match u with | (f, g) => post (f, g)) (T := ms_up (ms_up T a b c) b c a) (P := P) (z := b) hc ha h
          rw [ms_e_lt hb] at e3; exact e3)
      rw [ms_e_lt ha] at e2; exact e2)
  rw [ms_e_lt hc] at e1
  exact e1
theorem ms_xdrop {post : SX → Prop} {T : Nat → Nat → Nat} {P : Int32} {a b c : Nat} (ha : a < 10) (hb : b < 10) (hc : c < 10) (h : post (P, ms_C (ms_drop T a b c))) : wpX_dropFace post (P, ms_C T) (nI a) (nI b) (nI c) := by
  unfold wpX_dropFace
  dsimp only
  exact ms_xset (post := fun u => match u with | (f, g) => wpX_setCorner (fun u => match u with | (f, g) => wpX_setCorner (fun u => match u with | (f, g) => post (f, g)) (f, g) (nI c) (nI a) (-1)) (f, g) (nI b) (nI c) (-1)) (T := T) (P := P) (z := 10) ha hb
    (ms_xset (post := fun u => match u with | (f, g) => wpX_setCorner (fun u => match u with | (f, g) => post (f, g)) (f, g) (nI c) (nI a) (-1)) (T := ms_up T a b 10) (P := P) (z := 10) hb hc
      (ms_xset (post := fun u => match u with | (f, g) => post (f, g)) (T := ms_up (ms_up T a b 10) b c 10) (P := P) (z := 10) hc ha h))
theorem ms_e_m1 {c : Nat} (h : c < 10) : ¬ ms_e c = -1 := by rw [ms_e_lt h]; exact ms_n1 (by omega)
theorem ms_xjoin {post : Int32 → Prop} {T : Nat → Nat → Nat} {P q1 q2 : Int32} (K : ms_K T) (h0 : T (ms_ix q1) (ms_ix q2) = 10 → post 0) (h1 : T (ms_ix q1) (ms_ix q2) ≠ 10 → post 1) : wpX_areJoined post (P, ms_C T) q1 q2 := by
  unfold wpX_areJoined
  dsimp only
  refine ms_xcor K ?_
  by_cases e : T (ms_ix q1) (ms_ix q2) = 10
  · rw [e]; exact br_t rfl (h0 e)
  · exact br_f (ms_e_m1 (K _ _ e).2.2.1) (h1 e)
theorem ms_xhas {post : Int32 → Prop} {T : Nat → Nat → Nat} {P q1 q2 q3 : Int32} (K : ms_K T) (h1 : T (ms_ix q1) (ms_ix q2) = ms_ix q3 → ms_ix q3 ≠ 10 → post 1) (h0 : ¬ (T (ms_ix q1) (ms_ix q2) = ms_ix q3 ∧ ms_ix q3 ≠ 10) → post 0) : wpX_hasFace post (P, ms_C T) q1 q2 q3 := by
  unfold wpX_hasFace
  dsimp only
  rcases ms_ix_o q3 with ⟨c, hc, rfl⟩ | ⟨_, e1, n1⟩
  · rw [ms_ix_n hc] at h1 h0
    refine ms_num_t hc (br_f (by decide) (ms_xcor K ?_))
    by_cases e : T (ms_ix q1) (ms_ix q2) = c
    · rw [e, ms_e_lt hc]; exact br_t rfl (h1 e (by omega))
    · refine br_f ?_ (h0 (fun q => e q.1))
      by_cases e2 : T (ms_ix q1) (ms_ix q2) = 10
      · rw [e2]; intro z; exact ms_n1 (j := c) (by omega) z.symm
      · have k := K _ _ e2
        rw [ms_e_lt k.2.2.1, nI_eq (by omega) (by omega)]; exact e
  · exact ms_num_f n1 (br_t rfl (h0 (fun q => q.2 e1)))
theorem ms_xholds {post : Int32 → Prop} {s v : Nat} (hs : s < 1024) (hv : v < 10) (h1 : s.testBit v = true → post 1) (h0 : s.testBit v = false → post 0) : wpX_holds post (nI s) (nI v) := by
  unfold wpX_holds
  cases e : s.testBit v
  · rw [ms_bit_f hs hv e]; exact br_f (by decide) (h0 e)
  · rw [ms_bit_t hs hv e]; exact br_t rfl (h1 e)
theorem ms_xvert {post : Int32 → Prop} {p : Nat} {C : Nat → Int32} {q : Int32} (hp : p < 1024) (h1 : ms_ix q < 10 → p.testBit (ms_ix q) = true → post 1) (h0 : ¬ (ms_ix q < 10 ∧ p.testBit (ms_ix q) = true) → post 0) : wpX_isVertex post (nI p, C) q := by
  unfold wpX_isVertex
  dsimp only
  rcases ms_ix_o q with ⟨c, hc, rfl⟩ | ⟨_, e1, n1⟩
  · rw [ms_ix_n hc] at h1 h0
    exact ms_num_t hc (br_f (by decide) (ms_xholds hp hc (fun e => br_f (by decide) (h1 hc e)) (fun e => br_t rfl (h0 (fun z => by rw [e] at z; exact absurd z.2 (by decide))))))
  · exact ms_num_f n1 (br_t rfl (h0 (fun z => by rw [e1] at z; exact absurd z.1 (by decide))))
/-- the least vertex number that is free -/
def ms_least (p v : Nat) : Prop := v < 10 ∧ p.testBit v = false ∧ ∀ j, j < v → p.testBit j = true
theorem ms_least_o (p : Nat) : (∃ v, ms_least p v) ∨ ∀ j, j < 10 → p.testBit j = true := by
  have key : ∀ k, k ≤ 10 → (∃ v, ms_least p v) ∨ ∀ j, j < k → p.testBit j = true := by
    intro k
    induction k with
    | zero => intro _; exact Or.inr (fun j hj => absurd hj (Nat.not_lt_zero _))
    | succ k ih =>
      intro hk
      rcases ih (by omega) with q | q
      · exact Or.inl q
      · cases e : p.testBit k
        · exact Or.inl ⟨k, by omega, e, q⟩
        · exact Or.inr (fun j hj => by
            by_cases ej : j = k
            · rw [ej]; exact e
            · exact q j (by omega))
  exact key 10 (by omega)
theorem ms_xfree {post : Int32 → Prop} {p v : Nat} {C : Nat → Int32} (hp : p < 1024) (hv : ms_least p v) (h : post (nI v)) : wpX_leastFree post (nI p, C) := by
  obtain ⟨h1, h2, h3⟩ := hv
  have key : ∀ d j, j + d = v → wX_leastFree_2 post (nI p) C (d + 1) (nI j) := by
    intro d
    induction d with
    | zero =>
      intro j hj
      have : j = v := by omega
      subst this
      exact br_f (nI_ge (b := 10) h1 (by decide)) (ms_xholds hp h1 (fun e => by rw [h2] at e; exact absurd e (by decide)) (fun _ => br_t rfl h))
    | succ d ih =>
      intro j hj
      have hj10 : j < 10 := by omega
      exact br_f (nI_ge (b := 10) hj10 (by decide)) (ms_xholds hp hj10 (fun _ => br_f (by decide) (nm_r (nI_1 j) (ih (j + 1) (by omega)))) (fun e => by rw [h3 j (by omega)] at e; exact absurd e (by decide)))
  exact ⟨v + 1, key v 0 (by omega)⟩
theorem ms_xfull {post : Int32 → Prop} {p : Nat} {C : Nat → Int32} (hp : p < 1024) (hv : ∀ j, j < 10 → p.testBit j = true) (h : post (-2)) : wpX_leastFree post (nI p, C) := by
  have key : ∀ d j, j + d = 10 → wX_leastFree_2 post (nI p) C (d + 1) (nI j) := by
    intro d
    induction d with
    | zero =>
      intro j hj
      have : j = 10 := by omega
      subst this
      exact br_t (nI_le (a := 10) (by omega) (by decide)) h
    | succ d ih =>
      intro j hj
      have hj10 : j < 10 := by omega
      exact br_f (nI_ge (b := 10) hj10 (by decide)) (ms_xholds hp hj10 (fun _ => br_f (by decide) (nm_r (nI_1 j) (ih (j + 1) (by omega)))) (fun e => by rw [hv j hj10] at e; exact absurd e (by decide)))
  exact ⟨11, key 10 0 (by omega)⟩
/-- a set from its members -/
def ms_mk (f : Nat → Bool) : Nat → Nat
  | 0 => 0
  | k + 1 => if f k = true then ms_mk f k ||| 2 ^ k else ms_mk f k
theorem ms_mk_lt (f : Nat → Bool) : ∀ k, k ≤ 10 → ms_mk f k < 1024 := by
  intro k
  induction k with
  | zero => intro _; show 0 < 1024; decide
  | succ k ih =>
    intro hk
    unfold ms_mk
    split
    · exact ms_lt (ih (by omega)) (ms_pow (by omega))
    · exact ih (by omega)
theorem ms_mk_b (f : Nat → Bool) (x : Nat) : ∀ k, (ms_mk f k).testBit x = (decide (x < k) && f x) := by
  intro k
  induction k with
  | zero => simp [ms_mk]
  | succ k ih =>
    unfold ms_mk
    by_cases e : f k = true
    · rw [if_pos e, Nat.testBit_or, ih, ms_tb2]
      by_cases ex : k = x
      · subst ex; simp [e]
      · have : (x < k) ↔ (x < k + 1) := by omega
        simp [ex, this]
    · rw [if_neg e, ih]
      by_cases ex : k = x
      · subst ex; simp [e]
      · have : (x < k) ↔ (x < k + 1) := by omega
        simp [this]
def ms_nb (T : Nat → Nat → Nat) (x : Nat) : Nat := ms_mk (fun v => decide (T x v ≠ 10)) 10
theorem ms_nb_lt (T : Nat → Nat → Nat) (x : Nat) : ms_nb T x < 1024 := ms_mk_lt _ 10 (by decide)
theorem ms_nb_b {T : Nat → Nat → Nat} (K : ms_K T) (x v : Nat) : (ms_nb T x).testBit v = decide (T x v ≠ 10) := by
  unfold ms_nb
  rw [ms_mk_b]
  by_cases e : T x v ≠ 10
  · have := (K x v e).2.1
    simp [e, this]
  · simp [e]
theorem ms_xnb {post : Int32 → Prop} {T : Nat → Nat → Nat} {P q : Int32} (K : ms_K T) (h : post (nI (ms_nb T (ms_ix q)))) : wpX_neighbours post (P, ms_C T) q := by
  refine loop_0 (fun n i (s : Nat) => wX_neighbours_4 post q P (ms_C T) n (nI s) (nI i)) (fun i s => s = ms_mk (fun v => decide (T (ms_ix q) v ≠ 10)) i) 10 0 rfl ?_ ?_
  · intro n s hs
    subst hs
    exact br_t (nI_le (a := 10) (by omega) (by decide)) h
  · intro n i s hi hs ih
    refine br_f (nI_ge (b := 10) hi (by decide)) (ms_xcor K ?_)
    rw [ms_ix_n hi]
    by_cases e : T (ms_ix q) i = 10
    · rw [e]
      refine br_t rfl (nm_r (nI_1 i) (ih s ?_))
      unfold ms_mk
      rw [if_neg (by simp [e])]; exact hs
    · refine br_f (ms_e_m1 (K _ _ e).2.2.1) (nm_r ?_ (nm_r (nI_1 i) (ih (s ||| 2 ^ i) ?_)))
      · rw [ms_sh hi, ms_or]
      · unfold ms_mk
        rw [if_pos (by simp [e]), hs]
theorem ms_xcb {post : Int32 → Prop} {s : Nat} (hs : s < 1024) (h : post (nI (ms_pc s))) : wpX_countBits post (nI s) := by
  refine loop_0 (fun n i (c : Nat) => wX_countBits_4 post (nI s) n (nI c) (nI i)) (fun i c => c = ms_cnt s.testBit i) 10 0 rfl ?_ ?_
  · intro n c hc
    subst hc
    exact br_t (nI_le (a := 10) (by omega) (by decide)) h
  · intro n i c hi hc ih
    refine br_f (nI_ge (b := 10) hi (by decide)) (ms_xholds hs hi (fun e => br_f (by decide) (nm_r (nI_1 c) (nm_r (nI_1 i) (ih (c + 1) ?_)))) (fun e => br_t rfl (nm_r (nI_1 i) (ih c ?_))))
    · unfold ms_cnt; rw [if_pos e, hc]
    · unfold ms_cnt; rw [if_neg (by rw [e]; decide), hc]; rfl
end
section
/-! the reference's walks against the pure table -/
def ms_N (A : Nat → Nat) : Nat → Int32 := fun i => nI (A i)
theorem ms_N_at (A : Nat → Nat) {i : Nat} (h : i < 16) : ms_N A (nI i).toNatClampNeg = nI (A i) := by
  rw [nI_clamp (by omega)]; rfl
theorem ms_N_up (A : Nat → Nat) {i x : Nat} (h : i < 16) : upd (ms_N A) (nI i).toNatClampNeg (nI x) = ms_N (ms_u A i x) := by
  rw [nI_clamp (by omega)]
  funext j
  unfold upd ms_N ms_u
  by_cases e : j = i
  · rw [if_pos e, if_pos e]
  · rw [if_neg e, if_neg e]
theorem ms_eqix {a : Nat} (ha : a < 10) (q : Int32) : nI a = q ↔ a = ms_ix q := by
  rcases ms_ix_o q with ⟨j, hj, rfl⟩ | ⟨n1, e1, _⟩
  · rw [ms_ix_n hj, nI_eq (by omega) (by omega)]
  · rw [e1]
    exact ⟨fun e => absurd e.symm (n1 a ha), fun e => by omega⟩
theorem ms_Fi {T O : Nat → Nat → Nat} {n : Nat} {A B D : Nat → Nat} (R : ms_R T O (ms_F n A B D)) {i : Nat} (h : i < n) : A i < 10 ∧ B i < 10 ∧ D i < 10 ∧ A i ≠ B i ∧ B i ≠ D i ∧ D i ≠ A i ∧ T (A i) (B i) = D i ∧ T (B i) (D i) = A i ∧ T (D i) (A i) = B i := by
  have f := ms_Gf R (i := i) (x := A i) (y := B i) (z := D i) ⟨h, Or.inl ⟨rfl, rfl, rfl⟩⟩
  exact ⟨f.1, f.2.1, f.2.2.1, f.2.2.2.1, f.2.2.2.2.1, f.2.2.2.2.2.1, f.2.2.2.2.2.2.1, f.2.2.2.2.2.2.2.1, f.2.2.2.2.2.2.2.2.1⟩
theorem ms_yput {post : SY → Prop} {n x y z : Nat} {A B D : Nat → Nat} (hn : n < 16) (h : post (nI (n + 1), ms_N (ms_u A n x), ms_N (ms_u B n y), ms_N (ms_u D n z))) : wpY_put post (nI n, ms_N A, ms_N B, ms_N D) (nI x) (nI y) (nI z) := by
  have hi : vp_in (nI n) 16 := vp_in_nI hn (by decide)
  exact ⟨hi, nm_r (ms_N_up A hn) ⟨hi, nm_r (ms_N_up B hn) ⟨hi, nm_r (ms_N_up D hn) (nm_r (nI_1 n) h)⟩⟩⟩
/-- a branch by a number's place -/
theorem ms_bq {P Q : Prop} {A : Nat → Nat} {i : Nat} {q : Int32} (hi : i < 16) (ha : A i < 10) (f : A i = ms_ix q → P) (g : A i ≠ ms_ix q → Q) : (ms_N A (nI i).toNatClampNeg = q → P) ∧ (¬ ms_N A (nI i).toNatClampNeg = q → Q) := by
  rw [ms_N_at A hi, ms_eqix ha]
  exact ⟨f, g⟩
theorem ms_y98n {post : Int32 → Prop} {J : Int32 → Prop} {q1 q2 : Int32} {i c : Nat} {k : Int32} {a1 a2 a3 : Nat → Int32} (hc : c < 10) (h : post (nI c)) : wY_opposite_98 post J q1 q2 (nI i) (nI c) k a1 a2 a3 :=
  br_f (nI_pos (by omega)) h
theorem ms_y98m {post : Int32 → Prop} {J : Int32 → Prop} {q1 q2 : Int32} {i : Nat} {k : Int32} {a1 a2 a3 : Nat → Int32} (h : J (nI (i + 1))) : wY_opposite_98 post J q1 q2 (nI i) (-1) k a1 a2 a3 :=
  br_t (by decide) (nm_r (nI_1 i) h)
theorem ms_yopp {post : Int32 → Prop} {T O : Nat → Nat → Nat} {n : Nat} {A B D : Nat → Nat} {q1 q2 : Int32} (R : ms_R T O (ms_F n A B D)) (hn : n ≤ 16) (h : post (ms_e (T (ms_ix q1) (ms_ix q2)))) : wpY_opposite post (nI n, ms_N A, ms_N B, ms_N D) q1 q2 := by
  refine loop_0 (fun k i (_ : Unit) => wY_opposite_2 post q1 q2 (nI n) (ms_N A) (ms_N B) (ms_N D) k (nI i)) (fun i _ => ∀ j, j < i → ∀ z, ¬ ms_F n A B D j (ms_ix q1) (ms_ix q2) z) n () (fun j hj => absurd hj (Nat.not_lt_zero _)) ?_ ?_
  · intro k _ hI
    have e : T (ms_ix q1) (ms_ix q2) = 10 := by
      by_cases e : T (ms_ix q1) (ms_ix q2) = 10
      · exact e
      · have g := R.2.2.1 _ _ e
        exact absurd g (hI _ g.1 _)
    rw [e] at h
    exact br_t (nI_le (Nat.le_refl n) (by omega)) h
  · intro k i _ hi hI ih
    have f := ms_Fi R hi
    have hi16 : i < 16 := by omega
    have hv : vp_in (nI i) 16 := vp_in_nI hi16 (by decide)
    have go : (¬ (A i = ms_ix q1 ∧ B i = ms_ix q2)) → (¬ (B i = ms_ix q1 ∧ D i = ms_ix q2)) → (¬ (D i = ms_ix q1 ∧ A i = ms_ix q2)) → wY_opposite_2 post q1 q2 (nI n) (ms_N A) (ms_N B) (ms_N D) k (nI (i + 1)) := by
      intro n1 n2 n3
      refine ih () ?_
      intro j hj z g
      by_cases ej : j = i
      · subst ej
        rcases g.2 with q | q | q
        · exact n1 ⟨q.1, q.2.1⟩
        · exact n2 ⟨q.1, q.2.1⟩
        · exact n3 ⟨q.1, q.2.1⟩
      · exact hI j (by omega) z g
    have c68 : (¬ (A i = ms_ix q1 ∧ B i = ms_ix q2)) → (¬ (B i = ms_ix q1 ∧ D i = ms_ix q2)) → wY_opposite_68 post (wY_opposite_2 post q1 q2 (nI n) (ms_N A) (ms_N B) (ms_N D) k) q1 q2 (nI i) (nI n) (ms_N A) (ms_N B) (ms_N D) := by
      intro n1 n2
      refine ⟨hv, ms_bq hi16 f.2.2.1 (fun e1 => ⟨hv, ms_bq hi16 f.1 (fun e2 => ⟨hv, ?_⟩) (fun e2 => ms_y98m (go n1 n2 (fun q => e2 q.2)))⟩) (fun e1 => ms_y98m (go n1 n2 (fun q => e1 q.1)))⟩
      rw [ms_N_at B hi16]
      refine ms_y98n f.2.1 ?_
      rw [← e1, ← e2, f.2.2.2.2.2.2.2.2, ms_e_lt f.2.1] at h; exact h
    have c39 : (¬ (A i = ms_ix q1 ∧ B i = ms_ix q2)) → wY_opposite_39 post (wY_opposite_2 post q1 q2 (nI n) (ms_N A) (ms_N B) (ms_N D) k) q1 q2 (nI i) (nI n) (ms_N A) (ms_N B) (ms_N D) := by
      intro n1
      refine ⟨hv, ms_bq hi16 f.2.1 (fun e1 => ⟨hv, ms_bq hi16 f.2.2.1 (fun e2 => ⟨hv, ?_⟩) (fun e2 => c68 n1 (fun q => e2 q.2))⟩) (fun e1 => c68 n1 (fun q => e1 q.1))⟩
      rw [ms_N_at A hi16]
      refine ms_y98n f.1 ?_
      rw [← e1, ← e2, f.2.2.2.2.2.2.2.1, ms_e_lt f.1] at h; exact h
    refine br_f (nI_ge hi (by omega)) ⟨hv, ms_bq hi16 f.1 (fun e1 => ⟨hv, ms_bq hi16 f.2.1 (fun e2 => ⟨hv, ?_⟩) (fun e2 => c39 (fun q => e2 q.2))⟩) (fun e1 => c39 (fun q => e1 q.1))⟩
    rw [ms_N_at D hi16]
    refine ms_y98n f.2.2.1 ?_
    rw [← e1, ← e2, f.2.2.2.2.2.2.1, ms_e_lt f.2.2.1] at h; exact h
theorem ms_yhas {post : Int32 → Prop} {T O : Nat → Nat → Nat} {n : Nat} {A B D : Nat → Nat} {q1 q2 q3 : Int32} {i : Nat} (R : ms_R T O (ms_F n A B D)) (hn : n ≤ 16) (hi : i < n) (h1 : ms_F n A B D i (ms_ix q1) (ms_ix q2) (ms_ix q3) → post 1) (h0 : ¬ ms_F n A B D i (ms_ix q1) (ms_ix q2) (ms_ix q3) → post 0) : wpY_has post (nI n, ms_N A, ms_N B, ms_N D) (nI i) q1 q2 q3 := by
  have f := ms_Fi R hi
  have hi16 : i < 16 := by omega
  have hv : vp_in (nI i) 16 := vp_in_nI hi16 (by decide)
  have c62 : (¬ (A i = ms_ix q1 ∧ B i = ms_ix q2 ∧ D i = ms_ix q3)) → (¬ (D i = ms_ix q1 ∧ A i = ms_ix q2 ∧ B i = ms_ix q3)) → wY_has_62 post (nI i) q1 q2 q3 (nI n) (ms_N A) (ms_N B) (ms_N D) := by
    intro n1 n2
    have no : ¬ (B i = ms_ix q1 ∧ D i = ms_ix q2 ∧ A i = ms_ix q3) → ¬ ms_F n A B D i (ms_ix q1) (ms_ix q2) (ms_ix q3) := by
      intro n3 g
      rcases g.2 with q | q | q
      · exact n1 q
      · exact n3 q
      · exact n2 q
    exact ⟨hv, ms_bq hi16 f.1 (fun e1 => ⟨hv, ms_bq hi16 f.2.1 (fun e2 => ⟨hv, ms_bq hi16 f.2.2.1 (fun e3 => h1 ⟨hi, Or.inr (Or.inl ⟨e2, e3, e1⟩)⟩) (fun e3 => h0 (no (fun q => e3 q.2.1)))⟩) (fun e2 => h0 (no (fun q => e2 q.1)))⟩) (fun e1 => h0 (no (fun q => e1 q.2.2)))⟩
  have c31 : (¬ (A i = ms_ix q1 ∧ B i = ms_ix q2 ∧ D i = ms_ix q3)) → wY_has_31 post (nI i) q1 q2 q3 (nI n) (ms_N A) (ms_N B) (ms_N D) := by
    intro n1
    exact ⟨hv, ms_bq hi16 f.1 (fun e1 => ⟨hv, ms_bq hi16 f.2.1 (fun e2 => ⟨hv, ms_bq hi16 f.2.2.1 (fun e3 => h1 ⟨hi, Or.inr (Or.inr ⟨e3, e1, e2⟩)⟩) (fun e3 => c62 n1 (fun q => e3 q.1))⟩) (fun e2 => c62 n1 (fun q => e2 q.2.2))⟩) (fun e1 => c62 n1 (fun q => e1 q.2.1))⟩
  exact ⟨hv, ms_bq hi16 f.1 (fun e1 => ⟨hv, ms_bq hi16 f.2.1 (fun e2 => ⟨hv, ms_bq hi16 f.2.2.1 (fun e3 => h1 ⟨hi, Or.inl ⟨e1, e2, e3⟩⟩) (fun e3 => c31 (fun q => e3 q.2.2))⟩) (fun e2 => c31 (fun q => e2 q.2.1))⟩) (fun e1 => c31 (fun q => e1 q.1))⟩
theorem ms_yfind {post : Int32 → Prop} {T O : Nat → Nat → Nat} {n : Nat} {A B D : Nat → Nat} {q1 q2 q3 : Int32} (R : ms_R T O (ms_F n A B D)) (hn : n ≤ 16) (h1 : ∀ i, ms_F n A B D i (ms_ix q1) (ms_ix q2) (ms_ix q3) → post (nI i)) (h0 : (∀ i, ¬ ms_F n A B D i (ms_ix q1) (ms_ix q2) (ms_ix q3)) → post (-1)) : wpY_find post (nI n, ms_N A, ms_N B, ms_N D) q1 q2 q3 := by
  refine loop_0 (fun k i (_ : Unit) => wY_find_3 post q1 q2 q3 (nI n) (ms_N A) (ms_N B) (ms_N D) k (nI i)) (fun i _ => ∀ j, j < i → ¬ ms_F n A B D j (ms_ix q1) (ms_ix q2) (ms_ix q3)) n () (fun j hj => absurd hj (Nat.not_lt_zero _)) ?_ ?_
  · intro k _ hI
    exact br_t (nI_le (Nat.le_refl n) (by omega)) (h0 (fun i g => hI i g.1 g))
  · intro k i _ hi hI ih
    refine br_f (nI_ge hi (by omega)) (ms_yhas R hn hi (fun g => br_f (by decide) (h1 i g)) (fun g => br_t rfl (nm_r (nI_1 i) (ih () ?_))))
    intro j hj
    by_cases ej : j = i
    · subst ej; exact g
    · exact hI j (by omega)
theorem ms_yisF {post : Int32 → Prop} {T O : Nat → Nat → Nat} {n : Nat} {A B D : Nat → Nat} {q1 q2 q3 : Int32} (R : ms_R T O (ms_F n A B D)) (hn : n ≤ 16) (h1 : T (ms_ix q1) (ms_ix q2) = ms_ix q3 → ms_ix q3 ≠ 10 → post 1) (h0 : ¬ (T (ms_ix q1) (ms_ix q2) = ms_ix q3 ∧ ms_ix q3 ≠ 10) → post 0) : wpY_isFace post (nI n, ms_N A, ms_N B, ms_N D) q1 q2 q3 := by
  unfold wpY_isFace
  dsimp only
  refine ms_yfind R hn ?_ ?_
  · intro i g
    have f := ms_Gf R g
    exact br_f (nI_pos (by have := g.1; omega)) (h1 f.2.2.2.2.2.2.1 (Nat.ne_of_lt f.2.2.1))
  · intro no
    refine br_t (by decide) (h0 ?_)
    rintro ⟨e, e10⟩
    have g := R.2.2.1 (ms_ix q1) (ms_ix q2) (by rw [e]; exact e10)
    rw [e] at g
    exact no _ g
theorem ms_ytake {post : SY → Prop} {T O : Nat → Nat → Nat} {n : Nat} {A B D : Nat → Nat} {x y z : Nat} (R : ms_R T O (ms_F (n + 1) A B D)) (hn : n + 1 ≤ 16) (e : T x y = z) (z10 : z ≠ 10)
    (h : ∀ f, ms_F (n + 1) A B D f x y z → post (nI n, ms_N (ms_u A f (A n)), ms_N (ms_u B f (B n)), ms_N (ms_u D f (D n)))) : wpY_takeOut post (nI (n + 1), ms_N A, ms_N B, ms_N D) (nI x) (nI y) (nI z) := by
  have k := ms_RK R x y (by rw [e]; exact z10)
  rw [e] at k
  have g := R.2.2.1 x y (by rw [e]; exact z10)
  rw [e] at g
  unfold wpY_takeOut
  dsimp only
  refine ms_yfind R hn ?_ ?_
  · rw [ms_ix_n k.1, ms_ix_n k.2.1, ms_ix_n k.2.2.1]
    intro f gf
    have hf := gf.1
    have hf16 : f < 16 := by omega
    have hn16 : n < 16 := by omega
    refine br_f (nI_pos (by omega)) (nm_r (nI_pred n) ?_)
    have hv : vp_in (nI f) 16 := vp_in_nI hf16 (by decide)
    have hw : vp_in (nI n) 16 := vp_in_nI hn16 (by decide)
    rw [ms_N_at A hn16, ms_N_at B hn16, ms_N_at D hn16]
    exact ⟨hw, hv, nm_r (ms_N_up A hf16) ⟨hw, hv, nm_r (ms_N_up B hf16) ⟨hw, hv, nm_r (ms_N_up D hf16) (h f gf)⟩⟩⟩
  · rw [ms_ix_n k.1, ms_ix_n k.2.1, ms_ix_n k.2.2.1]
    intro no
    exact absurd g (no _)
theorem ms_ysize {post : Int32 → Prop} {v : SY} {s : Nat} (hs : s < 1024) (h : post (nI (ms_pc s))) : wpY_size post v (nI s) := by
  obtain ⟨k, a1, a2, a3⟩ := v
  refine loop_0 (fun n i (c : Nat) => wY_size_4 post (nI s) k a1 a2 a3 n (nI c) (nI i)) (fun i c => c = ms_cnt s.testBit i) 10 0 rfl ?_ ?_
  · intro n c hc
    subst hc
    exact br_t (nI_le (a := 10) (by omega) (by decide)) h
  · intro n i c hi hc ih
    cases e : s.testBit i
    · refine br_f (nI_ge (b := 10) hi (by decide)) (nm_r (e' := nI c) ?_ (nm_r (nI_1 i) (ih c ?_)))
      · rw [ms_bit_f hs hi e, nI_add]; rfl
      · unfold ms_cnt; rw [if_neg (by rw [e]; decide), hc]; rfl
    · refine br_f (nI_ge (b := 10) hi (by decide)) (nm_r (e' := nI (c + 1)) ?_ (nm_r (nI_1 i) (ih (c + 1) ?_)))
      · rw [ms_bit_t hs hi e, nI_add]
      · unfold ms_cnt; rw [if_pos e, hc]
/-- x is in face j -/
def ms_in (A B D : Nat → Nat) (j x : Nat) : Prop := A j = x ∨ B j = x ∨ D j = x
theorem ms_in_e {T O : Nat → Nat → Nat} {n : Nat} {A B D : Nat → Nat} (R : ms_R T O (ms_F n A B D)) (x : Nat) : (∃ y, T x y ≠ 10) ↔ ∃ j, j < n ∧ ms_in A B D j x := by
  constructor
  · rintro ⟨y, hy⟩
    have g := R.2.2.1 x y hy
    refine ⟨_, g.1, ?_⟩
    rcases g.2 with q | q | q
    · exact Or.inl q.1
    · exact Or.inr (Or.inl q.1)
    · exact Or.inr (Or.inr q.1)
  · rintro ⟨j, hj, q⟩
    have f := ms_Fi R hj
    rcases q with q | q | q
    · exact ⟨B j, by rw [← q, f.2.2.2.2.2.2.1]; exact Nat.ne_of_lt f.2.2.1⟩
    · exact ⟨D j, by rw [← q, f.2.2.2.2.2.2.2.1]; exact Nat.ne_of_lt f.1⟩
    · exact ⟨A j, by rw [← q, f.2.2.2.2.2.2.2.2]; exact Nat.ne_of_lt f.2.1⟩
theorem ms_or3 {s a b c : Nat} (ha : a < 10) (hb : b < 10) (hc : c < 10) : ((nI s ||| ((1 : Int32) <<< (nI a &&& 31))) ||| ((1 : Int32) <<< (nI b &&& 31))) ||| ((1 : Int32) <<< (nI c &&& 31)) = nI (((s ||| 2 ^ a) ||| 2 ^ b) ||| 2 ^ c) := by
  rw [ms_sh ha, ms_sh hb, ms_sh hc, ms_or, ms_or, ms_or]
theorem ms_or3_lt {s a b c : Nat} (hs : s < 1024) (ha : a < 10) (hb : b < 10) (hc : c < 10) : ((s ||| 2 ^ a) ||| 2 ^ b) ||| 2 ^ c < 1024 := ms_lt (ms_lt (ms_lt hs (ms_pow ha)) (ms_pow hb)) (ms_pow hc)
theorem ms_or3_b (s a b c x : Nat) : (((s ||| 2 ^ a) ||| 2 ^ b) ||| 2 ^ c).testBit x = true ↔ (s.testBit x = true ∨ a = x ∨ b = x ∨ c = x) := by
  rw [Nat.testBit_or, Nat.testBit_or, Nat.testBit_or, ms_tb2, ms_tb2, ms_tb2]
  simp [or_assoc]
theorem ms_yvert {post : Int32 → Prop} {T O : Nat → Nat → Nat} {n p : Nat} {A B D : Nat → Nat} (R : ms_R T O (ms_F n A B D)) (hn : n ≤ 16) (hp : p < 1024) (vx : ms_vx T p) (h : post (nI p)) : wpY_vertices post (nI n, ms_N A, ms_N B, ms_N D) := by
  refine loop_0 (fun k i (s : Nat) => wY_vertices_4 post (nI n) (ms_N A) (ms_N B) (ms_N D) k (nI s) (nI i)) (fun i s => s < 1024 ∧ ∀ x, s.testBit x = true ↔ ∃ j, j < i ∧ ms_in A B D j x) n 0 ⟨by decide, ?_⟩ ?_ ?_
  · intro x
    rw [Nat.zero_testBit]
    exact ⟨fun q => absurd q (by decide), fun ⟨j, hj, _⟩ => absurd hj (Nat.not_lt_zero _)⟩
  · rintro k s ⟨hs, hb⟩
    have : s = p := by
      apply ms_ext hs hp
      intro x hx
      apply Bool.eq_iff_iff.mpr
      rw [hb x, vx x hx, ms_in_e R]
    rw [this]
    exact br_t (nI_le (Nat.le_refl n) (by omega)) h
  · rintro k i s hi ⟨hs, hb⟩ ih
    have f := ms_Fi R hi
    have hi16 : i < 16 := by omega
    have hv : vp_in (nI i) 16 := vp_in_nI hi16 (by decide)
    refine br_f (nI_ge hi (by omega)) ⟨hv, hv, hv, nm_r (e' := nI (((s ||| 2 ^ A i) ||| 2 ^ B i) ||| 2 ^ D i)) ?_ (nm_r (nI_1 i) (ih _ ⟨ms_or3_lt hs f.1 f.2.1 f.2.2.1, ?_⟩))⟩
    · rw [ms_N_at A hi16, ms_N_at B hi16, ms_N_at D hi16, ms_or3 f.1 f.2.1 f.2.2.1]
    · intro x
      rw [ms_or3_b, hb x]
      constructor
      · rintro (⟨j, hj, q⟩ | q)
        · exact ⟨j, by omega, q⟩
        · exact ⟨i, by omega, q⟩
      · rintro ⟨j, hj, q⟩
        by_cases ej : j = i
        · rw [ej] at q; exact Or.inr q
        · exact Or.inl ⟨j, by omega, q⟩
theorem ms_clr {s a : Nat} (hs : s < 1024) (ha : a < 10) : ∃ s', s' < 1024 ∧ nI s &&& (((1 : Int32) <<< (nI a &&& 31)) ^^^ (-1)) = nI s' ∧ ∀ x, x < 10 → s'.testBit x = (s.testBit x && decide (x ≠ a)) := by
  refine ⟨s &&& (2 ^ a ^^^ (2 ^ 32 - 1)), Nat.lt_of_le_of_lt Nat.and_le_left hs, ?_, ?_⟩
  · rw [ms_sh ha, ← nx_and, ← nx_xor]
    rfl
  · intro x hx
    rw [Nat.testBit_and, Nat.testBit_xor, ms_tb2, Nat.testBit_two_pow_sub_one]
    by_cases e : a = x
    · subst e
      have : a < 32 := by omega
      simp [this]
    · have : x < 32 := by omega
      have e2 : ¬ x = a := fun q => e q.symm
      simp [this, e, e2]
end
section
/-! joined, fresh; what may be turned, what may be drawn together -/
theorem ms_in_lt {T O : Nat → Nat → Nat} {n : Nat} {A B D : Nat → Nat} (R : ms_R T O (ms_F n A B D)) {j x : Nat} (hj : j < n) (h : ms_in A B D j x) : x < 10 := by
  have f := ms_Fi R hj
  rcases h with q | q | q
  · rw [← q]; exact f.1
  · rw [← q]; exact f.2.1
  · rw [← q]; exact f.2.2.1
theorem ms_in2 {T O : Nat → Nat → Nat} {n : Nat} {A B D : Nat → Nat} (R : ms_R T O (ms_F n A B D)) (cl : ms_cl T) (a x : Nat) : T a x ≠ 10 ↔ (x ≠ a ∧ ∃ j, j < n ∧ ms_in A B D j a ∧ ms_in A B D j x) := by
  constructor
  · intro h
    have g := R.2.2.1 a x h
    refine ⟨Ne.symm (ms_RK R a x h).2.2.2.1, _, g.1, ?_⟩
    rcases g.2 with q | q | q
    · exact ⟨Or.inl q.1, Or.inr (Or.inl q.2.1)⟩
    · exact ⟨Or.inr (Or.inl q.1), Or.inr (Or.inr q.2.1)⟩
    · exact ⟨Or.inr (Or.inr q.1), Or.inl q.2.1⟩
  · rintro ⟨hxa, j, hj, ha, hx⟩
    have f := ms_Fi R hj
    obtain ⟨f1, f2, f3, f4, f5, f6, t1, t2, t3⟩ := f
    have m1 : T (A j) (B j) ≠ 10 := by rw [t1]; exact Nat.ne_of_lt f3
    have m2 : T (B j) (D j) ≠ 10 := by rw [t2]; exact Nat.ne_of_lt f1
    have m3 : T (D j) (A j) ≠ 10 := by rw [t3]; exact Nat.ne_of_lt f2
    rcases ha with q | q | q <;> rcases hx with r | r | r <;> rw [← q, ← r]
    · exact absurd (r.symm.trans q) hxa
    · exact m1
    · exact cl _ _ m3
    · exact cl _ _ m1
    · exact absurd (r.symm.trans q) hxa
    · exact m2
    · exact m3
    · exact cl _ _ m2
    · exact absurd (r.symm.trans q) hxa
theorem ms_nI0 {s : Nat} (hs : s < 1024) : nI s = 0 ↔ s = 0 := nI_eq (a := s) (b := 0) (by omega) (by decide)
theorem ms_yjoin {post : Int32 → Prop} {T O : Nat → Nat → Nat} {n : Nat} {A B D : Nat → Nat} {q : Int32} (R : ms_R T O (ms_F n A B D)) (hn : n ≤ 16) (cl : ms_cl T) (h : post (nI (ms_nb T (ms_ix q)))) : wpY_joined post (nI n, ms_N A, ms_N B, ms_N D) q := by
  have K := ms_RK R
  refine loop_0 (fun k i (s : Nat) => wY_joined_4 post q (nI n) (ms_N A) (ms_N B) (ms_N D) k (nI s) (nI i)) (fun i s => s < 1024 ∧ ∀ x, s.testBit x = true ↔ ∃ j, j < i ∧ ms_in A B D j (ms_ix q) ∧ ms_in A B D j x) n 0 ⟨by decide, ?_⟩ ?_ ?_
  · intro x
    rw [Nat.zero_testBit]
    exact ⟨fun q => absurd q (by decide), fun ⟨j, hj, _⟩ => absurd hj (Nat.not_lt_zero _)⟩
  · rintro k s ⟨hs, hb⟩
    refine br_t (nI_le (Nat.le_refl n) (by omega)) ?_
    have key : ∀ x, T (ms_ix q) x ≠ 10 → s.testBit x = true := fun x hx => (hb x).mpr ((ms_in2 R cl _ _).mp hx).2
    by_cases e : s = 0
    · have : ms_nb T (ms_ix q) = 0 := by
        apply ms_ext (ms_nb_lt _ _) (by decide)
        intro x hx
        rw [ms_nb_b K, Nat.zero_testBit]
        apply decide_eq_false
        intro t
        have := key x t
        rw [e, Nat.zero_testBit] at this
        exact absurd this (by decide)
      rw [this] at h
      exact br_t ((ms_nI0 hs).mpr e) h
    · refine br_f (fun z => e ((ms_nI0 hs).mp z)) ?_
      rcases ms_ix_o q with ⟨a, ha, rfl⟩ | ⟨_, e1, _⟩
      · obtain ⟨s', hs', es, bs⟩ := ms_clr hs ha
        rw [es]
        rw [ms_ix_n ha] at h hb
        have : s' = ms_nb T a := by
          apply ms_ext hs' (ms_nb_lt _ _)
          intro x hx
          rw [bs x hx, ms_nb_b K]
          apply Bool.eq_iff_iff.mpr
          rw [Bool.and_eq_true, hb x, decide_eq_true_eq, decide_eq_true_eq, ms_in2 R cl]
          exact ⟨fun q => ⟨q.2, q.1⟩, fun q => ⟨q.2, q.1⟩⟩
        rw [this]; exact h
      · exfalso
        apply e
        apply Nat.eq_of_testBit_eq
        intro x
        rw [Nat.zero_testBit]
        apply Bool.eq_false_iff.mpr
        intro t
        obtain ⟨j, hj, q1, _⟩ := (hb x).mp t
        have := ms_in_lt R hj q1
        omega
  · rintro k i s hi ⟨hs, hb⟩ ih
    have f := ms_Fi R hi
    have hi16 : i < 16 := by omega
    have hv : vp_in (nI i) 16 := vp_in_nI hi16 (by decide)
    have c42 : ms_in A B D i (ms_ix q) → wY_joined_42 post (wY_joined_4 post q (nI n) (ms_N A) (ms_N B) (ms_N D) k) q (nI s) (nI i) (nI n) (ms_N A) (ms_N B) (ms_N D) := by
      intro hq
      refine br_f (by decide) ⟨hv, hv, hv, nm_r (e' := nI (((s ||| 2 ^ A i) ||| 2 ^ B i) ||| 2 ^ D i)) ?_ (nm_r (nI_1 i) (ih _ ⟨ms_or3_lt hs f.1 f.2.1 f.2.2.1, ?_⟩))⟩
      · rw [ms_N_at A hi16, ms_N_at B hi16, ms_N_at D hi16, ms_or3 f.1 f.2.1 f.2.2.1]
      · intro x
        rw [ms_or3_b, hb x]
        constructor
        · rintro (⟨j, hj, q⟩ | q)
          · exact ⟨j, by omega, q⟩
          · exact ⟨i, by omega, hq, q⟩
        · rintro ⟨j, hj, q⟩
          by_cases ej : j = i
          · rw [ej] at q; exact Or.inr q.2
          · exact Or.inl ⟨j, by omega, q⟩
    refine br_f (nI_ge hi (by omega)) ⟨hv, ms_bq hi16 f.1 (fun e => c42 (Or.inl e)) (fun n1 => ⟨hv, ms_bq hi16 f.2.1 (fun e => c42 (Or.inr (Or.inl e))) (fun n2 => ⟨hv, ms_bq hi16 f.2.2.1 (fun e => c42 (Or.inr (Or.inr e))) (fun n3 => ?_)⟩)⟩)⟩
    refine br_t rfl (nm_r (nI_1 i) (ih s ⟨hs, ?_⟩))
    intro x
    rw [hb x]
    constructor
    · rintro ⟨j, hj, q⟩
      exact ⟨j, by omega, q⟩
    · rintro ⟨j, hj, q⟩
      by_cases ej : j = i
      · rw [ej] at q
        rcases q.1 with z | z | z
        · exact absurd z n1
        · exact absurd z n2
        · exact absurd z n3
      · exact ⟨j, by omega, q⟩
theorem ms_yfree {post : Int32 → Prop} {T O : Nat → Nat → Nat} {n p v : Nat} {A B D : Nat → Nat} (R : ms_R T O (ms_F n A B D)) (hn : n ≤ 16) (hp : p < 1024) (vx : ms_vx T p) (hv : ms_least p v) (h : post (nI v)) : wpY_fresh post (nI n, ms_N A, ms_N B, ms_N D) := by
  unfold wpY_fresh
  dsimp only
  refine ms_yvert R hn hp vx ?_
  obtain ⟨h1, h2, h3⟩ := hv
  have key : ∀ d j, j + d = v → wY_fresh_7 post (nI p) (nI n) (ms_N A) (ms_N B) (ms_N D) (d + 1) (nI j) := by
    intro d
    induction d with
    | zero =>
      intro j hj
      have : j = v := by omega
      subst this
      refine br_f (nI_ge (b := 10) h1 (by decide)) ?_
      rw [ms_bit_f hp h1 h2]
      exact br_f (by decide) h
    | succ d ih =>
      intro j hj
      have hj10 : j < 10 := by omega
      refine br_f (nI_ge (b := 10) hj10 (by decide)) ?_
      rw [ms_bit_t hp hj10 (h3 j (by omega))]
      exact br_t rfl (nm_r (nI_1 j) (ih (j + 1) (by omega)))
  exact ⟨v + 1, key v 0 (by omega)⟩
theorem ms_yfull {post : Int32 → Prop} {T O : Nat → Nat → Nat} {n p : Nat} {A B D : Nat → Nat} (R : ms_R T O (ms_F n A B D)) (hn : n ≤ 16) (hp : p < 1024) (vx : ms_vx T p) (hv : ∀ j, j < 10 → p.testBit j = true) (h : post (nI 10)) : wpY_fresh post (nI n, ms_N A, ms_N B, ms_N D) := by
  unfold wpY_fresh
  dsimp only
  refine ms_yvert R hn hp vx ?_
  have key : ∀ d j, j + d = 10 → wY_fresh_7 post (nI p) (nI n) (ms_N A) (ms_N B) (ms_N D) (d + 1) (nI j) := by
    intro d
    induction d with
    | zero =>
      intro j hj
      have : j = 10 := by omega
      subst this
      exact br_t (nI_le (a := 10) (by omega) (by decide)) h
    | succ d ih =>
      intro j hj
      have hj10 : j < 10 := by omega
      refine br_f (nI_ge (b := 10) hj10 (by decide)) ?_
      rw [ms_bit_t hp hj10 (hv j hj10)]
      exact br_t rfl (nm_r (nI_1 j) (ih (j + 1) (by omega)))
  exact ⟨11, key 10 0 (by omega)⟩
def ms_fp (T : Nat → Nat → Nat) (x y : Nat) : Prop := T x y ≠ 10 ∧ T x y ≠ T y x ∧ T (T x y) (T y x) = 10
theorem ms_yflips {post : Int32 → Prop} {T O : Nat → Nat → Nat} {n : Nat} {A B D : Nat → Nat} {q1 q2 : Int32} (R : ms_R T O (ms_F n A B D)) (hn : n ≤ 16) (cl : ms_cl T) (h1 : ms_fp T (ms_ix q1) (ms_ix q2) → post 1) (h0 : ¬ ms_fp T (ms_ix q1) (ms_ix q2) → post 0) : wpY_flips post (nI n, ms_N A, ms_N B, ms_N D) q1 q2 := by
  have K := ms_RK R
  unfold wpY_flips
  dsimp only
  refine ms_yopp R hn (ms_yopp R hn ?_)
  by_cases e : T (ms_ix q1) (ms_ix q2) = 10
  · rw [e]; exact br_t (by decide) (h0 (fun z => z.1 e))
  · have e2 := cl _ _ e
    have k1 := (K _ _ e).2.2.1
    have k2 := (K _ _ e2).2.2.1
    rw [ms_e_lt k1, ms_e_lt k2]
    refine br_f (nI_pos (by omega)) ?_
    refine pk_eq _ _ (fun q => h0 (fun z => z.2.1 q)) (fun q => ms_yopp R hn ?_)
    rw [ms_ix_n k1, ms_ix_n k2]
    by_cases e3 : T (T (ms_ix q1) (ms_ix q2)) (T (ms_ix q2) (ms_ix q1)) = 10
    · rw [e3]; exact br_f (by decide) (h1 ⟨e, q, e3⟩)
    · rw [ms_e_lt (K _ _ e3).2.2.1]
      exact br_t (nI_pos' (by have := (K _ _ e3).2.2.1; omega)) (h0 (fun z => e3 z.2.2))
theorem ms_xflips {post : Int32 → Prop} {T : Nat → Nat → Nat} {P q1 q2 : Int32} (K : ms_K T) (cl : ms_cl T) (e : T (ms_ix q1) (ms_ix q2) ≠ 10) (h1 : ms_fp T (ms_ix q1) (ms_ix q2) → post 1) (h0 : ¬ ms_fp T (ms_ix q1) (ms_ix q2) → post 0) : wpX_canFlip post (P, ms_C T) q1 q2 := by
  unfold wpX_canFlip
  dsimp only
  refine ms_xcor K (ms_xcor K ?_)
  have e2 := cl _ _ e
  have k1 := (K _ _ e).2.2.1
  have k2 := (K _ _ e2).2.2.1
  rw [ms_e_lt k1, ms_e_lt k2]
  refine pk_eq _ _ (fun q => h0 (fun z => z.2.1 q)) (fun q => ms_xjoin K (fun e3 => br_t rfl (h1 ⟨e, q, ?_⟩)) (fun e3 => br_f (by decide) (h0 (fun z => e3 ?_))))
  · rw [ms_ix_n k1, ms_ix_n k2] at e3; exact e3
  · rw [ms_ix_n k1, ms_ix_n k2]; exact z.2.2
def ms_cp (T : Nat → Nat → Nat) (p x y : Nat) : Prop := T x y ≠ 10 ∧ 4 < ms_pc p ∧ ms_pc (ms_nb T x &&& ms_nb T y) ≤ 2
theorem ms_ycol {post : Int32 → Prop} {T O : Nat → Nat → Nat} {n p : Nat} {A B D : Nat → Nat} {q1 q2 : Int32} (R : ms_R T O (ms_F n A B D)) (hn : n ≤ 16) (hp : p < 1024) (cl : ms_cl T) (vx : ms_vx T p) (h1 : ms_cp T p (ms_ix q1) (ms_ix q2) → post 1) (h0 : ¬ ms_cp T p (ms_ix q1) (ms_ix q2) → post 0) : wpY_collapses post (nI n, ms_N A, ms_N B, ms_N D) q1 q2 := by
  have K := ms_RK R
  unfold wpY_collapses
  dsimp only
  refine ms_yvert R hn hp vx (ms_yopp R hn ?_)
  by_cases e : T (ms_ix q1) (ms_ix q2) = 10
  · rw [e]; exact br_t (by decide) (h0 (fun z => z.1 e))
  · rw [ms_e_lt (K _ _ e).2.2.1]
    have b1 := ms_pc_le p
    have b2 := ms_pc_le (ms_nb T (ms_ix q1) &&& ms_nb T (ms_ix q2))
    refine br_f (nI_pos (by have := (K _ _ e).2.2.1; omega)) (ms_ysize hp ?_)
    refine pk_le (ms_pc p) 4 (fun q => h0 (fun z => absurd z.2.1 (by omega))) (fun q => ms_yjoin R hn cl (ms_yjoin R hn cl ?_))
    rw [nx_and]
    refine ms_ysize (Nat.lt_of_le_of_lt Nat.and_le_left (ms_nb_lt _ _)) ?_
    exact pk_lt 2 _ (fun r => h0 (fun z => absurd z.2.2 (by omega))) (fun r => h1 ⟨e, q, r⟩)
theorem ms_xcol {post : Int32 → Prop} {T : Nat → Nat → Nat} {p : Nat} {q1 q2 : Int32} (K : ms_K T) (hp : p < 1024) (e : T (ms_ix q1) (ms_ix q2) ≠ 10) (h1 : ms_cp T p (ms_ix q1) (ms_ix q2) → post 1) (h0 : ¬ ms_cp T p (ms_ix q1) (ms_ix q2) → post 0) : wpX_canCollapse post (nI p, ms_C T) q1 q2 := by
  unfold wpX_canCollapse
  dsimp only
  have b1 := ms_pc_le p
  have b2 := ms_pc_le (ms_nb T (ms_ix q1) &&& ms_nb T (ms_ix q2))
  refine ms_xnb K (ms_xnb K (nm_r (nx_and _ _) (ms_xcb hp ?_)))
  refine pk_le (ms_pc p) 4 (fun q => h0 (fun z => absurd z.2.1 (by omega))) (fun q => ?_)
  refine ms_xcb (Nat.lt_of_le_of_lt Nat.and_le_left (ms_nb_lt _ _)) ?_
  exact pk_lt 2 _ (fun r => h0 (fun z => absurd z.2.2 (by omega))) (fun r => h1 ⟨e, q, r⟩)
end
section
/-! the relation, and the methods that only read -/
def ms_Inv (T O : Nat → Nat → Nat) (A B D : Nat → Nat) (n p : Nat) : Prop := ms_R T O (ms_F n A B D) ∧ ms_V T p ∧ p < 1024 ∧ n + 4 = 2 * ms_pc p ∧ ms_cn T = 3 * n
/-- the relation: T is the corner table, A B D the face list, p the vertices -/
def i_Rel (k : Nat) (u : SX) (v : SY) : Prop := ∃ (T O : Nat → Nat → Nat) (A B D : Nat → Nat) (n p : Nat), u = (nI p, ms_C T) ∧ v = (nI n, ms_N A, ms_N B, ms_N D) ∧ ms_Inv T O A B D n p
theorem i_up {k : Nat} {u : SX} {v : SY} (h : i_Rel k u v) : i_Rel (k + 4) u v := h
theorem ms_n16 {n p : Nat} (h : n + 4 = 2 * ms_pc p) : n ≤ 16 := by
  have := ms_pc_le p
  omega
theorem i_vc_vertices {k : Nat} {u : SX} {v : SY} (I : i_Rel k u v) (hk : k + 4 ≤ 2048) : wpX_vertices (fun r => wpY_vertices (fun r' => r' = r ∧ i_Rel (k + 4) u v) v) u := by
  have J : i_Rel (k + 4) u v := i_up I
  obtain ⟨T, O, A, B, D, n, p, rfl, rfl, R, ⟨cl, nd, vx, co, lk⟩, hp, he, hc⟩ := I
  exact ms_yvert R (ms_n16 he) hp vx ⟨rfl, J⟩
theorem ms_xfaces {post : Int32 → Prop} {T : Nat → Nat → Nat} {P : Int32} {n : Nat} (K : ms_K T) (hc : ms_cn T = 3 * n) (hn : n ≤ 16) (h : post (nI n)) : wpX_faces post (P, ms_C T) := by
  refine loop_0 (fun m i (c : Nat) => wX_faces_4 post P (ms_C T) m (nI c) (nI i)) (fun i c => c = ms_cnt (fun i => decide (T (i / 10) (i % 10) ≠ 10)) i) 100 0 rfl ?_ ?_
  · intro m c hcc
    have hcc' : c = ms_cn T := hcc
    rw [hc] at hcc'
    subst hcc'
    refine br_t (nI_le (a := 100) (by omega) (by decide)) ⟨by decide, ?_⟩
    have e : nI (3 * n) / 3 = nI n := by
      have := pk_div (a := 3 * n) (d := 3) (by omega) (by decide) (by decide)
      rw [Nat.mul_div_cancel_left n (by decide)] at this
      exact this
    rw [e]; exact h
  · intro m i c hi hcc ih
    have hcl : (nI i).toNatClampNeg = i := nI_clamp (by omega)
    refine br_f (nI_ge (b := 100) hi (by decide)) ⟨vp_in_nI hi (by decide), ?_⟩
    rw [hcl]
    have hC : ms_C T i = ms_e (T (i / 10) (i % 10)) := if_pos hi
    rw [hC]
    by_cases e : T (i / 10) (i % 10) = 10
    · rw [e]
      refine br_t rfl (nm_r (nI_1 i) (ih c ?_))
      unfold ms_cnt
      rw [if_neg (by simp [e])]; exact hcc
    · refine br_f (ms_e_m1 (K _ _ e).2.2.1) (nm_r (nI_1 c) (nm_r (nI_1 i) (ih (c + 1) ?_)))
      unfold ms_cnt
      rw [if_pos (by simp [e]), hcc]
theorem i_vc_faces {k : Nat} {u : SX} {v : SY} (I : i_Rel k u v) (hk : k + 4 ≤ 2048) : wpX_faces (fun r => wpY_faces (fun r' => r' = r ∧ i_Rel (k + 4) u v) v) u := by
  have J : i_Rel (k + 4) u v := i_up I
  obtain ⟨T, O, A, B, D, n, p, rfl, rfl, R, ⟨cl, nd, vx, co, lk⟩, hp, he, hc⟩ := I
  exact ms_xfaces (ms_RK R) hc (ms_n16 he) ⟨rfl, J⟩
theorem i_vc_isFace {k : Nat} {u : SX} {v : SY} (I : i_Rel k u v) (hk : k + 4 ≤ 2048) (v1 : Int32) (v2 : Int32) (v3 : Int32) : wpX_isFace (fun r => wpY_isFace (fun r' => r' = r ∧ i_Rel (k + 4) u v) v v1 v2 v3) u v1 v2 v3 := by
  have J : i_Rel (k + 4) u v := i_up I
  obtain ⟨T, O, A, B, D, n, p, rfl, rfl, R, ⟨cl, nd, vx, co, lk⟩, hp, he, hc⟩ := I
  have hn := ms_n16 he
  unfold wpX_isFace
  dsimp only
  exact ms_xhas (ms_RK R) (fun e e10 => ⟨rfl, ms_yisF R hn (fun _ _ => ⟨rfl, J⟩) (fun z => absurd ⟨e, e10⟩ z)⟩) (fun z => ⟨rfl, ms_yisF R hn (fun e e10 => absurd ⟨e, e10⟩ z) (fun _ => ⟨rfl, J⟩)⟩)
theorem i_vc_joined {k : Nat} {u : SX} {v : SY} (I : i_Rel k u v) (hk : k + 4 ≤ 2048) (v1 : Int32) : wpX_joined (fun r => wpY_joined (fun r' => r' = r ∧ i_Rel (k + 4) u v) v v1) u v1 := by
  have J : i_Rel (k + 4) u v := i_up I
  obtain ⟨T, O, A, B, D, n, p, rfl, rfl, R, ⟨cl, nd, vx, co, lk⟩, hp, he, hc⟩ := I
  have hn := ms_n16 he
  unfold wpX_joined
  dsimp only
  exact ms_xnb (ms_RK R) (ms_yjoin R hn cl ⟨rfl, J⟩)
theorem i_vc_opposite {k : Nat} {u : SX} {v : SY} (I : i_Rel k u v) (hk : k + 4 ≤ 2048) (v1 : Int32) (v2 : Int32) : wpX_opposite (fun r => wpY_opposite (fun r' => r' = r ∧ i_Rel (k + 4) u v) v v1 v2) u v1 v2 := by
  have J : i_Rel (k + 4) u v := i_up I
  obtain ⟨T, O, A, B, D, n, p, rfl, rfl, R, ⟨cl, nd, vx, co, lk⟩, hp, he, hc⟩ := I
  have hn := ms_n16 he
  unfold wpX_opposite
  dsimp only
  exact ms_xcor (ms_RK R) (ms_yopp R hn ⟨rfl, J⟩)
/-! around -/
def ms_it (f : Int32 → Int32) : Nat → Int32 → Int32
  | 0, s => s
  | k + 1, s => ms_it f k (f s)
theorem ms_xa1 {post : Int32 → Prop} {T : Nat → Nat → Nat} {P q : Int32} {k : Nat} (K : ms_K T) (hk : k ≤ 20) : ∀ d i s, i + d = k → post (ms_it (fun s => ms_e (T (ms_ix q) (ms_ix s))) d s) → wX_around_29 post q (nI k) P (ms_C T) (d + 1) s (nI i) := by
  intro d
  induction d with
  | zero =>
    intro i s hi h
    exact br_t (nI_le (by omega) (by omega)) ⟨1, br_t (nI_pos' (by omega)) h⟩
  | succ d ih =>
    intro i s hi h
    exact br_f (nI_ge (by omega) (by omega)) (ms_xcor K (nm_r (nI_1 i) (ih (i + 1) _ (by omega) h)))
theorem ms_ya1 {post : Int32 → Prop} {T O : Nat → Nat → Nat} {n : Nat} {A B D : Nat → Nat} {q : Int32} {k : Nat} (R : ms_R T O (ms_F n A B D)) (hn : n ≤ 16) (hk : k ≤ 20) : ∀ d i s, i + d = k → post (ms_it (fun s => ms_e (T (ms_ix q) (ms_ix s))) d s) → wY_around_29 post q (nI k) (nI n) (ms_N A) (ms_N B) (ms_N D) (d + 1) s (nI i) := by
  intro d
  induction d with
  | zero =>
    intro i s hi h
    exact br_t (nI_le (by omega) (by omega)) ⟨1, br_t (nI_pos' (by omega)) h⟩
  | succ d ih =>
    intro i s hi h
    exact br_f (nI_ge (by omega) (by omega)) (ms_yopp R hn (nm_r (nI_1 i) (ih (i + 1) _ (by omega) h)))
theorem ms_ngL : ∀ i, i < 21 → ∀ k, k < 21 → (-nI i ≤ -nI k ↔ k ≤ i) := by decide +kernel
theorem ms_ngS : ∀ i, i < 21 → -nI i + (-1) = -nI (i + 1) := by decide +kernel
theorem ms_ng0 : ∀ k, k < 21 → -nI k ≤ 0 := by decide +kernel
theorem ms_ngT : ∀ k, k < 21 → (-nI k).toInt = -(k : Int) := by decide +kernel
theorem ms_xa2 {post : Int32 → Prop} {T : Nat → Nat → Nat} {P q : Int32} {k : Nat} (K : ms_K T) (hk : k ≤ 20) : ∀ d i s, i + d = k → post (ms_it (fun s => ms_e (T (ms_ix s) (ms_ix q))) d s) → wX_around_53 post q (-nI k) P (ms_C T) (d + 1) s (-nI i) := by
  intro d
  induction d with
  | zero =>
    intro i s hi h
    exact br_t ((ms_ngL i (by omega) k (by omega)).mpr (by omega)) h
  | succ d ih =>
    intro i s hi h
    exact br_f (fun z => absurd ((ms_ngL i (by omega) k (by omega)).mp z) (by omega)) (ms_xcor K (nm_r (ms_ngS i (by omega)) (ih (i + 1) _ (by omega) h)))
theorem ms_ya2 {post : Int32 → Prop} {T O : Nat → Nat → Nat} {n : Nat} {A B D : Nat → Nat} {q : Int32} {k : Nat} (R : ms_R T O (ms_F n A B D)) (hn : n ≤ 16) (hk : k ≤ 20) : ∀ d i s, i + d = k → post (ms_it (fun s => ms_e (T (ms_ix s) (ms_ix q))) d s) → wY_around_53 post q (-nI k) (nI n) (ms_N A) (ms_N B) (ms_N D) (d + 1) s (-nI i) := by
  intro d
  induction d with
  | zero =>
    intro i s hi h
    exact br_t ((ms_ngL i (by omega) k (by omega)).mpr (by omega)) h
  | succ d ih =>
    intro i s hi h
    exact br_f (fun z => absurd ((ms_ngL i (by omega) k (by omega)).mp z) (by omega)) (ms_yopp R hn (nm_r (ms_ngS i (by omega)) (ih (i + 1) _ (by omega) h)))
theorem ms_rng {q : Int32} (h1 : ¬ q < -20) (h2 : q ≤ 20) : (∃ k, k ≤ 20 ∧ q = nI k) ∨ (∃ k, k ≤ 20 ∧ q = -nI k) := by
  have t1 : (-20 : Int32).toInt = -20 := by decide
  have t2 : (20 : Int32).toInt = 20 := by decide
  rw [Int32.lt_iff_toInt_lt, t1] at h1
  rw [Int32.le_iff_toInt_le, t2] at h2
  by_cases h0 : q.toInt < 0
  · refine Or.inr ⟨(-q.toInt).toNat, by omega, ?_⟩
    apply Int32.toInt_inj.mp
    rw [ms_ngT _ (by omega)]
    omega
  · refine Or.inl ⟨q.toInt.toNat, by omega, ?_⟩
    apply Int32.toInt_inj.mp
    rw [nI_toInt (by omega)]
    omega
theorem ms_ar {T O : Nat → Nat → Nat} {n : Nat} {A B D : Nat → Nat} {P q s x3 : Int32} (R : ms_R T O (ms_F n A B D)) (hn : n ≤ 16) (h1 : ¬ x3 < -20) (h2 : x3 ≤ 20) : ∃ r, (∀ post : Int32 → Prop, post r → ∃ m, wX_around_29 post q x3 P (ms_C T) m s 0) ∧ (∀ post : Int32 → Prop, post r → ∃ m, wY_around_29 post q x3 (nI n) (ms_N A) (ms_N B) (ms_N D) m s 0) := by
  rcases ms_rng h1 h2 with ⟨k, hk, rfl⟩ | ⟨k, hk, rfl⟩
  · exact ⟨_, fun post h => ⟨_, ms_xa1 (ms_RK R) hk k 0 s (by omega) h⟩, fun post h => ⟨_, ms_ya1 R hn hk k 0 s (by omega) h⟩⟩
  · have e0 : -nI 0 = (0 : Int32) := by decide
    refine ⟨ms_it (fun s => ms_e (T (ms_ix s) (ms_ix q))) k s, fun post h => ⟨1, br_t (ms_ng0 k (by omega)) ⟨k + 1, ?_⟩⟩, fun post h => ⟨1, br_t (ms_ng0 k (by omega)) ⟨k + 1, ?_⟩⟩⟩
    · have := ms_xa2 (P := P) (ms_RK R) hk k 0 s (by omega) h
      rw [e0] at this; exact this
    · have := ms_ya2 R hn hk k 0 s (by omega) h
      rw [e0] at this; exact this
theorem i_vc_around {k : Nat} {u : SX} {v : SY} (I : i_Rel k u v) (hk : k + 4 ≤ 2048) (v1 : Int32) (v2 : Int32) (v3 : Int32) : wpX_around (fun r => wpY_around (fun r' => r' = r ∧ i_Rel (k + 4) u v) v v1 v2 v3) u v1 v2 v3 := by
  have J : i_Rel (k + 4) u v := i_up I
  obtain ⟨T, O, A, B, D, n, p, rfl, rfl, R, ⟨cl, nd, vx, co, lk⟩, hp, he, hc⟩ := I
  have hn := ms_n16 he
  have K := ms_RK R
  unfold wpX_around
  dsimp only
  refine ms_xjoin K (fun e => br_t rfl ?_) (fun e => br_f (by decide) ?_)
  · unfold wpY_around
    dsimp only
    refine ms_yopp R hn ?_
    rw [e]
    exact br_t (by decide) ⟨rfl, J⟩
  · have yy : ∀ post : Int32 → Prop, ((v3 < -20 → post (-1)) ∧ (¬ v3 < -20 → (v3 ≤ 20 → ∃ m, wY_around_29 post v1 v3 (nI n) (ms_N A) (ms_N B) (ms_N D) m v2 0) ∧ (¬ v3 ≤ 20 → post (-1)))) → wpY_around post (nI n, ms_N A, ms_N B, ms_N D) v1 v2 v3 := by
      intro post h
      unfold wpY_around
      dsimp only
      refine ms_yopp R hn ?_
      have kk := (K _ _ e).2.2.1
      rw [ms_e_lt kk]
      exact br_f (nI_pos (by omega)) h
    refine br_c (fun c1 => yy _ (br_t c1 ⟨rfl, J⟩)) (fun c1 => br_c (fun c2 => ?_) (fun c2 => yy _ (br_f c1 (br_f c2 ⟨rfl, J⟩))))
    obtain ⟨r, hX, hY⟩ := ms_ar (P := nI p) (q := v1) (s := v2) R hn c1 c2
    exact hX _ (yy _ (br_f c1 (br_t c2 (hY _ ⟨rfl, J⟩))))
end
section
/-! distance, ofDegree, flippable, collapsible -/
def ms_wf (T : Nat → Nat → Nat) (s : Nat) : Nat → Nat
  | 0 => s
  | k + 1 => if s.testBit k = true then ms_wf T s k ||| ms_nb T k else ms_wf T s k
def ms_wd (T : Nat → Nat → Nat) (s : Nat) : Nat := ms_wf T s 10
theorem ms_wf_lt {T : Nat → Nat → Nat} {s : Nat} (hs : s < 1024) : ∀ k, ms_wf T s k < 1024 := by
  intro k
  induction k with
  | zero => exact hs
  | succ k ih =>
    unfold ms_wf
    split
    · exact ms_lt ih (ms_nb_lt _ _)
    · exact ih
theorem ms_wf_b {T : Nat → Nat → Nat} (K : ms_K T) (s x : Nat) : ∀ k, (ms_wf T s k).testBit x = true ↔ (s.testBit x = true ∨ ∃ v, v < k ∧ s.testBit v = true ∧ T v x ≠ 10) := by
  intro k
  induction k with
  | zero =>
    show s.testBit x = true ↔ _
    exact ⟨Or.inl, fun q => q.elim id (fun ⟨v, hv, _⟩ => absurd hv (Nat.not_lt_zero _))⟩
  | succ k ih =>
    unfold ms_wf
    by_cases e : s.testBit k = true
    · rw [if_pos e, Nat.testBit_or, Bool.or_eq_true, ih, ms_nb_b K, decide_eq_true_eq]
      constructor
      · rintro ((q | ⟨v, hv, q⟩) | q)
        · exact Or.inl q
        · exact Or.inr ⟨v, by omega, q⟩
        · exact Or.inr ⟨k, by omega, e, q⟩
      · rintro (q | ⟨v, hv, q⟩)
        · exact Or.inl (Or.inl q)
        · by_cases ev : v = k
          · rw [ev] at q; exact Or.inr q.2
          · exact Or.inl (Or.inr ⟨v, by omega, q⟩)
    · rw [if_neg e, ih]
      constructor
      · rintro (q | ⟨v, hv, q⟩)
        · exact Or.inl q
        · exact Or.inr ⟨v, by omega, q⟩
      · rintro (q | ⟨v, hv, q⟩)
        · exact Or.inl q
        · by_cases ev : v = k
          · rw [ev] at q; exact absurd q.1 e
          · exact Or.inr ⟨v, by omega, q⟩
theorem ms_tb10 {s x : Nat} (hs : s < 1024) (h : s.testBit x = true) : x < 10 := by
  by_cases hx : x < 10
  · exact hx
  · have h1 : 1024 ≤ 2 ^ x := Nat.pow_le_pow_right (n := 2) (by decide) (show 10 ≤ x by omega)
    rw [Nat.testBit_lt_two_pow (by omega)] at h
    exact absurd h (by decide)
theorem ms_grow {T : Nat → Nat → Nat} (K : ms_K T) (co : ms_co T) {s x x' y y' : Nat} (hs : s < 1024) (hx : T x x' ≠ 10) (sx : s.testBit x = true) (hy : T y y' ≠ 10) (sy : s.testBit y = false) : ms_pc s + 1 ≤ ms_pc (ms_wd T s) := by
  by_cases h : ∃ z, s.testBit z = false ∧ (ms_wd T s).testBit z = true
  · obtain ⟨z, z1, z2⟩ := h
    exact ms_cnt_gr (f := s.testBit) (g := (ms_wd T s).testBit) (j := z) (fun i hi => (ms_wf_b K s i 10).mpr (Or.inl hi)) z1 z2 10 (ms_tb10 (ms_wf_lt hs 10) z2)
  · exfalso
    have := co (fun z => s.testBit z = true) (by
      intro a b hab sa
      show s.testBit b = true
      cases e : s.testBit b
      · exact absurd ⟨b, e, (ms_wf_b K s b 10).mpr (Or.inr ⟨a, ms_tb10 hs sa, sa, hab⟩)⟩ h
      · rfl) x y x' y' hx hy sx
    have this' : s.testBit y = true := this
    rw [sy] at this'
    exact absurd this' (by decide)
theorem ms_xwd {post : Int32 → Prop} {T : Nat → Nat → Nat} {P : Int32} {s : Nat} (K : ms_K T) (hs : s < 1024) (h : post (nI (ms_wd T s))) : wpX_widened post (P, ms_C T) (nI s) := by
  refine loop_0 (fun n i (c : Nat) => wX_widened_4 post (nI s) P (ms_C T) n (nI c) (nI i)) (fun i c => c = ms_wf T s i) 10 s rfl ?_ ?_
  · intro n c hc
    subst hc
    exact br_t (nI_le (a := 10) (by omega) (by decide)) h
  · intro n i c hi hc ih
    refine br_f (nI_ge (b := 10) hi (by decide)) (ms_xholds hs hi (fun e => br_f (by decide) (ms_xnb K ?_)) (fun e => br_t rfl (nm_r (nI_1 i) (ih c ?_))))
    · rw [ms_ix_n hi]
      refine nm_r (ms_or _ _) (nm_r (nI_1 i) (ih _ ?_))
      show c ||| ms_nb T i = ms_wf T s (i + 1)
      unfold ms_wf; rw [if_pos e, hc]
    · unfold ms_wf; rw [if_neg (by rw [e]; decide), hc]
theorem ms_ywd {post : Int32 → Prop} {J : Int32 → Int32 → Prop} {T O : Nat → Nat → Nat} {n : Nat} {A B D : Nat → Nat} {q : Int32} {s j : Nat} (R : ms_R T O (ms_F n A B D)) (hn : n ≤ 16) (cl : ms_cl T) (hs : s < 1024) (h : J (nI (ms_wd T s)) (nI (j + 1))) : ∃ m, wY_distance_74 post J q (nI s) (nI j) (nI n) (ms_N A) (ms_N B) (ms_N D) m (nI s) 0 := by
  refine loop_0 (fun m i (c : Nat) => wY_distance_74 post J q (nI s) (nI j) (nI n) (ms_N A) (ms_N B) (ms_N D) m (nI c) (nI i)) (fun i c => c = ms_wf T s i) 10 s rfl ?_ ?_
  · intro m c hc
    subst hc
    exact br_t (nI_le (a := 10) (by omega) (by decide)) (nm_r (nI_1 j) h)
  · intro m i c hi hc ih
    refine br_f (nI_ge (b := 10) hi (by decide)) ?_
    cases e : s.testBit i
    · rw [ms_bit_f hs hi e]
      refine br_f (by decide) (nm_r (nI_1 i) (ih c ?_))
      unfold ms_wf; rw [if_neg (by rw [e]; decide), hc]
    · rw [ms_bit_t hs hi e]
      refine br_t rfl (ms_yjoin R hn cl ?_)
      rw [ms_ix_n hi]
      refine nm_r (ms_or _ _) (nm_r (nI_1 i) (ih _ ?_))
      show c ||| ms_nb T i = ms_wf T s (i + 1)
      unfold ms_wf; rw [if_pos e, hc]
theorem ms_dist {T O : Nat → Nat → Nat} {n : Nat} {A B D : Nat → Nat} {P : Int32} {y y' : Nat} (R : ms_R T O (ms_F n A B D)) (hn : n ≤ 16) (cl : ms_cl T) (co : ms_co T) (hy : T y y' ≠ 10) :
    ∀ d j s, j + d = 10 → s < 1024 → j + 1 ≤ ms_pc s → (∃ x x', T x x' ≠ 10 ∧ s.testBit x = true) →
    ∃ r, (∀ post : Int32 → Prop, post r → wX_distance_25 post (nI y) P (ms_C T) (d + 1) (nI s) (nI j)) ∧ (∀ post : Int32 → Prop, post r → wY_distance_51 post (nI y) (nI n) (ms_N A) (ms_N B) (ms_N D) (d + 1) (nI s) (nI j)) := by
  have K := ms_RK R
  have y10 := (K y y' hy).1
  intro d
  induction d with
  | zero =>
    intro j s hj hs hpc _
    have := ms_pc_le s
    omega
  | succ d ih =>
    intro j s hj hs hpc hx
    have hj10 : j < 10 := by omega
    have nle : ¬ (10 : Int32) ≤ nI j := nI_ge (b := 10) hj10 (by decide)
    cases e : s.testBit y
    · obtain ⟨x, x', h1, h2⟩ := hx
      have gr := ms_grow K co hs h1 h2 hy e
      obtain ⟨r, hX, hY⟩ := ih (j + 1) (ms_wd T s) (by omega) (ms_wf_lt hs 10) (by omega) ⟨x, x', h1, (ms_wf_b K s x 10).mpr (Or.inl h2)⟩
      refine ⟨r, fun post hp => br_f nle (ms_xholds hs y10 (fun z => absurd (z.symm.trans e) (by decide)) (fun _ => br_t rfl (ms_xwd K hs (nm_r (nI_1 j) (hX post hp))))), fun post hp => br_f nle ?_⟩
      rw [ms_bit_f hs y10 e]
      exact br_t rfl (ms_ywd R hn cl hs (hY post hp))
    · refine ⟨nI j, fun post hp => br_f nle (ms_xholds hs y10 (fun _ => br_f (by decide) hp) (fun z => absurd (z.symm.trans e) (by decide))), fun post hp => br_f nle ?_⟩
      rw [ms_bit_t hs y10 e]
      exact br_f (by decide) hp
theorem ms_9 {q : Int32} (h : 10 ≤ q) : 9 < q := by
  have t1 : (10 : Int32).toInt = 10 := by decide
  have t2 : (9 : Int32).toInt = 9 := by decide
  rw [Int32.le_iff_toInt_le, t1] at h
  rw [Int32.lt_iff_toInt_lt, t2]
  omega
theorem ms_ydist {post : Int32 → Prop} {T O : Nat → Nat → Nat} {n p : Nat} {A B D : Nat → Nat} {q1 q2 : Int32} (R : ms_R T O (ms_F n A B D)) (hn : n ≤ 16) (hp : p < 1024) (vx : ms_vx T p)
    (h0 : ¬ (ms_ix q1 < 10 ∧ p.testBit (ms_ix q1) = true) ∨ ¬ (ms_ix q2 < 10 ∧ p.testBit (ms_ix q2) = true) → post (-1))
    (h1 : ms_ix q1 < 10 ∧ p.testBit (ms_ix q1) = true → ms_ix q2 < 10 ∧ p.testBit (ms_ix q2) = true → ∃ m, wY_distance_51 post q2 (nI n) (ms_N A) (ms_N B) (ms_N D) m (nI (2 ^ ms_ix q1)) 0) : wpY_distance post (nI n, ms_N A, ms_N B, ms_N D) q1 q2 := by
  unfold wpY_distance
  dsimp only
  refine ms_yvert R hn hp vx ?_
  rcases ms_ix_o q1 with ⟨a, ha, rfl⟩ | ⟨_, e1, n1⟩
  · refine br_f (nI_pos (by omega)) (br_f (nI_nlt (a := 9) (by omega) (by decide)) ?_)
    rcases ms_ix_o q2 with ⟨b, hb, rfl⟩ | ⟨_, e2, n2⟩
    · refine br_f (nI_pos (by omega)) (br_f (nI_nlt (a := 9) (by omega) (by decide)) ?_)
      rw [ms_ix_n ha, ms_ix_n hb] at h0 h1
      cases ba : p.testBit a
      · rw [ms_bit_f hp ha ba]
        exact br_t rfl (h0 (Or.inl (fun z => by rw [ba] at z; exact absurd z.2 (by decide))))
      · rw [ms_bit_t hp ha ba]
        refine br_f (by decide) ?_
        cases bb : p.testBit b
        · rw [ms_bit_f hp hb bb]
          exact br_t rfl (h0 (Or.inr (fun z => by rw [bb] at z; exact absurd z.2 (by decide))))
        · rw [ms_bit_t hp hb bb]
          exact br_f (by decide) (nm_r (ms_sh ha) (h1 ⟨ha, ba⟩ ⟨hb, bb⟩))
    · have bad : post (-1) := h0 (Or.inr (fun z => by rw [e2] at z; exact absurd z.1 (by decide)))
      exact br_c (fun _ => bad) (fun c1 => br_t (ms_9 (Or.resolve_left n2 c1)) bad)
  · have bad : post (-1) := h0 (Or.inl (fun z => by rw [e1] at z; exact absurd z.1 (by decide)))
    exact br_c (fun _ => bad) (fun c1 => br_t (ms_9 (Or.resolve_left n1 c1)) bad)
theorem i_vc_distance {k : Nat} {u : SX} {v : SY} (I : i_Rel k u v) (hk : k + 4 ≤ 2048) (v1 : Int32) (v2 : Int32) : wpX_distance (fun r => wpY_distance (fun r' => r' = r ∧ i_Rel (k + 4) u v) v v1 v2) u v1 v2 := by
  have J : i_Rel (k + 4) u v := i_up I
  obtain ⟨T, O, A, B, D, n, p, rfl, rfl, R, ⟨cl, nd, vx, co, lk⟩, hp, he, hc⟩ := I
  have hn := ms_n16 he
  have K := ms_RK R
  unfold wpX_distance
  dsimp only
  refine ms_xvert hp (fun a1 a2 => br_f (by decide) (ms_xvert hp (fun b1 b2 => br_f (by decide) ?_) (fun z => br_t rfl (ms_ydist R hn hp vx (fun _ => ⟨rfl, J⟩) (fun _ h => absurd h z))))) (fun z => br_t rfl (ms_ydist R hn hp vx (fun _ => ⟨rfl, J⟩) (fun h _ => absurd h z)))
  obtain ⟨x', hx'⟩ := (vx _ a1).mp a2
  obtain ⟨y', hy'⟩ := (vx _ b1).mp b2
  have e1 : v1 = nI (ms_ix v1) := by
    rcases ms_ix_o v1 with ⟨a, ha, q⟩ | ⟨_, e, _⟩
    · rw [q, ms_ix_n ha]
    · omega
  have e2 : v2 = nI (ms_ix v2) := by
    rcases ms_ix_o v2 with ⟨a, ha, q⟩ | ⟨_, e, _⟩
    · rw [q, ms_ix_n ha]
    · omega
  have hb : (2 ^ ms_ix v1).testBit (ms_ix v1) = true := by rw [ms_tb2]; simp
  have pc1 : 0 + 1 ≤ ms_pc (2 ^ ms_ix v1) := by
    have := ms_pc_or (p := 0) a1 (by rw [Nat.zero_testBit])
    rw [Nat.zero_or] at this
    omega
  obtain ⟨r, hX, hY⟩ := ms_dist (P := nI p) R hn cl co hy' 10 0 (2 ^ ms_ix v1) (by omega) (ms_pow a1) pc1 ⟨_, x', hx', hb⟩
  rw [← e2] at hX hY
  refine nm_r (e' := nI (2 ^ ms_ix v1)) ?_ ⟨11, hX _ (ms_ydist R hn hp vx (fun _ => ?_) (fun _ _ => ⟨11, hY _ ⟨rfl, J⟩⟩))⟩
  · have := ms_sh a1
    rw [← e1] at this; exact this
  · rename_i z
    exact z.elim (fun z => absurd ⟨a1, a2⟩ z) (fun z => absurd ⟨b1, b2⟩ z)
/-! ofDegree -/
theorem i_vc_ofDegree {k : Nat} {u : SX} {v : SY} (I : i_Rel k u v) (hk : k + 4 ≤ 2048) (v1 : Int32) : wpX_ofDegree (fun r => wpY_ofDegree (fun r' => r' = r ∧ i_Rel (k + 4) u v) v v1) u v1 := by
  have J : i_Rel (k + 4) u v := i_up I
  obtain ⟨T, O, A, B, D, n, p, rfl, rfl, R, ⟨cl, nd, vx, co, lk⟩, hp, he, hc⟩ := I
  have hn := ms_n16 he
  have K := ms_RK R
  have s1 : ∀ (f : Nat → Bool) i, f i = true → ms_cnt f (i + 1) = ms_cnt f i + 1 := fun f i e => by
    show ms_cnt f i + (if f i = true then 1 else 0) = _
    rw [if_pos e]
  have s0 : ∀ (f : Nat → Bool) i, ¬ f i = true → ms_cnt f (i + 1) = ms_cnt f i := fun f i e => by
    show ms_cnt f i + (if f i = true then 1 else 0) = _
    rw [if_neg e]; rfl
  have hX : ∀ post : Int32 → Prop, post (nI (ms_cnt (fun v => p.testBit v && decide (nI (ms_pc (ms_nb T v)) = v1)) 10)) → wpX_ofDegree post (nI p, ms_C T) v1 := by
    intro post h
    refine loop_0 (fun m i (c : Nat) => wX_ofDegree_4 post v1 (nI p) (ms_C T) m (nI c) (nI i)) (fun i c => c = ms_cnt (fun v => p.testBit v && decide (nI (ms_pc (ms_nb T v)) = v1)) i) 10 0 rfl ?_ ?_
    · intro m c hcc
      subst hcc
      exact br_t (nI_le (a := 10) (by omega) (by decide)) h
    · intro m i c hi hcc ih
      refine br_f (nI_ge (b := 10) hi (by decide)) (ms_xnb K ?_)
      rw [ms_ix_n hi]
      refine ms_xvert hp (fun _ e => br_f (by decide) (ms_xcb (ms_nb_lt _ _) ?_)) (fun z => br_t rfl (nm_r (nI_1 i) (ih c ?_)))
      · rw [ms_ix_n hi] at e
        refine br_c (fun q => nm_r (nI_1 c) (nm_r (nI_1 i) (ih (c + 1) ?_))) (fun q => nm_r (nI_1 i) (ih c ?_))
        · rw [s1 _ i (by simp [e, q]), hcc]
        · rw [s0 _ i (by simp [e, q]), hcc]
      · rw [ms_ix_n hi] at z
        have : ¬ p.testBit i = true := fun q => z ⟨hi, q⟩
        rw [s0 _ i (by simp [this]), hcc]
  refine hX _ ?_
  unfold wpY_ofDegree
  dsimp only
  refine ms_yvert R hn hp vx ?_
  refine loop_0 (fun m i (c : Nat) => wY_ofDegree_10 _ v1 (nI p) (nI n) (ms_N A) (ms_N B) (ms_N D) m (nI c) (nI i)) (fun i c => c = ms_cnt (fun v => p.testBit v && decide (nI (ms_pc (ms_nb T v)) = v1)) i) 10 0 rfl ?_ ?_
  · intro m c hcc
    subst hcc
    exact br_t (nI_le (a := 10) (by omega) (by decide)) ⟨rfl, J⟩
  · intro m i c hi hcc ih
    refine br_f (nI_ge (b := 10) hi (by decide)) ?_
    cases e : p.testBit i
    · rw [ms_bit_f hp hi e]
      refine br_f (by decide) (nm_r (nI_1 i) (ih c ?_))
      rw [s0 _ i (by simp [e]), hcc]
    · rw [ms_bit_t hp hi e]
      refine br_t rfl (ms_yjoin R hn cl ?_)
      rw [ms_ix_n hi]
      refine ms_ysize (ms_nb_lt _ _) (br_c (fun q => nm_r (nI_1 c) (nm_r (nI_1 i) (ih (c + 1) ?_))) (fun q => nm_r (nI_1 i) (ih c ?_)))
      · rw [s1 _ i (by simp [e, q]), hcc]
      · rw [s0 _ i (by simp [e, q]), hcc]
end
section
/-! flippable, collapsible: the hundred arrows -/
theorem ms_c1 {f : Nat → Bool} {i : Nat} (e : f i = true) : ms_cnt f (i + 1) = ms_cnt f i + 1 := by
  show ms_cnt f i + (if f i = true then 1 else 0) = _
  rw [if_pos e]
theorem ms_c0 {f : Nat → Bool} {i : Nat} (e : ¬ f i = true) : ms_cnt f (i + 1) = ms_cnt f i := by
  show ms_cnt f i + (if f i = true then 1 else 0) = _
  rw [if_neg e]; rfl
def ms_fb (T : Nat → Nat → Nat) (c : Nat) : Bool := decide (c / 10 < c % 10) && (decide (T (c / 10) (c % 10) ≠ 10) && (decide (T (c / 10) (c % 10) ≠ T (c % 10) (c / 10)) && decide (T (T (c / 10) (c % 10)) (T (c % 10) (c / 10)) = 10)))
theorem ms_fb_i (T : Nat → Nat → Nat) (c : Nat) : ms_fb T c = true ↔ (c / 10 < c % 10 ∧ ms_fp T (c / 10) (c % 10)) := by
  unfold ms_fb ms_fp
  simp
theorem ms_fb_n {T : Nat → Nat → Nat} {a b : Nat} (hb : b < 10) : ms_fb T (10 * a + b) = true ↔ (a < b ∧ ms_fp T a b) := by
  rw [ms_fb_i, show (10 * a + b) / 10 = a by omega, show (10 * a + b) % 10 = b by omega]
theorem ms_d10 {c : Nat} (hc : c < 100) : nI c / 10 = nI (c / 10) := pk_div (a := c) (d := 10) (by omega) (by decide) (by decide)
theorem ms_r10 {c : Nat} (hc : c < 100) : nI c - nI c / 10 * 10 = nI (c % 10) := pk_rem (a := c) (d := 10) (by omega) (by decide) (by decide)
theorem ms_xfl {post : Int32 → Prop} {T : Nat → Nat → Nat} {P : Int32} (K : ms_K T) (cl : ms_cl T) (h : post (nI (ms_cnt (ms_fb T) 100))) : wpX_flippable post (P, ms_C T) := by
  have inner : ∀ (J : Int32 → Int32 → Prop) a, a < 10 → J (nI (ms_cnt (ms_fb T) (10 * a + 10))) (nI (a + 1)) → ∀ d b, b + d = 10 → a + 1 ≤ b → wX_flippable_14 post J (nI a) P (ms_C T) (d + 1) (nI (ms_cnt (ms_fb T) (10 * a + b))) (nI b) := by
    intro J a ha hJ d
    induction d with
    | zero =>
      intro b hb _
      have : b = 10 := by omega
      subst this
      exact br_t (nI_le (a := 10) (by omega) (by decide)) (nm_r (nI_1 a) hJ)
    | succ d ih =>
      intro b hb hab
      have hb10 : b < 10 := by omega
      have ih' := ih (b + 1) (by omega) (by omega)
      rw [show 10 * a + (b + 1) = (10 * a + b) + 1 by omega] at ih'
      have no : ¬ ms_fp T a b → wX_flippable_14 post J (nI a) P (ms_C T) (d + 1) (nI (ms_cnt (ms_fb T) (10 * a + b))) (nI (b + 1)) := by
        intro z
        rw [ms_c0 (fun q => z ((ms_fb_n hb10).mp q).2)] at ih'
        exact ih'
      refine br_f (nI_ge (b := 10) hb10 (by decide)) (ms_xjoin K (fun e => br_t rfl (nm_r (nI_1 b) (no ?_))) (fun e => br_f (by decide) (ms_xflips K cl e (fun z => br_f (by decide) ?_) (fun z => br_t rfl (nm_r (nI_1 b) (no ?_))))))
      · rw [ms_ix_n ha, ms_ix_n hb10] at e
        exact fun z => z.1 e
      · rw [ms_ix_n ha, ms_ix_n hb10] at z
        rw [ms_c1 ((ms_fb_n hb10).mpr ⟨by omega, z⟩)] at ih'
        exact nm_r (nI_1 _) (nm_r (nI_1 b) ih')
      · rw [ms_ix_n ha, ms_ix_n hb10] at z; exact z
  have skip : ∀ a, a < 10 → ∀ m, m ≤ a + 1 → ms_cnt (ms_fb T) (10 * a + m) = ms_cnt (ms_fb T) (10 * a) := by
    intro a ha m
    induction m with
    | zero => intro _; rfl
    | succ m ih =>
      intro hm
      rw [show 10 * a + (m + 1) = (10 * a + m) + 1 by omega, ms_c0, ih (by omega)]
      intro q
      have := ((ms_fb_n (by omega)).mp q).1
      omega
  have outer : ∀ d a, a + d = 10 → wX_flippable_4 post P (ms_C T) (d + 1) (nI (ms_cnt (ms_fb T) (10 * a))) (nI a) := by
    intro d
    induction d with
    | zero =>
      intro a ha
      have : a = 10 := by omega
      subst this
      exact br_t (nI_le (a := 10) (by omega) (by decide)) h
    | succ d ih =>
      intro a ha
      have ha10 : a < 10 := by omega
      refine br_f (nI_ge (b := 10) ha10 (by decide)) (nm_r (nI_1 a) ⟨(9 - a) + 1, ?_⟩)
      have := inner (wX_flippable_4 post P (ms_C T) (d + 1)) a ha10 (ih (a + 1) (by omega)) (9 - a) (a + 1) (by omega) (by omega)
      rw [skip a ha10 (a + 1) (by omega)] at this
      exact this
  exact ⟨11, outer 10 0 (by omega)⟩
theorem ms_yfl {post : Int32 → Prop} {T O : Nat → Nat → Nat} {n : Nat} {A B D : Nat → Nat} (R : ms_R T O (ms_F n A B D)) (hn : n ≤ 16) (cl : ms_cl T) (h : post (nI (ms_cnt (ms_fb T) 100))) : wpY_flippable post (nI n, ms_N A, ms_N B, ms_N D) := by
  refine loop_0 (fun m i (c : Nat) => wY_flippable_4 post (nI n) (ms_N A) (ms_N B) (ms_N D) m (nI c) (nI i)) (fun i c => c = ms_cnt (ms_fb T) i) 100 0 rfl ?_ ?_
  · intro m c hcc
    subst hcc
    exact br_t (nI_le (a := 100) (by omega) (by decide)) h
  · intro m i c hi hcc ih
    have hd : i / 10 < 10 := by omega
    have hr : i % 10 < 10 := by omega
    refine br_f (nI_ge (b := 100) hi (by decide)) ⟨by decide, by decide, ?_⟩
    rw [ms_r10 hi, ms_d10 hi]
    refine pk_le _ _ (fun q => nm_r (nI_1 i) (ih c ?_)) (fun q => ⟨by decide, by decide, ms_yflips R hn cl (fun z => br_f (by decide) (nm_r (nI_1 c) (nm_r (nI_1 i) (ih (c + 1) ?_)))) (fun z => br_t rfl (nm_r (nI_1 i) (ih c ?_)))⟩)
    · rw [ms_c0, hcc]
      intro z
      have := ((ms_fb_i T i).mp z).1
      omega
    · rw [ms_ix_n hd, ms_ix_n hr] at z
      rw [ms_c1 ((ms_fb_i T i).mpr ⟨q, z⟩), hcc]
    · rw [ms_ix_n hd, ms_ix_n hr] at z
      rw [ms_c0 (fun w => z ((ms_fb_i T i).mp w).2), hcc]
theorem i_vc_flippable {k : Nat} {u : SX} {v : SY} (I : i_Rel k u v) (hk : k + 4 ≤ 2048) : wpX_flippable (fun r => wpY_flippable (fun r' => r' = r ∧ i_Rel (k + 4) u v) v) u := by
  have J : i_Rel (k + 4) u v := i_up I
  obtain ⟨T, O, A, B, D, n, p, rfl, rfl, R, ⟨cl, nd, vx, co, lk⟩, hp, he, hc⟩ := I
  exact ms_xfl (ms_RK R) cl (ms_yfl R (ms_n16 he) cl ⟨rfl, J⟩)
def ms_cb (T : Nat → Nat → Nat) (p c : Nat) : Bool := decide (T (c / 10) (c % 10) ≠ 10) && (decide (4 < ms_pc p) && decide (ms_pc (ms_nb T (c / 10) &&& ms_nb T (c % 10)) ≤ 2))
theorem ms_cb_i (T : Nat → Nat → Nat) (p c : Nat) : ms_cb T p c = true ↔ ms_cp T p (c / 10) (c % 10) := by
  unfold ms_cb ms_cp
  simp
theorem ms_cb_n {T : Nat → Nat → Nat} {p a b : Nat} (hb : b < 10) : ms_cb T p (10 * a + b) = true ↔ ms_cp T p a b := by
  rw [ms_cb_i, show (10 * a + b) / 10 = a by omega, show (10 * a + b) % 10 = b by omega]
theorem ms_xcl {post : Int32 → Prop} {T : Nat → Nat → Nat} {p : Nat} (K : ms_K T) (hp : p < 1024) (h : post (nI (ms_cnt (ms_cb T p) 100))) : wpX_collapsible post (nI p, ms_C T) := by
  have inner : ∀ (J : Int32 → Int32 → Prop) a, a < 10 → J (nI (ms_cnt (ms_cb T p) (10 * a + 10))) (nI (a + 1)) → ∀ d b, b + d = 10 → wX_collapsible_12 post J (nI a) (nI p) (ms_C T) (d + 1) (nI (ms_cnt (ms_cb T p) (10 * a + b))) (nI b) := by
    intro J a ha hJ d
    induction d with
    | zero =>
      intro b hb
      have : b = 10 := by omega
      subst this
      exact br_t (nI_le (a := 10) (by omega) (by decide)) (nm_r (nI_1 a) hJ)
    | succ d ih =>
      intro b hb
      have hb10 : b < 10 := by omega
      have ih' := ih (b + 1) (by omega)
      rw [show 10 * a + (b + 1) = (10 * a + b) + 1 by omega] at ih'
      have no : ¬ ms_cp T p a b → wX_collapsible_12 post J (nI a) (nI p) (ms_C T) (d + 1) (nI (ms_cnt (ms_cb T p) (10 * a + b))) (nI (b + 1)) := by
        intro z
        rw [ms_c0 (fun q => z ((ms_cb_n hb10).mp q))] at ih'
        exact ih'
      refine br_f (nI_ge (b := 10) hb10 (by decide)) (ms_xjoin K (fun e => br_t rfl (nm_r (nI_1 b) (no ?_))) (fun e => br_f (by decide) (ms_xcol K hp e (fun z => br_f (by decide) ?_) (fun z => br_t rfl (nm_r (nI_1 b) (no ?_))))))
      · rw [ms_ix_n ha, ms_ix_n hb10] at e
        exact fun z => z.1 e
      · rw [ms_ix_n ha, ms_ix_n hb10] at z
        rw [ms_c1 ((ms_cb_n hb10).mpr z)] at ih'
        exact nm_r (nI_1 _) (nm_r (nI_1 b) ih')
      · rw [ms_ix_n ha, ms_ix_n hb10] at z; exact z
  have outer : ∀ d a, a + d = 10 → wX_collapsible_4 post (nI p) (ms_C T) (d + 1) (nI (ms_cnt (ms_cb T p) (10 * a))) (nI a) := by
    intro d
    induction d with
    | zero =>
      intro a ha
      have : a = 10 := by omega
      subst this
      exact br_t (nI_le (a := 10) (by omega) (by decide)) h
    | succ d ih =>
      intro a ha
      have ha10 : a < 10 := by omega
      exact br_f (nI_ge (b := 10) ha10 (by decide)) ⟨11, inner (wX_collapsible_4 post (nI p) (ms_C T) (d + 1)) a ha10 (ih (a + 1) (by omega)) 10 0 (by omega)⟩
  exact ⟨11, outer 10 0 (by omega)⟩
theorem ms_ycl {post : Int32 → Prop} {T O : Nat → Nat → Nat} {n p : Nat} {A B D : Nat → Nat} (R : ms_R T O (ms_F n A B D)) (hn : n ≤ 16) (hp : p < 1024) (cl : ms_cl T) (vx : ms_vx T p) (h : post (nI (ms_cnt (ms_cb T p) 100))) : wpY_collapsible post (nI n, ms_N A, ms_N B, ms_N D) := by
  refine loop_0 (fun m i (c : Nat) => wY_collapsible_4 post (nI n) (ms_N A) (ms_N B) (ms_N D) m (nI c) (nI i)) (fun i c => c = ms_cnt (ms_cb T p) i) 100 0 rfl ?_ ?_
  · intro m c hcc
    subst hcc
    exact br_t (nI_le (a := 100) (by omega) (by decide)) h
  · intro m i c hi hcc ih
    have hd : i / 10 < 10 := by omega
    have hr : i % 10 < 10 := by omega
    refine br_f (nI_ge (b := 100) hi (by decide)) ⟨by decide, by decide, ?_⟩
    rw [ms_r10 hi, ms_d10 hi]
    refine ms_ycol R hn hp cl vx (fun z => br_f (by decide) (nm_r (nI_1 c) (nm_r (nI_1 i) (ih (c + 1) ?_)))) (fun z => br_t rfl (nm_r (nI_1 i) (ih c ?_)))
    · rw [ms_ix_n hd, ms_ix_n hr] at z
      rw [ms_c1 ((ms_cb_i T p i).mpr z), hcc]
    · rw [ms_ix_n hd, ms_ix_n hr] at z
      rw [ms_c0 (fun w => z ((ms_cb_i T p i).mp w)), hcc]
theorem i_vc_collapsible {k : Nat} {u : SX} {v : SY} (I : i_Rel k u v) (hk : k + 4 ≤ 2048) : wpX_collapsible (fun r => wpY_collapsible (fun r' => r' = r ∧ i_Rel (k + 4) u v) v) u := by
  have J : i_Rel (k + 4) u v := i_up I
  obtain ⟨T, O, A, B, D, n, p, rfl, rfl, R, ⟨cl, nd, vx, co, lk⟩, hp, he, hc⟩ := I
  exact ms_xcl (ms_RK R) hp (ms_ycl R (ms_n16 he) hp cl vx ⟨rfl, J⟩)
end
section
/-! the methods that change: the pure side -/
theorem ms_newv {T : Nat → Nat → Nat} {p v : Nat} (K : ms_K T) (cl : ms_cl T) (vx : ms_vx T p) (hv : v < 10) (hpv : p.testBit v = false) : (∀ y, T v y = 10) ∧ (∀ x, T x v = 10) ∧ (∀ x y, T x y ≠ v) := by
  have hv1 : ∀ y, T v y = 10 := by
    intro y
    by_cases e : T v y = 10
    · exact e
    · have := (vx v hv).mpr ⟨y, e⟩
      rw [hpv] at this
      exact absurd this (by decide)
  refine ⟨hv1, ?_, ?_⟩
  · intro x
    by_cases e : T x v = 10
    · exact e
    · exact absurd (hv1 x) (cl _ _ e)
  · intro x y e
    have h10 : T x y ≠ 10 := by rw [e]; exact Nat.ne_of_lt hv
    have k := (K x y h10).2.2.2.2.2.2.2
    have k2 := (K x y h10).2.1
    rw [e, hv1 x] at k
    omega
theorem ms_sf_d {T : Nat → Nat → Nat} {a b c v : Nat} : ms_put (ms_put (ms_put (ms_drop T a b c) a b v) b c v) c a v = ms_sf T a b c v := by
  funext x y
  unfold ms_sf
  simp only [ms_put_e, ms_drop_e]
  by_cases h1 : x = a ∧ y = b
  · rw [if_pos h1, if_pos h1]
  · by_cases h2 : x = b ∧ y = c
    · rw [if_pos h2, if_pos h2]
    · by_cases h3 : x = c ∧ y = a
      · rw [if_pos h3, if_pos h3]
      · simp only [h1, h2, h3, if_false]
theorem ms_sfI {T O : Nat → Nat → Nat} {A B D : Nat → Nat} {n p a b c v : Nat} (I : ms_Inv T O A B D (n + 1) p) (hc : T a b = c) (hc10 : c ≠ 10) (hv : ms_least p v) {f : Nat} (g : ms_F (n + 1) A B D f a b c) :
    ∃ O', ms_Inv (ms_sf T a b c v) O' (ms_u (ms_u (ms_u (ms_u A f (A n)) n a) (n + 1) b) (n + 2) c) (ms_u (ms_u (ms_u (ms_u B f (B n)) n b) (n + 1) c) (n + 2) a) (ms_u (ms_u (ms_u (ms_u D f (D n)) n v) (n + 1) v) (n + 2) v) (n + 3) (p ||| 2 ^ v) := by
  obtain ⟨R, V, hp, he, hcn⟩ := I
  have K := ms_RK R
  have V' := V
  obtain ⟨cl, nd, vx, co, lk⟩ := V
  obtain ⟨v10, pv, _⟩ := hv
  obtain ⟨t1, t2, t3⟩ := ms_newv K cl vx v10 pv
  have nab : T a b ≠ 10 := by rw [hc]; exact hc10
  have k1 := K a b nab
  rw [hc] at k1
  obtain ⟨ha, hb, hcc, hab, hca, hcb, tbc, tca⟩ := k1
  have hav : a ≠ v := by intro e; rw [e] at nab; exact nab (t1 b)
  have hbv : b ≠ v := by intro e; rw [e] at nab; exact nab (t2 a)
  have hcv : c ≠ v := by rw [← hc]; exact t3 a b
  have hba := Ne.symm hab
  have hac := Ne.symm hca
  have hbc := Ne.symm hcb
  have hva := Ne.symm hav
  have hvb := Ne.symm hbv
  have hvc := Ne.symm hcv
  obtain ⟨O1, R1⟩ := ms_Rtake R g
  have c1 := ms_cn_drop (T := T) ha hb hcc hab hbc hca nab (by rw [tbc]; exact Nat.ne_of_lt ha) (by rw [tca]; exact Nat.ne_of_lt hb)
  have p1 : ms_drop T a b c a b = 10 := by simp [ms_drop_e, hab, hac, hav, hba, hbc, hbv, hca, hcb, hcv, hva, hvb, hvc]
  have p2 : ms_drop T a b c b v = 10 := by simp [ms_drop_e, t2, hab, hac, hav, hba, hbc, hbv, hca, hcb, hcv, hva, hvb, hvc]
  have p3 : ms_drop T a b c v a = 10 := by simp [ms_drop_e, t1, hab, hac, hav, hba, hbc, hbv, hca, hcb, hcv, hva, hvb, hvc]
  obtain ⟨O2, R2⟩ := ms_Rput R1 ha hb v10 hab hbv hva p1 p2 p3
  have c2 := ms_cn_put ha hb v10 hab hbv hva p1 p2 p3
  have q1 : ms_put (ms_drop T a b c) a b v b c = 10 := by simp [ms_put_e, ms_drop_e, hab, hac, hav, hba, hbc, hbv, hca, hcb, hcv, hva, hvb, hvc]
  have q2 : ms_put (ms_drop T a b c) a b v c v = 10 := by simp [ms_put_e, ms_drop_e, t2, hab, hac, hav, hba, hbc, hbv, hca, hcb, hcv, hva, hvb, hvc]
  have q3 : ms_put (ms_drop T a b c) a b v v b = 10 := by simp [ms_put_e, ms_drop_e, t1, hab, hac, hav, hba, hbc, hbv, hca, hcb, hcv, hva, hvb, hvc]
  obtain ⟨O3, R3⟩ := ms_Rput R2 hb hcc v10 hbc hcv hvb q1 q2 q3
  have c3 := ms_cn_put hb hcc v10 hbc hcv hvb q1 q2 q3
  have r1 : ms_put (ms_put (ms_drop T a b c) a b v) b c v c a = 10 := by simp [ms_put_e, ms_drop_e, hab, hac, hav, hba, hbc, hbv, hca, hcb, hcv, hva, hvb, hvc]
  have r2 : ms_put (ms_put (ms_drop T a b c) a b v) b c v a v = 10 := by simp [ms_put_e, ms_drop_e, t2, hab, hac, hav, hba, hbc, hbv, hca, hcb, hcv, hva, hvb, hvc]
  have r3 : ms_put (ms_put (ms_drop T a b c) a b v) b c v v c = 10 := by simp [ms_put_e, ms_drop_e, t1, hab, hac, hav, hba, hbc, hbv, hca, hcb, hcv, hva, hvb, hvc]
  obtain ⟨O4, R4⟩ := ms_Rput R3 hcc ha v10 hca hav hvc r1 r2 r3
  have c4 := ms_cn_put hcc ha v10 hca hav hvc r1 r2 r3
  rw [ms_sf_d] at R4 c4
  refine ⟨O4, R4, ms_sfV K V' hc hc10 v10 pv, ms_lt hp (ms_pow v10), ?_, ?_⟩
  · rw [ms_pc_or v10 pv]; omega
  · omega
theorem ms_flI {T O : Nat → Nat → Nat} {A B D : Nat → Nat} {n p a b c d : Nat} (I : ms_Inv T O A B D (n + 2) p) (hc : T a b = c) (hd : T b a = d) (hc10 : c ≠ 10) (tcd : T c d = 10) {f : Nat} (g : ms_F (n + 2) A B D f a b c) :
    ms_drop T a b c b a = d ∧ d ≠ 10 ∧ (∃ O1, ms_R (ms_drop T a b c) O1 (ms_F (n + 1) (ms_u A f (A (n + 1))) (ms_u B f (B (n + 1))) (ms_u D f (D (n + 1))))) ∧
    ∀ f2, ms_F (n + 1) (ms_u A f (A (n + 1))) (ms_u B f (B (n + 1))) (ms_u D f (D (n + 1))) f2 b a d →
    ∃ O', ms_Inv (ms_fl T a b c d) O' (ms_u (ms_u (ms_u (ms_u A f (A (n + 1))) f2 (ms_u A f (A (n + 1)) n)) n c) (n + 1) d) (ms_u (ms_u (ms_u (ms_u B f (B (n + 1))) f2 (ms_u B f (B (n + 1)) n)) n a) (n + 1) b) (ms_u (ms_u (ms_u (ms_u D f (D (n + 1))) f2 (ms_u D f (D (n + 1)) n)) n d) (n + 1) c) (n + 2) p := by
  obtain ⟨R, V, hp, he, hcn⟩ := I
  have K := ms_RK R
  have V' := V
  obtain ⟨cl, nd, vx, co, lk⟩ := V
  obtain ⟨⟨ha, hb, hcc, hdd⟩, ⟨hab, hca, hcb, hda, hdb, hcd⟩, ⟨tab, tbc, tca, tba, tad, tdb⟩, ⟨n1, n2, n3, n4, n5, n6⟩⟩ := ms_edge K cl nd hc hd hc10
  have hba := Ne.symm hab
  have hac := Ne.symm hca
  have hbc := Ne.symm hcb
  have had := Ne.symm hda
  have hbd := Ne.symm hdb
  have hdc := Ne.symm hcd
  have tdc : T d c = 10 := by
    by_cases e : T d c = 10
    · exact e
    · exact absurd tcd (cl _ _ e)
  have d10 : d ≠ 10 := Nat.ne_of_lt hdd
  obtain ⟨O1, R1⟩ := ms_Rtake R g
  have c1 := ms_cn_drop (T := T) ha hb hcc hab hbc hca n1 n2 n3
  have s1 : ms_drop T a b c b a = d := by simp [ms_drop_e, tba, hab, hac, had, hba, hbc, hbd, hca, hcb, hcd, hda, hdb, hdc]
  have s2 : ms_drop T a b c a d = b := by simp [ms_drop_e, tad, hab, hac, had, hba, hbc, hbd, hca, hcb, hcd, hda, hdb, hdc]
  have s3 : ms_drop T a b c d b = a := by simp [ms_drop_e, tdb, hab, hac, had, hba, hbc, hbd, hca, hcb, hcd, hda, hdb, hdc]
  refine ⟨s1, d10, ⟨O1, R1⟩, ?_⟩
  intro f2 g2
  obtain ⟨O2, R2⟩ := ms_Rtake R1 g2
  have c2 := ms_cn_drop (T := ms_drop T a b c) hb ha hdd hba had hdb (by rw [s1]; exact d10) (by rw [s2]; exact Nat.ne_of_lt hb) (by rw [s3]; exact Nat.ne_of_lt ha)
  have p1 : ms_drop (ms_drop T a b c) b a d c a = 10 := by simp [ms_drop_e, hab, hac, had, hba, hbc, hbd, hca, hcb, hcd, hda, hdb, hdc]
  have p2 : ms_drop (ms_drop T a b c) b a d a d = 10 := by simp [ms_drop_e, hab, hac, had, hba, hbc, hbd, hca, hcb, hcd, hda, hdb, hdc]
  have p3 : ms_drop (ms_drop T a b c) b a d d c = 10 := by simp [ms_drop_e, tdc, hab, hac, had, hba, hbc, hbd, hca, hcb, hcd, hda, hdb, hdc]
  obtain ⟨O3, R3⟩ := ms_Rput R2 hcc ha hdd hca had hdc p1 p2 p3
  have c3 := ms_cn_put hcc ha hdd hca had hdc p1 p2 p3
  have q1 : ms_put (ms_drop (ms_drop T a b c) b a d) c a d d b = 10 := by simp [ms_put_e, ms_drop_e, hab, hac, had, hba, hbc, hbd, hca, hcb, hcd, hda, hdb, hdc]
  have q2 : ms_put (ms_drop (ms_drop T a b c) b a d) c a d b c = 10 := by simp [ms_put_e, ms_drop_e, hab, hac, had, hba, hbc, hbd, hca, hcb, hcd, hda, hdb, hdc]
  have q3 : ms_put (ms_drop (ms_drop T a b c) b a d) c a d c d = 10 := by simp [ms_put_e, ms_drop_e, tcd, hab, hac, had, hba, hbc, hbd, hca, hcb, hcd, hda, hdb, hdc]
  obtain ⟨O4, R4⟩ := ms_Rput R3 hdd hb hcc hdb hbc hcd q1 q2 q3
  have c4 := ms_cn_put hdd hb hcc hdb hbc hcd q1 q2 q3
  refine ⟨O4, R4, ms_flV K V' hc hd hc10 tcd, hp, he, ?_⟩
  show ms_cn (ms_put (ms_put (ms_drop (ms_drop T a b c) b a d) c a d) d b c) = _
  omega
theorem ms_seI {T O : Nat → Nat → Nat} {A B D : Nat → Nat} {n p a b c d v : Nat} (I : ms_Inv T O A B D (n + 2) p) (hc : T a b = c) (hd : T b a = d) (hc10 : c ≠ 10) (hv : ms_least p v) {f : Nat} (g : ms_F (n + 2) A B D f a b c) :
    ms_drop T a b c b a = d ∧ d ≠ 10 ∧ (∃ O1, ms_R (ms_drop T a b c) O1 (ms_F (n + 1) (ms_u A f (A (n + 1))) (ms_u B f (B (n + 1))) (ms_u D f (D (n + 1))))) ∧
    ∀ f2, ms_F (n + 1) (ms_u A f (A (n + 1))) (ms_u B f (B (n + 1))) (ms_u D f (D (n + 1))) f2 b a d →
    ∃ O', ms_Inv (ms_se T a b c d v) O' (ms_u (ms_u (ms_u (ms_u (ms_u (ms_u A f (A (n + 1))) f2 (ms_u A f (A (n + 1)) n)) n a) (n + 1) v) (n + 2) b) (n + 3) v) (ms_u (ms_u (ms_u (ms_u (ms_u (ms_u B f (B (n + 1))) f2 (ms_u B f (B (n + 1)) n)) n v) (n + 1) b) (n + 2) v) (n + 3) a) (ms_u (ms_u (ms_u (ms_u (ms_u (ms_u D f (D (n + 1))) f2 (ms_u D f (D (n + 1)) n)) n c) (n + 1) c) (n + 2) d) (n + 3) d) (n + 4) (p ||| 2 ^ v) := by
  obtain ⟨Osf, Isf⟩ := ms_sfI (n := n + 1) I hc hc10 hv g
  have Ksf := ms_RK Isf.1
  have Vsf := Isf.2.1
  clear Isf
  obtain ⟨R, V, hp, he, hcn⟩ := I
  have K := ms_RK R
  obtain ⟨cl, nd, vx, co, lk⟩ := V
  obtain ⟨v10, pv, _⟩ := hv
  obtain ⟨t1, t2, t3⟩ := ms_newv K cl vx v10 pv
  obtain ⟨⟨ha, hb, hcc, hdd⟩, ⟨hab, hca, hcb, hda, hdb, hcd⟩, ⟨tab, tbc, tca, tba, tad, tdb⟩, ⟨n1, n2, n3, n4, n5, n6⟩⟩ := ms_edge K cl nd hc hd hc10
  have hav : a ≠ v := by intro e; rw [e] at n1; exact n1 (t1 b)
  have hbv : b ≠ v := by intro e; rw [e] at n1; exact n1 (t2 a)
  have hcv : c ≠ v := by rw [← hc]; exact t3 a b
  have hdv : d ≠ v := by rw [← hd]; exact t3 b a
  have hba := Ne.symm hab
  have hac := Ne.symm hca
  have hbc := Ne.symm hcb
  have had := Ne.symm hda
  have hbd := Ne.symm hdb
  have hdc := Ne.symm hcd
  have hva := Ne.symm hav
  have hvb := Ne.symm hbv
  have hvc := Ne.symm hcv
  have hvd := Ne.symm hdv
  have d10 : d ≠ 10 := Nat.ne_of_lt hdd
  obtain ⟨O1, R1⟩ := ms_Rtake R g
  have c1 := ms_cn_drop (T := T) ha hb hcc hab hbc hca n1 n2 n3
  have s1 : ms_drop T a b c b a = d := by simp [ms_drop_e, tba, hab, hac, had, hav, hba, hbc, hbd, hbv, hca, hcb, hcd, hcv, hda, hdb, hdc, hdv, hva, hvb, hvc, hvd]
  have s2 : ms_drop T a b c a d = b := by simp [ms_drop_e, tad, hab, hac, had, hav, hba, hbc, hbd, hbv, hca, hcb, hcd, hcv, hda, hdb, hdc, hdv, hva, hvb, hvc, hvd]
  have s3 : ms_drop T a b c d b = a := by simp [ms_drop_e, tdb, hab, hac, had, hav, hba, hbc, hbd, hbv, hca, hcb, hcd, hcv, hda, hdb, hdc, hdv, hva, hvb, hvc, hvd]
  refine ⟨s1, d10, ⟨O1, R1⟩, ?_⟩
  intro f2 g2
  obtain ⟨O2, R2⟩ := ms_Rtake R1 g2
  have c2 := ms_cn_drop (T := ms_drop T a b c) hb ha hdd hba had hdb (by rw [s1]; exact d10) (by rw [s2]; exact Nat.ne_of_lt hb) (by rw [s3]; exact Nat.ne_of_lt ha)
  have p1 : ms_drop (ms_drop T a b c) b a d a v = 10 := by simp [ms_drop_e, t2, hab, hac, had, hav, hba, hbc, hbd, hbv, hca, hcb, hcd, hcv, hda, hdb, hdc, hdv, hva, hvb, hvc, hvd]
  have p2 : ms_drop (ms_drop T a b c) b a d v c = 10 := by simp [ms_drop_e, t1, hab, hac, had, hav, hba, hbc, hbd, hbv, hca, hcb, hcd, hcv, hda, hdb, hdc, hdv, hva, hvb, hvc, hvd]
  have p3 : ms_drop (ms_drop T a b c) b a d c a = 10 := by simp [ms_drop_e, hab, hac, had, hav, hba, hbc, hbd, hbv, hca, hcb, hcd, hcv, hda, hdb, hdc, hdv, hva, hvb, hvc, hvd]
  obtain ⟨O3, R3⟩ := ms_Rput R2 ha v10 hcc hav hvc hca p1 p2 p3
  have c3 := ms_cn_put ha v10 hcc hav hvc hca p1 p2 p3
  have q1 : ms_put (ms_drop (ms_drop T a b c) b a d) a v c v b = 10 := by simp [ms_put_e, ms_drop_e, t1, hab, hac, had, hav, hba, hbc, hbd, hbv, hca, hcb, hcd, hcv, hda, hdb, hdc, hdv, hva, hvb, hvc, hvd]
  have q2 : ms_put (ms_drop (ms_drop T a b c) b a d) a v c b c = 10 := by simp [ms_put_e, ms_drop_e, hab, hac, had, hav, hba, hbc, hbd, hbv, hca, hcb, hcd, hcv, hda, hdb, hdc, hdv, hva, hvb, hvc, hvd]
  have q3 : ms_put (ms_drop (ms_drop T a b c) b a d) a v c c v = 10 := by simp [ms_put_e, ms_drop_e, t2, hab, hac, had, hav, hba, hbc, hbd, hbv, hca, hcb, hcd, hcv, hda, hdb, hdc, hdv, hva, hvb, hvc, hvd]
  obtain ⟨O4, R4⟩ := ms_Rput R3 v10 hb hcc hvb hbc hcv q1 q2 q3
  have c4 := ms_cn_put v10 hb hcc hvb hbc hcv q1 q2 q3
  have r1 : ms_put (ms_put (ms_drop (ms_drop T a b c) b a d) a v c) v b c b v = 10 := by simp [ms_put_e, ms_drop_e, t2, hab, hac, had, hav, hba, hbc, hbd, hbv, hca, hcb, hcd, hcv, hda, hdb, hdc, hdv, hva, hvb, hvc, hvd]
  have r2 : ms_put (ms_put (ms_drop (ms_drop T a b c) b a d) a v c) v b c v d = 10 := by simp [ms_put_e, ms_drop_e, t1, hab, hac, had, hav, hba, hbc, hbd, hbv, hca, hcb, hcd, hcv, hda, hdb, hdc, hdv, hva, hvb, hvc, hvd]
  have r3 : ms_put (ms_put (ms_drop (ms_drop T a b c) b a d) a v c) v b c d b = 10 := by simp [ms_put_e, ms_drop_e, hab, hac, had, hav, hba, hbc, hbd, hbv, hca, hcb, hcd, hcv, hda, hdb, hdc, hdv, hva, hvb, hvc, hvd]
  obtain ⟨O5, R5⟩ := ms_Rput R4 hb v10 hdd hbv hvd hdb r1 r2 r3
  have c5 := ms_cn_put hb v10 hdd hbv hvd hdb r1 r2 r3
  have w1 : ms_put (ms_put (ms_put (ms_drop (ms_drop T a b c) b a d) a v c) v b c) b v d v a = 10 := by simp [ms_put_e, ms_drop_e, t1, hab, hac, had, hav, hba, hbc, hbd, hbv, hca, hcb, hcd, hcv, hda, hdb, hdc, hdv, hva, hvb, hvc, hvd]
  have w2 : ms_put (ms_put (ms_put (ms_drop (ms_drop T a b c) b a d) a v c) v b c) b v d a d = 10 := by simp [ms_put_e, ms_drop_e, hab, hac, had, hav, hba, hbc, hbd, hbv, hca, hcb, hcd, hcv, hda, hdb, hdc, hdv, hva, hvb, hvc, hvd]
  have w3 : ms_put (ms_put (ms_put (ms_drop (ms_drop T a b c) b a d) a v c) v b c) b v d d v = 10 := by simp [ms_put_e, ms_drop_e, t2, hab, hac, had, hav, hba, hbc, hbd, hbv, hca, hcb, hcd, hcv, hda, hdb, hdc, hdv, hva, hvb, hvc, hvd]
  obtain ⟨O6, R6⟩ := ms_Rput R5 v10 ha hdd hva had hdv w1 w2 w3
  have c6 := ms_cn_put v10 ha hdd hva had hdv w1 w2 w3
  refine ⟨O6, R6, ?_, ms_lt hp (ms_pow v10), ?_, ?_⟩
  · rw [ms_se_e hab hac hbc had hbd hcd hav hbv hcv hdv]
    have E := fun x y => ms_sf_e hab hbc hca hav hbv hcv x y (t1 y) (t2 x)
    refine ms_flV Ksf Vsf ?_ ?_ (Nat.ne_of_lt v10) ?_
    · rw [E]; simp [hab, hac, had, hav, hba, hbc, hbd, hbv, hca, hcb, hcd, hcv, hda, hdb, hdc, hdv, hva, hvb, hvc, hvd]
    · rw [E]; simp [tba, hab, hac, had, hav, hba, hbc, hbd, hbv, hca, hcb, hcd, hcv, hda, hdb, hdc, hdv, hva, hvb, hvc, hvd]
    · rw [E]; simp [hab, hac, had, hav, hba, hbc, hbd, hbv, hca, hcb, hcd, hcv, hda, hdb, hdc, hdv, hva, hvb, hvc, hvd]
  · rw [ms_pc_or v10 pv]; omega
  · show ms_cn (ms_put (ms_put (ms_put (ms_put (ms_drop (ms_drop T a b c) b a d) a v c) v b c) b v d) v a d) = _
    omega
end
section
/-! the beginning, splitFace, splitEdge, flip -/
theorem ms_nm {T : Nat → Nat → Nat} (K : ms_K T) {q1 q2 : Int32} (e : T (ms_ix q1) (ms_ix q2) ≠ 10) : ∃ a b, a < 10 ∧ b < 10 ∧ q1 = nI a ∧ q2 = nI b ∧ ms_ix q1 = a ∧ ms_ix q2 = b := by
  have k := K _ _ e
  rcases ms_ix_o q1 with ⟨a, ha, rfl⟩ | ⟨_, e1, _⟩
  · rcases ms_ix_o q2 with ⟨b, hb, rfl⟩ | ⟨_, e2, _⟩
    · exact ⟨a, b, ha, hb, rfl, rfl, ms_ix_n ha, ms_ix_n hb⟩
    · rw [e2] at k; exact absurd k.2.1 (by decide)
  · rw [e1] at k; exact absurd k.1 (by decide)
theorem ms_ne10 {v : Nat} (h : v < 10) : ¬ nI v = 10 := fun e => by
  have : nI v = nI 10 := e
  rw [nI_eq (by omega) (by decide)] at this
  omega
theorem i_vc_splitFace {k : Nat} {u : SX} {v : SY} (I : i_Rel k u v) (hk : k + 4 ≤ 2048) (v1 : Int32) (v2 : Int32) (v3 : Int32) : wpX_splitFace (fun r u' => wpY_splitFace (fun r' v' => r' = r ∧ i_Rel (k + 4) u' v') v v1 v2 v3) u v1 v2 v3 := by
  have J : i_Rel (k + 4) u v := i_up I
  obtain ⟨T, O, A, B, D, n, p, rfl, rfl, In⟩ := I
  have In' := In
  obtain ⟨R, ⟨cl, nd, vx, co, lk⟩, hp, he, hcn⟩ := In
  have hn := ms_n16 he
  have K := ms_RK R
  unfold wpX_splitFace
  dsimp only
  refine ms_xhas K (fun e e10 => br_f (by decide) ?_) (fun z => br_t rfl ?_)
  · obtain ⟨a, b, ha, hb, rfl, rfl, ea, eb⟩ := ms_nm K (q1 := v1) (q2 := v2) (by rw [e]; exact e10)
    obtain ⟨c, hc, rfl⟩ : ∃ c, c < 10 ∧ v3 = nI c := by
      rcases ms_ix_o v3 with q | ⟨_, q, _⟩
      · exact q
      · exact absurd q e10
    have E0 := e
    have E10 := e10
    rw [ms_ix_n ha, ms_ix_n hb, ms_ix_n hc] at e
    rw [ms_ix_n hc] at e10
    rcases ms_least_o p with ⟨w, hw⟩ | full
    · refine ms_xfree hp hw (br_f (ms_n2 (by have := hw.1; omega)) (nm_r (e' := nI (p ||| 2 ^ w)) (by rw [ms_sh hw.1, ms_or]) ?_))
      refine ms_xput ha hb hw.1 ?_
      dsimp only
      refine ms_xput hb hc hw.1 ?_
      dsimp only
      refine ms_xput hc ha hw.1 ?_
      dsimp only
      unfold wpY_splitFace
      dsimp only
      refine ms_yisF R hn (fun _ _ => br_f (by decide) (ms_yfree R hn hp vx hw (br_f (ms_ne10 hw.1) ?_))) (fun z => absurd ⟨E0, E10⟩ z)
      have g0 := R.2.2.1 a b (by rw [e]; exact e10)
      obtain ⟨m, rfl⟩ : ∃ m, n = m + 1 := ⟨n - 1, by have := g0.1; omega⟩
      refine ms_ytake R hn e e10 (fun f g => ?_)
      dsimp only
      obtain ⟨O', I'⟩ := ms_sfI In' e e10 hw g
      have m16 := ms_n16 I'.2.2.2.1
      refine ms_yput (by omega) ?_
      dsimp only
      refine ms_yput (by omega) ?_
      dsimp only
      refine ms_yput (by omega) ?_
      exact ⟨rfl, _, O', _, _, _, _, _, rfl, rfl, I'⟩
    · refine ms_xfull hp full (br_t rfl ?_)
      unfold wpY_splitFace
      dsimp only
      exact ms_yisF R hn (fun _ _ => br_f (by decide) (ms_yfull R hn hp vx full (br_t rfl ⟨rfl, J⟩))) (fun z => absurd ⟨E0, E10⟩ z)
  · unfold wpY_splitFace
    dsimp only
    exact ms_yisF R hn (fun e e10 => absurd ⟨e, e10⟩ z) (fun _ => br_t rfl ⟨rfl, J⟩)
theorem i_vc_splitEdge {k : Nat} {u : SX} {v : SY} (I : i_Rel k u v) (hk : k + 4 ≤ 2048) (v1 : Int32) (v2 : Int32) : wpX_splitEdge (fun r u' => wpY_splitEdge (fun r' v' => r' = r ∧ i_Rel (k + 4) u' v') v v1 v2) u v1 v2 := by
  have J : i_Rel (k + 4) u v := i_up I
  obtain ⟨T, O, A, B, D, n, p, rfl, rfl, In⟩ := I
  have In' := In
  obtain ⟨R, ⟨cl, nd, vx, co, lk⟩, hp, he, hcn⟩ := In
  have hn := ms_n16 he
  have K := ms_RK R
  unfold wpX_splitEdge
  dsimp only
  refine ms_xjoin K (fun e => br_t rfl ?_) (fun e => br_f (by decide) ?_)
  · unfold wpY_splitEdge
    dsimp only
    refine ms_yopp R hn (ms_yopp R hn ?_)
    rw [e]
    exact br_f (by decide) ⟨rfl, J⟩
  · obtain ⟨a, b, ha, hb, rfl, rfl, ea, eb⟩ := ms_nm K e
    rw [ea, eb] at e
    have e2 := cl _ _ e
    obtain ⟨c, hc⟩ : ∃ c, T a b = c := ⟨_, rfl⟩
    obtain ⟨d, hd⟩ : ∃ d, T b a = d := ⟨_, rfl⟩
    have c10 : c < 10 := by rw [← hc]; exact (K _ _ e).2.2.1
    have d10 : d < 10 := by rw [← hd]; exact (K _ _ e2).2.2.1
    have hc' : c ≠ 10 := Nat.ne_of_lt c10
    have yo : ∀ post : Int32 → SY → Prop, (wpY_fresh (fun r_12 => (r_12 = 10 → post (-2) (nI n, ms_N A, ms_N B, ms_N D)) ∧ (¬ r_12 = 10 → wpY_takeOut (fun u => match u with | (s1, s2, s3, s4) => wpY_takeOut (fun u => match u with | (s1, s2, s3, s4) => wpY_put (fun u => match u with | (s1, s2, s3, s4) => wpY_put (fun u => match u with | (s1, s2, s3, s4) => wpY_put (fun u => match u with | (s1, s2, s3, s4) => wpY_put (fun u => match u with | (s1, s2, s3, s4) => post r_12 (s1, s2, s3, s4)) (s1, s2, s3, s4) r_12 (nI a) (nI d)) (s1, s2, s3, s4) (nI b) r_12 (nI d)) (s1, s2, s3, s4) r_12 (nI b) (nI c)) (s1, s2, s3, s4) (nI a) r_12 (nI c)) (s1, s2, s3, s4) (nI b) (nI a) (nI d)) (nI n, ms_N A, ms_N B, ms_N D) (nI a) (nI b) (nI c))) (nI n, ms_N A, ms_N B, ms_N D)) → wpY_splitEdge post (nI n, ms_N A, ms_N B, ms_N D) (nI a) (nI b) := by
      intro post h
      unfold wpY_splitEdge
      dsimp only
      refine ms_yopp R hn (ms_yopp R hn ?_)
      rw [ea, eb, hc, hd, ms_e_lt c10, ms_e_lt d10]
      exact br_t (nI_pos' (by omega)) h
    rcases ms_least_o p with ⟨w, hw⟩ | full
    · refine ms_xfree hp hw (br_f (ms_n2 (by have := hw.1; omega)) (ms_xcor K (ms_xcor K ?_)))
      rw [ea, eb, hc, hd, ms_e_lt c10, ms_e_lt d10]
      refine nm_r (e' := nI (p ||| 2 ^ w)) (by rw [ms_sh hw.1, ms_or]) ?_
      refine ms_xdrop ha hb c10 ?_
      dsimp only
      refine ms_xdrop hb ha d10 ?_
      dsimp only
      refine ms_xput ha hw.1 c10 ?_
      dsimp only
      refine ms_xput hw.1 hb c10 ?_
      dsimp only
      refine ms_xput hb hw.1 d10 ?_
      dsimp only
      refine ms_xput hw.1 ha d10 ?_
      dsimp only
      refine yo _ (ms_yfree R hn hp vx hw (br_f (ms_ne10 hw.1) ?_))
      have g0 := R.2.2.1 a b e
      have g1 := R.2.2.1 b a e2
      obtain ⟨m, rfl⟩ : ∃ m, n = m + 2 := by
        refine ⟨n - 2, ?_⟩
        have l0 := g0.1
        have l1 := g1.1
        have : O a b ≠ O b a := by
          intro q
          rw [q] at g0
          have := R.2.2.2 _ _ _ _ _ _ _ g1 g0
          have kk := K _ _ e
          have nn := nd a b e
          rcases this with w | w | w
          · exact kk.2.2.2.1 w.1
          · exact kk.2.2.2.2.2.1 w.2.2
          · exact nn (w.1.symm ▸ w.2.2 ▸ by omega)
        omega
      refine ms_ytake (n := m + 1) R hn hc hc' (fun f g => ?_)
      dsimp only
      obtain ⟨s1, d10', ⟨O1, R1⟩, fin⟩ := ms_seI In' hc hd hc' hw g
      refine ms_ytake (n := m) R1 (by omega) s1 d10' (fun f2 g2 => ?_)
      dsimp only
      obtain ⟨O', I'⟩ := fin f2 g2
      have m16 := ms_n16 I'.2.2.2.1
      refine ms_yput (by omega) ?_
      dsimp only
      refine ms_yput (by omega) ?_
      dsimp only
      refine ms_yput (by omega) ?_
      dsimp only
      refine ms_yput (by omega) ?_
      exact ⟨rfl, _, O', _, _, _, _, _, rfl, rfl, I'⟩
    · refine ms_xfull hp full (br_t rfl ?_)
      exact yo _ (ms_yfull R hn hp vx full (br_t rfl ⟨rfl, J⟩))
theorem i_vc_flip {k : Nat} {u : SX} {v : SY} (I : i_Rel k u v) (hk : k + 4 ≤ 2048) (v1 : Int32) (v2 : Int32) : wpX_flip (fun r u' => wpY_flip (fun r' v' => r' = r ∧ i_Rel (k + 4) u' v') v v1 v2) u v1 v2 := by
  have J : i_Rel (k + 4) u v := i_up I
  obtain ⟨T, O, A, B, D, n, p, rfl, rfl, In⟩ := I
  have In' := In
  obtain ⟨R, ⟨cl, nd, vx, co, lk⟩, hp, he, hcn⟩ := In
  have hn := ms_n16 he
  have K := ms_RK R
  unfold wpX_flip
  dsimp only
  refine ms_xjoin K (fun e => br_t rfl ?_) (fun e => br_f (by decide) ?_)
  · unfold wpY_flip
    dsimp only
    refine ms_yopp R hn (ms_yopp R hn ?_)
    rw [e]
    exact br_f (by decide) ⟨rfl, J⟩
  · have E := e
    obtain ⟨a, b, ha, hb, rfl, rfl, ea, eb⟩ := ms_nm K e
    rw [ea, eb] at e
    have e2 := cl _ _ e
    obtain ⟨c, hc⟩ : ∃ c, T a b = c := ⟨_, rfl⟩
    obtain ⟨d, hd⟩ : ∃ d, T b a = d := ⟨_, rfl⟩
    have c10 : c < 10 := by rw [← hc]; exact (K _ _ e).2.2.1
    have d10 : d < 10 := by rw [← hd]; exact (K _ _ e2).2.2.1
    have hc' : c ≠ 10 := Nat.ne_of_lt c10
    have yo : ∀ post : Int32 → SY → Prop, (wpY_flips (fun r_12 => (r_12 = 0 → post (-3) (nI n, ms_N A, ms_N B, ms_N D)) ∧ (¬ r_12 = 0 → wpY_takeOut (fun u => match u with | (s1, s2, s3, s4) => wpY_takeOut (fun u => match u with | (s1, s2, s3, s4) => wpY_put (fun u => match u with | (s1, s2, s3, s4) => wpY_put (fun u => match u with | (s1, s2, s3, s4) => post 0 (s1, s2, s3, s4)) (s1, s2, s3, s4) (nI d) (nI b) (nI c)) (s1, s2, s3, s4) (nI c) (nI a) (nI d)) (s1, s2, s3, s4) (nI b) (nI a) (nI d)) (nI n, ms_N A, ms_N B, ms_N D) (nI a) (nI b) (nI c))) (nI n, ms_N A, ms_N B, ms_N D) (nI a) (nI b)) → wpY_flip post (nI n, ms_N A, ms_N B, ms_N D) (nI a) (nI b) := by
      intro post h
      unfold wpY_flip
      dsimp only
      refine ms_yopp R hn (ms_yopp R hn ?_)
      rw [ea, eb, hc, hd, ms_e_lt c10, ms_e_lt d10]
      exact br_t (nI_pos' (by omega)) h
    refine ms_xflips K cl E (fun z => br_f (by decide) (ms_xcor K (ms_xcor K ?_))) (fun z => br_t rfl (yo _ (ms_yflips R hn cl (fun z' => absurd z' z) (fun _ => br_t rfl ⟨rfl, J⟩))))
    rw [ea, eb, hc, hd, ms_e_lt c10, ms_e_lt d10]
    refine ms_xdrop ha hb c10 ?_
    dsimp only
    refine ms_xdrop hb ha d10 ?_
    dsimp only
    refine ms_xput c10 ha d10 ?_
    dsimp only
    refine ms_xput d10 hb c10 ?_
    dsimp only
    refine yo _ (ms_yflips R hn cl (fun _ => br_f (by decide) ?_) (fun z' => absurd z z'))
    rw [ea, eb] at z
    have tcd : T c d = 10 := by have := z.2.2; rw [hc, hd] at this; exact this
    have g0 := R.2.2.1 a b e
    have g1 := R.2.2.1 b a e2
    obtain ⟨m, rfl⟩ : ∃ m, n = m + 2 := by
      refine ⟨n - 2, ?_⟩
      have l0 := g0.1
      have l1 := g1.1
      have : O a b ≠ O b a := by
        intro q
        rw [q] at g0
        have := R.2.2.2 _ _ _ _ _ _ _ g1 g0
        have kk := K _ _ e
        have nn := nd a b e
        rcases this with w | w | w
        · exact kk.2.2.2.1 w.1
        · exact kk.2.2.2.2.2.1 w.2.2
        · exact nn (w.1.symm ▸ w.2.2 ▸ by omega)
      omega
    refine ms_ytake (n := m + 1) R hn hc hc' (fun f g => ?_)
    dsimp only
    obtain ⟨s1, d10', ⟨O1, R1⟩, fin⟩ := ms_flI In' hc hd hc' tcd g
    refine ms_ytake (n := m) R1 (by omega) s1 d10' (fun f2 g2 => ?_)
    dsimp only
    obtain ⟨O', I'⟩ := fin f2 g2
    refine ms_yput (by omega) ?_
    dsimp only
    refine ms_yput (by omega) ?_
    exact ⟨rfl, _, O', _, _, _, _, _, rfl, rfl, I'⟩
end
section
/-! collapse -/
theorem ms_cnt3 {f : Nat → Bool} {a b c : Nat} (ha : a < 10) (hb : b < 10) (hc : c < 10) (hab : a ≠ b) (hac : a ≠ c) (hbc : b ≠ c) (fa : f a = true) (fb : f b = true) (fc : f c = true) : 3 ≤ ms_cnt f 10 := by
  have h1 := ms_cnt_up (f := fun i => f i && decide (i ≠ a)) (g := f) (j := a) (by simp) fa (by intro i hi; simp [hi]) 10 ha
  have h2 := ms_cnt_up (f := fun i => (f i && decide (i ≠ a)) && decide (i ≠ b)) (g := fun i => f i && decide (i ≠ a)) (j := b) (by simp) (by simp [fb, Ne.symm hab]) (by intro i hi; simp [hi]) 10 hb
  have h3 := ms_cnt_up (f := fun i => ((f i && decide (i ≠ a)) && decide (i ≠ b)) && decide (i ≠ c)) (g := fun i => (f i && decide (i ≠ a)) && decide (i ≠ b)) (j := c) (by simp) (by simp [fc, Ne.symm hac, Ne.symm hbc]) (by intro i hi; simp [hi]) 10 hc
  omega
theorem ms_common {T : Nat → Nat → Nat} {a b c d : Nat} (K : ms_K T) (cl : ms_cl T) (h : ms_pc (ms_nb T a &&& ms_nb T b) ≤ 2) (lts : a < 10 ∧ b < 10 ∧ c < 10 ∧ d < 10) (hcd : c ≠ d) (En : ms_en T a b c d) : ∀ v, T a v ≠ 10 → T b v ≠ 10 → v = c ∨ v = d := by
  obtain ⟨n1, n2, n3, n4, n5, n6⟩ := En
  intro v h1 h2
  by_cases q1 : v = c
  · exact Or.inl q1
  · by_cases q2 : v = d
    · exact Or.inr q2
    · exfalso
      have key : ∀ x, T a x ≠ 10 → T b x ≠ 10 → (ms_nb T a &&& ms_nb T b).testBit x = true := by
        intro x e1 e2
        rw [Nat.testBit_and, ms_nb_b K, ms_nb_b K]
        simp [e1, e2]
      have := ms_cnt3 (f := (ms_nb T a &&& ms_nb T b).testBit) (K a v h1).2.1 lts.2.2.1 lts.2.2.2 q1 q2 hcd (key v h1 h2) (key c (cl _ _ n3) n2) (key d n5 (cl _ _ n6))
      have h' : ms_cnt (ms_nb T a &&& ms_nb T b).testBit 10 ≤ 2 := h
      omega
theorem ms_H {T T' : Nat → Nat → Nat} {a b c d : Nat} (cl : ms_cl T) (W : ms_wo T T' a b c d) (com : ∀ v, T a v ≠ 10 → T b v ≠ 10 → v = c ∨ v = d) : T' a b = 10 ∧ T' b a = 10 ∧ (∀ v, T' a v ≠ 10 → T' b v = 10) ∧ (∀ v, T' v a ≠ 10 → T' v b = 10) := by
  refine ⟨ms_wo_z W (Or.inl ⟨rfl, rfl⟩), ms_wo_z W (Or.inr (Or.inr (Or.inr (Or.inl ⟨rfl, rfl⟩)))), ?_, ?_⟩
  · intro v h1
    by_cases h2 : T' b v = 10
    · exact h2
    · exfalso
      have t1 := ms_wo_t W h1
      have t2 := ms_wo_t W h2
      rcases com v t1.2.1 t2.2.1 with q | q
      · exact t2.2.2 (Or.inr (Or.inl ⟨rfl, q⟩))
      · exact t1.2.2 (Or.inr (Or.inr (Or.inr (Or.inr (Or.inl ⟨rfl, q⟩)))))
  · intro v h1
    by_cases h2 : T' v b = 10
    · exact h2
    · exfalso
      have t1 := ms_wo_t W h1
      have t2 := ms_wo_t W h2
      rcases com v (cl _ _ t1.2.1) (cl _ _ t2.2.1) with q | q
      · exact t1.2.2 (Or.inr (Or.inr (Or.inl ⟨q, rfl⟩)))
      · exact t2.2.2 (Or.inr (Or.inr (Or.inr (Or.inr (Or.inr ⟨q, rfl⟩)))))
/-- b handed over to a, up to the arrow b to k -/
def ms_ho (a b : Nat) (T : Nat → Nat → Nat) : Nat → (Nat → Nat → Nat)
  | 0 => T
  | k + 1 => if ms_ho a b T k b k = 10 then ms_ho a b T k else ms_put (ms_drop (ms_ho a b T k) b k (ms_ho a b T k b k)) a k (ms_ho a b T k b k)
theorem ms_ho0 {a b k : Nat} {T : Nat → Nat → Nat} (h : ms_ho a b T k b k = 10) : ms_ho a b T (k + 1) = ms_ho a b T k := by
  show (if ms_ho a b T k b k = 10 then ms_ho a b T k else ms_put (ms_drop (ms_ho a b T k) b k (ms_ho a b T k b k)) a k (ms_ho a b T k b k)) = _
  rw [if_pos h]
theorem ms_ho1 {a b k w : Nat} {T : Nat → Nat → Nat} (h : ms_ho a b T k b k = w) (hw : w ≠ 10) : ms_ho a b T (k + 1) = ms_put (ms_drop (ms_ho a b T k) b k w) a k w := by
  show (if ms_ho a b T k b k = 10 then ms_ho a b T k else ms_put (ms_drop (ms_ho a b T k) b k (ms_ho a b T k b k)) a k (ms_ho a b T k b k)) = _
  rw [h, if_neg hw]
theorem ms_hoR {T0 O0 : Nat → Nat → Nat} {G : Nat → Nat → Nat → Nat → Prop} {a b : Nat} (R0 : ms_R T0 O0 G) (hab : a ≠ b) (ha : a < 10)
    (H : T0 a b = 10 ∧ T0 b a = 10 ∧ (∀ v, T0 a v ≠ 10 → T0 b v = 10) ∧ (∀ v, T0 v a ≠ 10 → T0 v b = 10)) :
    ∀ k, (∃ O, ms_R (ms_ho a b T0 k) O (ms_Gk G a b k)) ∧ ms_cn (ms_ho a b T0 k) = ms_cn T0 := by
  intro k
  induction k with
  | zero => exact ⟨⟨O0, ms_Gk0 a b R0⟩, rfl⟩
  | succ k ih =>
    obtain ⟨⟨O, R⟩, hcn⟩ := ih
    by_cases e : ms_ho a b T0 k b k = 10
    · rw [ms_ho0 e]
      exact ⟨⟨O, ms_hoN R0 R e⟩, hcn⟩
    · have s := ms_hoS R0 hab ha H.1 H.2.1 H.2.2.1 H.2.2.2 R rfl e
      rw [ms_ho1 rfl e]
      exact ⟨s.2.1, s.2.2.trans hcn⟩
theorem ms_xho {post : SX → Prop} {P : Int32} {T0 O0 : Nat → Nat → Nat} {G : Nat → Nat → Nat → Nat → Prop} {a b : Nat} (R0 : ms_R T0 O0 G) (hab : a ≠ b) (ha : a < 10) (hb : b < 10)
    (H : T0 a b = 10 ∧ T0 b a = 10 ∧ (∀ v, T0 a v ≠ 10 → T0 b v = 10) ∧ (∀ v, T0 v a ≠ 10 → T0 v b = 10)) (h : post (P, ms_C (ms_ho a b T0 10))) : wpX_handOver post (P, ms_C T0) (nI b) (nI a) := by
  refine loop_0 (fun n i (s : Nat → Int32) => wX_handOver_2 post (nI b) (nI a) n (nI i) P s) (fun i s => s = ms_C (ms_ho a b T0 i)) 10 (ms_C T0) rfl ?_ ?_
  · intro n s hs
    subst hs
    exact br_t (nI_le (a := 10) (by omega) (by decide)) h
  · intro n i s hi hs ih
    subst hs
    obtain ⟨⟨O, R⟩, _⟩ := ms_hoR R0 hab ha H i
    have K := ms_RK R
    refine br_f (nI_ge (b := 10) hi (by decide)) (ms_xcorN K hb hi ?_)
    by_cases e : ms_ho a b T0 i b i = 10
    · rw [e]
      exact br_t rfl (nm_r (nI_1 i) (ih _ (by rw [ms_ho0 e])))
    · obtain ⟨w, hw⟩ : ∃ w, ms_ho a b T0 i b i = w := ⟨_, rfl⟩
      have w10 : w < 10 := by rw [← hw]; exact (K _ _ e).2.2.1
      rw [hw, ms_e_lt w10]
      refine br_f (ms_n1 (by omega)) (ms_xdrop hb hi w10 ?_)
      dsimp only
      refine ms_xput ha hi w10 ?_
      exact nm_r (nI_1 i) (ih _ (by rw [ms_ho1 hw (Nat.ne_of_lt w10)]))
/-- the list's first k faces with b called a -/
def ms_ra (a b : Nat) (A : Nat → Nat) (k : Nat) : Nat → Nat := fun i => if i < k then ms_rn a b (A i) else A i
theorem ms_ra_at (a b : Nat) (A : Nat → Nat) (i : Nat) : ms_ra a b A i i = A i := if_neg (Nat.lt_irrefl i)
theorem ms_ra_s (a b : Nat) (A : Nat → Nat) (i : Nat) : ms_u (ms_ra a b A i) i (ms_rn a b (A i)) = ms_ra a b A (i + 1) := by
  funext j
  unfold ms_u ms_ra
  by_cases e : j = i
  · subst e; rw [if_pos rfl, if_pos (Nat.lt_succ_self _)]
  · rw [if_neg e]
    by_cases h : j < i
    · rw [if_pos h, if_pos (by omega)]
    · rw [if_neg h, if_neg (by omega)]
theorem ms_ra_up {a b : Nat} (A : Nat → Nat) {i : Nat} (h : i < 16) : upd (ms_N (ms_ra a b A i)) (nI i).toNatClampNeg (nI (ms_rn a b (A i))) = ms_N (ms_ra a b A (i + 1)) := by
  rw [ms_N_up _ h, ms_ra_s]
theorem ms_raF {n a b : Nat} {A B D : Nat → Nat} (i x y z : Nat) : ms_F n (ms_ra a b A n) (ms_ra a b B n) (ms_ra a b D n) i x y z ↔ ms_Gn (ms_F n A B D) a b i x y z := by
  have e : ∀ (E : Nat → Nat), i < n → ms_ra a b E n i = ms_rn a b (E i) := fun E h => if_pos h
  constructor
  · rintro ⟨hi, q⟩
    rw [e A hi, e B hi, e D hi] at q
    rcases q with ⟨q1, q2, q3⟩ | ⟨q1, q2, q3⟩ | ⟨q1, q2, q3⟩
    · exact ⟨A i, B i, D i, ⟨hi, Or.inl ⟨rfl, rfl, rfl⟩⟩, q1.symm, q2.symm, q3.symm⟩
    · exact ⟨B i, D i, A i, ⟨hi, Or.inr (Or.inl ⟨rfl, rfl, rfl⟩)⟩, q1.symm, q2.symm, q3.symm⟩
    · exact ⟨D i, A i, B i, ⟨hi, Or.inr (Or.inr ⟨rfl, rfl, rfl⟩)⟩, q1.symm, q2.symm, q3.symm⟩
  · rintro ⟨x', y', z', ⟨hi, q⟩, e1, e2, e3⟩
    refine ⟨hi, ?_⟩
    rw [e A hi, e B hi, e D hi]
    rcases q with ⟨q1, q2, q3⟩ | ⟨q1, q2, q3⟩ | ⟨q1, q2, q3⟩
    · exact Or.inl ⟨by rw [q1, e1], by rw [q2, e2], by rw [q3, e3]⟩
    · exact Or.inr (Or.inl ⟨by rw [q1, e1], by rw [q2, e2], by rw [q3, e3]⟩)
    · exact Or.inr (Or.inr ⟨by rw [q1, e1], by rw [q2, e2], by rw [q3, e3]⟩)
theorem ms_yren {post : Int32 → SY → Prop} {T O : Nat → Nat → Nat} {n a b : Nat} {A B D : Nat → Nat} (R : ms_R T O (ms_F n A B D)) (hn : n ≤ 16) (ha : a < 10) (hb : b < 10)
    (h : wpY_vertices (fun r => wpY_size (fun r' => post r' (nI n, ms_N (ms_ra a b A n), ms_N (ms_ra a b B n), ms_N (ms_ra a b D n))) (nI n, ms_N (ms_ra a b A n), ms_N (ms_ra a b B n), ms_N (ms_ra a b D n)) r) (nI n, ms_N (ms_ra a b A n), ms_N (ms_ra a b B n), ms_N (ms_ra a b D n))) :
    ∃ m, wY_collapse_49 post (nI a) (nI b) (nI n) m 0 (ms_N A) (ms_N B) (ms_N D) := by
  have z0 : ∀ E : Nat → Nat, ms_ra a b E 0 = E := fun E => by funext j; exact if_neg (Nat.not_lt_zero _)
  have key : ∀ d i, i + d = n → wY_collapse_49 post (nI a) (nI b) (nI n) (d + 1) (nI i) (ms_N (ms_ra a b A i)) (ms_N (ms_ra a b B i)) (ms_N (ms_ra a b D i)) := by
    intro d
    induction d with
    | zero =>
      intro i hi
      have : i = n := by omega
      subst this
      exact br_t (nI_le (Nat.le_refl _) (by omega)) h
    | succ d ih =>
      intro i hi
      have hin : i < n := by omega
      have hi16 : i < 16 := by omega
      have hv : vp_in (nI i) 16 := vp_in_nI hi16 (by decide)
      have f := ms_Fi R hin
      have J := ih (i + 1) (by omega)
      have at1 : ∀ E : Nat → Nat, ms_N (ms_ra a b E i) (nI i).toNatClampNeg = nI (E i) := fun E => by rw [ms_N_at _ hi16, ms_ra_at]
      have bq : ∀ (E : Nat → Nat) (P Q : Prop), E i < 10 → (E i = b → P) → (E i ≠ b → Q) → (ms_N (ms_ra a b E i) (nI i).toNatClampNeg = nI b → P) ∧ (¬ ms_N (ms_ra a b E i) (nI i).toNatClampNeg = nI b → Q) := by
        intro E P Q hE f g
        rw [at1 E, nI_eq (by omega) (by omega)]
        exact ⟨f, g⟩
      have r1 : ∀ E : Nat → Nat, E i = b → nI a = nI (ms_rn a b (E i)) := fun E e => by rw [e, ms_rn_b]
      have r2 : ∀ E : Nat → Nat, E i ≠ b → ms_N (ms_ra a b E i) (nI i).toNatClampNeg = nI (ms_rn a b (E i)) := fun E e => by rw [at1 E, ms_rn_n e]
      have c108 : ∀ w : Int32, w = nI (ms_rn a b (B i)) → wY_collapse_108 post (wY_collapse_49 post (nI a) (nI b) (nI n) (d + 1)) (nI a) (nI b) (nI i) w (nI i) (nI n) (ms_N (ms_ra a b A (i + 1))) (ms_N (ms_ra a b B i)) (ms_N (ms_ra a b D i)) := by
        intro w ew
        subst ew
        refine ⟨hv, nm_r (ms_ra_up B hi16) ⟨hv, bq D _ _ f.2.2.1 (fun e => ⟨hv, nm_r (e' := ms_N (ms_ra a b D (i + 1))) ?_ (nm_r (nI_1 i) J)⟩) (fun e => ⟨hv, hv, nm_r (e' := ms_N (ms_ra a b D (i + 1))) ?_ (nm_r (nI_1 i) J)⟩)⟩⟩
        · rw [← ms_ra_up D hi16, ← r1 D e]
        · rw [← ms_ra_up D hi16, ← r2 D e]
      have c82 : ∀ w : Int32, w = nI (ms_rn a b (A i)) → wY_collapse_82 post (wY_collapse_49 post (nI a) (nI b) (nI n) (d + 1)) (nI a) (nI b) (nI i) w (nI i) (nI n) (ms_N (ms_ra a b A i)) (ms_N (ms_ra a b B i)) (ms_N (ms_ra a b D i)) := by
        intro w ew
        subst ew
        exact ⟨hv, nm_r (ms_ra_up A hi16) ⟨hv, bq B _ _ f.2.1 (fun e => c108 _ (r1 B e)) (fun e => ⟨hv, c108 _ (r2 B e)⟩)⟩⟩
      exact br_f (nI_ge hin (by omega)) ⟨hv, bq A _ _ f.1 (fun e => c82 _ (r1 A e)) (fun e => ⟨hv, c82 _ (r2 A e)⟩)⟩
  have := key n 0 (by omega)
  rw [z0, z0, z0] at this
  exact ⟨n + 1, this⟩
theorem ms_pc_clr {p p' b : Nat} (hp : p < 1024) (hp' : p' < 1024) (hb : b < 10) (h : p.testBit b = true) (e : ∀ x, x < 10 → p'.testBit x = (p.testBit x && decide (x ≠ b))) : ms_pc p = ms_pc p' + 1 := by
  refine ms_cnt_up (f := p'.testBit) (g := p.testBit) (j := b) ?_ h ?_ 10 hb
  · rw [e b hb]; simp
  · intro i hi
    by_cases h10 : i < 10
    · rw [e i h10]; simp [hi]
    · have h1 : 1024 ≤ 2 ^ i := Nat.pow_le_pow_right (n := 2) (by decide) (show 10 ≤ i by omega)
      rw [Nat.testBit_lt_two_pow (by omega), Nat.testBit_lt_two_pow (by omega)]
theorem ms_two {T O : Nat → Nat → Nat} {n : Nat} {A B D : Nat → Nat} {a b : Nat} (R : ms_R T O (ms_F n A B D)) (cl : ms_cl T) (nd : ms_nd T) (e : T a b ≠ 10) : O a b ≠ O b a ∧ ∃ m, n = m + 2 := by
  have K := ms_RK R
  have g0 := R.2.2.1 a b e
  have g1 := R.2.2.1 b a (cl _ _ e)
  have l0 := g0.1
  have l1 := g1.1
  have ne : O a b ≠ O b a := by
    intro q
    rw [q] at g0
    have := R.2.2.2 _ _ _ _ _ _ _ g1 g0
    have kk := K _ _ e
    have nn := nd a b e
    rcases this with w | w | w
    · exact kk.2.2.2.1 w.1
    · exact kk.2.2.2.2.2.1 w.2.2
    · exact nn (w.1.symm ▸ w.2.2 ▸ by omega)
  exact ⟨ne, n - 2, by omega⟩
theorem ms_ccI {T O : Nat → Nat → Nat} {A B D : Nat → Nat} {n p p' a b c d : Nat} (I : ms_Inv T O A B D (n + 2) p) (hc : T a b = c) (hd : T b a = d) (hc10 : c ≠ 10) (cp : ms_cp T p a b) (hp' : p' < 1024) (ep : ∀ x, x < 10 → p'.testBit x = (p.testBit x && decide (x ≠ b))) {f : Nat} (g : ms_F (n + 2) A B D f a b c) :
    ms_drop T a b c b a = d ∧ d ≠ 10 ∧ (∃ O1, ms_R (ms_drop T a b c) O1 (ms_F (n + 1) (ms_u A f (A (n + 1))) (ms_u B f (B (n + 1))) (ms_u D f (D (n + 1))))) ∧
    ∀ f2, ms_F (n + 1) (ms_u A f (A (n + 1))) (ms_u B f (B (n + 1))) (ms_u D f (D (n + 1))) f2 b a d →
    (∃ O2, ms_R (ms_drop (ms_drop T a b c) b a d) O2 (ms_F n (ms_u (ms_u A f (A (n + 1))) f2 (ms_u A f (A (n + 1)) n)) (ms_u (ms_u B f (B (n + 1))) f2 (ms_u B f (B (n + 1)) n)) (ms_u (ms_u D f (D (n + 1))) f2 (ms_u D f (D (n + 1)) n)))) ∧
    ∃ O', ms_Inv (ms_ho a b (ms_drop (ms_drop T a b c) b a d) 10) O' (ms_ra a b (ms_u (ms_u A f (A (n + 1))) f2 (ms_u A f (A (n + 1)) n)) n) (ms_ra a b (ms_u (ms_u B f (B (n + 1))) f2 (ms_u B f (B (n + 1)) n)) n) (ms_ra a b (ms_u (ms_u D f (D (n + 1))) f2 (ms_u D f (D (n + 1)) n)) n) n p' := by
  obtain ⟨R, V, hp, he, hcn⟩ := I
  have K := ms_RK R
  have V' := V
  obtain ⟨cl, nd, vx, co, lk⟩ := V
  obtain ⟨lts, N, Ed, En⟩ := ms_edge K cl nd hc hd hc10
  have lts' := lts
  have N' := N
  have En' := En
  obtain ⟨ha, hb, hcc, hdd⟩ := lts
  obtain ⟨hab, hca, hcb, hda, hdb, hcd⟩ := N
  obtain ⟨tab, tbc, tca, tba, tad, tdb⟩ := Ed
  obtain ⟨n1, n2, n3, n4, n5, n6⟩ := En
  have hba := Ne.symm hab
  have hac := Ne.symm hca
  have hbc := Ne.symm hcb
  have had := Ne.symm hda
  have hbd := Ne.symm hdb
  have hdc := Ne.symm hcd
  have d10 : d ≠ 10 := Nat.ne_of_lt hdd
  obtain ⟨O1, R1⟩ := ms_Rtake R g
  have c1 := ms_cn_drop (T := T) ha hb hcc hab hbc hca n1 n2 n3
  have s1 : ms_drop T a b c b a = d := by simp [ms_drop_e, tba, hab, hac, had, hba, hbc, hbd, hca, hcb, hcd, hda, hdb, hdc]
  have s2 : ms_drop T a b c a d = b := by simp [ms_drop_e, tad, hab, hac, had, hba, hbc, hbd, hca, hcb, hcd, hda, hdb, hdc]
  have s3 : ms_drop T a b c d b = a := by simp [ms_drop_e, tdb, hab, hac, had, hba, hbc, hbd, hca, hcb, hcd, hda, hdb, hdc]
  refine ⟨s1, d10, ⟨O1, R1⟩, ?_⟩
  intro f2 g2
  obtain ⟨O2, R2⟩ := ms_Rtake R1 g2
  refine ⟨⟨O2, R2⟩, ?_⟩
  have c2 := ms_cn_drop (T := ms_drop T a b c) hb ha hdd hba had hdb (by rw [s1]; exact d10) (by rw [s2]; exact Nat.ne_of_lt hb) (by rw [s3]; exact Nat.ne_of_lt ha)
  have com := ms_common K cl cp.2.2 lts' hcd En'
  have H := ms_H cl (ms_wo_i (T := T) (a := a) (b := b) (c := c) (d := d)) com
  obtain ⟨⟨O3, R3⟩, c3⟩ := ms_hoR R2 hab ha H 10
  have R4 := ms_hoE R2 R3
  have bb : p.testBit b = true := (vx b hb).mpr ⟨a, n4⟩
  have pcc := ms_pc_clr hp hp' hb bb ep
  refine ⟨O3, ms_Rcg R4 ms_raF, ms_coV K V' hc hd hc10 rfl R2 R4 com cp.2.1 ?_, hp', ?_, ?_⟩
  · intro x hx
    rw [ep x hx, Bool.and_eq_true, decide_eq_true_eq]
  · omega
  · omega
theorem i_vc_collapse {k : Nat} {u : SX} {v : SY} (I : i_Rel k u v) (hk : k + 4 ≤ 2048) (v1 : Int32) (v2 : Int32) : wpX_collapse (fun r u' => wpY_collapse (fun r' v' => r' = r ∧ i_Rel (k + 4) u' v') v v1 v2) u v1 v2 := by
  have J : i_Rel (k + 4) u v := i_up I
  obtain ⟨T, O, A, B, D, n, p, rfl, rfl, In⟩ := I
  have In' := In
  obtain ⟨R, ⟨cl, nd, vx, co, lk⟩, hp, he, hcn⟩ := In
  have hn := ms_n16 he
  have K := ms_RK R
  unfold wpX_collapse
  dsimp only
  refine ms_xjoin K (fun e => br_t rfl ?_) (fun e => br_f (by decide) ?_)
  · unfold wpY_collapse
    dsimp only
    refine ms_yopp R hn ?_
    rw [e]
    exact br_f (by decide) ⟨rfl, J⟩
  · have E := e
    obtain ⟨a, b, ha, hb, rfl, rfl, ea, eb⟩ := ms_nm K e
    rw [ea, eb] at e
    have e2 := cl _ _ e
    obtain ⟨c, hc⟩ : ∃ c, T a b = c := ⟨_, rfl⟩
    obtain ⟨d, hd⟩ : ∃ d, T b a = d := ⟨_, rfl⟩
    have c10 : c < 10 := by rw [← hc]; exact (K _ _ e).2.2.1
    have d10 : d < 10 := by rw [← hd]; exact (K _ _ e2).2.2.1
    have hc' : c ≠ 10 := Nat.ne_of_lt c10
    have hd' : d ≠ 10 := Nat.ne_of_lt d10
    have hab : a ≠ b := (K _ _ e).2.2.2.1
    refine ms_xcol K hp E (fun z => br_f (by decide) (ms_xcor K (ms_xcor K ?_))) (fun z => br_t rfl ?_)
    · rw [ea, eb] at z
      rw [ea, eb, hc, hd, ms_e_lt c10, ms_e_lt d10]
      refine ms_xdrop ha hb c10 ?_
      dsimp only
      refine ms_xdrop hb ha d10 ?_
      dsimp only
      obtain ⟨oo, m, rfl⟩ := ms_two R cl nd e
      -- the table without the two faces, for the component's own walk
      have lts : a < 10 ∧ b < 10 ∧ c < 10 ∧ d < 10 := ⟨ha, hb, c10, d10⟩
      obtain ⟨_, N, _, En⟩ := ms_edge K cl nd hc hd hc'
      have com := ms_common K cl z.2.2 lts N.2.2.2.2.2 En
      have H := ms_H cl (ms_wo_i (T := T) (a := a) (b := b) (c := c) (d := d)) com
      have g0 := R.2.2.1 a b e
      have g1 := R.2.2.1 b a e2
      rw [hc] at g0
      rw [hd] at g1
      have Rx := ms_Rrm (ms_Rrm R g0) (i := O b a) (x := b) (y := a) (z := d) ⟨g1, Ne.symm oo⟩
      refine ms_xho Rx hab ha hb H ?_
      dsimp only
      obtain ⟨p', hp', es, ep⟩ := ms_clr hp hb
      refine nm_r es (ms_xcb hp' ?_)
      unfold wpY_collapse
      dsimp only
      refine ms_yopp R hn ?_
      rw [ea, eb, hc, ms_e_lt c10]
      refine br_t (nI_pos' (by omega)) (ms_ycol R hn hp cl vx (fun _ => br_f (by decide) (ms_yopp R hn ?_)) (fun z' => absurd (by rw [ea, eb]; exact z) z'))
      rw [ea, eb, hc, ms_e_lt c10]
      refine ms_ytake (n := m + 1) R hn hc hc' (fun f g => ?_)
      dsimp only
      obtain ⟨s1, _, ⟨O1, R1⟩, fin⟩ := ms_ccI In' hc hd hc' z hp' ep g
      refine ms_yopp R1 (by omega) ?_
      rw [ea, eb, s1, ms_e_lt d10]
      refine ms_ytake (n := m) R1 (by omega) s1 hd' (fun f2 g2 => ?_)
      dsimp only
      obtain ⟨⟨O2, R2⟩, O', I'⟩ := fin f2 g2
      refine ms_yren R2 (by omega) ha hb ?_
      refine ms_yvert I'.1 (by omega) hp' I'.2.1.2.2.1 (ms_ysize hp' ?_)
      exact ⟨rfl, _, O', _, _, _, _, _, rfl, rfl, I'⟩
    · unfold wpY_collapse
      dsimp only
      refine ms_yopp R hn ?_
      rw [ea, eb, hc, ms_e_lt c10]
      exact br_t (nI_pos' (by omega)) (ms_ycol R hn hp cl vx (fun z' => absurd z' z) (fun _ => br_t rfl ⟨rfl, J⟩))
end
section
/-! the new object: a tetrahedron -/
def ms_T0 : Nat → Nat → Nat := fun _ _ => 10
def ms_T4 : Nat → Nat → Nat := ms_put (ms_put (ms_put (ms_put ms_T0 0 1 2) 0 2 3) 0 3 1) 1 3 2
theorem ms_T4_a : ∀ x, x < 10 → ∀ y, y < 10 → ms_T4 x y ≠ 10 → ms_T4 y x ≠ 10 ∧ ms_T4 x y ≠ ms_T4 y x ∧ x < 4 ∧ y < 4 := by decide +kernel
theorem ms_T4_b : ∀ x, x < 4 → ∀ y, y < 4 → x ≠ y → ms_T4 x y ≠ 10 := by decide +kernel
theorem ms_T4_d : ∀ w, w < 4 → ∀ y, y < 4 → ms_T4 w y ≠ 10 → ms_T4 w (ms_T4 w y) ≠ 10 := by decide +kernel
theorem ms_T4_c : ∀ w : Fin 4, ∀ y : Fin 4, ∀ z : Fin 4, (ms_T4 w.val y.val ≠ 10 ∧ ms_T4 w.val z.val ≠ 10) → (z.val = y.val ∨ z.val = ms_T4 w.val y.val ∨ z.val = ms_T4 w.val (ms_T4 w.val y.val)) := by decide +kernel
theorem ms_15 : ∀ x, x < 10 → ((15 : Nat).testBit x = true ↔ x < 4) := by decide +kernel
theorem ms_T4V (K : ms_K ms_T4) : ms_V ms_T4 15 := by
  refine ⟨?_, ?_, ?_, ?_, ?_⟩
  · intro x y h
    have k := K x y h
    exact (ms_T4_a x k.1 y k.2.1 h).1
  · intro x y h
    have k := K x y h
    exact (ms_T4_a x k.1 y k.2.1 h).2.1
  · intro x hx
    rw [ms_15 x hx]
    constructor
    · intro h
      by_cases e : x = 0
      · exact ⟨1, ms_T4_b x h 1 (by decide) (by omega)⟩
      · exact ⟨0, ms_T4_b x h 0 (by decide) e⟩
    · rintro ⟨y, h⟩
      have k := K x y h
      exact (ms_T4_a x k.1 y k.2.1 h).2.2.1
  · intro S hS x y x' y' hx hy sx
    have k1 := K x x' hx
    have k2 := K y y' hy
    have l1 := (ms_T4_a x k1.1 x' k1.2.1 hx).2.2.1
    have l2 := (ms_T4_a y k2.1 y' k2.2.1 hy).2.2.1
    by_cases e : x = y
    · rw [← e]; exact sx
    · exact hS x y (ms_T4_b x l1 y l2 e) sx
  · intro w S hS y z hy hz sy
    have k1 := K w y hy
    have k2 := K w z hz
    have l1 := (ms_T4_a w k1.1 y k1.2.1 hy).2.2
    have l2 := (ms_T4_a w k2.1 z k2.2.1 hz).2.2
    have q1 := ms_T4_d w l1.1 y l1.2 hy
    have c : z = y ∨ z = ms_T4 w y ∨ z = ms_T4 w (ms_T4 w y) := ms_T4_c ⟨w, l1.1⟩ ⟨y, l1.2⟩ ⟨z, l2.2⟩ ⟨hy, hz⟩
    rcases c with q | q | q2
    · rw [q]; exact sy
    · rw [q]; exact hS y hy sy
    · rw [q2]; exact hS _ q1 (hS y hy sy)
theorem ms_T0R : ms_R ms_T0 (fun _ _ => 0) (ms_F 0 (fun _ => 0) (fun _ => 0) (fun _ => 0)) := by
  refine ⟨?_, ?_, ?_, ?_⟩
  · intro i x y z g
    exact absurd g.1 (Nat.not_lt_zero _)
  · intro i x y z g
    exact absurd g.1 (Nat.not_lt_zero _)
  · intro x y h
    exact absurd rfl h
  · intro i x y z x' y' z' g
    exact absurd g.1 (Nat.not_lt_zero _)
def ms_A4 : Nat → Nat := ms_u (ms_u (ms_u (ms_u (fun _ => 0) 0 0) 1 0) 2 0) 3 1
def ms_B4 : Nat → Nat := ms_u (ms_u (ms_u (ms_u (fun _ => 0) 0 1) 1 2) 2 3) 3 3
def ms_D4 : Nat → Nat := ms_u (ms_u (ms_u (ms_u (fun _ => 0) 0 2) 1 3) 2 1) 3 2
theorem ms_init : ∃ O, ms_Inv ms_T4 O ms_A4 ms_B4 ms_D4 4 15 := by
  have c0 : ms_cn ms_T0 = 0 := ms_cnt_0 100 (fun i _ => rfl)
  obtain ⟨O1, R1⟩ := ms_Rput ms_T0R (x := 0) (y := 1) (z := 2) (by decide) (by decide) (by decide) (by decide) (by decide) (by decide) rfl rfl rfl
  have c1 := ms_cn_put (T := ms_T0) (x := 0) (y := 1) (z := 2) (by decide) (by decide) (by decide) (by decide) (by decide) (by decide) rfl rfl rfl
  obtain ⟨O2, R2⟩ := ms_Rput R1 (x := 0) (y := 2) (z := 3) (by decide) (by decide) (by decide) (by decide) (by decide) (by decide) rfl rfl rfl
  have c2 := ms_cn_put (T := ms_put ms_T0 0 1 2) (x := 0) (y := 2) (z := 3) (by decide) (by decide) (by decide) (by decide) (by decide) (by decide) rfl rfl rfl
  obtain ⟨O3, R3⟩ := ms_Rput R2 (x := 0) (y := 3) (z := 1) (by decide) (by decide) (by decide) (by decide) (by decide) (by decide) rfl rfl rfl
  have c3 := ms_cn_put (T := ms_put (ms_put ms_T0 0 1 2) 0 2 3) (x := 0) (y := 3) (z := 1) (by decide) (by decide) (by decide) (by decide) (by decide) (by decide) rfl rfl rfl
  obtain ⟨O4, R4⟩ := ms_Rput R3 (x := 1) (y := 3) (z := 2) (by decide) (by decide) (by decide) (by decide) (by decide) (by decide) rfl rfl rfl
  have c4 := ms_cn_put (T := ms_put (ms_put (ms_put ms_T0 0 1 2) 0 2 3) 0 3 1) (x := 1) (y := 3) (z := 2) (by decide) (by decide) (by decide) (by decide) (by decide) (by decide) rfl rfl rfl
  refine ⟨O4, R4, ms_T4V (ms_RK R4), by decide, by decide, ?_⟩
  show ms_cn (ms_put (ms_put (ms_put (ms_put ms_T0 0 1 2) 0 2 3) 0 3 1) 1 3 2) = _
  omega
theorem ms_xinit {post : SX → Prop} (h : post (nI 15, ms_C ms_T4)) : wpX_init post := by
  refine loop_0 (fun m i (s : Nat → Int32) => wX_init_14 post 0 m (nI i) s) (fun i s => s = fun j => if j < i then -1 else 0) 100 (fun _ => 0) ?_ ?_ ?_
  · funext j
    exact (if_neg (Nat.not_lt_zero _)).symm
  · intro m s hs
    have : s = ms_C ms_T0 := hs
    subst this
    refine br_t (nI_le (a := 100) (by omega) (by decide)) ?_
    refine ms_xput (P := nI 15) (T := ms_T0) (a := 0) (b := 1) (c := 2) (by decide) (by decide) (by decide) ?_
    refine ms_xput (P := nI 15) (a := 0) (b := 2) (c := 3) (by decide) (by decide) (by decide) ?_
    refine ms_xput (P := nI 15) (a := 0) (b := 3) (c := 1) (by decide) (by decide) (by decide) ?_
    refine ms_xput (P := nI 15) (a := 1) (b := 3) (c := 2) (by decide) (by decide) (by decide) ?_
    exact h
  · intro m i s hi hs ih
    subst hs
    refine br_f (nI_ge (b := 100) hi (by decide)) ⟨vp_in_nI hi (by decide), nm_e (nm_r (nI_1 i) (ih _ ?_))⟩
    rw [nI_clamp (by omega)]
    funext j
    unfold upd
    by_cases e : j = i
    · rw [if_pos e, if_pos (by omega)]
    · rw [if_neg e]
      show (if j < i then (-1 : Int32) else 0) = _
      by_cases h : j < i
      · rw [if_pos h, if_pos (by omega)]
      · rw [if_neg h, if_neg (by omega)]
theorem ms_yinit {post : SY → Prop} (h : post (nI 4, ms_N ms_A4, ms_N ms_B4, ms_N ms_D4)) : wpY_init post := by
  refine ms_yput (n := 0) (A := fun _ => 0) (B := fun _ => 0) (D := fun _ => 0) (x := 0) (y := 1) (z := 2) (by decide) ?_
  refine ms_yput (n := 1) (x := 0) (y := 2) (z := 3) (by decide) ?_
  refine ms_yput (n := 2) (x := 0) (y := 3) (z := 1) (by decide) ?_
  refine ms_yput (n := 3) (x := 1) (y := 3) (z := 2) (by decide) ?_
  exact h
theorem i_vc0 : wpX_init (fun u => wpY_init (fun v => i_Rel 0 u v)) := by
  obtain ⟨O, I⟩ := ms_init
  exact ms_xinit (ms_yinit ⟨ms_T4, O, ms_A4, ms_B4, ms_D4, 4, 15, rfl, rfl, I⟩)
end
