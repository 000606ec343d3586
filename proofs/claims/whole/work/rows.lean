section
/-! rows pasted from the kit's rows to paste (numbers, bits) -/
theorem pk_us {f : Nat → Int32} {k : Nat} {x : Int32} : upd f k x k = x := if_pos rfl
theorem pk_un {f : Nat → Int32} {k j : Nat} {x : Int32} (h : j ≠ k) : upd f k x j = f j := if_neg h
theorem pk_sub {a b : Nat} (h : b ≤ a) : nI a - nI b = nI (a - b) := by
  obtain ⟨c, rfl⟩ : ∃ c, a = c + b := ⟨a - b, by omega⟩
  rw [← nI_add, Int32.add_sub_cancel, Nat.add_sub_cancel]
theorem pk_m1 (n : Nat) : nI (n + 1) + (-1) = nI n := by
  rw [← nI_1, Int32.add_assoc, show (1 : Int32) + (-1) = 0 from rfl, Int32.add_zero]
theorem pk_mul (a b : Nat) : nI a * nI b = nI (a * b) := (Int32.ofNat_mul a b).symm
theorem pk_div {a d : Nat} (ha : a < 2 ^ 31) (h0 : 0 < d) (hd : d < 2 ^ 31) : nI a / nI d = nI (a / d) := by
  apply Int32.toInt_inj.mp
  rw [lg_idiv_nonneg (by rw [nI_toInt ha]; omega) (by rw [nI_toInt hd]; omega), nI_toInt ha, nI_toInt hd, nI_toInt (Nat.lt_of_le_of_lt (Nat.div_le_self a d) ha)]
  first | rfl | exact (Int.natCast_ediv _ _).symm
theorem pk_rem {a d : Nat} (ha : a < 2 ^ 31) (h0 : 0 < d) (hd : d < 2 ^ 31) : nI a - nI a / nI d * nI d = nI (a % d) := by
  rw [pk_div ha h0 hd, pk_mul, pk_sub (Nat.div_mul_le_self a d)]
  exact congrArg nI (by have := Nat.div_add_mod' a d; omega)
theorem pk_ix (x : Int32) {n : Nat} (hn : n < 2 ^ 31) : x < 0 ∨ nI n ≤ x ∨ ∃ j : Nat, j < n ∧ x = nI j := by
  by_cases h : x < 0
  · exact Or.inl h
  · obtain ⟨j, hj, rfl⟩ := nI_of h
    by_cases h2 : j < n
    · exact Or.inr (Or.inr ⟨j, h2, rfl⟩)
    · exact Or.inr (Or.inl (nI_le (by omega) hj))
theorem pk_le {x y : Int32} {A B : Prop} (a b : Nat) (f : a ≤ b → A) (g : b < a → B) (hx : x = nI a := by rfl) (hy : y = nI b := by rfl) (ha : a < 2 ^ 31 := by omega) (hb : b < 2 ^ 31 := by omega) : (x ≤ y → A) ∧ (¬ x ≤ y → B) := by
  subst hx hy
  rw [nI_leI ha hb]
  exact ⟨f, fun z => g (by omega)⟩
theorem pk_lt {x y : Int32} {A B : Prop} (a b : Nat) (f : a < b → A) (g : b ≤ a → B) (hx : x = nI a := by rfl) (hy : y = nI b := by rfl) (ha : a < 2 ^ 31 := by omega) (hb : b < 2 ^ 31 := by omega) : (x < y → A) ∧ (¬ x < y → B) := by
  subst hx hy
  rw [nI_ltI ha hb]
  exact ⟨f, fun z => g (by omega)⟩
theorem pk_eq {x y : Int32} {A B : Prop} (a b : Nat) (f : a = b → A) (g : a ≠ b → B) (hx : x = nI a := by rfl) (hy : y = nI b := by rfl) (ha : a < 2 ^ 31 := by omega) (hb : b < 2 ^ 31 := by omega) : (x = y → A) ∧ (¬ x = y → B) := by
  subst hx hy
  rw [nI_eq ha hb]
  exact ⟨f, g⟩
theorem pk_in {x : Int32} (n N : Nat) (h : n < N) (hx : x = nI n := by rfl) (hN : N < 2 ^ 31 := by omega) : vp_in x N := by
  subst hx
  exact vp_in_nI h hN
theorem pk_cl {x : Int32} (n : Nat) (hx : x = nI n := by rfl) (h : n < 2 ^ 31 := by omega) : x.toNatClampNeg = n := by
  subst hx
  exact nI_clamp h
theorem pk_tn {n : Nat} (h : n < 2 ^ 32) : (nI n).toBitVec.toNat = n := Nat.mod_eq_of_lt h
theorem pk_and (x : Int32) {m : Int32} (k : Nat) (hm : m.toBitVec.toNat = 2 ^ k - 1) : x &&& m = nI (x.toBitVec.toNat % 2 ^ k) := by
  apply Int32.toBitVec_inj.mp
  apply BitVec.eq_of_toNat_eq
  rw [Int32.toBitVec_and, BitVec.toNat_and, hm, Nat.and_two_pow_sub_one_eq_mod]
  show _ = (BitVec.ofNat 32 _).toNat
  rw [BitVec.toNat_ofNat]
  exact (Nat.mod_eq_of_lt (Nat.lt_of_le_of_lt (Nat.mod_le _ _) x.toBitVec.isLt)).symm
theorem pk_andN {n : Nat} (h : n < 2 ^ 32) {m : Int32} (k : Nat) (hm : m.toBitVec.toNat = 2 ^ k - 1) : nI n &&& m = nI (n % 2 ^ k) := by
  rw [pk_and _ k hm, pk_tn h]
theorem pk_shl (a s : Int32) (k : Nat) (hs : (s.toBitVec.smod 32).toNat = k) : (a <<< s).toBitVec.toNat = a.toBitVec.toNat * 2 ^ k % 2 ^ 32 := by
  show (a.toBitVec <<< (s.toBitVec.smod 32).toNat).toNat = _
  rw [hs, BitVec.toNat_shiftLeft, Nat.shiftLeft_eq]
theorem pk_shlN {n : Nat} (s : Int32) (k : Nat) (hs : (s.toBitVec.smod 32).toNat = k) (h : n * 2 ^ k < 2 ^ 32) : nI n <<< s = nI (n * 2 ^ k) := by
  apply Int32.toBitVec_inj.mp
  apply BitVec.eq_of_toNat_eq
  have hn : n < 2 ^ 32 := Nat.lt_of_le_of_lt (Nat.le_mul_of_pos_right n (Nat.two_pow_pos k)) h
  rw [pk_shl _ _ k hs, pk_tn hn, pk_tn h, Nat.mod_eq_of_lt h]
theorem pk_shr (a s : Int32) (k : Nat) (hs : (s.toBitVec.smod 32).toNat = k) : (a >>> s).toInt = a.toInt >>> k := by
  show (a.toBitVec.sshiftRight (s.toBitVec.smod 32).toNat).toInt = _
  rw [hs, BitVec.toInt_sshiftRight]
  rfl
theorem pk_shrN {n : Nat} (h : n < 2 ^ 31) (s : Int32) (k : Nat) (hs : (s.toBitVec.smod 32).toNat = k) : nI n >>> s = nI (n / 2 ^ k) := by
  apply Int32.toInt_inj.mp
  have h2 : n / 2 ^ k ≤ n := Nat.div_le_self _ _
  rw [pk_shr _ _ k hs, nI_toInt h, nI_toInt (by omega), Int.shiftRight_eq_div_pow]
  rfl
theorem s_l : ∀ n, n < 32 → ((nI n &&& 31).toBitVec.smod 32).toNat = n := by decide +kernel
theorem nx_and (a b : Nat) : nI a &&& nI b = nI (a &&& b) := by
  apply Int32.toBitVec_inj.1
  show BitVec.ofNat 32 a &&& BitVec.ofNat 32 b = BitVec.ofNat 32 (a &&& b)
  apply BitVec.eq_of_getLsbD_eq
  intro i hi
  simp [hi]
theorem nx_xor (a b : Nat) : nI a ^^^ nI b = nI (a ^^^ b) := by
  apply Int32.toBitVec_inj.1
  show BitVec.ofNat 32 a ^^^ BitVec.ofNat 32 b = BitVec.ofNat 32 (a ^^^ b)
  apply BitVec.eq_of_getLsbD_eq
  intro i hi
  simp [hi]
/-! own rows: numbers -/
theorem ms_or (a b : Nat) : nI a ||| nI b = nI (a ||| b) := by
  apply Int32.toBitVec_inj.1
  show BitVec.ofNat 32 a ||| BitVec.ofNat 32 b = BitVec.ofNat 32 (a ||| b)
  apply BitVec.eq_of_getLsbD_eq
  intro i hi
  simp [hi]
theorem ms_sh {v : Nat} (h : v < 10) : (1 : Int32) <<< (nI v &&& 31) = nI (2 ^ v) := by
  have e : nI 1 <<< (nI v &&& 31) = nI (1 * 2 ^ v) := pk_shlN _ v (s_l v (by omega)) (by
    have : 2 ^ v < 2 ^ 10 := Nat.pow_lt_pow_right (by decide) h
    omega)
  rw [Nat.one_mul] at e
  exact e
theorem ms_bit {s v : Nat} (hs : s < 1024) (hv : v < 10) : (nI s >>> (nI v &&& 31)) &&& 1 = nI (s / 2 ^ v % 2) := by
  rw [pk_shrN (by omega) _ v (s_l v (by omega))]
  exact pk_andN (m := 1) (Nat.lt_of_le_of_lt (Nat.div_le_self _ _) (by omega)) 1 (by decide)
theorem ms_bit_t {s v : Nat} (hs : s < 1024) (hv : v < 10) (h : s.testBit v = true) : (nI s >>> (nI v &&& 31)) &&& 1 = nI 1 := by
  rw [ms_bit hs hv]
  rw [Nat.testBit_eq_decide_div_mod_eq, decide_eq_true_eq] at h
  rw [h]
theorem ms_bit_f {s v : Nat} (hs : s < 1024) (hv : v < 10) (h : s.testBit v = false) : (nI s >>> (nI v &&& 31)) &&& 1 = nI 0 := by
  rw [ms_bit hs hv]
  rw [Nat.testBit_eq_decide_div_mod_eq, decide_eq_false_iff_not] at h
  have : s / 2 ^ v % 2 = 0 := by omega
  rw [this]
theorem ms_01 : ¬ nI 0 = 1 := by decide
theorem ms_10 : ¬ nI 1 = 0 := by decide
theorem ms_n1 {j : Nat} (h : j < 2 ^ 31) : ¬ nI j = -1 := by
  intro e
  have := nI_pos h
  rw [e] at this
  exact this (by decide)
theorem ms_n2 {j : Nat} (h : j < 2 ^ 31) : ¬ nI j = -2 := by
  intro e
  have := nI_pos h
  rw [e] at this
  exact this (by decide)
theorem ms_lt {s t : Nat} (hs : s < 1024) (ht : t < 1024) : s ||| t < 1024 := Nat.or_lt_two_pow (n := 10) hs ht
theorem ms_pow {v : Nat} (h : v < 10) : 2 ^ v < 1024 := by
  have : 2 ^ v < 2 ^ 10 := Nat.pow_lt_pow_right (by decide) h
  exact this
theorem ms_tb2 (v x : Nat) : (2 ^ v).testBit x = decide (v = x) := Nat.testBit_two_pow
theorem ms_ext {s t : Nat} (hs : s < 1024) (ht : t < 1024) (h : ∀ x, x < 10 → s.testBit x = t.testBit x) : s = t := by
  apply Nat.eq_of_testBit_eq
  intro i
  by_cases hi : i < 10
  · exact h i hi
  · have h1 : 1024 ≤ 2 ^ i := Nat.pow_le_pow_right (n := 2) (by decide) (show 10 ≤ i by omega)
    rw [Nat.testBit_lt_two_pow (by omega), Nat.testBit_lt_two_pow (by omega)]
/-- counts -/
def ms_cnt (f : Nat → Bool) : Nat → Nat
  | 0 => 0
  | k + 1 => ms_cnt f k + (if f k = true then 1 else 0)
theorem ms_cnt_le (f : Nat → Bool) : ∀ k, ms_cnt f k ≤ k := by
  intro k
  induction k with
  | zero => exact Nat.le_refl _
  | succ k ih => unfold ms_cnt; split <;> omega
theorem ms_cnt_cg {f g : Nat → Bool} : ∀ k, (∀ i, i < k → f i = g i) → ms_cnt f k = ms_cnt g k := by
  intro k
  induction k with
  | zero => intro _; rfl
  | succ k ih => intro h; unfold ms_cnt; rw [ih (fun i hi => h i (by omega)), h k (by omega)]
theorem ms_cnt_up {f g : Nat → Bool} {j : Nat} (hf : f j = false) (hg : g j = true) (h : ∀ i, i ≠ j → g i = f i) : ∀ k, j < k → ms_cnt g k = ms_cnt f k + 1 := by
  intro k
  induction k with
  | zero => intro hj; omega
  | succ k ih =>
    intro hj
    unfold ms_cnt
    by_cases e : j = k
    · subst e
      rw [ms_cnt_cg (f := g) (g := f) j (fun i hi => h i (by omega)), hf, hg]
      simp
    · rw [ih (by omega), h k (by omega)]
      omega
theorem ms_cnt_full {f : Nat → Bool} {j : Nat} (hf : f j = false) : ∀ k, j < k → ms_cnt f k < k := by
  intro k
  induction k with
  | zero => intro hj; omega
  | succ k ih =>
    intro hj
    unfold ms_cnt
    by_cases e : j = k
    · subst e
      have := ms_cnt_le f j
      rw [hf]; simp; omega
    · have := ih (by omega)
      split <;> omega
theorem ms_cnt_mono {f g : Nat → Bool} (h : ∀ i, f i = true → g i = true) : ∀ k, ms_cnt f k ≤ ms_cnt g k := by
  intro k
  induction k with
  | zero => exact Nat.le_refl _
  | succ k ih =>
    unfold ms_cnt
    by_cases e : f k = true
    · rw [if_pos e, if_pos (h k e)]; omega
    · rw [if_neg e]; omega
theorem ms_cnt_gr {f g : Nat → Bool} {j : Nat} (h : ∀ i, f i = true → g i = true) (hf : f j = false) (hg : g j = true) : ∀ k, j < k → ms_cnt f k + 1 ≤ ms_cnt g k := by
  intro k
  induction k with
  | zero => intro hj; omega
  | succ k ih =>
    intro hj
    unfold ms_cnt
    by_cases e : j = k
    · subst e
      rw [hf, hg]
      have := ms_cnt_mono h j
      simp; omega
    · have := ih (by omega)
      by_cases e2 : f k = true
      · rw [if_pos e2, if_pos (h k e2)]; omega
      · rw [if_neg e2]; omega
def ms_pc (s : Nat) : Nat := ms_cnt s.testBit 10
theorem ms_pc_le (s : Nat) : ms_pc s ≤ 10 := ms_cnt_le _ _
theorem ms_pc_or {p v : Nat} (hv : v < 10) (h : p.testBit v = false) : ms_pc (p ||| 2 ^ v) = ms_pc p + 1 := by
  unfold ms_pc
  refine ms_cnt_up (j := v) h ?_ ?_ 10 hv
  · rw [Nat.testBit_or, ms_tb2]; simp
  · intro i hi
    rw [Nat.testBit_or, ms_tb2]
    simp [Ne.symm hi]
end
section
/-! the pure mesh: T x y is the vertex opposite the arrow x to y, or 10 -/
def ms_up (T : Nat → Nat → Nat) (a b c : Nat) : Nat → Nat → Nat := fun x y => if x = a ∧ y = b then c else T x y
def ms_put (T : Nat → Nat → Nat) (a b c : Nat) : Nat → Nat → Nat := ms_up (ms_up (ms_up T a b c) b c a) c a b
def ms_drop (T : Nat → Nat → Nat) (a b c : Nat) : Nat → Nat → Nat := ms_up (ms_up (ms_up T a b 10) b c 10) c a 10
theorem ms_put_e (T : Nat → Nat → Nat) (a b c x y : Nat) : ms_put T a b c x y = if x = c ∧ y = a then b else if x = b ∧ y = c then a else if x = a ∧ y = b then c else T x y := rfl
theorem ms_drop_e (T : Nat → Nat → Nat) (a b c x y : Nat) : ms_drop T a b c x y = if x = c ∧ y = a then 10 else if x = b ∧ y = c then 10 else if x = a ∧ y = b then 10 else T x y := rfl
theorem ms_up3_e (T : Nat → Nat → Nat) (a b c i x y : Nat) : ms_up (ms_up (ms_up T a b i) b c i) c a i x y = if x = c ∧ y = a then i else if x = b ∧ y = c then i else if x = a ∧ y = b then i else T x y := rfl
/-- G i x y z: face i is (x, y, z) or a turn of it; T is its table, O the owner of an arrow -/
def ms_R (T O : Nat → Nat → Nat) (G : Nat → Nat → Nat → Nat → Prop) : Prop :=
  (∀ i x y z, G i x y z → G i y z x) ∧ (∀ i x y z, G i x y z → T x y = z ∧ O x y = i ∧ x < 10 ∧ x ≠ y)
  ∧ (∀ x y, T x y ≠ 10 → G (O x y) x y (T x y))
  ∧ (∀ i x y z x' y' z', G i x y z → G i x' y' z' → (x' = x ∧ y' = y ∧ z' = z) ∨ (x' = y ∧ y' = z ∧ z' = x) ∨ (x' = z ∧ y' = x ∧ z' = y))
/-- what each arrow says of its face -/
def ms_K (T : Nat → Nat → Nat) : Prop :=
  ∀ x y, T x y ≠ 10 → x < 10 ∧ y < 10 ∧ T x y < 10 ∧ x ≠ y ∧ T x y ≠ x ∧ T x y ≠ y ∧ T y (T x y) = x ∧ T (T x y) x = y
theorem ms_RK {T O : Nat → Nat → Nat} {G : Nat → Nat → Nat → Nat → Prop} (h : ms_R T O G) : ms_K T := by
  obtain ⟨h1, h2, h3, h4⟩ := h
  intro x y hxy
  have g1 := h3 x y hxy
  have g2 := h1 _ _ _ _ g1
  have g3 := h1 _ _ _ _ g2
  have f1 := h2 _ _ _ _ g1
  have f2 := h2 _ _ _ _ g2
  have f3 := h2 _ _ _ _ g3
  exact ⟨f1.2.2.1, f2.2.2.1, f3.2.2.1, f1.2.2.2, f3.2.2.2, Ne.symm f2.2.2.2, f2.1, f3.1⟩
theorem ms_Rrm {T O : Nat → Nat → Nat} {G : Nat → Nat → Nat → Nat → Prop} (h : ms_R T O G) {i x y z : Nat} (g1 : G i x y z) : ms_R (ms_drop T x y z) O (fun j x' y' z' => G j x' y' z' ∧ j ≠ i) := by
  obtain ⟨h1, h2, h3, h4⟩ := h
  have g2 := h1 _ _ _ _ g1
  have g3 := h1 _ _ _ _ g2
  have f1 := h2 _ _ _ _ g1
  have f2 := h2 _ _ _ _ g2
  have f3 := h2 _ _ _ _ g3
  refine ⟨?_, ?_, ?_, ?_⟩
  · rintro j a b c ⟨g, hj⟩
    exact ⟨h1 _ _ _ _ g, hj⟩
  · rintro j a b c ⟨g, hj⟩
    have f := h2 _ _ _ _ g
    rw [ms_drop_e]
    clear h1 h2 h3 h4 g1 g2 g3 g
    grind
  · intro a b hab
    rw [ms_drop_e] at hab ⊢
    have hT : T a b ≠ 10 ∧ ¬ (a = x ∧ b = y) ∧ ¬ (a = y ∧ b = z) ∧ ¬ (a = z ∧ b = x) := by
      clear h1 h2 h3 h4 g1 g2 g3 f1 f2 f3
      grind
    obtain ⟨hT, n1, n2, n3⟩ := hT
    rw [if_neg n3, if_neg n2, if_neg n1]
    refine ⟨h3 a b hT, fun e => ?_⟩
    have g := h3 a b hT
    rw [e] at g
    rcases h4 _ _ _ _ _ _ _ g1 g with q | q | q
    · exact n1 ⟨q.1, q.2.1⟩
    · exact n2 ⟨q.1, q.2.1⟩
    · exact n3 ⟨q.1, q.2.1⟩
  · rintro j a b c a' b' c' ⟨g, hj⟩ ⟨g', hj'⟩
    exact h4 _ _ _ _ _ _ _ g g'
theorem ms_Rad {T O : Nat → Nat → Nat} {G : Nat → Nat → Nat → Nat → Prop} (h : ms_R T O G) {i x y z : Nat} (hi : ∀ a b c, ¬ G i a b c)
    (hx : x < 10) (hy : y < 10) (hz : z < 10) (hxy : x ≠ y) (hyz : y ≠ z) (hzx : z ≠ x) (txy : T x y = 10) (tyz : T y z = 10) (tzx : T z x = 10) :
    ms_R (ms_put T x y z) (ms_up (ms_up (ms_up O x y i) y z i) z x i) (fun j a b c => G j a b c ∨ (j = i ∧ ((a = x ∧ b = y ∧ c = z) ∨ (a = y ∧ b = z ∧ c = x) ∨ (a = z ∧ b = x ∧ c = y)))) := by
  obtain ⟨h1, h2, h3, h4⟩ := h
  have hG : ∀ j a b c, G j a b c → c ≠ 10 := by
    intro j a b c g
    have := (h2 _ _ _ _ (h1 _ _ _ _ (h1 _ _ _ _ g))).2.2.1
    omega
  refine ⟨?_, ?_, ?_, ?_⟩
  · rintro j a b c (g | ⟨hj, q⟩)
    · exact Or.inl (h1 _ _ _ _ g)
    · refine Or.inr ⟨hj, ?_⟩
      rcases q with ⟨q1, q2, q3⟩ | ⟨q1, q2, q3⟩ | ⟨q1, q2, q3⟩
      · exact Or.inr (Or.inl ⟨q2, q3, q1⟩)
      · exact Or.inr (Or.inr ⟨q2, q3, q1⟩)
      · exact Or.inl ⟨q2, q3, q1⟩
  · rintro j a b c (g | ⟨hj, q⟩)
    · have f := h2 _ _ _ _ g
      have g10 := hG _ _ _ _ g
      rw [ms_put_e, ms_up3_e]
      clear h1 h2 h3 h4 hG g hi
      grind
    · rw [ms_put_e, ms_up3_e]
      clear h1 h2 h3 h4 hG hi
      grind
  · intro a b hab
    rw [ms_put_e, ms_up3_e] at *
    by_cases n3 : a = z ∧ b = x
    · rw [if_pos n3, if_pos n3]; exact Or.inr ⟨rfl, Or.inr (Or.inr ⟨n3.1, n3.2, rfl⟩)⟩
    · rw [if_neg n3] at hab
      rw [if_neg n3, if_neg n3]
      by_cases n2 : a = y ∧ b = z
      · rw [if_pos n2, if_pos n2]; exact Or.inr ⟨rfl, Or.inr (Or.inl ⟨n2.1, n2.2, rfl⟩)⟩
      · rw [if_neg n2] at hab
        rw [if_neg n2, if_neg n2]
        by_cases n1 : a = x ∧ b = y
        · rw [if_pos n1, if_pos n1]; exact Or.inr ⟨rfl, Or.inl ⟨n1.1, n1.2, rfl⟩⟩
        · rw [if_neg n1] at hab
          rw [if_neg n1, if_neg n1]
          exact Or.inl (h3 a b hab)
  · rintro j a b c a' b' c' (g | ⟨hj, q⟩) (g' | ⟨hj', q'⟩)
    · exact h4 _ _ _ _ _ _ _ g g'
    · subst hj'; exact absurd g (hi _ _ _)
    · subst hj; exact absurd g' (hi _ _ _)
    · clear h1 h2 h3 h4 hG hi txy tyz tzx hx hy hz hxy hyz hzx hj hj'
      rcases q with ⟨rfl, rfl, rfl⟩ | ⟨rfl, rfl, rfl⟩ | ⟨rfl, rfl, rfl⟩
      · exact q'
      · rcases q' with q' | q' | q'
        · exact Or.inr (Or.inr q')
        · exact Or.inl q'
        · exact Or.inr (Or.inl q')
      · rcases q' with q' | q' | q'
        · exact Or.inr (Or.inl q')
        · exact Or.inr (Or.inr q')
        · exact Or.inl q'
theorem ms_Rmv {T O : Nat → Nat → Nat} {G : Nat → Nat → Nat → Nat → Prop} (h : ms_R T O G) {i j : Nat} (hi : ∀ a b c, ¬ G i a b c) :
    ms_R T (fun x y => if O x y = j then i else O x y) (fun k a b c => (G k a b c ∧ k ≠ j) ∨ (k = i ∧ G j a b c)) := by
  obtain ⟨h1, h2, h3, h4⟩ := h
  refine ⟨?_, ?_, ?_, ?_⟩
  · rintro k a b c (⟨g, q⟩ | ⟨q, g⟩)
    · exact Or.inl ⟨h1 _ _ _ _ g, q⟩
    · exact Or.inr ⟨q, h1 _ _ _ _ g⟩
  · rintro k a b c (⟨g, q⟩ | ⟨q, g⟩)
    · have f := h2 _ _ _ _ g
      refine ⟨f.1, ?_, f.2.2⟩
      show (if O a b = j then i else O a b) = k
      rw [if_neg (by omega)]; exact f.2.1
    · have f := h2 _ _ _ _ g
      refine ⟨f.1, ?_, f.2.2⟩
      show (if O a b = j then i else O a b) = k
      rw [if_pos f.2.1]; exact q.symm
  · intro a b hab
    have g := h3 a b hab
    by_cases e : O a b = j
    · show ((G (if O a b = j then i else O a b) a b (T a b) ∧ (if O a b = j then i else O a b) ≠ j) ∨ ((if O a b = j then i else O a b) = i ∧ G j a b (T a b)))
      rw [if_pos e]
      rw [e] at g
      exact Or.inr ⟨rfl, g⟩
    · show ((G (if O a b = j then i else O a b) a b (T a b) ∧ (if O a b = j then i else O a b) ≠ j) ∨ ((if O a b = j then i else O a b) = i ∧ G j a b (T a b)))
      rw [if_neg e]
      exact Or.inl ⟨g, e⟩
  · rintro k a b c a' b' c' (⟨g, q⟩ | ⟨q, g⟩) (⟨g', q'⟩ | ⟨q', g'⟩)
    · exact h4 _ _ _ _ _ _ _ g g'
    · subst q'; exact absurd g (hi _ _ _)
    · subst q; exact absurd g' (hi _ _ _)
    · exact h4 _ _ _ _ _ _ _ g g'
theorem ms_Rcg {T O : Nat → Nat → Nat} {G G' : Nat → Nat → Nat → Nat → Prop} (h : ms_R T O G) (e : ∀ i a b c, G' i a b c ↔ G i a b c) : ms_R T O G' := by
  have : G' = G := by funext i a b c; exact propext (e i a b c)
  rw [this]; exact h
/-- the list's faces -/
def ms_F (n : Nat) (A B D : Nat → Nat) (i x y z : Nat) : Prop :=
  i < n ∧ ((A i = x ∧ B i = y ∧ D i = z) ∨ (B i = x ∧ D i = y ∧ A i = z) ∨ (D i = x ∧ A i = y ∧ B i = z))
def ms_u (A : Nat → Nat) (k v : Nat) : Nat → Nat := fun j => if j = k then v else A j
theorem ms_us (A : Nat → Nat) (k v : Nat) : ms_u A k v k = v := if_pos rfl
theorem ms_un (A : Nat → Nat) {k j v : Nat} (h : j ≠ k) : ms_u A k v j = A j := if_neg h
theorem ms_rot3 {a b c x y z : Nat} : ((x = a ∧ y = b ∧ z = c) ∨ (y = a ∧ z = b ∧ x = c) ∨ (z = a ∧ x = b ∧ y = c)) ↔ ((a = x ∧ b = y ∧ c = z) ∨ (a = y ∧ b = z ∧ c = x) ∨ (a = z ∧ b = x ∧ c = y)) :=
  ⟨fun q => q.elim (fun q => Or.inl ⟨q.1.symm, q.2.1.symm, q.2.2.symm⟩) (fun q => q.elim (fun q => Or.inr (Or.inl ⟨q.1.symm, q.2.1.symm, q.2.2.symm⟩)) (fun q => Or.inr (Or.inr ⟨q.1.symm, q.2.1.symm, q.2.2.symm⟩))),
   fun q => q.elim (fun q => Or.inl ⟨q.1.symm, q.2.1.symm, q.2.2.symm⟩) (fun q => q.elim (fun q => Or.inr (Or.inl ⟨q.1.symm, q.2.1.symm, q.2.2.symm⟩)) (fun q => Or.inr (Or.inr ⟨q.1.symm, q.2.1.symm, q.2.2.symm⟩)))⟩
theorem ms_Rput {T O : Nat → Nat → Nat} {n : Nat} {A B D : Nat → Nat} (h : ms_R T O (ms_F n A B D)) {x y z : Nat}
    (hx : x < 10) (hy : y < 10) (hz : z < 10) (hxy : x ≠ y) (hyz : y ≠ z) (hzx : z ≠ x) (txy : T x y = 10) (tyz : T y z = 10) (tzx : T z x = 10) :
    ∃ O', ms_R (ms_put T x y z) O' (ms_F (n + 1) (ms_u A n x) (ms_u B n y) (ms_u D n z)) := by
  refine ⟨_, ms_Rcg (ms_Rad h (i := n) (fun a b c g => absurd g.1 (Nat.lt_irrefl n)) hx hy hz hxy hyz hzx txy tyz tzx) ?_⟩
  intro i a b c
  unfold ms_F
  by_cases e : i = n
  · subst e
    rw [ms_us, ms_us, ms_us, ms_rot3]
    exact ⟨fun q => Or.inr ⟨rfl, q.2⟩, fun q => q.elim (fun q => absurd q.1 (Nat.lt_irrefl _)) (fun q => ⟨Nat.lt_succ_self _, q.2⟩)⟩
  · rw [ms_un _ e, ms_un _ e, ms_un _ e]
    exact ⟨fun q => Or.inl ⟨Nat.lt_of_le_of_ne (Nat.le_of_lt_succ q.1) e, q.2⟩, fun q => q.elim (fun q => ⟨Nat.lt_succ_of_lt q.1, q.2⟩) (fun q => absurd q.1 e)⟩
theorem ms_Rtake {T O : Nat → Nat → Nat} {n : Nat} {A B D : Nat → Nat} (h : ms_R T O (ms_F (n + 1) A B D)) {f x y z : Nat} (g : ms_F (n + 1) A B D f x y z) :
    ∃ O', ms_R (ms_drop T x y z) O' (ms_F n (ms_u A f (A n)) (ms_u B f (B n)) (ms_u D f (D n))) := by
  have hf := g.1
  by_cases e : f = n
  · refine ⟨_, ms_Rcg (ms_Rrm h g) ?_⟩
    intro i a b c
    unfold ms_F
    by_cases e2 : i = f
    · exact ⟨fun q => absurd (e2.trans e) (Nat.ne_of_lt q.1), fun q => absurd e2 q.2⟩
    · rw [ms_un _ e2, ms_un _ e2, ms_un _ e2]
      exact ⟨fun q => ⟨⟨Nat.lt_succ_of_lt q.1, q.2⟩, e2⟩, fun q => ⟨Nat.lt_of_le_of_ne (Nat.le_of_lt_succ q.1.1) (fun z => e2 (z.trans e.symm)), q.1.2⟩⟩
  · refine ⟨_, ms_Rcg (ms_Rmv (ms_Rrm h g) (i := f) (j := n) (fun a b c q => q.2 rfl)) ?_⟩
    intro i a b c
    unfold ms_F
    by_cases e2 : i = f
    · subst e2
      rw [ms_us, ms_us, ms_us]
      exact ⟨fun q => Or.inr ⟨rfl, ⟨⟨Nat.lt_succ_self _, q.2⟩, Ne.symm e⟩⟩, fun q => q.elim (fun q => absurd rfl q.1.2) (fun q => ⟨Nat.lt_of_le_of_ne (Nat.le_of_lt_succ hf) e, q.2.1.2⟩)⟩
    · rw [ms_un _ e2, ms_un _ e2, ms_un _ e2]
      exact ⟨fun q => Or.inl ⟨⟨⟨Nat.lt_succ_of_lt q.1, q.2⟩, e2⟩, Nat.ne_of_lt q.1⟩, fun q => q.elim (fun q => ⟨Nat.lt_of_le_of_ne (Nat.le_of_lt_succ q.1.1.1) q.2, q.1.1.2⟩) (fun q => absurd q.1 e2)⟩
/-- an arrow's count -/
def ms_cn (T : Nat → Nat → Nat) : Nat := ms_cnt (fun i => decide (T (i / 10) (i % 10) ≠ 10)) 100
theorem ms_cn_up {T : Nat → Nat → Nat} {a b c : Nat} (ha : a < 10) (hb : b < 10) (h : T a b = 10) (hc : c ≠ 10) : ms_cn (ms_up T a b c) = ms_cn T + 1 := by
  unfold ms_cn
  have e1 : (10 * a + b) / 10 = a := by omega
  have e2 : (10 * a + b) % 10 = b := by omega
  refine ms_cnt_up (j := 10 * a + b) ?_ ?_ ?_ 100 (by omega)
  · rw [e1, e2, h]; rfl
  · rw [e1, e2]; unfold ms_up; simp [hc]
  · intro i hi
    unfold ms_up
    rw [if_neg (by omega)]
theorem ms_cn_dn {T : Nat → Nat → Nat} {a b : Nat} (ha : a < 10) (hb : b < 10) (h : T a b ≠ 10) : ms_cn T = ms_cn (ms_up T a b 10) + 1 := by
  unfold ms_cn
  have e1 : (10 * a + b) / 10 = a := by omega
  have e2 : (10 * a + b) % 10 = b := by omega
  refine ms_cnt_up (j := 10 * a + b) ?_ ?_ ?_ 100 (by omega)
  · rw [e1, e2]; unfold ms_up; simp
  · rw [e1, e2]; simp [h]
  · intro i hi
    unfold ms_up
    rw [if_neg (by omega)]
theorem ms_cn_put {T : Nat → Nat → Nat} {x y z : Nat} (hx : x < 10) (hy : y < 10) (hz : z < 10) (hxy : x ≠ y) (hyz : y ≠ z) (hzx : z ≠ x) (txy : T x y = 10) (tyz : T y z = 10) (tzx : T z x = 10) : ms_cn (ms_put T x y z) = ms_cn T + 3 := by
  unfold ms_put
  rw [ms_cn_up hz hx, ms_cn_up hy hz, ms_cn_up hx hy txy (by omega)]
  · unfold ms_up; rw [if_neg (by omega)]; exact tyz
  · omega
  · unfold ms_up; rw [if_neg (by omega), if_neg (by omega)]; exact tzx
  · omega
theorem ms_cn_drop {T : Nat → Nat → Nat} {x y z : Nat} (hx : x < 10) (hy : y < 10) (hz : z < 10) (hxy : x ≠ y) (hyz : y ≠ z) (hzx : z ≠ x) (txy : T x y ≠ 10) (tyz : T y z ≠ 10) (tzx : T z x ≠ 10) : ms_cn T = ms_cn (ms_drop T x y z) + 3 := by
  unfold ms_drop
  rw [ms_cn_dn hx hy txy, ms_cn_dn (T := ms_up T x y 10) hy hz, ms_cn_dn (T := ms_up (ms_up T x y 10) y z 10) hz hx]
  · unfold ms_up; rw [if_neg (by omega), if_neg (by omega)]; exact tzx
  · unfold ms_up; rw [if_neg (by omega)]; exact tyz
end
section
/-! what keeps a surface a surface: arrows both ways, no doubled face, the vertices, one piece, one fan a vertex -/
def ms_cl (T : Nat → Nat → Nat) : Prop := ∀ x y, T x y ≠ 10 → T y x ≠ 10
def ms_nd (T : Nat → Nat → Nat) : Prop := ∀ x y, T x y ≠ 10 → T x y ≠ T y x
def ms_vx (T : Nat → Nat → Nat) (p : Nat) : Prop := ∀ x, x < 10 → (p.testBit x = true ↔ ∃ y, T x y ≠ 10)
def ms_co (T : Nat → Nat → Nat) : Prop := ∀ S : Nat → Prop, (∀ x y, T x y ≠ 10 → S x → S y) → ∀ x y x' y', T x x' ≠ 10 → T y y' ≠ 10 → S x → S y
def ms_lk (T : Nat → Nat → Nat) : Prop := ∀ (w : Nat) (S : Nat → Prop), (∀ y, T w y ≠ 10 → S y → S (T w y)) → ∀ y y', T w y ≠ 10 → T w y' ≠ 10 → S y → S y'
def ms_V (T : Nat → Nat → Nat) (p : Nat) : Prop := ms_cl T ∧ ms_nd T ∧ ms_vx T p ∧ ms_co T ∧ ms_lk T
/-- a face cut in three -/
def ms_sf (T : Nat → Nat → Nat) (a b c v : Nat) : Nat → Nat → Nat := ms_put (ms_put (ms_put T a b v) b c v) c a v
theorem ms_sf_e {T : Nat → Nat → Nat} {a b c v : Nat} (hab : a ≠ b) (hbc : b ≠ c) (hca : c ≠ a) (hav : a ≠ v) (hbv : b ≠ v) (hcv : c ≠ v) (x y : Nat) (h1 : T v y = 10) (h2 : T x v = 10) :
    ms_sf T a b c v x y = if x = v then (if y = a then b else if y = b then c else if y = c then a else 10) else if y = v then (if x = a then c else if x = b then a else if x = c then b else 10) else if (x = a ∧ y = b) ∨ (x = b ∧ y = c) ∨ (x = c ∧ y = a) then v else T x y := by
  unfold ms_sf
  rw [ms_put_e, ms_put_e, ms_put_e]
  grind
theorem ms_sfV {T : Nat → Nat → Nat} {p a b c v : Nat} (K : ms_K T) (V : ms_V T p) (hc : T a b = c) (hc10 : c ≠ 10) (hv : v < 10) (hpv : p.testBit v = false) : ms_V (ms_sf T a b c v) (p ||| 2 ^ v) := by
  obtain ⟨cl, nd, vx, co, lk⟩ := V
  have hv1 : ∀ y, T v y = 10 := by
    intro y
    by_cases e : T v y = 10
    · exact e
    · have := (vx v hv).mpr ⟨y, e⟩
      rw [hpv] at this
      exact absurd this (by decide)
  have hv2 : ∀ x, T x v = 10 := by
    intro x
    by_cases e : T x v = 10
    · exact e
    · exact absurd (hv1 x) (cl _ _ e)
  have hv3 : ∀ x y, T x y ≠ v := by
    intro x y e
    have h10 : T x y ≠ 10 := by omega
    have k := K x y h10
    rw [e] at k
    have := hv1 x
    omega
  have k1 := K a b (by omega)
  rw [hc] at k1
  obtain ⟨ha, hb, hcc, hab, hca, hcb, tbc, tca⟩ := k1
  have hbc := Ne.symm hcb
  have hav : a ≠ v := by rintro rfl; have := hv1 b; omega
  have hbv : b ≠ v := by rintro rfl; have := hv2 a; omega
  have hcv : c ≠ v := by have := hv3 a b; omega
  have E : ∀ x y, ms_sf T a b c v x y = if x = v then (if y = a then b else if y = b then c else if y = c then a else 10) else if y = v then (if x = a then c else if x = b then a else if x = c then b else 10) else if (x = a ∧ y = b) ∨ (x = b ∧ y = c) ∨ (x = c ∧ y = a) then v else T x y :=
    fun x y => ms_sf_e hab hbc hca hav hbv hcv x y (hv1 y) (hv2 x)
  have hsup : ∀ x y, T x y ≠ 10 → ms_sf T a b c v x y ≠ 10 := by
    intro x y h
    have q1 := hv1 y
    have q2 := hv2 x
    rw [E]
    clear E K cl nd vx co lk hv1 hv2 hv3
    grind
  have eva : ms_sf T a b c v v a = b := by rw [E]; simp
  have evb : ms_sf T a b c v v b = c := by rw [E]; simp [Ne.symm hab]
  have evc : ms_sf T a b c v v c = a := by rw [E]; simp [hca, hcb]
  have eav : ms_sf T a b c v a v = c := by rw [E]; simp [hav]
  have ebv : ms_sf T a b c v b v = a := by rw [E]; simp [hbv, Ne.symm hab]
  have ecv : ms_sf T a b c v c v = b := by rw [E]; simp [hcv, hca, hcb]
  have eab : ms_sf T a b c v a b = v := by rw [E]; simp [hav, hbv]
  have ebc : ms_sf T a b c v b c = v := by rw [E]; simp [hcv, hbv]
  have eca : ms_sf T a b c v c a = v := by rw [E]; simp [hcv, hav]
  have oth : ∀ x y, x ≠ v → y ≠ v → ¬ ((x = a ∧ y = b) ∨ (x = b ∧ y = c) ∨ (x = c ∧ y = a)) → ms_sf T a b c v x y = T x y := by
    intro x y h1 h2 h3
    rw [E, if_neg h1, if_neg h2, if_neg h3]
  have hsub : ∀ x y, ms_sf T a b c v x y ≠ 10 → x ≠ v → (T x y ≠ 10 ∨ (y = v ∧ (x = a ∨ x = b ∨ x = c))) := by
    intro x y h hxv
    rw [E] at h
    have f1 : T a b ≠ 10 := by omega
    have f2 : T b c ≠ 10 := by omega
    have f3 : T c a ≠ 10 := by omega
    clear E K cl nd vx co lk hv1 hv2 hv3 hsup oth
    grind
  refine ⟨?_, ?_, ?_, ?_, ?_⟩
  · intro x y h
    have c0 := cl x y
    have c1 := cl a b
    have c2 := cl b c
    have c3 := cl c a
    rw [E] at h
    rw [E]
    clear E K cl nd vx co lk hv1 hv2 hv3 hsup oth hsub
    grind
  · intro x y h
    have c0 := nd x y
    have q1 := hv3 x y
    have q2 := hv3 y x
    rw [E] at h
    rw [E, E]
    clear E K cl nd vx co lk hv1 hv2 hv3 hsup oth hsub
    grind
  · intro x hx
    rw [Nat.testBit_or, ms_tb2, Bool.or_eq_true, decide_eq_true_eq, vx x hx]
    constructor
    · rintro (⟨y, hy⟩ | rfl)
      · exact ⟨y, hsup _ _ hy⟩
      · exact ⟨a, by rw [eva]; omega⟩
    · rintro ⟨y, hy⟩
      by_cases e : x = v
      · exact Or.inr e.symm
      · refine Or.inl ?_
        rcases hsub x y hy e with q | ⟨_, q | q | q⟩
        · exact ⟨y, q⟩
        · subst q; exact ⟨b, by omega⟩
        · subst q; exact ⟨c, by omega⟩
        · subst q; exact ⟨a, by omega⟩
  · intro S hS
    have hS' : ∀ x y, T x y ≠ 10 → S x → S y := fun x y h => hS x y (hsup x y h)
    have main := co S hS'
    have fa : ∀ x x', ms_sf T a b c v x x' ≠ 10 → S x → S a := by
      intro x x' h sx
      by_cases e : x = v
      · subst e; exact hS x a (by rw [eva]; omega) sx
      · rcases hsub x x' h e with q | ⟨_, q | q | q⟩
        · exact main x a x' b q (by omega) sx
        · subst q; exact sx
        · rw [q] at sx; exact main b a c b (by omega) (by omega) sx
        · rw [q] at sx; exact main c a a b (by omega) (by omega) sx
    intro x y x' y' hx hy sx
    have sa := fa x x' hx sx
    by_cases e : y = v
    · subst e; exact hS a y (by rw [eav]; omega) sa
    · rcases hsub y y' hy e with q | ⟨_, q | q | q⟩
      · exact main a y b y' (by omega) q sa
      · subst q; exact sa
      · rw [q]; exact main a b b c (by omega) (by omega) sa
      · rw [q]; exact main a c b a (by omega) (by omega) sa
  · intro w S hS
    by_cases hw : w = v
    · subst hw
      have s1 : S a → S b := fun s => by have := hS a (by rw [eva]; omega) s; rw [eva] at this; exact this
      have s2 : S b → S c := fun s => by have := hS b (by rw [evb]; omega) s; rw [evb] at this; exact this
      have s3 : S c → S a := fun s => by have := hS c (by rw [evc]; omega) s; rw [evc] at this; exact this
      have in3 : ∀ y, ms_sf T a b c w w y ≠ 10 → y = a ∨ y = b ∨ y = c := by
        intro y h
        rw [E, if_pos rfl] at h
        clear E K cl nd vx co lk hv1 hv2 hv3 hsup oth hsub
        grind
      intro y y' hy hy' sy
      have sa : S a := by
        rcases in3 y hy with q | q | q
        · subst q; exact sy
        · subst q; exact s3 (s2 sy)
        · subst q; exact s3 sy
      rcases in3 y' hy' with q | q | q
      · subst q; exact sa
      · subst q; exact s1 sa
      · subst q; exact s2 (s1 sa)
    · have main := lk w S (by
        intro y hy sy
        by_cases q : (w = a ∧ y = b) ∨ (w = b ∧ y = c) ∨ (w = c ∧ y = a)
        · rcases q with ⟨rfl, rfl⟩ | ⟨rfl, rfl⟩ | ⟨rfl, rfl⟩
          · rw [hc]
            have := hS y (by rw [eab]; omega) sy; rw [eab] at this
            have := hS v (by rw [eav]; omega) this; rw [eav] at this; exact this
          · rw [tbc]
            have := hS y (by rw [ebc]; omega) sy; rw [ebc] at this
            have := hS v (by rw [ebv]; omega) this; rw [ebv] at this; exact this
          · rw [tca]
            have := hS y (by rw [eca]; omega) sy; rw [eca] at this
            have := hS v (by rw [ecv]; omega) this; rw [ecv] at this; exact this
        · have hyv : y ≠ v := by rintro rfl; exact hy (hv2 w)
          have := hS y (hsup _ _ hy) sy
          rw [oth w y hw hyv q] at this; exact this)
      -- from v on, and to v
      have fv : ∀ y, ms_sf T a b c v w y ≠ 10 → S y → ∃ y0, T w y0 ≠ 10 ∧ S y0 := by
        intro y hy sy
        rcases hsub w y hy hw with q | ⟨rfl, q⟩
        · exact ⟨y, q, sy⟩
        · have s0 := hS y hy sy
          rcases q with rfl | rfl | rfl
          · rw [eav] at s0; exact ⟨c, cl _ _ (by omega), s0⟩
          · rw [ebv] at s0; exact ⟨a, cl _ _ (by omega), s0⟩
          · rw [ecv] at s0; exact ⟨b, cl _ _ (by omega), s0⟩
      intro y y' hy hy' sy
      obtain ⟨y0, t0, s0⟩ := fv y hy sy
      rcases hsub w y' hy' hw with q | ⟨rfl, q⟩
      · exact main y0 y' t0 q s0
      · rcases q with rfl | rfl | rfl
        · have := hS b (by rw [eab]; omega) (main y0 b t0 (by omega) s0); rw [eab] at this; exact this
        · have := hS c (by rw [ebc]; omega) (main y0 c t0 (by omega) s0); rw [ebc] at this; exact this
        · have := hS a (by rw [eca]; omega) (main y0 a t0 (by omega) s0); rw [eca] at this; exact this
end
section
/-! an edge turned -/
def ms_fl (T : Nat → Nat → Nat) (a b c d : Nat) : Nat → Nat → Nat := ms_put (ms_put (ms_drop (ms_drop T a b c) b a d) c a d) d b c
theorem ms_fl_e {T : Nat → Nat → Nat} {a b c d : Nat} (hab : a ≠ b) (hac : a ≠ c) (hbc : b ≠ c) (had : a ≠ d) (hbd : b ≠ d) (hcd : c ≠ d) (x y : Nat) :
    ms_fl T a b c d x y = if x = c ∧ y = a then d else if x = a ∧ y = d then c else if x = d ∧ y = c then a else if x = d ∧ y = b then c else if x = b ∧ y = c then d else if x = c ∧ y = d then b else if (x = a ∧ y = b) ∨ (x = b ∧ y = a) then 10 else T x y := by
  unfold ms_fl
  rw [ms_put_e, ms_put_e, ms_drop_e, ms_drop_e]
  grind
theorem ms_flV {T : Nat → Nat → Nat} {p a b c d : Nat} (K : ms_K T) (V : ms_V T p) (hc : T a b = c) (hd : T b a = d) (hc10 : c ≠ 10) (tcd : T c d = 10) : ms_V (ms_fl T a b c d) p := by
  obtain ⟨cl, nd, vx, co, lk⟩ := V
  have hd10 : d ≠ 10 := by have := cl a b (by omega); omega
  have hcd : c ≠ d := by have := nd a b (by omega); omega
  have tdc : T d c = 10 := by
    by_cases e : T d c = 10
    · exact e
    · exact absurd tcd (cl _ _ e)
  have k1 := K a b (by omega)
  have k2 := K b a (by omega)
  rw [hc] at k1
  rw [hd] at k2
  obtain ⟨ha, hb, hcc, hab, hca, hcb, tbc, tca⟩ := k1
  obtain ⟨-, -, hdd, -, hdb, hda, tad, tdb⟩ := k2
  have hac := Ne.symm hca
  have hbc := Ne.symm hcb
  have had := Ne.symm hda
  have hbd := Ne.symm hdb
  have nac : T a c ≠ d := by
    intro e
    have := (K a c (by omega)).2.2.2.2.2.2.1
    rw [e] at this; omega
  have nda : T d a ≠ c := by
    intro e
    have := (K d a (by omega)).2.2.2.2.2.2.2
    rw [e] at this; omega
  have nbd : T b d ≠ c := by
    intro e
    have := (K b d (by omega)).2.2.2.2.2.2.1
    rw [e] at this; omega
  have ncb : T c b ≠ d := by
    intro e
    have := (K c b (by omega)).2.2.2.2.2.2.2
    rw [e] at this; omega
  have E := ms_fl_e (T := T) hab hac hbc had hbd hcd
  have eca : ms_fl T a b c d c a = d := by rw [E]; simp
  have ead : ms_fl T a b c d a d = c := by rw [E]; simp [hac, hda]
  have edc : ms_fl T a b c d d c = a := by rw [E]; simp [hca, hda]
  have edb : ms_fl T a b c d d b = c := by rw [E]; simp [hda, hbc, Ne.symm hcd]
  have ebc : ms_fl T a b c d b c = d := by rw [E]; simp [hca, Ne.symm hab, hbd]
  have ecd : ms_fl T a b c d c d = b := by rw [E]; simp [hda, hca, hcb, hcd]
  have oth : ∀ x y, T x y ≠ 10 → ¬ (x = a ∧ y = b) → ¬ (x = b ∧ y = a) → ms_fl T a b c d x y ≠ 10 := by
    intro x y h h1 h2
    rw [E]
    clear E K cl nd vx co lk
    grind
  have sam : ∀ x y, ¬ (x = c ∧ y = a) → ¬ (x = a ∧ y = d) → ¬ (x = d ∧ y = c) → ¬ (x = d ∧ y = b) → ¬ (x = b ∧ y = c) → ¬ (x = c ∧ y = d) → ¬ (x = a ∧ y = b) → ¬ (x = b ∧ y = a) → ms_fl T a b c d x y = T x y := by
    intro x y h1 h2 h3 h4 h5 h6 h7 h8
    rw [E, if_neg h1, if_neg h2, if_neg h3, if_neg h4, if_neg h5, if_neg h6, if_neg (fun q => q.elim h7 h8)]
  have hsub : ∀ x y, ms_fl T a b c d x y ≠ 10 → ((T x y ≠ 10 ∧ ¬ (x = a ∧ y = b) ∧ ¬ (x = b ∧ y = a)) ∨ (x = c ∧ y = d) ∨ (x = d ∧ y = c)) := by
    intro x y h
    rw [E] at h
    clear E K cl nd vx co lk oth sam
    grind
  refine ⟨?_, ?_, ?_, ?_, ?_⟩
  · intro x y h
    rcases hsub x y h with ⟨q, q1, q2⟩ | ⟨rfl, rfl⟩ | ⟨rfl, rfl⟩
    · exact oth y x (cl _ _ q) (fun z => q2 ⟨z.2, z.1⟩) (fun z => q1 ⟨z.2, z.1⟩)
    · rw [edc]; omega
    · rw [ecd]; omega
  · intro x y h
    have c0 := nd x y
    rw [E] at h
    rw [E, E]
    clear E K cl nd vx co lk oth sam hsub eca ead edc edb ebc ecd
    grind (splits := 40)
  · intro x hx
    rw [vx x hx]
    constructor
    · rintro ⟨y, hy⟩
      by_cases q1 : x = a ∧ y = b
      · exact ⟨d, by rw [q1.1, ead]; omega⟩
      · by_cases q2 : x = b ∧ y = a
        · exact ⟨c, by rw [q2.1, ebc]; omega⟩
        · exact ⟨y, oth x y hy q1 q2⟩
    · rintro ⟨y, hy⟩
      rcases hsub x y hy with ⟨q, q1, q2⟩ | ⟨rfl, rfl⟩ | ⟨rfl, rfl⟩
      · exact ⟨y, q⟩
      · exact ⟨a, by omega⟩
      · exact ⟨b, by omega⟩
  · intro S hS
    have hS' : ∀ x y, T x y ≠ 10 → S x → S y := by
      intro x y h sx
      by_cases q1 : x = a ∧ y = b
      · obtain ⟨rfl, rfl⟩ := q1
        exact hS d y (by rw [edb]; omega) (hS x d (by rw [ead]; omega) sx)
      · by_cases q2 : x = b ∧ y = a
        · obtain ⟨rfl, rfl⟩ := q2
          exact hS c y (by rw [eca]; omega) (hS x c (by rw [ebc]; omega) sx)
        · exact hS x y (oth x y h q1 q2) sx
    have fo : ∀ x x', ms_fl T a b c d x x' ≠ 10 → ∃ z, T x z ≠ 10 := by
      intro x x' h
      rcases hsub x x' h with ⟨q, q1, q2⟩ | ⟨rfl, rfl⟩ | ⟨rfl, rfl⟩
      · exact ⟨x', q⟩
      · exact ⟨a, by omega⟩
      · exact ⟨b, by omega⟩
    intro x y x' y' hx hy sx
    obtain ⟨z, hz⟩ := fo x x' hx
    obtain ⟨z', hz'⟩ := fo y y' hy
    exact co S hS' x y z z' hz hz' sx
  · intro w S hS
    have st : ∀ y z, ms_fl T a b c d w y = z → z ≠ 10 → S y → S z := by
      intro y z e h s
      have := hS y (by omega) s
      rw [e] at this; exact this
    by_cases wa : w = a
    · subst wa
      have main := lk w (fun y => if y = b then S d else S y) (by
        intro y hy sy
        show if T w y = b then S d else S (T w y)
        have sy' : if y = b then S d else S y := sy
        by_cases yb : y = b
        · subst yb
          rw [if_pos rfl] at sy'
          rw [hc, if_neg hcb]
          exact st d c ead hc10 sy'
        · rw [if_neg yb] at sy'
          by_cases yd : y = d
          · subst yd; rw [tad, if_pos rfl]; exact sy'
          · have hb' : T w y ≠ b := by
              intro e
              have := (K w y hy).2.2.2.2.2.2.2
              rw [e, hd] at this; exact yd this.symm
            rw [if_neg hb']
            exact st y _ (sam w y (fun q => hac q.1) (fun q => yd q.2) (fun q => had q.1) (fun q => had q.1) (fun q => hab q.1) (fun q => hac q.1) (fun q => yb q.2) (fun q => hab q.1)) hy sy')
      have nb : ∀ y, ms_fl T w b c d w y ≠ 10 → T w y ≠ 10 ∧ y ≠ b := by
        intro y h
        rcases hsub w y h with ⟨q, q1, q2⟩ | ⟨q, _⟩ | ⟨q, _⟩
        · exact ⟨q, fun z => q1 ⟨rfl, z⟩⟩
        · exact absurd q hac
        · exact absurd q had
      intro y y' hy hy' sy
      obtain ⟨t1, n1⟩ := nb y hy
      obtain ⟨t2, n2⟩ := nb y' hy'
      have := main y y' t1 t2 (by show if y = b then S d else S y; rw [if_neg n1]; exact sy)
      have this' : if y' = b then S d else S y' := this
      rw [if_neg n2] at this'; exact this'
    · by_cases wb : w = b
      · subst wb
        have main := lk w (fun y => if y = a then S c else S y) (by
          intro y hy sy
          show if T w y = a then S c else S (T w y)
          have sy' : if y = a then S c else S y := sy
          by_cases ya : y = a
          · subst ya
            rw [if_pos rfl] at sy'
            rw [hd, if_neg hda]
            exact st c d ebc hd10 sy'
          · rw [if_neg ya] at sy'
            by_cases yc : y = c
            · subst yc; rw [tbc, if_pos rfl]; exact sy'
            · have hb' : T w y ≠ a := by
                intro e
                have := (K w y hy).2.2.2.2.2.2.2
                rw [e, hc] at this; exact yc this.symm
              rw [if_neg hb']
              exact st y _ (sam w y (fun q => hbc q.1) (fun q => wa q.1) (fun q => hbd q.1) (fun q => hbd q.1) (fun q => yc q.2) (fun q => hbc q.1) (fun q => wa q.1) (fun q => ya q.2)) hy sy')
        have nb : ∀ y, ms_fl T a w c d w y ≠ 10 → T w y ≠ 10 ∧ y ≠ a := by
          intro y h
          rcases hsub w y h with ⟨q, q1, q2⟩ | ⟨q, _⟩ | ⟨q, _⟩
          · exact ⟨q, fun z => q2 ⟨rfl, z⟩⟩
          · exact absurd q hbc
          · exact absurd q hbd
        intro y y' hy hy' sy
        obtain ⟨t1, n1⟩ := nb y hy
        obtain ⟨t2, n2⟩ := nb y' hy'
        have := main y y' t1 t2 (by show if y = a then S c else S y; rw [if_neg n1]; exact sy)
        have this' : if y' = a then S c else S y' := this
        rw [if_neg n2] at this'; exact this'
      · have main := lk w S (by
          intro y hy sy
          by_cases q1 : w = c ∧ y = a
          · obtain ⟨rfl, rfl⟩ := q1
            rw [tca]; exact st d b ecd (by omega) (st y d eca hd10 sy)
          · by_cases q2 : w = d ∧ y = b
            · obtain ⟨rfl, rfl⟩ := q2
              rw [tdb]; exact st c a edc (by omega) (st y c edb hc10 sy)
            · exact st y _ (sam w y q1 (fun q => wa q.1) (fun q => hy (by rw [q.1, q.2]; exact tdc)) q2 (fun q => wb q.1) (fun q => hy (by rw [q.1, q.2]; exact tcd)) (fun q => wa q.1) (fun q => wb q.1)) hy sy)
        have fv : ∀ y, ms_fl T a b c d w y ≠ 10 → S y → ∃ y0, T w y0 ≠ 10 ∧ S y0 := by
          intro y hy sy
          rcases hsub w y hy with ⟨q, _⟩ | ⟨rfl, rfl⟩ | ⟨rfl, rfl⟩
          · exact ⟨y, q, sy⟩
          · exact ⟨b, cl _ _ (by omega), st y b ecd (by omega) sy⟩
          · exact ⟨a, cl _ _ (by omega), st y a edc (by omega) sy⟩
        intro y y' hy hy' sy
        obtain ⟨y0, t0, s0⟩ := fv y hy sy
        rcases hsub w y' hy' with ⟨q, _⟩ | ⟨rfl, rfl⟩ | ⟨rfl, rfl⟩
        · exact main y0 y' t0 q s0
        · exact st a y' eca hd10 (main y0 a t0 (by omega) s0)
        · exact st b y' edb hc10 (main y0 b t0 (by omega) s0)
/-- an edge cut: its face cut, then the edge turned -/
def ms_se (T : Nat → Nat → Nat) (a b c d v : Nat) : Nat → Nat → Nat := ms_put (ms_put (ms_put (ms_put (ms_drop (ms_drop T a b c) b a d) a v c) v b c) b v d) v a d
theorem ms_se_e {T : Nat → Nat → Nat} {a b c d v : Nat} (hab : a ≠ b) (hac : a ≠ c) (hbc : b ≠ c) (had : a ≠ d) (hbd : b ≠ d) (hcd : c ≠ d) (hav : a ≠ v) (hbv : b ≠ v) (hcv : c ≠ v) (hdv : d ≠ v) :
    ms_se T a b c d v = ms_fl (ms_sf T a b c v) a b v d := by
  have hba := Ne.symm hab
  have hca := Ne.symm hac
  have hcb := Ne.symm hbc
  have hda := Ne.symm had
  have hdb := Ne.symm hbd
  have hdc := Ne.symm hcd
  have hva := Ne.symm hav
  have hvb := Ne.symm hbv
  have hvc := Ne.symm hcv
  have hvd := Ne.symm hdv
  funext x y
  simp only [ms_se, ms_fl, ms_sf, ms_put_e, ms_drop_e]
  by_cases xa : x = a
  · subst xa
    simp only [hab, hba, hac, hca, hbc, hcb, had, hda, hbd, hdb, hcd, hdc, hav, hva, hbv, hvb, hcv, hvc, hdv, hvd, false_and, true_and, if_false]
    repeat' split
    all_goals first | rfl | omega
  · by_cases xb : x = b
    · subst xb
      simp only [hab, hba, hac, hca, hbc, hcb, had, hda, hbd, hdb, hcd, hdc, hav, hva, hbv, hvb, hcv, hvc, hdv, hvd, false_and, true_and, if_false]
      repeat' split
      all_goals first | rfl | omega
    · by_cases xc : x = c
      · subst xc
        simp only [hab, hba, hac, hca, hbc, hcb, had, hda, hbd, hdb, hcd, hdc, hav, hva, hbv, hvb, hcv, hvc, hdv, hvd, false_and, true_and, if_false]
        repeat' split
        all_goals first | rfl | omega
      · by_cases xd : x = d
        · subst xd
          simp only [hab, hba, hac, hca, hbc, hcb, had, hda, hbd, hdb, hcd, hdc, hav, hva, hbv, hvb, hcv, hvc, hdv, hvd, false_and, true_and, if_false]
          repeat' split
          all_goals first | rfl | omega
        · by_cases xv : x = v
          · subst xv
            simp only [hab, hba, hac, hca, hbc, hcb, had, hda, hbd, hdb, hcd, hdc, hav, hva, hbv, hvb, hcv, hvc, hdv, hvd, false_and, true_and, if_false]
            repeat' split
            all_goals first | rfl | omega
          · simp only [xa, xb, xc, xd, xv, false_and, if_false]
end
section
/-! a vertex drawn into another: b is handed over to a, arrow by arrow -/
def ms_rn (a b x : Nat) : Nat := if x = b then a else x
def ms_rk (a b k x y : Nat) : Nat := if x = b ∧ y < k then a else x
def ms_Gk (G : Nat → Nat → Nat → Nat → Prop) (a b k i x y z : Nat) : Prop := ∃ x' y' z', G i x' y' z' ∧ x = ms_rk a b k x' y' ∧ y = ms_rk a b k y' z' ∧ z = ms_rk a b k z' x'
def ms_Gn (G : Nat → Nat → Nat → Nat → Prop) (a b i x y z : Nat) : Prop := ∃ x' y' z', G i x' y' z' ∧ x = ms_rn a b x' ∧ y = ms_rn a b y' ∧ z = ms_rn a b z'
theorem ms_Gf {T O : Nat → Nat → Nat} {G : Nat → Nat → Nat → Nat → Prop} (h : ms_R T O G) {i x y z : Nat} (g : G i x y z) :
    x < 10 ∧ y < 10 ∧ z < 10 ∧ x ≠ y ∧ y ≠ z ∧ z ≠ x ∧ T x y = z ∧ T y z = x ∧ T z x = y ∧ O x y = i ∧ O y z = i ∧ O z x = i := by
  obtain ⟨h1, h2, h3, h4⟩ := h
  have g2 := h1 _ _ _ _ g
  have g3 := h1 _ _ _ _ g2
  have f1 := h2 _ _ _ _ g
  have f2 := h2 _ _ _ _ g2
  have f3 := h2 _ _ _ _ g3
  exact ⟨f1.2.2.1, f2.2.2.1, f3.2.2.1, f1.2.2.2, f2.2.2.2, f3.2.2.2, f1.1, f2.1, f3.1, f1.2.1, f2.2.1, f3.2.1⟩
theorem ms_rk0 (a b x y : Nat) : ms_rk a b 0 x y = x := if_neg (fun q => absurd q.2 (Nat.not_lt_zero _))
theorem ms_rk_n {a b k x y : Nat} (h : x ≠ b) : ms_rk a b k x y = x := if_neg (fun q => h q.1)
theorem ms_rk_t {a b k y : Nat} (h : y < k) : ms_rk a b k b y = a := if_pos ⟨rfl, h⟩
theorem ms_rk_f {a b k x y : Nat} (h : ¬ y < k) : ms_rk a b k x y = x := if_neg (fun q => h q.2)
theorem ms_rk_s {a b k x y : Nat} (h : ¬ (x = b ∧ y = k)) : ms_rk a b (k + 1) x y = ms_rk a b k x y := by
  unfold ms_rk
  by_cases e : x = b ∧ y < k
  · rw [if_pos e, if_pos ⟨e.1, by omega⟩]
  · rw [if_neg e, if_neg (by omega)]
theorem ms_rk_o {a b k x y z : Nat} (h : z = ms_rk a b k x y) : (x = b ∧ y < k ∧ z = a) ∨ z = x := by
  unfold ms_rk at h
  by_cases e : x = b ∧ y < k
  · rw [if_pos e] at h; exact Or.inl ⟨e.1, e.2, h⟩
  · rw [if_neg e] at h; exact Or.inr h
theorem ms_Gk0 {T O : Nat → Nat → Nat} {G : Nat → Nat → Nat → Nat → Prop} (a b : Nat) (h : ms_R T O G) : ms_R T O (ms_Gk G a b 0) := by
  refine ms_Rcg h ?_
  intro i x y z
  unfold ms_Gk
  constructor
  · rintro ⟨x', y', z', g, e1, e2, e3⟩
    rw [ms_rk0] at e1 e2 e3
    rw [e1, e2, e3]; exact g
  · intro g
    exact ⟨x, y, z, g, (ms_rk0 _ _ _ _).symm, (ms_rk0 _ _ _ _).symm, (ms_rk0 _ _ _ _).symm⟩
theorem ms_GkC {G : Nat → Nat → Nat → Nat → Prop} {a b k i : Nat} (key : ∀ x y z, G i x y z → ms_rk a b (k + 1) x y = ms_rk a b k x y) (rot : ∀ x y z, G i x y z → G i y z x) (x y z : Nat) : ms_Gk G a b (k + 1) i x y z ↔ ms_Gk G a b k i x y z := by
  unfold ms_Gk
  constructor
  · rintro ⟨x', y', z', g, e1, e2, e3⟩
    have g2 := rot _ _ _ g
    have g3 := rot _ _ _ g2
    exact ⟨x', y', z', g, e1.trans (key _ _ _ g), e2.trans (key _ _ _ g2), e3.trans (key _ _ _ g3)⟩
  · rintro ⟨x', y', z', g, e1, e2, e3⟩
    have g2 := rot _ _ _ g
    have g3 := rot _ _ _ g2
    exact ⟨x', y', z', g, e1.trans (key _ _ _ g).symm, e2.trans (key _ _ _ g2).symm, e3.trans (key _ _ _ g3).symm⟩
theorem ms_hoN {T0 O0 Tk O : Nat → Nat → Nat} {G : Nat → Nat → Nat → Nat → Prop} {a b k : Nat} (R0 : ms_R T0 O0 G) (R : ms_R Tk O (ms_Gk G a b k)) (h : Tk b k = 10) : ms_R Tk O (ms_Gk G a b (k + 1)) := by
  refine ms_Rcg R ?_
  intro i
  apply ms_GkC
  · intro x y z g
    apply ms_rk_s
    rintro ⟨rfl, rfl⟩
    have f := ms_Gf R0 g
    have gk : ms_Gk G a x y i x y z := ⟨x, y, z, g, (ms_rk_f (Nat.lt_irrefl _)).symm, (ms_rk_n (Ne.symm f.2.2.2.1)).symm, (ms_rk_n f.2.2.2.2.2.1).symm⟩
    have := (ms_Gf R gk).2.2.2.2.2.2.1
    omega
  · exact R0.1 i
theorem ms_hoS {T0 O0 Tk O : Nat → Nat → Nat} {G : Nat → Nat → Nat → Nat → Prop} {a b k w : Nat} (R0 : ms_R T0 O0 G) (hab : a ≠ b) (ha : a < 10)
    (tab : T0 a b = 10) (tba : T0 b a = 10) (H1 : ∀ v, T0 a v ≠ 10 → T0 b v = 10) (H2 : ∀ v, T0 v a ≠ 10 → T0 v b = 10)
    (R : ms_R Tk O (ms_Gk G a b k)) (hw : Tk b k = w) (w10 : w ≠ 10) :
    w < 10 ∧ (∃ O2, ms_R (ms_put (ms_drop Tk b k w) a k w) O2 (ms_Gk G a b (k + 1))) ∧ ms_cn (ms_put (ms_drop Tk b k w) a k w) = ms_cn Tk := by
  have gk := R.2.2.1 b k (by omega)
  rw [hw] at gk
  have kk := ms_Gf R gk
  have g : G (O b k) b k w := by
    obtain ⟨x', y', z', g, e1, e2, e3⟩ := gk
    have f := ms_Gf R0 g
    have hx : b = x' := by
      rcases ms_rk_o e1 with q | q
      · exact absurd q.2.2.symm hab
      · exact q
    subst hx
    have hy : k = y' := by
      rcases ms_rk_o e2 with q | q
      · exact absurd q.1.symm f.2.2.2.1
      · exact q
    have hz : w = z' := by
      rcases ms_rk_o e3 with q | q
      · exact absurd q.1 f.2.2.2.2.2.1
      · exact q
    rw [hy, hz]; rw [hy] at g; exact g
  obtain ⟨hb, hk, hw9, hbk, hkw, hwb, t1, t2, t3, o1, o2, o3⟩ := ms_Gf R0 g
  have hak : a ≠ k := by rintro rfl; omega
  have hwa : w ≠ a := by rintro rfl; omega
  have s1 : Tk a k = 10 := by
    by_cases e : Tk a k = 10
    · exact e
    · exfalso
      obtain ⟨x2, y2, z2, g2, q1, q2, q3⟩ := R.2.2.1 a k e
      have f2 := ms_Gf R0 g2
      have hy : k = y2 := by
        rcases ms_rk_o q2 with q | q
        · exact absurd q.2.2.symm hak
        · exact q
      subst hy
      rcases ms_rk_o q1 with q | q
      · exact absurd q.2.1 (Nat.lt_irrefl _)
      · subst q
        have := H1 k (by have := f2.2.2.1; have := f2.2.2.2.2.2.2.1; omega)
        omega
  have s3 : Tk w a = 10 := by
    by_cases e : Tk w a = 10
    · exact e
    · exfalso
      obtain ⟨x2, y2, z2, g2, q1, q2, q3⟩ := R.2.2.1 w a e
      have f2 := ms_Gf R0 g2
      have hx : w = x2 := by
        rcases ms_rk_o q1 with q | q
        · exact absurd q.2.2 hwa
        · exact q
      subst hx
      rcases ms_rk_o q2 with q | q
      · have e1 := f2.2.2.2.2.2.2.1
        rw [q.1, t3] at e1
        omega
      · subst q
        have := H2 w (by have := f2.2.2.1; have := f2.2.2.2.2.2.2.1; omega)
        omega
  have d1 : ms_drop Tk b k w a k = 10 := by
    rw [ms_drop_e]; split; rfl; split; rfl; split; rfl; exact s1
  have d2 : ms_drop Tk b k w k w = 10 := by
    rw [ms_drop_e]; split; rfl; rw [if_pos ⟨rfl, rfl⟩]
  have d3 : ms_drop Tk b k w w a = 10 := by
    rw [ms_drop_e]; split; rfl; split; rfl; split; rfl; exact s3
  have R2 := ms_Rad (ms_Rrm R gk) (i := O b k) (fun a b c q => q.2 rfl) ha hk hw9 hak hkw hwa d1 d2 d3
  refine ⟨hw9, ⟨_, ms_Rcg R2 ?_⟩, ?_⟩
  · intro i x y z
    by_cases e : i = O b k
    · subst e
      have r1 : ms_rk a b (k + 1) b k = a := ms_rk_t (Nat.lt_succ_self _)
      have r2 : ms_rk a b (k + 1) k w = k := ms_rk_n (Ne.symm hbk)
      have r3 : ms_rk a b (k + 1) w b = w := ms_rk_n hwb
      constructor
      · rintro ⟨x2, y2, z2, g2, q1, q2, q3⟩
        refine Or.inr ⟨rfl, ?_⟩
        rcases R0.2.2.2 _ _ _ _ _ _ _ g g2 with ⟨w1, w2, w3⟩ | ⟨w1, w2, w3⟩ | ⟨w1, w2, w3⟩
        · rw [w1, w2] at q1; rw [w2, w3] at q2; rw [w3, w1] at q3
          exact Or.inl ⟨q1.trans r1, q2.trans r2, q3.trans r3⟩
        · rw [w1, w2] at q1; rw [w2, w3] at q2; rw [w3, w1] at q3
          exact Or.inr (Or.inl ⟨q1.trans r2, q2.trans r3, q3.trans r1⟩)
        · rw [w1, w2] at q1; rw [w2, w3] at q2; rw [w3, w1] at q3
          exact Or.inr (Or.inr ⟨q1.trans r3, q2.trans r1, q3.trans r2⟩)
      · rintro (q | ⟨_, q⟩)
        · exact absurd rfl q.2
        · have g2 := R0.1 _ _ _ _ g
          have g3 := R0.1 _ _ _ _ g2
          rcases q with ⟨q1, q2, q3⟩ | ⟨q1, q2, q3⟩ | ⟨q1, q2, q3⟩
          · exact ⟨b, k, w, g, q1.trans r1.symm, q2.trans r2.symm, q3.trans r3.symm⟩
          · exact ⟨k, w, b, g2, q1.trans r2.symm, q2.trans r3.symm, q3.trans r1.symm⟩
          · exact ⟨w, b, k, g3, q1.trans r3.symm, q2.trans r1.symm, q3.trans r2.symm⟩
    · rw [ms_GkC (G := G) (a := a) (b := b) (k := k) (i := i) ?_ (R0.1 i) x y z]
      · exact ⟨fun q => Or.inl ⟨q, e⟩, fun q => q.elim (fun q => q.1) (fun q => absurd q.1 e)⟩
      · intro x2 y2 z2 g2
        apply ms_rk_s
        rintro ⟨rfl, rfl⟩
        exact e ((ms_Gf R0 g2).2.2.2.2.2.2.2.2.2.1.symm.trans o1)
  · obtain ⟨_, _, _, _, _, _, u1, u2, u3, _⟩ := kk
    have c1 := ms_cn_drop (T := Tk) hb hk hw9 hbk hkw hwb (by omega) (by omega) (by omega)
    have c2 := ms_cn_put (T := ms_drop Tk b k w) ha hk hw9 hak hkw hwa d1 d2 d3
    omega
theorem ms_hoE {T0 O0 Tk O : Nat → Nat → Nat} {G : Nat → Nat → Nat → Nat → Prop} {a b : Nat} (R0 : ms_R T0 O0 G) (R : ms_R Tk O (ms_Gk G a b 10)) : ms_R Tk O (ms_Gn G a b) := by
  have key : ∀ x y, y < 10 → ms_rn a b x = ms_rk a b 10 x y := by
    intro x y h
    unfold ms_rn ms_rk
    by_cases e : x = b
    · rw [if_pos e, if_pos ⟨e, h⟩]
    · rw [if_neg e, if_neg (fun q => e q.1)]
  refine ms_Rcg R ?_
  intro i x y z
  constructor
  · rintro ⟨x', y', z', g, e1, e2, e3⟩
    have f := ms_Gf R0 g
    exact ⟨x', y', z', g, e1.trans (key _ _ f.2.1), e2.trans (key _ _ f.2.2.1), e3.trans (key _ _ f.1)⟩
  · rintro ⟨x', y', z', g, e1, e2, e3⟩
    have f := ms_Gf R0 g
    exact ⟨x', y', z', g, e1.trans (key _ _ f.2.1).symm, e2.trans (key _ _ f.2.2.1).symm, e3.trans (key _ _ f.1).symm⟩
end
