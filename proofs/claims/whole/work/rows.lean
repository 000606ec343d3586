section
/-! rows pasted from the kit's rows to paste (numbers, bits) -/
theorem pk_us {f : Nat → Int32} {k : Nat} {x : Int32} : upd f k x k = x := if_pos rfl
theorem pk_un {f : Nat → Int32} {k j : Nat} {x : Int32} (h : j ≠ k) : upd f k x j = f j := if_neg h
theorem pk_sub {a b : Nat} (h : b ≤ a) : nI a - nI b = nI (a - b) := by
  obtain ⟨c, rfl⟩ : ∃ c, a = c + b := ⟨a - b, by omega⟩
  rw [← nI_add, Int32.add_sub_cancel, Nat.add_sub_cancel]
theorem pk_m1 (n : Nat) : nI (n + 1) + (-1) = nI n := by
  rw [← nI_1, Int32.add_assoc, show (1 : Int32) + (-1) = 0 from rfl, Int32.add_zero]
theorem pk_mul (a b : Nat) : nI a * nI b = nI (a * b) := (Int32.ofNat_mul a b).symm
theorem pk_div {a d : Nat} (ha : a < 2 ^ 31) (h0 : 0 < d) (hd : d < 2 ^ 31) : nI a / nI d = nI (a / d) := by
  apply Int32.toInt_inj.mp
  rw [lg_idiv_nonneg (by rw [nI_toInt ha]; omega) (by rw [nI_toInt hd]; omega), nI_toInt ha, nI_toInt hd, nI_toInt (Nat.lt_of_le_of_lt (Nat.div_le_self a d) ha)]
  first | rfl | exact (Int.natCast_ediv _ _).symm
theorem pk_rem {a d : Nat} (ha : a < 2 ^ 31) (h0 : 0 < d) (hd : d < 2 ^ 31) : nI a - nI a / nI d * nI d = nI (a % d) := by
  rw [pk_div ha h0 hd, pk_mul, pk_sub (Nat.div_mul_le_self a d)]
  exact congrArg nI (by have := Nat.div_add_mod' a d; omega)
theorem pk_ix (x : Int32) {n : Nat} (hn : n < 2 ^ 31) : x < 0 ∨ nI n ≤ x ∨ ∃ j : Nat, j < n ∧ x = nI j := by
  by_cases h : x < 0
  · exact Or.inl h
  · obtain ⟨j, hj, rfl⟩ := nI_of h
    by_cases h2 : j < n
    · exact Or.inr (Or.inr ⟨j, h2, rfl⟩)
    · exact Or.inr (Or.inl (nI_le (by omega) hj))
theorem pk_le {x y : Int32} {A B : Prop} (a b : Nat) (f : a ≤ b → A) (g : b < a → B) (hx : x = nI a := by rfl) (hy : y = nI b := by rfl) (ha : a < 2 ^ 31 := by omega) (hb : b < 2 ^ 31 := by omega) : (x ≤ y → A) ∧ (¬ x ≤ y → B) := by
  subst hx hy
  rw [nI_leI ha hb]
  exact ⟨f, fun z => g (by omega)⟩
theorem pk_lt {x y : Int32} {A B : Prop} (a b : Nat) (f : a < b → A) (g : b ≤ a → B) (hx : x = nI a := by rfl) (hy : y = nI b := by rfl) (ha : a < 2 ^ 31 := by omega) (hb : b < 2 ^ 31 := by omega) : (x < y → A) ∧ (¬ x < y → B) := by
  subst hx hy
  rw [nI_ltI ha hb]
  exact ⟨f, fun z => g (by omega)⟩
theorem pk_eq {x y : Int32} {A B : Prop} (a b : Nat) (f : a = b → A) (g : a ≠ b → B) (hx : x = nI a := by rfl) (hy : y = nI b := by rfl) (ha : a < 2 ^ 31 := by omega) (hb : b < 2 ^ 31 := by omega) : (x = y → A) ∧ (¬ x = y → B) := by
  subst hx hy
  rw [nI_eq ha hb]
  exact ⟨f, g⟩
theorem pk_in {x : Int32} (n N : Nat) (h : n < N) (hx : x = nI n := by rfl) (hN : N < 2 ^ 31 := by omega) : vp_in x N := by
  subst hx
  exact vp_in_nI h hN
theorem pk_cl {x : Int32} (n : Nat) (hx : x = nI n := by rfl) (h : n < 2 ^ 31 := by omega) : x.toNatClampNeg = n := by
  subst hx
  exact nI_clamp h
theorem pk_tn {n : Nat} (h : n < 2 ^ 32) : (nI n).toBitVec.toNat = n := Nat.mod_eq_of_lt h
theorem pk_and (x : Int32) {m : Int32} (k : Nat) (hm : m.toBitVec.toNat = 2 ^ k - 1) : x &&& m = nI (x.toBitVec.toNat % 2 ^ k) := by
  apply Int32.toBitVec_inj.mp
  apply BitVec.eq_of_toNat_eq
  rw [Int32.toBitVec_and, BitVec.toNat_and, hm, Nat.and_two_pow_sub_one_eq_mod]
  show _ = (BitVec.ofNat 32 _).toNat
  rw [BitVec.toNat_ofNat]
  exact (Nat.mod_eq_of_lt (Nat.lt_of_le_of_lt (Nat.mod_le _ _) x.toBitVec.isLt)).symm
theorem pk_andN {n : Nat} (h : n < 2 ^ 32) {m : Int32} (k : Nat) (hm : m.toBitVec.toNat = 2 ^ k - 1) : nI n &&& m = nI (n % 2 ^ k) := by
  rw [pk_and _ k hm, pk_tn h]
theorem pk_shl (a s : Int32) (k : Nat) (hs : (s.toBitVec.smod 32).toNat = k) : (a <<< s).toBitVec.toNat = a.toBitVec.toNat * 2 ^ k % 2 ^ 32 := by
  show (a.toBitVec <<< (s.toBitVec.smod 32).toNat).toNat = _
  rw [hs, BitVec.toNat_shiftLeft, Nat.shiftLeft_eq]
theorem pk_shlN {n : Nat} (s : Int32) (k : Nat) (hs : (s.toBitVec.smod 32).toNat = k) (h : n * 2 ^ k < 2 ^ 32) : nI n <<< s = nI (n * 2 ^ k) := by
  apply Int32.toBitVec_inj.mp
  apply BitVec.eq_of_toNat_eq
  have hn : n < 2 ^ 32 := Nat.lt_of_le_of_lt (Nat.le_mul_of_pos_right n (Nat.two_pow_pos k)) h
  rw [pk_shl _ _ k hs, pk_tn hn, pk_tn h, Nat.mod_eq_of_lt h]
theorem pk_shr (a s : Int32) (k : Nat) (hs : (s.toBitVec.smod 32).toNat = k) : (a >>> s).toInt = a.toInt >>> k := by
  show (a.toBitVec.sshiftRight (s.toBitVec.smod 32).toNat).toInt = _
  rw [hs, BitVec.toInt_sshiftRight]
  rfl
theorem pk_shrN {n : Nat} (h : n < 2 ^ 31) (s : Int32) (k : Nat) (hs : (s.toBitVec.smod 32).toNat = k) : nI n >>> s = nI (n / 2 ^ k) := by
  apply Int32.toInt_inj.mp
  have h2 : n / 2 ^ k ≤ n := Nat.div_le_self _ _
  rw [pk_shr _ _ k hs, nI_toInt h, nI_toInt (by omega), Int.shiftRight_eq_div_pow]
  rfl
theorem s_l : ∀ n, n < 32 → ((nI n &&& 31).toBitVec.smod 32).toNat = n := by decide +kernel
theorem nx_and (a b : Nat) : nI a &&& nI b = nI (a &&& b) := by
  apply Int32.toBitVec_inj.1
  show BitVec.ofNat 32 a &&& BitVec.ofNat 32 b = BitVec.ofNat 32 (a &&& b)
  apply BitVec.eq_of_getLsbD_eq
  intro i hi
  simp [hi]
theorem nx_xor (a b : Nat) : nI a ^^^ nI b = nI (a ^^^ b) := by
  apply Int32.toBitVec_inj.1
  show BitVec.ofNat 32 a ^^^ BitVec.ofNat 32 b = BitVec.ofNat 32 (a ^^^ b)
  apply BitVec.eq_of_getLsbD_eq
  intro i hi
  simp [hi]
/-! own rows: numbers -/
theorem ms_or (a b : Nat) : nI a ||| nI b = nI (a ||| b) := by
  apply Int32.toBitVec_inj.1
  show BitVec.ofNat 32 a ||| BitVec.ofNat 32 b = BitVec.ofNat 32 (a ||| b)
  apply BitVec.eq_of_getLsbD_eq
  intro i hi
  simp [hi]
theorem ms_sh {v : Nat} (h : v < 10) : (1 : Int32) <<< (nI v &&& 31) = nI (2 ^ v) := by
  have e : nI 1 <<< (nI v &&& 31) = nI (1 * 2 ^ v) := pk_shlN _ v (s_l v (by omega)) (by
    have : 2 ^ v < 2 ^ 10 := Nat.pow_lt_pow_right (by decide) h
    omega)
  rw [Nat.one_mul] at e
  exact e
theorem ms_bit {s v : Nat} (hs : s < 1024) (hv : v < 10) : (nI s >>> (nI v &&& 31)) &&& 1 = nI (s / 2 ^ v % 2) := by
  rw [pk_shrN (by omega) _ v (s_l v (by omega))]
  exact pk_andN (m := 1) (Nat.lt_of_le_of_lt (Nat.div_le_self _ _) (by omega)) 1 (by decide)
theorem ms_bit_t {s v : Nat} (hs : s < 1024) (hv : v < 10) (h : s.testBit v = true) : (nI s >>> (nI v &&& 31)) &&& 1 = nI 1 := by
  rw [ms_bit hs hv]
  rw [Nat.testBit_eq_decide_div_mod_eq, decide_eq_true_eq] at h
  rw [h]
theorem ms_bit_f {s v : Nat} (hs : s < 1024) (hv : v < 10) (h : s.testBit v = false) : (nI s >>> (nI v &&& 31)) &&& 1 = nI 0 := by
  rw [ms_bit hs hv]
  rw [Nat.testBit_eq_decide_div_mod_eq, decide_eq_false_iff_not] at h
  have : s / 2 ^ v % 2 = 0 := by omega
  rw [this]
theorem ms_01 : ¬ nI 0 = 1 := by decide
theorem ms_10 : ¬ nI 1 = 0 := by decide
theorem ms_n1 {j : Nat} (h : j < 2 ^ 31) : ¬ nI j = -1 := by
  intro e
  have := nI_pos h
  rw [e] at this
  exact this (by decide)
theorem ms_n2 {j : Nat} (h : j < 2 ^ 31) : ¬ nI j = -2 := by
  intro e
  have := nI_pos h
  rw [e] at this
  exact this (by decide)
theorem ms_lt {s t : Nat} (hs : s < 1024) (ht : t < 1024) : s ||| t < 1024 := Nat.or_lt_two_pow (n := 10) hs ht
theorem ms_pow {v : Nat} (h : v < 10) : 2 ^ v < 1024 := by
  have : 2 ^ v < 2 ^ 10 := Nat.pow_lt_pow_right (by decide) h
  exact this
theorem ms_tb2 (v x : Nat) : (2 ^ v).testBit x = decide (v = x) := Nat.testBit_two_pow
theorem ms_ext {s t : Nat} (hs : s < 1024) (ht : t < 1024) (h : ∀ x, x < 10 → s.testBit x = t.testBit x) : s = t := by
  apply Nat.eq_of_testBit_eq
  intro i
  by_cases hi : i < 10
  · exact h i hi
  · have h1 : 1024 ≤ 2 ^ i := Nat.pow_le_pow_right (n := 2) (by decide) (show 10 ≤ i by omega)
    rw [Nat.testBit_lt_two_pow (by omega), Nat.testBit_lt_two_pow (by omega)]
/-- counts -/
def ms_cnt (f : Nat → Bool) : Nat → Nat
  | 0 => 0
  | k + 1 => ms_cnt f k + (if f k = true then 1 else 0)
theorem ms_cnt_le (f : Nat → Bool) : ∀ k, ms_cnt f k ≤ k := by
  intro k
  induction k with
  | zero => exact Nat.le_refl _
  | succ k ih => unfold ms_cnt; split <;> omega
theorem ms_cnt_cg {f g : Nat → Bool} : ∀ k, (∀ i, i < k → f i = g i) → ms_cnt f k = ms_cnt g k := by
  intro k
  induction k with
  | zero => intro _; rfl
  | succ k ih => intro h; unfold ms_cnt; rw [ih (fun i hi => h i (by omega)), h k (by omega)]
theorem ms_cnt_up {f g : Nat → Bool} {j : Nat} (hf : f j = false) (hg : g j = true) (h : ∀ i, i ≠ j → g i = f i) : ∀ k, j < k → ms_cnt g k = ms_cnt f k + 1 := by
  intro k
  induction k with
  | zero => intro hj; omega
  | succ k ih =>
    intro hj
    unfold ms_cnt
    by_cases e : j = k
    · subst e
      rw [ms_cnt_cg (f := g) (g := f) j (fun i hi => h i (by omega)), hf, hg]
      simp
    · rw [ih (by omega), h k (by omega)]
      omega
theorem ms_cnt_full {f : Nat → Bool} {j : Nat} (hf : f j = false) : ∀ k, j < k → ms_cnt f k < k := by
  intro k
  induction k with
  | zero => intro hj; omega
  | succ k ih =>
    intro hj
    unfold ms_cnt
    by_cases e : j = k
    · subst e
      have := ms_cnt_le f j
      rw [hf]; simp; omega
    · have := ih (by omega)
      split <;> omega
theorem ms_cnt_mono {f g : Nat → Bool} (h : ∀ i, f i = true → g i = true) : ∀ k, ms_cnt f k ≤ ms_cnt g k := by
  intro k
  induction k with
  | zero => exact Nat.le_refl _
  | succ k ih =>
    unfold ms_cnt
    by_cases e : f k = true
    · rw [if_pos e, if_pos (h k e)]; omega
    · rw [if_neg e]; omega
theorem ms_cnt_gr {f g : Nat → Bool} {j : Nat} (h : ∀ i, f i = true → g i = true) (hf : f j = false) (hg : g j = true) : ∀ k, j < k → ms_cnt f k + 1 ≤ ms_cnt g k := by
  intro k
  induction k with
  | zero => intro hj; omega
  | succ k ih =>
    intro hj
    unfold ms_cnt
    by_cases e : j = k
    · subst e
      rw [hf, hg]
      have := ms_cnt_mono h j
      simp; omega
    · have := ih (by omega)
      by_cases e2 : f k = true
      · rw [if_pos e2, if_pos (h k e2)]; omega
      · rw [if_neg e2]; omega
def ms_pc (s : Nat) : Nat := ms_cnt s.testBit 10
theorem ms_pc_le (s : Nat) : ms_pc s ≤ 10 := ms_cnt_le _ _
theorem ms_pc_or {p v : Nat} (hv : v < 10) (h : p.testBit v = false) : ms_pc (p ||| 2 ^ v) = ms_pc p + 1 := by
  unfold ms_pc
  refine ms_cnt_up (j := v) h ?_ ?_ 10 hv
  · rw [Nat.testBit_or, ms_tb2]; simp
  · intro i hi
    rw [Nat.testBit_or, ms_tb2]
    simp [Ne.symm hi]
end
section
/-! the pure mesh: T x y is the vertex opposite the arrow x to y, or 10 -/
def ms_up (T : Nat → Nat → Nat) (a b c : Nat) : Nat → Nat → Nat := fun x y => if x = a ∧ y = b then c else T x y
def ms_put (T : Nat → Nat → Nat) (a b c : Nat) : Nat → Nat → Nat := ms_up (ms_up (ms_up T a b c) b c a) c a b
def ms_drop (T : Nat → Nat → Nat) (a b c : Nat) : Nat → Nat → Nat := ms_up (ms_up (ms_up T a b 10) b c 10) c a 10
theorem ms_put_e (T : Nat → Nat → Nat) (a b c x y : Nat) : ms_put T a b c x y = if x = c ∧ y = a then b else if x = b ∧ y = c then a else if x = a ∧ y = b then c else T x y := rfl
theorem ms_drop_e (T : Nat → Nat → Nat) (a b c x y : Nat) : ms_drop T a b c x y = if x = c ∧ y = a then 10 else if x = b ∧ y = c then 10 else if x = a ∧ y = b then 10 else T x y := rfl
theorem ms_up3_e (T : Nat → Nat → Nat) (a b c i x y : Nat) : ms_up (ms_up (ms_up T a b i) b c i) c a i x y = if x = c ∧ y = a then i else if x = b ∧ y = c then i else if x = a ∧ y = b then i else T x y := rfl
/-- G i x y z: face i is (x, y, z) or a turn of it; T is its table, O the owner of an arrow -/
def ms_R (T O : Nat → Nat → Nat) (G : Nat → Nat → Nat → Nat → Prop) : Prop :=
  (∀ i x y z, G i x y z → G i y z x) ∧ (∀ i x y z, G i x y z → T x y = z ∧ O x y = i ∧ x < 10 ∧ x ≠ y)
  ∧ (∀ x y, T x y ≠ 10 → G (O x y) x y (T x y))
  ∧ (∀ i x y z x' y' z', G i x y z → G i x' y' z' → (x' = x ∧ y' = y ∧ z' = z) ∨ (x' = y ∧ y' = z ∧ z' = x) ∨ (x' = z ∧ y' = x ∧ z' = y))
/-- what each arrow says of its face -/
def ms_K (T : Nat → Nat → Nat) : Prop :=
  ∀ x y, T x y ≠ 10 → x < 10 ∧ y < 10 ∧ T x y < 10 ∧ x ≠ y ∧ T x y ≠ x ∧ T x y ≠ y ∧ T y (T x y) = x ∧ T (T x y) x = y
theorem ms_RK {T O : Nat → Nat → Nat} {G : Nat → Nat → Nat → Nat → Prop} (h : ms_R T O G) : ms_K T := by
  obtain ⟨h1, h2, h3, h4⟩ := h
  intro x y hxy
  have g1 := h3 x y hxy
  have g2 := h1 _ _ _ _ g1
  have g3 := h1 _ _ _ _ g2
  have f1 := h2 _ _ _ _ g1
  have f2 := h2 _ _ _ _ g2
  have f3 := h2 _ _ _ _ g3
  exact ⟨f1.2.2.1, f2.2.2.1, f3.2.2.1, f1.2.2.2, f3.2.2.2, Ne.symm f2.2.2.2, f2.1, f3.1⟩
theorem ms_Rrm {T O : Nat → Nat → Nat} {G : Nat → Nat → Nat → Nat → Prop} (h : ms_R T O G) {i x y z : Nat} (g1 : G i x y z) : ms_R (ms_drop T x y z) O (fun j x' y' z' => G j x' y' z' ∧ j ≠ i) := by
  obtain ⟨h1, h2, h3, h4⟩ := h
  have g2 := h1 _ _ _ _ g1
  have g3 := h1 _ _ _ _ g2
  have f1 := h2 _ _ _ _ g1
  have f2 := h2 _ _ _ _ g2
  have f3 := h2 _ _ _ _ g3
  refine ⟨?_, ?_, ?_, ?_⟩
  · rintro j a b c ⟨g, hj⟩
    exact ⟨h1 _ _ _ _ g, hj⟩
  · rintro j a b c ⟨g, hj⟩
    have f := h2 _ _ _ _ g
    rw [ms_drop_e]
    clear h1 h2 h3 h4 g1 g2 g3 g
    grind
  · intro a b hab
    rw [ms_drop_e] at hab ⊢
    have hT : T a b ≠ 10 ∧ ¬ (a = x ∧ b = y) ∧ ¬ (a = y ∧ b = z) ∧ ¬ (a = z ∧ b = x) := by
      clear h1 h2 h3 h4 g1 g2 g3 f1 f2 f3
      grind
    obtain ⟨hT, n1, n2, n3⟩ := hT
    rw [if_neg n3, if_neg n2, if_neg n1]
    refine ⟨h3 a b hT, fun e => ?_⟩
    have g := h3 a b hT
    rw [e] at g
    rcases h4 _ _ _ _ _ _ _ g1 g with q | q | q
    · exact n1 ⟨q.1, q.2.1⟩
    · exact n2 ⟨q.1, q.2.1⟩
    · exact n3 ⟨q.1, q.2.1⟩
  · rintro j a b c a' b' c' ⟨g, hj⟩ ⟨g', hj'⟩
    exact h4 _ _ _ _ _ _ _ g g'
theorem ms_Rad {T O : Nat → Nat → Nat} {G : Nat → Nat → Nat → Nat → Prop} (h : ms_R T O G) {i x y z : Nat} (hi : ∀ a b c, ¬ G i a b c)
    (hx : x < 10) (hy : y < 10) (hz : z < 10) (hxy : x ≠ y) (hyz : y ≠ z) (hzx : z ≠ x) (txy : T x y = 10) (tyz : T y z = 10) (tzx : T z x = 10) :
    ms_R (ms_put T x y z) (ms_up (ms_up (ms_up O x y i) y z i) z x i) (fun j a b c => G j a b c ∨ (j = i ∧ ((a = x ∧ b = y ∧ c = z) ∨ (a = y ∧ b = z ∧ c = x) ∨ (a = z ∧ b = x ∧ c = y)))) := by
  obtain ⟨h1, h2, h3, h4⟩ := h
  have hG : ∀ j a b c, G j a b c → c ≠ 10 := by
    intro j a b c g
    have := (h2 _ _ _ _ (h1 _ _ _ _ (h1 _ _ _ _ g))).2.2.1
    omega
  refine ⟨?_, ?_, ?_, ?_⟩
  · rintro j a b c (g | ⟨hj, q⟩)
    · exact Or.inl (h1 _ _ _ _ g)
    · refine Or.inr ⟨hj, ?_⟩
      rcases q with ⟨q1, q2, q3⟩ | ⟨q1, q2, q3⟩ | ⟨q1, q2, q3⟩
      · exact Or.inr (Or.inl ⟨q2, q3, q1⟩)
      · exact Or.inr (Or.inr ⟨q2, q3, q1⟩)
      · exact Or.inl ⟨q2, q3, q1⟩
  · rintro j a b c (g | ⟨hj, q⟩)
    · have f := h2 _ _ _ _ g
      have g10 := hG _ _ _ _ g
      rw [ms_put_e, ms_up3_e]
      clear h1 h2 h3 h4 hG g hi
      grind
    · rw [ms_put_e, ms_up3_e]
      clear h1 h2 h3 h4 hG hi
      grind
  · intro a b hab
    rw [ms_put_e, ms_up3_e] at *
    by_cases n3 : a = z ∧ b = x
    · rw [if_pos n3, if_pos n3]; exact Or.inr ⟨rfl, Or.inr (Or.inr ⟨n3.1, n3.2, rfl⟩)⟩
    · rw [if_neg n3] at hab
      rw [if_neg n3, if_neg n3]
      by_cases n2 : a = y ∧ b = z
      · rw [if_pos n2, if_pos n2]; exact Or.inr ⟨rfl, Or.inr (Or.inl ⟨n2.1, n2.2, rfl⟩)⟩
      · rw [if_neg n2] at hab
        rw [if_neg n2, if_neg n2]
        by_cases n1 : a = x ∧ b = y
        · rw [if_pos n1, if_pos n1]; exact Or.inr ⟨rfl, Or.inl ⟨n1.1, n1.2, rfl⟩⟩
        · rw [if_neg n1] at hab
          rw [if_neg n1, if_neg n1]
          exact Or.inl (h3 a b hab)
  · rintro j a b c a' b' c' (g | ⟨hj, q⟩) (g' | ⟨hj', q'⟩)
    · exact h4 _ _ _ _ _ _ _ g g'
    · subst hj'; exact absurd g (hi _ _ _)
    · subst hj; exact absurd g' (hi _ _ _)
    · clear h1 h2 h3 h4 hG hi txy tyz tzx hx hy hz hxy hyz hzx hj hj'
      rcases q with ⟨rfl, rfl, rfl⟩ | ⟨rfl, rfl, rfl⟩ | ⟨rfl, rfl, rfl⟩
      · exact q'
      · rcases q' with q' | q' | q'
        · exact Or.inr (Or.inr q')
        · exact Or.inl q'
        · exact Or.inr (Or.inl q')
      · rcases q' with q' | q' | q'
        · exact Or.inr (Or.inl q')
        · exact Or.inr (Or.inr q')
        · exact Or.inl q'
theorem ms_Rmv {T O : Nat → Nat → Nat} {G : Nat → Nat → Nat → Nat → Prop} (h : ms_R T O G) {i j : Nat} (hi : ∀ a b c, ¬ G i a b c) :
    ms_R T (fun x y => if O x y = j then i else O x y) (fun k a b c => (G k a b c ∧ k ≠ j) ∨ (k = i ∧ G j a b c)) := by
  obtain ⟨h1, h2, h3, h4⟩ := h
  refine ⟨?_, ?_, ?_, ?_⟩
  · rintro k a b c (⟨g, q⟩ | ⟨q, g⟩)
    · exact Or.inl ⟨h1 _ _ _ _ g, q⟩
    · exact Or.inr ⟨q, h1 _ _ _ _ g⟩
  · rintro k a b c (⟨g, q⟩ | ⟨q, g⟩)
    · have f := h2 _ _ _ _ g
      refine ⟨f.1, ?_, f.2.2⟩
      show (if O a b = j then i else O a b) = k
      rw [if_neg (by omega)]; exact f.2.1
    · have f := h2 _ _ _ _ g
      refine ⟨f.1, ?_, f.2.2⟩
      show (if O a b = j then i else O a b) = k
      rw [if_pos f.2.1]; exact q.symm
  · intro a b hab
    have g := h3 a b hab
    by_cases e : O a b = j
    · show ((G (if O a b = j then i else O a b) a b (T a b) ∧ (if O a b = j then i else O a b) ≠ j) ∨ ((if O a b = j then i else O a b) = i ∧ G j a b (T a b)))
      rw [if_pos e]
      rw [e] at g
      exact Or.inr ⟨rfl, g⟩
    · show ((G (if O a b = j then i else O a b) a b (T a b) ∧ (if O a b = j then i else O a b) ≠ j) ∨ ((if O a b = j then i else O a b) = i ∧ G j a b (T a b)))
      rw [if_neg e]
      exact Or.inl ⟨g, e⟩
  · rintro k a b c a' b' c' (⟨g, q⟩ | ⟨q, g⟩) (⟨g', q'⟩ | ⟨q', g'⟩)
    · exact h4 _ _ _ _ _ _ _ g g'
    · subst q'; exact absurd g (hi _ _ _)
    · subst q; exact absurd g' (hi _ _ _)
    · exact h4 _ _ _ _ _ _ _ g g'
theorem ms_Rcg {T O : Nat → Nat → Nat} {G G' : Nat → Nat → Nat → Nat → Prop} (h : ms_R T O G) (e : ∀ i a b c, G' i a b c ↔ G i a b c) : ms_R T O G' := by
  have : G' = G := by funext i a b c; exact propext (e i a b c)
  rw [this]; exact h
/-- the list's faces -/
def ms_F (n : Nat) (A B D : Nat → Nat) (i x y z : Nat) : Prop :=
  i < n ∧ ((A i = x ∧ B i = y ∧ D i = z) ∨ (B i = x ∧ D i = y ∧ A i = z) ∨ (D i = x ∧ A i = y ∧ B i = z))
def ms_u (A : Nat → Nat) (k v : Nat) : Nat → Nat := fun j => if j = k then v else A j
theorem ms_us (A : Nat → Nat) (k v : Nat) : ms_u A k v k = v := if_pos rfl
theorem ms_un (A : Nat → Nat) {k j v : Nat} (h : j ≠ k) : ms_u A k v j = A j := if_neg h
theorem ms_rot3 {a b c x y z : Nat} : ((x = a ∧ y = b ∧ z = c) ∨ (y = a ∧ z = b ∧ x = c) ∨ (z = a ∧ x = b ∧ y = c)) ↔ ((a = x ∧ b = y ∧ c = z) ∨ (a = y ∧ b = z ∧ c = x) ∨ (a = z ∧ b = x ∧ c = y)) :=
  ⟨fun q => q.elim (fun q => Or.inl ⟨q.1.symm, q.2.1.symm, q.2.2.symm⟩) (fun q => q.elim (fun q => Or.inr (Or.inl ⟨q.1.symm, q.2.1.symm, q.2.2.symm⟩)) (fun q => Or.inr (Or.inr ⟨q.1.symm, q.2.1.symm, q.2.2.symm⟩))),
   fun q => q.elim (fun q => Or.inl ⟨q.1.symm, q.2.1.symm, q.2.2.symm⟩) (fun q => q.elim (fun q => Or.inr (Or.inl ⟨q.1.symm, q.2.1.symm, q.2.2.symm⟩)) (fun q => Or.inr (Or.inr ⟨q.1.symm, q.2.1.symm, q.2.2.symm⟩)))⟩
theorem ms_Rput {T O : Nat → Nat → Nat} {n : Nat} {A B D : Nat → Nat} (h : ms_R T O (ms_F n A B D)) {x y z : Nat}
    (hx : x < 10) (hy : y < 10) (hz : z < 10) (hxy : x ≠ y) (hyz : y ≠ z) (hzx : z ≠ x) (txy : T x y = 10) (tyz : T y z = 10) (tzx : T z x = 10) :
    ∃ O', ms_R (ms_put T x y z) O' (ms_F (n + 1) (ms_u A n x) (ms_u B n y) (ms_u D n z)) := by
  refine ⟨_, ms_Rcg (ms_Rad h (i := n) (fun a b c g => absurd g.1 (Nat.lt_irrefl n)) hx hy hz hxy hyz hzx txy tyz tzx) ?_⟩
  intro i a b c
  unfold ms_F
  by_cases e : i = n
  · subst e
    rw [ms_us, ms_us, ms_us, ms_rot3]
    exact ⟨fun q => Or.inr ⟨rfl, q.2⟩, fun q => q.elim (fun q => absurd q.1 (Nat.lt_irrefl _)) (fun q => ⟨Nat.lt_succ_self _, q.2⟩)⟩
  · rw [ms_un _ e, ms_un _ e, ms_un _ e]
    exact ⟨fun q => Or.inl ⟨Nat.lt_of_le_of_ne (Nat.le_of_lt_succ q.1) e, q.2⟩, fun q => q.elim (fun q => ⟨Nat.lt_succ_of_lt q.1, q.2⟩) (fun q => absurd q.1 e)⟩
theorem ms_Rtake {T O : Nat → Nat → Nat} {n : Nat} {A B D : Nat → Nat} (h : ms_R T O (ms_F (n + 1) A B D)) {f x y z : Nat} (g : ms_F (n + 1) A B D f x y z) :
    ∃ O', ms_R (ms_drop T x y z) O' (ms_F n (ms_u A f (A n)) (ms_u B f (B n)) (ms_u D f (D n))) := by
  have hf := g.1
  by_cases e : f = n
  · refine ⟨_, ms_Rcg (ms_Rrm h g) ?_⟩
    intro i a b c
    unfold ms_F
    by_cases e2 : i = f
    · exact ⟨fun q => absurd (e2.trans e) (Nat.ne_of_lt q.1), fun q => absurd e2 q.2⟩
    · rw [ms_un _ e2, ms_un _ e2, ms_un _ e2]
      exact ⟨fun q => ⟨⟨Nat.lt_succ_of_lt q.1, q.2⟩, e2⟩, fun q => ⟨Nat.lt_of_le_of_ne (Nat.le_of_lt_succ q.1.1) (fun z => e2 (z.trans e.symm)), q.1.2⟩⟩
  · refine ⟨_, ms_Rcg (ms_Rmv (ms_Rrm h g) (i := f) (j := n) (fun a b c q => q.2 rfl)) ?_⟩
    intro i a b c
    unfold ms_F
    by_cases e2 : i = f
    · subst e2
      rw [ms_us, ms_us, ms_us]
      exact ⟨fun q => Or.inr ⟨rfl, ⟨⟨Nat.lt_succ_self _, q.2⟩, Ne.symm e⟩⟩, fun q => q.elim (fun q => absurd rfl q.1.2) (fun q => ⟨Nat.lt_of_le_of_ne (Nat.le_of_lt_succ hf) e, q.2.1.2⟩)⟩
    · rw [ms_un _ e2, ms_un _ e2, ms_un _ e2]
      exact ⟨fun q => Or.inl ⟨⟨⟨Nat.lt_succ_of_lt q.1, q.2⟩, e2⟩, Nat.ne_of_lt q.1⟩, fun q => q.elim (fun q => ⟨Nat.lt_of_le_of_ne (Nat.le_of_lt_succ q.1.1.1) q.2, q.1.1.2⟩) (fun q => absurd q.1 e2)⟩
/-- an arrow's count -/
def ms_cn (T : Nat → Nat → Nat) : Nat := ms_cnt (fun i => decide (T (i / 10) (i % 10) ≠ 10)) 100
theorem ms_cn_up {T : Nat → Nat → Nat} {a b c : Nat} (ha : a < 10) (hb : b < 10) (h : T a b = 10) (hc : c ≠ 10) : ms_cn (ms_up T a b c) = ms_cn T + 1 := by
  unfold ms_cn
  have e1 : (10 * a + b) / 10 = a := by omega
  have e2 : (10 * a + b) % 10 = b := by omega
  refine ms_cnt_up (j := 10 * a + b) ?_ ?_ ?_ 100 (by omega)
  · rw [e1, e2, h]; rfl
  · rw [e1, e2]; unfold ms_up; simp [hc]
  · intro i hi
    unfold ms_up
    rw [if_neg (by omega)]
theorem ms_cn_dn {T : Nat → Nat → Nat} {a b : Nat} (ha : a < 10) (hb : b < 10) (h : T a b ≠ 10) : ms_cn T = ms_cn (ms_up T a b 10) + 1 := by
  unfold ms_cn
  have e1 : (10 * a + b) / 10 = a := by omega
  have e2 : (10 * a + b) % 10 = b := by omega
  refine ms_cnt_up (j := 10 * a + b) ?_ ?_ ?_ 100 (by omega)
  · rw [e1, e2]; unfold ms_up; simp
  · rw [e1, e2]; simp [h]
  · intro i hi
    unfold ms_up
    rw [if_neg (by omega)]
theorem ms_cn_put {T : Nat → Nat → Nat} {x y z : Nat} (hx : x < 10) (hy : y < 10) (hz : z < 10) (hxy : x ≠ y) (hyz : y ≠ z) (hzx : z ≠ x) (txy : T x y = 10) (tyz : T y z = 10) (tzx : T z x = 10) : ms_cn (ms_put T x y z) = ms_cn T + 3 := by
  unfold ms_put
  rw [ms_cn_up hz hx, ms_cn_up hy hz, ms_cn_up hx hy txy (by omega)]
  · unfold ms_up; rw [if_neg (by omega)]; exact tyz
  · omega
  · unfold ms_up; rw [if_neg (by omega), if_neg (by omega)]; exact tzx
  · omega
theorem ms_cn_drop {T : Nat → Nat → Nat} {x y z : Nat} (hx : x < 10) (hy : y < 10) (hz : z < 10) (hxy : x ≠ y) (hyz : y ≠ z) (hzx : z ≠ x) (txy : T x y ≠ 10) (tyz : T y z ≠ 10) (tzx : T z x ≠ 10) : ms_cn T = ms_cn (ms_drop T x y z) + 3 := by
  unfold ms_drop
  rw [ms_cn_dn hx hy txy, ms_cn_dn (T := ms_up T x y 10) hy hz, ms_cn_dn (T := ms_up (ms_up T x y 10) y z 10) hz hx]
  · unfold ms_up; rw [if_neg (by omega), if_neg (by omega)]; exact tzx
  · unfold ms_up; rw [if_neg (by omega)]; exact tyz
end
