/-! rows pasted from the kit's rows to paste (numbers, bits) -/
theorem pk_us {f : Nat → Int32} {k : Nat} {x : Int32} : upd f k x k = x := if_pos rfl
theorem pk_un {f : Nat → Int32} {k j : Nat} {x : Int32} (h : j ≠ k) : upd f k x j = f j := if_neg h
theorem pk_sub {a b : Nat} (h : b ≤ a) : nI a - nI b = nI (a - b) := by
  obtain ⟨c, rfl⟩ : ∃ c, a = c + b := ⟨a - b, by omega⟩
  rw [← nI_add, Int32.add_sub_cancel, Nat.add_sub_cancel]
theorem pk_m1 (n : Nat) : nI (n + 1) + (-1) = nI n := by
  rw [← nI_1, Int32.add_assoc, show (1 : Int32) + (-1) = 0 from rfl, Int32.add_zero]
theorem pk_mul (a b : Nat) : nI a * nI b = nI (a * b) := (Int32.ofNat_mul a b).symm
theorem pk_div {a d : Nat} (ha : a < 2 ^ 31) (h0 : 0 < d) (hd : d < 2 ^ 31) : nI a / nI d = nI (a / d) := by
  apply Int32.toInt_inj.mp
  rw [lg_idiv_nonneg (by rw [nI_toInt ha]; omega) (by rw [nI_toInt hd]; omega), nI_toInt ha, nI_toInt hd, nI_toInt (Nat.lt_of_le_of_lt (Nat.div_le_self a d) ha)]
  first | rfl | exact (Int.natCast_ediv _ _).symm
theorem pk_rem {a d : Nat} (ha : a < 2 ^ 31) (h0 : 0 < d) (hd : d < 2 ^ 31) : nI a - nI a / nI d * nI d = nI (a % d) := by
  rw [pk_div ha h0 hd, pk_mul, pk_sub (Nat.div_mul_le_self a d)]
  exact congrArg nI (by have := Nat.div_add_mod' a d; omega)
theorem pk_ix (x : Int32) {n : Nat} (hn : n < 2 ^ 31) : x < 0 ∨ nI n ≤ x ∨ ∃ j : Nat, j < n ∧ x = nI j := by
  by_cases h : x < 0
  · exact Or.inl h
  · obtain ⟨j, hj, rfl⟩ := nI_of h
    by_cases h2 : j < n
    · exact Or.inr (Or.inr ⟨j, h2, rfl⟩)
    · exact Or.inr (Or.inl (nI_le (by omega) hj))
theorem pk_le {x y : Int32} {A B : Prop} (a b : Nat) (f : a ≤ b → A) (g : b < a → B) (hx : x = nI a := by rfl) (hy : y = nI b := by rfl) (ha : a < 2 ^ 31 := by omega) (hb : b < 2 ^ 31 := by omega) : (x ≤ y → A) ∧ (¬ x ≤ y → B) := by
  subst hx hy
  rw [nI_leI ha hb]
  exact ⟨f, fun z => g (by omega)⟩
theorem pk_lt {x y : Int32} {A B : Prop} (a b : Nat) (f : a < b → A) (g : b ≤ a → B) (hx : x = nI a := by rfl) (hy : y = nI b := by rfl) (ha : a < 2 ^ 31 := by omega) (hb : b < 2 ^ 31 := by omega) : (x < y → A) ∧ (¬ x < y → B) := by
  subst hx hy
  rw [nI_ltI ha hb]
  exact ⟨f, fun z => g (by omega)⟩
theorem pk_eq {x y : Int32} {A B : Prop} (a b : Nat) (f : a = b → A) (g : a ≠ b → B) (hx : x = nI a := by rfl) (hy : y = nI b := by rfl) (ha : a < 2 ^ 31 := by omega) (hb : b < 2 ^ 31 := by omega) : (x = y → A) ∧ (¬ x = y → B) := by
  subst hx hy
  rw [nI_eq ha hb]
  exact ⟨f, g⟩
theorem pk_in {x : Int32} (n N : Nat) (h : n < N) (hx : x = nI n := by rfl) (hN : N < 2 ^ 31 := by omega) : vp_in x N := by
  subst hx
  exact vp_in_nI h hN
theorem pk_cl {x : Int32} (n : Nat) (hx : x = nI n := by rfl) (h : n < 2 ^ 31 := by omega) : x.toNatClampNeg = n := by
  subst hx
  exact nI_clamp h
theorem pk_tn {n : Nat} (h : n < 2 ^ 32) : (nI n).toBitVec.toNat = n := Nat.mod_eq_of_lt h
theorem pk_and (x : Int32) {m : Int32} (k : Nat) (hm : m.toBitVec.toNat = 2 ^ k - 1) : x &&& m = nI (x.toBitVec.toNat % 2 ^ k) := by
  apply Int32.toBitVec_inj.mp
  apply BitVec.eq_of_toNat_eq
  rw [Int32.toBitVec_and, BitVec.toNat_and, hm, Nat.and_two_pow_sub_one_eq_mod]
  show _ = (BitVec.ofNat 32 _).toNat
  rw [BitVec.toNat_ofNat]
  exact (Nat.mod_eq_of_lt (Nat.lt_of_le_of_lt (Nat.mod_le _ _) x.toBitVec.isLt)).symm
theorem pk_andN {n : Nat} (h : n < 2 ^ 32) {m : Int32} (k : Nat) (hm : m.toBitVec.toNat = 2 ^ k - 1) : nI n &&& m = nI (n % 2 ^ k) := by
  rw [pk_and _ k hm, pk_tn h]
theorem pk_shl (a s : Int32) (k : Nat) (hs : (s.toBitVec.smod 32).toNat = k) : (a <<< s).toBitVec.toNat = a.toBitVec.toNat * 2 ^ k % 2 ^ 32 := by
  show (a.toBitVec <<< (s.toBitVec.smod 32).toNat).toNat = _
  rw [hs, BitVec.toNat_shiftLeft, Nat.shiftLeft_eq]
theorem pk_shlN {n : Nat} (s : Int32) (k : Nat) (hs : (s.toBitVec.smod 32).toNat = k) (h : n * 2 ^ k < 2 ^ 32) : nI n <<< s = nI (n * 2 ^ k) := by
  apply Int32.toBitVec_inj.mp
  apply BitVec.eq_of_toNat_eq
  have hn : n < 2 ^ 32 := Nat.lt_of_le_of_lt (Nat.le_mul_of_pos_right n (Nat.two_pow_pos k)) h
  rw [pk_shl _ _ k hs, pk_tn hn, pk_tn h, Nat.mod_eq_of_lt h]
theorem pk_shr (a s : Int32) (k : Nat) (hs : (s.toBitVec.smod 32).toNat = k) : (a >>> s).toInt = a.toInt >>> k := by
  show (a.toBitVec.sshiftRight (s.toBitVec.smod 32).toNat).toInt = _
  rw [hs, BitVec.toInt_sshiftRight]
  rfl
theorem pk_shrN {n : Nat} (h : n < 2 ^ 31) (s : Int32) (k : Nat) (hs : (s.toBitVec.smod 32).toNat = k) : nI n >>> s = nI (n / 2 ^ k) := by
  apply Int32.toInt_inj.mp
  have h2 : n / 2 ^ k ≤ n := Nat.div_le_self _ _
  rw [pk_shr _ _ k hs, nI_toInt h, nI_toInt (by omega), Int.shiftRight_eq_div_pow]
  rfl
theorem s_l : ∀ n, n < 32 → ((nI n &&& 31).toBitVec.smod 32).toNat = n := by decide +kernel
theorem nx_and (a b : Nat) : nI a &&& nI b = nI (a &&& b) := by
  apply Int32.toBitVec_inj.1
  show BitVec.ofNat 32 a &&& BitVec.ofNat 32 b = BitVec.ofNat 32 (a &&& b)
  apply BitVec.eq_of_getLsbD_eq
  intro i hi
  simp [hi]
theorem nx_xor (a b : Nat) : nI a ^^^ nI b = nI (a ^^^ b) := by
  apply Int32.toBitVec_inj.1
  show BitVec.ofNat 32 a ^^^ BitVec.ofNat 32 b = BitVec.ofNat 32 (a ^^^ b)
  apply BitVec.eq_of_getLsbD_eq
  intro i hi
  simp [hi]
/-! own rows: numbers -/
theorem ms_or (a b : Nat) : nI a ||| nI b = nI (a ||| b) := by
  apply Int32.toBitVec_inj.1
  show BitVec.ofNat 32 a ||| BitVec.ofNat 32 b = BitVec.ofNat 32 (a ||| b)
  apply BitVec.eq_of_getLsbD_eq
  intro i hi
  simp [hi]
theorem ms_sh {v : Nat} (h : v < 10) : (1 : Int32) <<< (nI v &&& 31) = nI (2 ^ v) := by
  have e : nI 1 <<< (nI v &&& 31) = nI (1 * 2 ^ v) := pk_shlN _ v (s_l v (by omega)) (by
    have : 2 ^ v < 2 ^ 10 := Nat.pow_lt_pow_right (by decide) h
    omega)
  rw [Nat.one_mul] at e
  exact e
theorem ms_bit {s v : Nat} (hs : s < 1024) (hv : v < 10) : (nI s >>> (nI v &&& 31)) &&& 1 = nI (s / 2 ^ v % 2) := by
  rw [pk_shrN (by omega) _ v (s_l v (by omega))]
  exact pk_andN (m := 1) (Nat.lt_of_le_of_lt (Nat.div_le_self _ _) (by omega)) 1 (by decide)
theorem ms_bit_t {s v : Nat} (hs : s < 1024) (hv : v < 10) (h : s.testBit v = true) : (nI s >>> (nI v &&& 31)) &&& 1 = nI 1 := by
  rw [ms_bit hs hv]
  rw [Nat.testBit_eq_decide_div_mod_eq, decide_eq_true_eq] at h
  rw [h]
theorem ms_bit_f {s v : Nat} (hs : s < 1024) (hv : v < 10) (h : s.testBit v = false) : (nI s >>> (nI v &&& 31)) &&& 1 = nI 0 := by
  rw [ms_bit hs hv]
  rw [Nat.testBit_eq_decide_div_mod_eq, decide_eq_false_iff_not] at h
  have : s / 2 ^ v % 2 = 0 := by omega
  rw [this]
theorem ms_01 : ¬ nI 0 = 1 := by decide
theorem ms_10 : ¬ nI 1 = 0 := by decide
theorem ms_n1 {j : Nat} (h : j < 2 ^ 31) : ¬ nI j = -1 := by
  intro e
  have := nI_pos h
  rw [e] at this
  exact this (by decide)
theorem ms_n2 {j : Nat} (h : j < 2 ^ 31) : ¬ nI j = -2 := by
  intro e
  have := nI_pos h
  rw [e] at this
  exact this (by decide)
theorem ms_lt {s t : Nat} (hs : s < 1024) (ht : t < 1024) : s ||| t < 1024 := Nat.or_lt_two_pow (n := 10) hs ht
theorem ms_pow {v : Nat} (h : v < 10) : 2 ^ v < 1024 := by
  have : 2 ^ v < 2 ^ 10 := Nat.pow_lt_pow_right (by decide) h
  exact this
theorem ms_tb2 (v x : Nat) : (2 ^ v).testBit x = decide (v = x) := Nat.testBit_two_pow
theorem ms_ext {s t : Nat} (hs : s < 1024) (ht : t < 1024) (h : ∀ x, x < 10 → s.testBit x = t.testBit x) : s = t := by
  apply Nat.eq_of_testBit_eq
  intro i
  by_cases hi : i < 10
  · exact h i hi
  · have h1 : 1024 ≤ 2 ^ i := Nat.pow_le_pow_right (n := 2) (by decide) (show 10 ≤ i by omega)
    rw [Nat.testBit_lt_two_pow (by omega), Nat.testBit_lt_two_pow (by omega)]
/-- counts -/
def ms_cnt (f : Nat → Bool) : Nat → Nat
  | 0 => 0
  | k + 1 => ms_cnt f k + (if f k = true then 1 else 0)
theorem ms_cnt_le (f : Nat → Bool) : ∀ k, ms_cnt f k ≤ k := by
  intro k
  induction k with
  | zero => exact Nat.le_refl _
  | succ k ih => unfold ms_cnt; split <;> omega
theorem ms_cnt_cg {f g : Nat → Bool} : ∀ k, (∀ i, i < k → f i = g i) → ms_cnt f k = ms_cnt g k := by
  intro k
  induction k with
  | zero => intro _; rfl
  | succ k ih => intro h; unfold ms_cnt; rw [ih (fun i hi => h i (by omega)), h k (by omega)]
theorem ms_cnt_up {f g : Nat → Bool} {j : Nat} (hf : f j = false) (hg : g j = true) (h : ∀ i, i ≠ j → g i = f i) : ∀ k, j < k → ms_cnt g k = ms_cnt f k + 1 := by
  intro k
  induction k with
  | zero => intro hj; omega
  | succ k ih =>
    intro hj
    unfold ms_cnt
    by_cases e : j = k
    · subst e
      rw [ms_cnt_cg (f := g) (g := f) j (fun i hi => h i (by omega)), hf, hg]
      simp
    · rw [ih (by omega), h k (by omega)]
      omega
theorem ms_cnt_full {f : Nat → Bool} {j : Nat} (hf : f j = false) : ∀ k, j < k → ms_cnt f k < k := by
  intro k
  induction k with
  | zero => intro hj; omega
  | succ k ih =>
    intro hj
    unfold ms_cnt
    by_cases e : j = k
    · subst e
      have := ms_cnt_le f j
      rw [hf]; simp; omega
    · have := ih (by omega)
      split <;> omega
theorem ms_cnt_mono {f g : Nat → Bool} (h : ∀ i, f i = true → g i = true) : ∀ k, ms_cnt f k ≤ ms_cnt g k := by
  intro k
  induction k with
  | zero => exact Nat.le_refl _
  | succ k ih =>
    unfold ms_cnt
    by_cases e : f k = true
    · rw [if_pos e, if_pos (h k e)]; omega
    · rw [if_neg e]; omega
theorem ms_cnt_gr {f g : Nat → Bool} {j : Nat} (h : ∀ i, f i = true → g i = true) (hf : f j = false) (hg : g j = true) : ∀ k, j < k → ms_cnt f k + 1 ≤ ms_cnt g k := by
  intro k
  induction k with
  | zero => intro hj; omega
  | succ k ih =>
    intro hj
    unfold ms_cnt
    by_cases e : j = k
    · subst e
      rw [hf, hg]
      have := ms_cnt_mono h j
      simp; omega
    · have := ih (by omega)
      by_cases e2 : f k = true
      · rw [if_pos e2, if_pos (h k e2)]; omega
      · rw [if_neg e2]; omega
def ms_pc (s : Nat) : Nat := ms_cnt s.testBit 10
theorem ms_pc_le (s : Nat) : ms_pc s ≤ 10 := ms_cnt_le _ _
theorem ms_pc_or {p v : Nat} (hv : v < 10) (h : p.testBit v = false) : ms_pc (p ||| 2 ^ v) = ms_pc p + 1 := by
  unfold ms_pc
  refine ms_cnt_up (j := v) h ?_ ?_ 10 hv
  · rw [Nat.testBit_or, ms_tb2]; simp
  · intro i hi
    rw [Nat.testBit_or, ms_tb2]
    simp [Ne.symm hi]
