-- rows pasted from kit/rows (PURE-ROWS, BITS), then rows of this claim on bits
def bt (x : Int32) (i : Nat) : Bool := x.toBitVec.getLsbD i
theorem b_ext {x y : Int32} (h : ∀ i, i < 32 → bt x i = bt y i) : x = y := Int32.toBitVec_inj.mp (BitVec.eq_of_getLsbD_eq (fun i hi => h i hi))
theorem b_or (x y : Int32) (i : Nat) : bt (x ||| y) i = (bt x i || bt y i) := by unfold bt; rw [Int32.toBitVec_or, BitVec.getLsbD_or]
theorem b_and (x y : Int32) (i : Nat) : bt (x &&& y) i = (bt x i && bt y i) := by unfold bt; rw [Int32.toBitVec_and, BitVec.getLsbD_and]
theorem b_xor (x y : Int32) (i : Nat) : bt (x ^^^ y) i = (bt x i ^^ bt y i) := by unfold bt; rw [Int32.toBitVec_xor, BitVec.getLsbD_xor]
theorem b_m1 : ∀ i, i < 32 → bt (-1) i = true := by decide +kernel
theorem nx_and (a b : Nat) : nI a &&& nI b = nI (a &&& b) := by
  apply Int32.toBitVec_inj.1
  show BitVec.ofNat 32 a &&& BitVec.ofNat 32 b = BitVec.ofNat 32 (a &&& b)
  apply BitVec.eq_of_getLsbD_eq
  intro i hi
  simp [hi]
theorem nx_cnt : ∀ j : Fin 32, (UInt32.ofNat j.val &&& Int32.toUInt32 31).toNat % 32 = j.val := by decide +kernel
theorem nx_ush {k j : Nat} (hk : k < 65536) (hj : j < 32) : ((nI k).toUInt32 >>> ((nI j).toUInt32 &&& Int32.toUInt32 31)).toInt32 = nI (k >>> j) := by
  have hs : k >>> j ≤ k := by
    rw [Nat.shiftRight_eq_div_pow]
    exact Nat.div_le_self _ _
  have e2 : UInt32.ofNat k >>> (UInt32.ofNat j &&& Int32.toUInt32 31) = UInt32.ofNat (k >>> j) := by
    apply UInt32.toNat_inj.1
    have h1 : (UInt32.ofNat k).toNat = k := Nat.mod_eq_of_lt (by omega)
    have h2 : (UInt32.ofNat (k >>> j)).toNat = k >>> j := Nat.mod_eq_of_lt (by omega)
    rw [UInt32.toNat_shiftRight, nx_cnt ⟨j, hj⟩, h1, h2]
  show (UInt32.ofNat k >>> (UInt32.ofNat j &&& Int32.toUInt32 31)).toInt32 = _
  rw [e2]
  rfl
theorem nx_bit {k j : Nat} (hk : k < 65536) (hj : j < 16) : (((nI k).toUInt32 >>> ((nI j).toUInt32 &&& Int32.toUInt32 31)).toInt32 &&& 1) = 0 ↔ k.testBit j = false := by
  rw [nx_ush hk (by omega)]
  show nI (k >>> j) &&& nI 1 = 0 ↔ _
  rw [nx_and, Nat.and_one_is_mod, ← nI_0, nI_eq (by omega) (by omega), Nat.testBit_eq_decide_div_mod_eq, Nat.shiftRight_eq_div_pow, decide_eq_false_iff_not]
  generalize k / 2 ^ j = z
  omega
theorem s_u : ∀ n, n < 32 → (((nI n).toUInt32 &&& Int32.toUInt32 31).toBitVec % 32).toNat = n := by decide +kernel
theorem wb_of32 (x : Int32) : ∃ n, n < 2 ^ 32 ∧ x = nI n := ⟨x.toBitVec.toNat, x.toBitVec.isLt, Int32.toBitVec_inj.mp (by show _ = BitVec.ofNat 32 _; simp)⟩
theorem cc_or (a b : Nat) : nI a ||| nI b = nI (a ||| b) := by
  apply Int32.toBitVec_inj.1
  show BitVec.ofNat 32 a ||| BitVec.ofNat 32 b = BitVec.ofNat 32 (a ||| b)
  apply BitVec.eq_of_getLsbD_eq
  intro i hi
  simp [hi]
theorem cc_sh : ∀ j, j < 31 → (1 : Int32) <<< (nI j &&& 31) = nI (2 ^ j) := by decide +kernel
theorem cc_bt (a : Nat) {j : Nat} (hj : j < 32) : bt (nI a) j = a.testBit j := by
  show (BitVec.ofNat 32 a).getLsbD j = a.testBit j
  rw [BitVec.getLsbD_ofNat, decide_eq_true hj, Bool.true_and]
theorem cc_del {c i : Nat} (hi : i < 16) (hc : c < 2 ^ i) : nI (c ||| 2 ^ i) &&& (nI (2 ^ i) ^^^ (-1)) = nI c := by
  apply b_ext
  intro j hj
  rw [b_and, b_xor, b_m1 j hj, cc_bt _ hj, cc_bt _ hj, cc_bt _ hj, Nat.testBit_or, Nat.testBit_two_pow]
  by_cases h : i = j
  · subst h
    rw [Nat.testBit_lt_two_pow hc]
    simp
  · simp [h]
theorem cc_p16 {i : Nat} (h : i ≤ 16) : 2 ^ i ≤ 65536 := Nat.pow_le_pow_right (by decide) h
theorem cc_pw {i j : Nat} (h : i ≤ j) : 2 ^ i ≤ 2 ^ j := Nat.pow_le_pow_right (by decide) h
theorem cc_orlt {c i n : Nat} (hc : c < 2 ^ i) (h : i < n) : c ||| 2 ^ i < 2 ^ n :=
  Nat.or_lt_two_pow (Nat.lt_of_lt_of_le hc (cc_pw (by omega))) (Nat.lt_of_lt_of_le (Nat.pow_lt_pow_right (by decide) (Nat.lt_succ_self i)) (cc_pw h))
theorem cc_lift {c i : Nat} (hc : c < 2 ^ i) : c < 2 ^ (i + 1) := Nat.lt_of_lt_of_le hc (cc_pw (by omega))
theorem cc_ne0 (c i : Nat) : c ||| 2 ^ i ≠ 0 := by
  intro h
  have e : (c ||| 2 ^ i).testBit i = true := by rw [Nat.testBit_or, Nat.testBit_two_pow_self, Bool.or_true]
  rw [h, Nat.zero_testBit] at e
  exact absurd e (by decide)
theorem cc_top (c i : Nat) : (c ||| 2 ^ i).testBit i = true := by rw [Nat.testBit_or, Nat.testBit_two_pow_self, Bool.or_true]
theorem cc_above {c i j : Nat} (hc : c < 2 ^ i) (h : i < j) : (c ||| 2 ^ i).testBit j = false :=
  Nat.testBit_lt_two_pow (cc_orlt hc h)
theorem cc_bf {b : Bool} (h : ¬ b = true) : b = false := by cases b <;> first | rfl | exact absurd rfl h
theorem cc_and0 {a b : Nat} : a &&& b ≠ 0 ↔ ∃ j, a.testBit j = true ∧ b.testBit j = true := by
  constructor
  · intro h
    obtain ⟨j, hj⟩ := Nat.exists_testBit_of_ne_zero h
    rw [Nat.testBit_and, Bool.and_eq_true] at hj
    exact ⟨j, hj⟩
  · rintro ⟨j, h1, h2⟩ h
    have e : (a &&& b).testBit j = true := by rw [Nat.testBit_and, h1, h2]; rfl
    rw [h, Nat.zero_testBit] at e
    exact absurd e (by decide)
theorem cc_m1 : (-1 : Int32) + 1 = nI 0 := by decide +kernel
theorem cc_m1ne (j : Nat) (h : j < 2 ^ 31) : ¬ nI j = -1 := by
  intro e
  have := nI_pos (n := j) h
  rw [e] at this
  exact this (by decide)
theorem cc_in {n : Nat} (hn : n ≤ 16) (x : Int32) : (x.toUInt32 >>> ((nI n).toUInt32 &&& Int32.toUInt32 31)).toInt32 = 0 ↔ ∃ m, m < 2 ^ n ∧ x = nI m := by
  constructor
  · intro h
    obtain ⟨k, hk, rfl⟩ := wb_of32 x
    rw [pk_ushrN hk (nI n) n (s_u n (by omega))] at h
    have h1 : k / 2 ^ n < 2 ^ 32 := Nat.lt_of_le_of_lt (Nat.div_le_self _ _) hk
    have h2 : (nI (k / 2 ^ n)).toBitVec.toNat = k / 2 ^ n := pk_tn h1
    rw [h] at h2
    have h3 : k / 2 ^ n = 0 := h2.symm
    refine ⟨k, ?_, rfl⟩
    rcases Nat.lt_or_ge k (2 ^ n) with z | z
    · exact z
    · have := Nat.div_pos z (Nat.two_pow_pos n)
      omega
  · rintro ⟨m, hm, rfl⟩
    have hm2 : m < 65536 := Nat.lt_of_lt_of_le hm (cc_p16 hn)
    rw [nx_ush hm2 (by omega), Nat.shiftRight_eq_div_pow, Nat.div_eq_of_lt hm]
    rfl
theorem cc_div {t c : Nat} (hc : c < 16) (ht : t < 65536) : nI (t * 16 + c) / 16 = nI t := by
  have h := pk_div (a := t * 16 + c) (d := 16) (by omega) (by omega) (by omega)
  rw [show (t * 16 + c) / 16 = t by omega] at h
  exact h
theorem cc_rem {t c : Nat} (hc : c < 16) (ht : t < 65536) : nI (t * 16 + c) - nI (t * 16 + c) / 16 * 16 = nI c := by
  have h := pk_rem (a := t * 16 + c) (d := 16) (by omega) (by omega) (by omega)
  rw [show (t * 16 + c) % 16 = c by omega] at h
  exact h
theorem cc_mk (t c : Nat) : nI t * 16 + nI c = nI (t * 16 + c) := by
  show nI t * nI 16 + nI c = _
  rw [pk_mul, nI_add]
theorem cc_16 : ¬ (16 : Int32) = 0 := by decide
theorem cc_cl (i : Nat) (h : i < 2 ^ 31 := by omega) : (nI i).toNatClampNeg = i := nI_clamp h
