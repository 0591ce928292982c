-- what a solve leaves: the count is the number of covering masks; the stored covers, in their order
def cs_S (n q : Nat) (cov : Nat → Bool) (sm : Nat → Int32) : Prop := q = cv_n cov (2 ^ n) ∧ ∃ g : Nat → Nat, ∀ k, k < q → k < 64 →
  sm k = nI (g k) ∧ g k < 2 ^ n ∧ cov (g k) = true ∧ g k ≠ 0 ∧ (k + 1 < q → cl_lt (g k) (g (k + 1)))
theorem cs_all {n : Nat} {cov : Nat → Bool} (h0 : cov 0 = false) (sm : Nat → Int32) : cs_S n (cw_walk cov n 0 0 (0, sm)).1 cov (cw_walk cov n 0 0 (0, sm)).2 := by
  have hq : (cw_walk cov n 0 0 (0, sm)).1 = (cl_L cov n 0 0).length := by
    rw [cl_fold, cl_f1]
    exact Nat.zero_add _
  have hl := cl_len cov n 0 0 (by decide)
  rw [if_neg (by rw [h0]; decide), Nat.add_zero] at hl
  have hc : cv_n (fun x => cov (0 + x * 2 ^ 0)) (2 ^ n) = cv_n cov (2 ^ n) := cl_congr _ (fun x _ => by rw [Nat.pow_zero, Nat.mul_one, Nat.zero_add])
  have gd : ∀ k (hk : k < (cl_L cov n 0 0).length), (cl_L cov n 0 0).getD k 0 = (cl_L cov n 0 0)[k] := by
    intro k hk
    simp [List.getD_eq_getElem?_getD, hk]
  refine ⟨by rw [hq, hl, hc], fun k => (cl_L cov n 0 0).getD k 0, ?_⟩
  intro k hk h64
  rw [hq] at hk
  have s := cl_f3 (cl_L cov n 0 0) (0, sm) k hk (show 0 + k < 64 by omega)
  rw [← cl_fold] at s
  have s2 : (cw_walk cov n 0 0 (0, sm)).2 (0 + k) = nI ((cl_L cov n 0 0).getD k 0) := s
  rw [Nat.zero_add] at s2
  have m := cl_mem cov n 0 0 ((cl_L cov n 0 0).getD k 0) (by decide) (by rw [gd k hk]; exact List.getElem_mem hk)
  rw [Nat.zero_add] at m
  refine ⟨s2, m.2.1, m.1, ?_, ?_⟩
  · intro z
    obtain ⟨j, _, hj⟩ := m.2.2.2
    have z2 : (cl_L cov n 0 0).getD k 0 = 0 := z
    rw [z2, Nat.zero_testBit] at hj
    exact absurd hj (by decide)
  · intro hk1
    rw [hq] at hk1
    have p := List.pairwise_iff_getElem.mp (cl_sorted cov n 0 0 (by decide)) k (k + 1) hk hk1 (by omega)
    show cl_lt ((cl_L cov n 0 0).getD k 0) ((cl_L cov n 0 0).getD (k + 1) 0)
    rw [gd k hk, gd (k + 1) hk1]
    exact p
theorem cs_bit {m : Nat} (hm : m < 65536) : ∀ o, o < 16 → sr_x (nI m) o = m.testBit o := by
  intro o ho
  unfold sr_x
  cases e : m.testBit o
  · exact decide_eq_false (fun y => y ((nx_bit hm ho).mpr e))
  · exact decide_eq_true (fun y => by rw [(nx_bit hm ho).mp y] at e; exact absurd e (by decide))
theorem cs_cnt {m : Nat} (hm : m < 65536) {i : Nat} (hi : i ≤ 16) : cv_n (sr_x (nI m)) i = cv_n m.testBit i := cl_congr i (fun o ho => cs_bit hm o (by omega))
theorem cs_pos {m : Nat} (hm : m < 2 ^ 16) (h0 : m ≠ 0) : 1 ≤ cv_n m.testBit 16 := by
  obtain ⟨j, hj⟩ := Nat.exists_testBit_of_ne_zero h0
  exact cv_n1' _ 16 j (cq_bit hm hj) hj
theorem cs_len {m n : Nat} (hn : n ≤ 16) (hm : m < 2 ^ n) : cv_n m.testBit 16 ≤ n := by
  have fl := cq_flat m.testBit n (16 - n) (fun o ho => Nat.testBit_lt_two_pow (Nat.lt_of_lt_of_le hm (cc_pw ho)))
  rw [show n + (16 - n) = 16 by omega] at fl
  rw [fl]
  exact cv_nle _ _
theorem cs_opt {m n o : Nat} (hm : m < 2 ^ n) (h : m.testBit o = true) : o < n := by
  rcases Nat.lt_or_ge o n with z | z
  · exact z
  · have := Nat.testBit_lt_two_pow (Nat.lt_of_lt_of_le hm (cc_pw z))
    rw [this] at h
    exact absurd h (by decide)
