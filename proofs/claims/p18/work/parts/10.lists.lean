-- the covers in the order of the walk, as a list
def cl_L (cov : Nat → Bool) : Nat → Nat → Nat → List Nat
  | 0, _, _ => []
  | d + 1, c, i => (if cov (c ||| 2 ^ i) = true then [c ||| 2 ^ i] else []) ++ (cl_L cov d (c ||| 2 ^ i) (i + 1) ++ cl_L cov d c (i + 1))
def cl_push (a : Nat × (Nat → Int32)) (m : Nat) : Nat × (Nat → Int32) := (a.1 + 1, if a.1 < 64 then upd a.2 a.1 (nI m) else a.2)
theorem cl_fold (cov : Nat → Bool) : ∀ d c i a, cw_walk cov d c i a = List.foldl cl_push a (cl_L cov d c i) := by
  intro d
  induction d with
  | zero => intro c i a; rfl
  | succ d ih =>
    intro c i a
    show cw_walk cov d c (i + 1) (cw_walk cov d (c ||| 2 ^ i) (i + 1) (cw_put cov (c ||| 2 ^ i) a)) = _
    rw [ih, ih]
    show _ = List.foldl cl_push a ((if cov (c ||| 2 ^ i) = true then [c ||| 2 ^ i] else []) ++ (cl_L cov d (c ||| 2 ^ i) (i + 1) ++ cl_L cov d c (i + 1)))
    rw [List.foldl_append, List.foldl_append]
    unfold cw_put
    by_cases z : cov (c ||| 2 ^ i) = true
    · rw [if_pos z, if_pos z]; rfl
    · rw [if_neg z, if_neg z]; rfl
theorem cl_f1 : ∀ (L : List Nat) (a : Nat × (Nat → Int32)), (List.foldl cl_push a L).1 = a.1 + L.length := by
  intro L
  induction L with
  | nil => intro a; rfl
  | cons m L ih =>
    intro a
    show (List.foldl cl_push (cl_push a m) L).1 = a.1 + (L.length + 1)
    rw [ih]
    show a.1 + 1 + L.length = _
    omega
theorem cl_f2 : ∀ (L : List Nat) (a : Nat × (Nat → Int32)) (k : Nat), k < a.1 → (List.foldl cl_push a L).2 k = a.2 k := by
  intro L
  induction L with
  | nil => intro a k _; rfl
  | cons m L ih =>
    intro a k hk
    show (List.foldl cl_push (cl_push a m) L).2 k = a.2 k
    rw [ih (cl_push a m) k (show k < a.1 + 1 by omega)]
    show (if a.1 < 64 then upd a.2 a.1 (nI m) else a.2) k = a.2 k
    by_cases z : a.1 < 64
    · rw [if_pos z, pk_un (by omega)]
    · rw [if_neg z]
theorem cl_f3 : ∀ (L : List Nat) (a : Nat × (Nat → Int32)) (j : Nat), j < L.length → a.1 + j < 64 → (List.foldl cl_push a L).2 (a.1 + j) = nI (L.getD j 0) := by
  intro L
  induction L with
  | nil => intro a j h; exact absurd h (Nat.not_lt_zero j)
  | cons m L ih =>
    intro a j hj h64
    show (List.foldl cl_push (cl_push a m) L).2 (a.1 + j) = _
    cases j with
    | zero =>
      rw [cl_f2 L (cl_push a m) (a.1 + 0) (show a.1 + 0 < a.1 + 1 by omega)]
      show (if a.1 < 64 then upd a.2 a.1 (nI m) else a.2) (a.1 + 0) = nI m
      rw [if_pos (by omega), Nat.add_zero, pk_us]
    | succ j =>
      have h2 : j < L.length := by
        have : j + 1 < L.length + 1 := hj
        omega
      have k := ih (cl_push a m) j h2 (show a.1 + 1 + j < 64 by omega)
      have e : a.1 + (j + 1) = (cl_push a m).1 + j := by show a.1 + (j + 1) = a.1 + 1 + j; omega
      rw [e, k]
      rfl
-- members: covers, that begin with c, and go on at i or behind
theorem cl_mem (cov : Nat → Bool) : ∀ d c i m, c < 2 ^ i → m ∈ cl_L cov d c i → cov m = true ∧ m < 2 ^ (i + d) ∧ (∀ j, j < i → m.testBit j = c.testBit j) ∧ ∃ j, i ≤ j ∧ m.testBit j = true := by
  intro d
  induction d with
  | zero => intro c i m _ h; exact absurd h (List.not_mem_nil)
  | succ d ih =>
    intro c i m hc h
    have h' : m ∈ (if cov (c ||| 2 ^ i) = true then [c ||| 2 ^ i] else []) ++ (cl_L cov d (c ||| 2 ^ i) (i + 1) ++ cl_L cov d c (i + 1)) := h
    have hm : c ||| 2 ^ i < 2 ^ (i + 1) := cc_orlt hc (Nat.lt_succ_self i)
    have low : ∀ j, j < i → (c ||| 2 ^ i).testBit j = c.testBit j := by
      intro j hj
      rw [Nat.testBit_or, Nat.testBit_two_pow_of_ne (by omega), Bool.or_false]
    have ed : i + 1 + d = i + (d + 1) := by omega
    rcases List.mem_append.mp h' with h1 | h1
    · by_cases z : cov (c ||| 2 ^ i) = true
      · rw [if_pos z] at h1
        have e := List.mem_singleton.mp h1
        subst e
        exact ⟨z, Nat.lt_of_lt_of_le hm (cc_pw (by omega)), low, i, Nat.le_refl i, cc_top c i⟩
      · rw [if_neg z] at h1
        exact absurd h1 (List.not_mem_nil)
    · rcases List.mem_append.mp h1 with h2 | h2
      · obtain ⟨k1, k2, k3, k4⟩ := ih _ _ m hm h2
        rw [ed] at k2
        refine ⟨k1, k2, ?_, i, Nat.le_refl i, ?_⟩
        · intro j hj
          rw [k3 j (by omega), low j hj]
        · rw [k3 i (by omega), cc_top]
      · obtain ⟨k1, k2, k3, j, k4, k5⟩ := ih _ _ m (cc_lift hc) h2
        rw [ed] at k2
        exact ⟨k1, k2, fun j hj => k3 j (by omega), j, by omega, k5⟩
-- the order of the lists, by bits: the first option where they part
def cl_lt (x y : Nat) : Prop := ∃ i, (∀ o, o < i → x.testBit o = y.testBit o) ∧
  ((x.testBit i = true ∧ y.testBit i = false ∧ ∃ o, i < o ∧ y.testBit o = true) ∨ (y.testBit i = true ∧ ∀ o, i ≤ o → x.testBit o = false))
theorem cl_sorted (cov : Nat → Bool) : ∀ d c i, c < 2 ^ i → List.Pairwise cl_lt (cl_L cov d c i) := by
  intro d
  induction d with
  | zero => intro c i _; exact List.Pairwise.nil
  | succ d ih =>
    intro c i hc
    have hm : c ||| 2 ^ i < 2 ^ (i + 1) := cc_orlt hc (Nat.lt_succ_self i)
    have low : ∀ j, j < i → (c ||| 2 ^ i).testBit j = c.testBit j := by
      intro j hj
      rw [Nat.testBit_or, Nat.testBit_two_pow_of_ne (by omega), Bool.or_false]
    have last : ∀ x y, (∀ j, j < i → x.testBit j = c.testBit j) → x.testBit i = true → y ∈ cl_L cov d c (i + 1) → cl_lt x y := by
      intro x y hx hxi hy
      obtain ⟨k1, k2, k3, j, k4, k5⟩ := cl_mem cov d c (i + 1) y (cc_lift hc) hy
      refine ⟨i, ?_, Or.inl ⟨hxi, ?_, j, by omega, k5⟩⟩
      · intro o ho
        rw [hx o ho, k3 o (by omega)]
      · rw [k3 i (by omega)]
        exact Nat.testBit_lt_two_pow hc
    show List.Pairwise cl_lt ((if cov (c ||| 2 ^ i) = true then [c ||| 2 ^ i] else []) ++ (cl_L cov d (c ||| 2 ^ i) (i + 1) ++ cl_L cov d c (i + 1)))
    rw [List.pairwise_append, List.pairwise_append]
    refine ⟨?_, ⟨ih _ _ hm, ih _ _ (cc_lift hc), ?_⟩, ?_⟩
    · by_cases z : cov (c ||| 2 ^ i) = true
      · rw [if_pos z]; exact List.pairwise_singleton _ _
      · rw [if_neg z]; exact List.Pairwise.nil
    · intro x hx y hy
      obtain ⟨k1, k2, k3, k4⟩ := cl_mem cov d _ _ x hm hx
      refine last x y ?_ ?_ hy
      · intro j hj
        rw [k3 j (by omega), low j hj]
      · rw [k3 i (by omega), cc_top]
    · intro x hx y hy
      by_cases z : cov (c ||| 2 ^ i) = true
      · rw [if_pos z] at hx
        have e := List.mem_singleton.mp hx
        subst e
        rcases List.mem_append.mp hy with h2 | h2
        · obtain ⟨k1, k2, k3, j, k4, k5⟩ := cl_mem cov d _ _ y hm h2
          obtain ⟨w, hw, hw2⟩ := pk_least (fun j => i + 1 ≤ j ∧ y.testBit j = true) ⟨j, k4, k5⟩
          refine ⟨w, ?_, Or.inr ⟨hw.2, ?_⟩⟩
          · intro o ho
            by_cases u : o < i + 1
            · exact (k3 o u).symm
            · have h5 : y.testBit o = false := by
                apply cc_bf
                intro h6
                exact hw2 o ho ⟨by omega, h6⟩
              rw [h5]
              exact cc_above hc (by omega)
          · intro o ho
            exact cc_above hc (by have := hw.1; omega)
        · exact last _ y low (cc_top c i) h2
      · rw [if_neg z] at hx
        exact absurd hx (List.not_mem_nil)
-- how many there are
theorem cl_split (f : Nat → Bool) : ∀ k, cv_n f (2 * k) = cv_n (fun x => f (2 * x)) k + cv_n (fun x => f (2 * x + 1)) k := by
  intro k
  induction k with
  | zero => rfl
  | succ k ih =>
    have e : cv_n f (2 * (k + 1)) = cv_n f (2 * k) + (if f (2 * k) = true then 1 else 0) + (if f (2 * k + 1) = true then 1 else 0) := rfl
    have e1 : cv_n (fun x => f (2 * x)) (k + 1) = cv_n (fun x => f (2 * x)) k + (if f (2 * k) = true then 1 else 0) := rfl
    have e2 : cv_n (fun x => f (2 * x + 1)) (k + 1) = cv_n (fun x => f (2 * x + 1)) k + (if f (2 * k + 1) = true then 1 else 0) := rfl
    omega
theorem cl_congr {f g : Nat → Bool} : ∀ k, (∀ x, x < k → f x = g x) → cv_n f k = cv_n g k := by
  intro k
  induction k with
  | zero => intro _; rfl
  | succ k ih =>
    intro h
    show cv_n f k + (if f k = true then 1 else 0) = cv_n g k + (if g k = true then 1 else 0)
    rw [ih (fun x hx => h x (by omega)), h k (Nat.lt_succ_self k)]
theorem cl_addor {c i : Nat} (hc : c < 2 ^ i) : c ||| 2 ^ i = c + 2 ^ i := by
  have := Nat.two_pow_add_eq_or_of_lt hc 1
  rw [Nat.mul_one] at this
  rw [Nat.or_comm, ← this, Nat.add_comm]
theorem cl_len (cov : Nat → Bool) : ∀ d c i, c < 2 ^ i → (cl_L cov d c i).length + (if cov c = true then 1 else 0) = cv_n (fun x => cov (c + x * 2 ^ i)) (2 ^ d) := by
  intro d
  induction d with
  | zero =>
    intro c i _
    show 0 + (if cov c = true then 1 else 0) = 0 + (if cov (c + 0 * 2 ^ i) = true then 1 else 0)
    rw [Nat.zero_mul, Nat.add_zero]
  | succ d ih =>
    intro c i hc
    have hm : c ||| 2 ^ i < 2 ^ (i + 1) := cc_orlt hc (Nat.lt_succ_self i)
    have e0 : (cl_L cov (d + 1) c i).length = (if cov (c ||| 2 ^ i) = true then 1 else 0) + ((cl_L cov d (c ||| 2 ^ i) (i + 1)).length + (cl_L cov d c (i + 1)).length) := by
      show ((if cov (c ||| 2 ^ i) = true then [c ||| 2 ^ i] else []) ++ (cl_L cov d (c ||| 2 ^ i) (i + 1) ++ cl_L cov d c (i + 1))).length = _
      rw [List.length_append, List.length_append]
      by_cases z : cov (c ||| 2 ^ i) = true
      · rw [if_pos z, if_pos z]; rfl
      · rw [if_neg z, if_neg z]; rfl
    have e1 := ih (c ||| 2 ^ i) (i + 1) hm
    have e2 := ih c (i + 1) (cc_lift hc)
    have e3 : 2 ^ (d + 1) = 2 * 2 ^ d := by rw [Nat.pow_succ, Nat.mul_comm]
    have pw : 2 ^ (i + 1) = 2 * 2 ^ i := by rw [Nat.pow_succ, Nat.mul_comm]
    rw [e3, cl_split]
    have e4 : cv_n (fun x => cov (c + 2 * x * 2 ^ i)) (2 ^ d) = cv_n (fun x => cov (c + x * 2 ^ (i + 1))) (2 ^ d) := by
      apply cl_congr
      intro x _
      have : 2 * x * 2 ^ i = x * 2 ^ (i + 1) := by rw [pw, Nat.mul_comm 2 x, Nat.mul_assoc]
      rw [this]
    have e5 : cv_n (fun x => cov (c + (2 * x + 1) * 2 ^ i)) (2 ^ d) = cv_n (fun x => cov ((c ||| 2 ^ i) + x * 2 ^ (i + 1))) (2 ^ d) := by
      apply cl_congr
      intro x _
      have : c + (2 * x + 1) * 2 ^ i = (c ||| 2 ^ i) + x * 2 ^ (i + 1) := by
        rw [cl_addor hc, pw, Nat.add_mul, Nat.one_mul, Nat.mul_comm 2 x, Nat.mul_assoc]
        omega
      rw [this]
    rw [e4, e5, ← e1, ← e2, e0]
    omega
