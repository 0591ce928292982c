-- the two lists beside each other: their common places, then where they part
theorem cq_bit {x o : Nat} (hx : x < 2 ^ 16) (h : x.testBit o = true) : o < 16 := by
  rcases Nat.lt_or_ge o 16 with z | z
  · exact z
  · have := Nat.testBit_lt_two_pow (Nat.lt_of_lt_of_le hx (cc_pw z))
    rw [this] at h
    exact absurd h (by decide)
theorem cq_flat (f : Nat → Bool) (i : Nat) : ∀ d, (∀ o, i ≤ o → f o = false) → cv_n f (i + d) = cv_n f i := by
  intro d
  induction d with
  | zero => intro _; rfl
  | succ d ih =>
    intro h
    show cv_n f (i + d + 1) = _
    rw [cv_sf (by rw [h (i + d) (by omega)]; decide), ih h]
def cq_at (x j o : Nat) : Prop := x.testBit o = true ∧ cv_n x.testBit o = j
theorem cq_cmp {x y : Nat} (hx : x < 2 ^ 16) (hy : y < 2 ^ 16) (h : cl_lt x y) : ∃ w, w ≤ cv_n x.testBit 16 ∧ w < cv_n y.testBit 16 ∧
    (∀ j o, j < w → cq_at x j o → cq_at y j o) ∧
    ((w < cv_n x.testBit 16 ∧ ∃ i, cq_at x w i ∧ ∀ o, cq_at y w o → i < o) ∨ w = cv_n x.testBit 16) := by
  obtain ⟨i, hl, hr⟩ := h
  have hc : ∀ o, o ≤ i → cv_n x.testBit o = cv_n y.testBit o := fun o ho => cl_congr o (fun z hz => hl z (by omega))
  have common : ∀ j o, j < cv_n x.testBit i → cq_at x j o → cq_at y j o := by
    intro j o hj ho
    have hoi : o < i := by
      rcases Nat.lt_or_ge o i with z | z
      · exact z
      · have := cv_mono x.testBit z
        have := ho.2
        omega
    exact ⟨by rw [← hl o hoi]; exact ho.1, by rw [← hc o (by omega)]; exact ho.2⟩
  rcases hr with ⟨h1, h2, o, h3, h4⟩ | ⟨h1, h2⟩
  · have hi16 := cq_bit hx h1
    have ho16 := cq_bit hy h4
    have m1 := cv_mono x.testBit (show i + 1 ≤ 16 from hi16)
    rw [cv_st h1] at m1
    have m2 := cv_mono y.testBit (show o + 1 ≤ 16 from ho16)
    rw [cv_st h4] at m2
    have m3 := cv_mono y.testBit (show i ≤ o by omega)
    have e := hc i (Nat.le_refl i)
    refine ⟨cv_n x.testBit i, by omega, by omega, common, Or.inl ⟨by omega, i, ⟨h1, rfl⟩, ?_⟩⟩
    intro p hp
    rcases Nat.lt_trichotomy i p with z | z | z
    · exact z
    · subst z
      rw [hp.1] at h2
      exact absurd h2 (by decide)
    · have m4 := cv_mono y.testBit (show p + 1 ≤ i from z)
      rw [cv_st hp.1] at m4
      have := hp.2
      omega
  · have hi16 := cq_bit hy h1
    have m2 := cv_mono y.testBit (show i + 1 ≤ 16 from hi16)
    rw [cv_st h1] at m2
    have e := hc i (Nat.le_refl i)
    have fl := cq_flat x.testBit i (16 - i) h2
    rw [show i + (16 - i) = 16 by omega] at fl
    exact ⟨cv_n x.testBit i, by omega, by omega, common, Or.inr fl.symm⟩
-- the j-th option of a list stands somewhere
theorem cq_ex (f : Nat → Bool) : ∀ k j, j < cv_n f k → ∃ o, o < k ∧ f o = true ∧ cv_n f o = j := by
  intro k
  induction k with
  | zero => intro j h; exact absurd h (Nat.not_lt_zero j)
  | succ k ih =>
    intro j h
    by_cases z : f k = true
    · rw [cv_st z] at h
      by_cases y : j = cv_n f k
      · exact ⟨k, Nat.lt_succ_self k, z, y.symm⟩
      · obtain ⟨o, h1, h2⟩ := ih j (by omega)
        exact ⟨o, by omega, h2⟩
    · rw [cv_sf z] at h
      obtain ⟨o, h1, h2⟩ := ih j h
      exact ⟨o, by omega, h2⟩
