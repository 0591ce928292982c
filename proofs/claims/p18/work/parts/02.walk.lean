-- the walk over the ascending lists, pure: c the options taken before, i the next option, d options left
def cw_put (cov : Nat → Bool) (m : Nat) (a : Nat × (Nat → Int32)) : Nat × (Nat → Int32) :=
  if cov m = true then (a.1 + 1, if a.1 < 64 then upd a.2 a.1 (nI m) else a.2) else a
def cw_walk (cov : Nat → Bool) : Nat → Nat → Nat → Nat × (Nat → Int32) → Nat × (Nat → Int32)
  | 0, _, _, a => a
  | d + 1, c, i, a => cw_walk cov d c (i + 1) (cw_walk cov d (c ||| 2 ^ i) (i + 1) (cw_put cov (c ||| 2 ^ i) a))
theorem cw_put0 {cov : Nat → Bool} {m : Nat} (a : Nat × (Nat → Int32)) (h : cov m = false) : cw_put cov m a = a := by
  unfold cw_put
  rw [h]
  rfl
theorem cw_putle (cov : Nat → Bool) (m : Nat) (a : Nat × (Nat → Int32)) : (cw_put cov m a).1 ≤ a.1 + 1 := by
  unfold cw_put
  split
  · exact Nat.le_refl _
  · omega
theorem cw_skip {cov : Nat → Bool} (cl : Nat → Bool) (h1 : ∀ m x, cl m = true → cl (m ||| x) = true) (h2 : ∀ m, cl m = true → cov m = false) :
    ∀ d c i a, cl c = true → cw_walk cov d c i a = a := by
  intro d
  induction d with
  | zero => intro c i a _; rfl
  | succ d ih =>
    intro c i a hc
    show cw_walk cov d c (i + 1) (cw_walk cov d (c ||| 2 ^ i) (i + 1) (cw_put cov (c ||| 2 ^ i) a)) = a
    have hm := h1 c (2 ^ i) hc
    rw [cw_put0 a (h2 _ hm), ih _ _ _ hm, ih _ _ _ hc]
-- what follows behind the block of c: c moved on, or nothing
def cw_N (c z : Nat) : Prop := (c = 0 ∧ z = 0) ∨ ∃ e j, e < 2 ^ j ∧ c = e ||| 2 ^ j ∧ z = e ||| 2 ^ (j + 1)
theorem cw_X {n : Nat} (hn : n ≤ 16) (cov cl : Nat → Bool) (W : Nat → Nat → Nat × (Nat → Int32) → Prop)
    (h1 : ∀ m x, cl m = true → cl (m ||| x) = true) (h2 : ∀ m, cl m = true → cov m = false)
    (hl : ∀ t c i z a, c < 2 ^ i → i + 1 = n → t < 65536 → a.1 ≤ t → cw_N c z → W (t + 1) z (cw_put cov (c ||| 2 ^ i) a) → W t (c ||| 2 ^ i) a)
    (hc : ∀ t c i a, c < 2 ^ i → i + 1 < n → t < 65536 → a.1 ≤ t → cl (c ||| 2 ^ i) = true → W (t + 1) (c ||| 2 ^ (i + 1)) (cw_put cov (c ||| 2 ^ i) a) → W t (c ||| 2 ^ i) a)
    (hg : ∀ t c i a, c < 2 ^ i → i + 1 < n → t < 65536 → a.1 ≤ t → cl (c ||| 2 ^ i) = false → W (t + 1) ((c ||| 2 ^ i) ||| 2 ^ (i + 1)) (cw_put cov (c ||| 2 ^ i) a) → W t (c ||| 2 ^ i) a) :
    ∀ d c i t a z, i + d + 1 = n → c < 2 ^ i → t + 2 ^ (d + 1) ≤ 65537 → a.1 ≤ t → cw_N c z →
      (∀ t', t' + 1 ≤ t + 2 ^ (d + 1) → (cw_walk cov (d + 1) c i a).1 ≤ t' → W t' z (cw_walk cov (d + 1) c i a)) → W t (c ||| 2 ^ i) a := by
  intro d
  induction d with
  | zero =>
    intro c i t a z hi hc0 ht ha hz hw
    have hp := cw_putle cov (c ||| 2 ^ i) a
    exact hl t c i z a hc0 hi (by omega) ha hz (hw (t + 1) (by omega) (Nat.le_trans hp (by omega)))
  | succ d ih =>
    intro c i t a z hi hc0 ht ha hz hw
    have hp := cw_putle cov (c ||| 2 ^ i) a
    have e2 : 2 ^ (d + 1 + 1) = 2 ^ (d + 1) + 2 ^ (d + 1) := by rw [Nat.pow_succ 2 (d + 1)]; omega
    have hpos : 0 < 2 ^ (d + 1) := Nat.two_pow_pos _
    have hm : c ||| 2 ^ i < 2 ^ (i + 1) := cc_orlt hc0 (Nat.lt_succ_self i)
    cases hcl : cl (c ||| 2 ^ i) with
    | true =>
      refine hc t c i a hc0 (by omega) (by omega) ha hcl ?_
      refine ih c (i + 1) (t + 1) _ z (by omega) (cc_lift hc0) (by omega) (by omega) hz ?_
      intro t' h3 h4
      have e : cw_walk cov (d + 1 + 1) c i a = cw_walk cov (d + 1) c (i + 1) (cw_put cov (c ||| 2 ^ i) a) := by
        show cw_walk cov (d + 1) c (i + 1) (cw_walk cov (d + 1) (c ||| 2 ^ i) (i + 1) (cw_put cov (c ||| 2 ^ i) a)) = _
        rw [cw_skip cl h1 h2 (d + 1) (c ||| 2 ^ i) (i + 1) _ hcl]
      rw [← e] at h4 ⊢
      exact hw t' (by omega) h4
    | false =>
      refine hg t c i a hc0 (by omega) (by omega) ha hcl ?_
      refine ih (c ||| 2 ^ i) (i + 1) (t + 1) _ (c ||| 2 ^ (i + 1)) (by omega) hm (by omega) (by omega) (Or.inr ⟨c, i, hc0, rfl, rfl⟩) ?_
      intro t1 h3 h4
      refine ih c (i + 1) t1 _ z (by omega) (cc_lift hc0) (by omega) h4 hz ?_
      intro t' h5 h6
      exact hw t' (by omega) h6
theorem cw_Y {n : Nat} (cov : Nat → Bool) (W : Nat → Nat → Nat → Nat × (Nat → Int32) → Prop)
    (hg : ∀ s c i a, c < 2 ^ i → i + 1 < n → s < 2 ^ n → a.1 < s → W (s + 1) ((c ||| 2 ^ i) ||| 2 ^ (i + 1)) (i + 1) (cw_put cov ((c ||| 2 ^ i) ||| 2 ^ (i + 1)) a) → W s (c ||| 2 ^ i) i a)
    (hd : ∀ s c j a, c < 2 ^ j → j + 1 < n → s < 2 ^ n → a.1 < s → W (s + 1) (c ||| 2 ^ (j + 1)) (j + 1) (cw_put cov (c ||| 2 ^ (j + 1)) a) → W s ((c ||| 2 ^ j) ||| 2 ^ (n - 1)) (n - 1) a) :
    ∀ d c i s a, i + d + 1 = n → c < 2 ^ i → s + 2 ^ (d + 1) ≤ 2 ^ n + 2 → a.1 + 1 < s →
      ((cw_walk cov (d + 1) c i a).1 < s + 2 ^ (d + 1) - 2 → W (s + 2 ^ (d + 1) - 2) (c ||| 2 ^ (n - 1)) (n - 1) (cw_walk cov (d + 1) c i a)) →
      W s (c ||| 2 ^ i) i (cw_put cov (c ||| 2 ^ i) a) := by
  intro d
  induction d with
  | zero =>
    intro c i s a hi hc hs ha hw
    obtain rfl : i = n - 1 := by omega
    have hp := cw_putle cov (c ||| 2 ^ (n - 1)) a
    exact hw (Nat.lt_of_le_of_lt hp (by omega))
  | succ d ih =>
    intro c i s a hi hc hs ha hw
    have e2 : 2 ^ (d + 1 + 1) = 2 ^ (d + 1) + 2 ^ (d + 1) := by rw [Nat.pow_succ 2 (d + 1)]; omega
    have hpos : 2 ≤ 2 ^ (d + 1) := by have := Nat.two_pow_pos d; rw [Nat.pow_succ]; omega
    have hm : c ||| 2 ^ i < 2 ^ (i + 1) := cc_orlt hc (Nat.lt_succ_self i)
    have hp := cw_putle cov (c ||| 2 ^ i) a
    refine hg s c i _ hc (by omega) (by omega) (by omega) ?_
    refine ih (c ||| 2 ^ i) (i + 1) (s + 1) _ (by omega) hm (by omega) (by omega) ?_
    intro h3
    refine hd (s + 1 + 2 ^ (d + 1) - 2) c i _ hc (by omega) (by omega) h3 ?_
    have e3 : s + 1 + 2 ^ (d + 1) - 2 + 1 = s + 2 ^ (d + 1) := by omega
    rw [e3]
    refine ih c (i + 1) (s + 2 ^ (d + 1)) _ (by omega) (cc_lift hc) (by omega) (by omega) ?_
    intro h4
    have e4 : s + 2 ^ (d + 1) + 2 ^ (d + 1) - 2 = s + 2 ^ (d + 1 + 1) - 2 := by omega
    rw [e4] at h4 ⊢
    exact hw h4
