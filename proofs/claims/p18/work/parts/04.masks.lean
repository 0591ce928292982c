-- the class's masks, pure: ec o the earlier options that clash with o, pm o the primary items of o
def cx_cl (ec : Nat → Nat) : Nat → Nat → Bool
  | 0, _ => false
  | o + 1, m => cx_cl ec o m || (m.testBit o && decide (ec o &&& m ≠ 0))
def cx_un (pm : Nat → Nat) : Nat → Nat → Nat
  | 0, _ => 0
  | o + 1, m => if m.testBit o = true then cx_un pm o m ||| pm o else cx_un pm o m
theorem cx_cli (ec : Nat → Nat) (m : Nat) : ∀ n, cx_cl ec n m = true ↔ ∃ o, o < n ∧ m.testBit o = true ∧ ec o &&& m ≠ 0 := by
  intro n
  induction n with
  | zero => exact ⟨fun h => absurd h (show ¬ false = true by decide), fun ⟨o, h, _⟩ => absurd h (Nat.not_lt_zero o)⟩
  | succ n ih =>
    show (cx_cl ec n m || (m.testBit n && decide (ec n &&& m ≠ 0))) = true ↔ _
    rw [Bool.or_eq_true, Bool.and_eq_true, decide_eq_true_eq, ih]
    constructor
    · rintro (⟨o, h1, h2⟩ | ⟨h1, h2⟩)
      · exact ⟨o, by omega, h2⟩
      · exact ⟨n, Nat.lt_succ_self n, h1, h2⟩
    · rintro ⟨o, h1, h2, h3⟩
      by_cases z : o = n
      · subst z; exact Or.inr ⟨h2, h3⟩
      · exact Or.inl ⟨o, by omega, h2, h3⟩
theorem cx_clup {ec : Nat → Nat} {n m : Nat} (x : Nat) (h : cx_cl ec n m = true) : cx_cl ec n (m ||| x) = true := by
  rw [cx_cli] at h ⊢
  obtain ⟨o, h1, h2, h3⟩ := h
  obtain ⟨j, h4, h5⟩ := cc_and0.mp h3
  exact ⟨o, h1, by rw [Nat.testBit_or, h2]; rfl, cc_and0.mpr ⟨j, h4, by rw [Nat.testBit_or, h5]; rfl⟩⟩
theorem cx_uni (pm : Nat → Nat) (m t : Nat) : ∀ n, (cx_un pm n m).testBit t = true ↔ ∃ o, o < n ∧ m.testBit o = true ∧ (pm o).testBit t = true := by
  intro n
  induction n with
  | zero =>
    show (0 : Nat).testBit t = true ↔ _
    rw [Nat.zero_testBit]
    exact ⟨fun h => absurd h (by decide), fun ⟨o, h, _⟩ => absurd h (Nat.not_lt_zero o)⟩
  | succ n ih =>
    have e : cx_un pm (n + 1) m = if m.testBit n = true then cx_un pm n m ||| pm n else cx_un pm n m := rfl
    by_cases z : m.testBit n = true
    · rw [e, if_pos z, Nat.testBit_or, Bool.or_eq_true, ih]
      constructor
      · rintro (⟨o, h1, h2⟩ | h1)
        · exact ⟨o, by omega, h2⟩
        · exact ⟨n, Nat.lt_succ_self n, z, h1⟩
      · rintro ⟨o, h1, h2, h3⟩
        by_cases y : o = n
        · subst y; exact Or.inr h3
        · exact Or.inl ⟨o, by omega, h2, h3⟩
    · rw [e, if_neg z, ih]
      constructor
      · rintro ⟨o, h1, h2⟩
        exact ⟨o, by omega, h2⟩
      · rintro ⟨o, h1, h2, h3⟩
        by_cases y : o = n
        · subst y; exact absurd h2 z
        · exact ⟨o, by omega, h2, h3⟩
theorem cx_unlt {pm : Nat → Nat} {n P : Nat} (m : Nat) (h : ∀ o, o < n → pm o < 2 ^ P) : cx_un pm n m < 2 ^ P := by
  apply Nat.lt_pow_two_of_testBit
  intro i hi
  apply cc_bf
  intro z
  obtain ⟨o, h1, _, h3⟩ := (cx_uni pm m i n).mp z
  have := Nat.testBit_lt_two_pow (Nat.lt_of_lt_of_le (h o h1) (cc_pw hi))
  rw [this] at h3
  exact absurd h3 (by decide)
theorem cx_full {pm : Nat → Nat} {n P : Nat} (m : Nat) (h : ∀ o, o < n → pm o < 2 ^ P) : cx_un pm n m = 2 ^ P - 1 ↔ ∀ t, t < P → (cx_un pm n m).testBit t = true := by
  constructor
  · intro e t ht
    rw [e, Nat.testBit_two_pow_sub_one, decide_eq_true ht]
  · intro g
    apply Nat.eq_of_testBit_eq
    intro i
    rw [Nat.testBit_two_pow_sub_one]
    by_cases z : i < P
    · rw [g i z, decide_eq_true z]
    · rw [decide_eq_false z]
      exact Nat.testBit_lt_two_pow (Nat.lt_of_lt_of_le (cx_unlt m h) (cc_pw (by omega)))
def cx_cov (ec pm : Nat → Nat) (n P m : Nat) : Bool := !(cx_cl ec n m) && decide (cx_un pm n m = 2 ^ P - 1)
theorem cx_cov0 {ec pm : Nat → Nat} {n P m : Nat} (h : cx_cl ec n m = true) : cx_cov ec pm n P m = false := by
  unfold cx_cov
  rw [h]; rfl
-- the masks say what the entries say
def cx_K (it co : Nat → Nat) (a b : Nat) : Prop := it a = it b ∧ (co a ≠ co b ∨ co a = 0)
def cx_M (it co op : Nat → Nat) (n T P : Nat) (ec pm : Nat → Nat) : Prop := ∀ o, o < n →
  pm o < 2 ^ P ∧ ec o < 2 ^ o ∧
  (∀ t, (pm o).testBit t = true ↔ t < P ∧ ∃ a, a < T ∧ op a = o ∧ it a = t) ∧
  (∀ e, (ec o).testBit e = true ↔ e < o ∧ ∃ a b, a < T ∧ b < T ∧ op a = e ∧ op b = o ∧ cx_K it co a b)
theorem cx_B {it co op ec pm : Nat → Nat} {n T P : Nat} (hM : cx_M it co op n T P ec pm) (ho : ∀ a, a < T → op a < n)
    (hd : ∀ a b, a < T → b < T → op a = op b → it a = it b → a = b) (m : Nat) : cx_cl ec n m = false ↔ cv_B it co op T m := by
  constructor
  · intro h
    have no : ∀ a b, a < T → b < T → op a < op b → m.testBit (op a) = true → m.testBit (op b) = true → ¬ cx_K it co a b := by
      intro a b ha hb hab ma mb hk
      have : cx_cl ec n m = true := by
        rw [cx_cli]
        refine ⟨op b, ho b hb, mb, cc_and0.mpr ⟨op a, ?_, ma⟩⟩
        exact ((hM (op b) (ho b hb)).2.2.2 (op a)).mpr ⟨hab, a, b, ha, hb, rfl, rfl, hk⟩
      rw [h] at this
      exact absurd this (by decide)
    intro a b ha hb hab hi ma mb
    rcases Nat.lt_trichotomy (op a) (op b) with z | z | z
    · have k := no a b ha hb z ma mb
      unfold cx_K at k
      omega
    · exact absurd (hd a b ha hb z hi) hab
    · have k := no b a hb ha z mb ma
      unfold cx_K at k
      omega
  · intro g
    apply cc_bf
    intro h
    rw [cx_cli] at h
    obtain ⟨o, h1, h2, h3⟩ := h
    obtain ⟨e, h4, h5⟩ := cc_and0.mp h3
    obtain ⟨h6, a, b, ha, hb, ea, eb, hk⟩ := ((hM o h1).2.2.2 e).mp h4
    have hab : a ≠ b := by
      intro z
      subst z
      omega
    have := g a b ha hb hab hk.1 (by rw [ea]; exact h5) (by rw [eb]; exact h2)
    unfold cx_K at hk
    omega
theorem cx_A {it co op ec pm : Nat → Nat} {n T P : Nat} (hM : cx_M it co op n T P ec pm) (ho : ∀ a, a < T → op a < n) (m : Nat) :
    cx_un pm n m = 2 ^ P - 1 ↔ cv_A it op T P m := by
  rw [cx_full m (fun o h => (hM o h).1)]
  constructor
  · intro g t ht
    obtain ⟨o, h1, h2, h3⟩ := (cx_uni pm m t n).mp (g t ht)
    obtain ⟨_, a, ha, ea, hi⟩ := ((hM o h1).2.2.1 t).mp h3
    exact ⟨a, ha, hi, by rw [ea]; exact h2⟩
  · intro g t ht
    obtain ⟨a, ha, hi, hm⟩ := g t ht
    exact (cx_uni pm m t n).mpr ⟨op a, ho a ha, hm, ((hM (op a) (ho a ha)).2.2.1 t).mpr ⟨ht, a, ha, rfl, hi⟩⟩
theorem cx_C {it co op ec pm : Nat → Nat} {n T P : Nat} (hM : cx_M it co op n T P ec pm) (ho : ∀ a, a < T → op a < n)
    (hd : ∀ a b, a < T → b < T → op a = op b → it a = it b → a = b) (m : Nat) :
    cx_cov ec pm n P m = true ↔ cv_A it op T P m ∧ cv_B it co op T m := by
  unfold cx_cov
  rw [Bool.and_eq_true, decide_eq_true_eq, cx_A hM ho m, ← cx_B hM ho hd m, Bool.not_eq_true']
  exact ⟨fun h => ⟨h.2, h.1⟩, fun h => ⟨h.2, h.1⟩⟩
theorem cx_0 {ec pm : Nat → Nat} {n P : Nat} (hP : 1 ≤ P) : cx_cov ec pm n P 0 = false := by
  unfold cx_cov
  have e : cx_un pm n 0 = 0 := by
    apply Nat.eq_of_testBit_eq
    intro i
    rw [Nat.zero_testBit]
    apply cc_bf
    intro z
    obtain ⟨o, _, h2, _⟩ := (cx_uni pm 0 i n).mp z
    rw [Nat.zero_testBit] at h2
    exact absurd h2 (by decide)
  have h2 : 2 ≤ 2 ^ P := cc_pw (i := 1) hP
  rw [e, decide_eq_false (by omega), Bool.and_false]
-- a new option
theorem cx_Mup {it co op ec pm op' ec' pm' : Nat → Nat} {n T T' P k q : Nat} (hM : cx_M it co op n T P ec pm)
    (ho : ∀ a, a < T → op a < n) (hT : T ≤ T') (hop : ∀ a, a < T → op' a = op a) (hop2 : ∀ a, T ≤ a → a < T' → op' a = n)
    (he : ∀ o, o < n → ec' o = ec o) (hp : ∀ o, o < n → pm' o = pm o) (hen : ec' n = k) (hpn : pm' n = q)
    (hq : q < 2 ^ P) (hk : k < 2 ^ n)
    (hqs : ∀ t, q.testBit t = true ↔ t < P ∧ ∃ a, T ≤ a ∧ a < T' ∧ it a = t)
    (hks : ∀ e, k.testBit e = true ↔ e < n ∧ ∃ a b, a < T ∧ op a = e ∧ T ≤ b ∧ b < T' ∧ cx_K it co a b) :
    cx_M it co op' (n + 1) T' P ec' pm' := by
  have old : ∀ a o, a < T' → op' a = o → o < n → a < T ∧ op a = o := by
    intro a o ha hao hon
    by_cases z : a < T
    · exact ⟨z, by rw [← hop a z]; exact hao⟩
    · have := hop2 a (by omega) ha
      omega
  have new : ∀ a, a < T' → op' a = n → T ≤ a := by
    intro a ha hao
    by_cases z : a < T
    · have := hop a z
      have := ho a z
      omega
    · omega
  intro o hon
  by_cases z : o = n
  · subst z
    rw [hen, hpn]
    refine ⟨hq, hk, ?_, ?_⟩
    · intro t
      rw [hqs]
      constructor
      · rintro ⟨h1, a, h2, h3, h4⟩
        exact ⟨h1, a, h3, hop2 a h2 h3, h4⟩
      · rintro ⟨h1, a, h2, h3, h4⟩
        exact ⟨h1, a, new a h2 h3, h2, h4⟩
    · intro e
      rw [hks]
      constructor
      · rintro ⟨h1, a, b, h2, h3, h4, h5, h6⟩
        exact ⟨h1, a, b, by omega, h5, by rw [hop a h2]; exact h3, hop2 b h4 h5, h6⟩
      · rintro ⟨h1, a, b, h2, h3, h4, h5, h6⟩
        have k1 := old a e h2 h4 h1
        exact ⟨h1, a, b, k1.1, k1.2, new b h3 h5, h3, h6⟩
  · have hon' : o < n := by omega
    have k0 := hM o hon'
    rw [he o hon', hp o hon']
    refine ⟨k0.1, k0.2.1, ?_, ?_⟩
    · intro t
      rw [k0.2.2.1]
      constructor
      · rintro ⟨h1, a, h2, h3, h4⟩
        exact ⟨h1, a, by omega, by rw [hop a h2]; exact h3, h4⟩
      · rintro ⟨h1, a, h2, h3, h4⟩
        have k1 := old a o h2 h3 hon'
        exact ⟨h1, a, k1.1, k1.2, h4⟩
    · intro e
      rw [k0.2.2.2]
      constructor
      · rintro ⟨h1, a, b, h2, h3, h4, h5, h6⟩
        exact ⟨h1, a, b, by omega, by omega, by rw [hop a h2]; exact h4, by rw [hop b h3]; exact h5, h6⟩
      · rintro ⟨h1, a, b, h2, h3, h4, h5, h6⟩
        have k1 := old a e h2 h4 (by omega)
        have k2 := old b o h3 h5 hon'
        exact ⟨h1, a, b, k1.1, k2.1, k1.2, k2.2, h6⟩
theorem cx_cls {ec : Nat → Nat} {i m : Nat} (k : cx_cl ec i m = false) (h : m.testBit i = true → ec i &&& m = 0) : cx_cl ec (i + 1) m = false := by
  apply cc_bf
  rw [cx_cli]
  rintro ⟨o, h1, h2, h3⟩
  by_cases z : o = i
  · subst z
    exact h3 (h h2)
  · have : cx_cl ec i m = true := (cx_cli ec m i).mpr ⟨o, by omega, h2, h3⟩
    rw [k] at this
    exact absurd this (by decide)
theorem cx_covf {ec pm : Nat → Nat} {n P m : Nat} (h : cx_un pm n m ≠ 2 ^ P - 1) : cx_cov ec pm n P m = false := by
  unfold cx_cov
  rw [decide_eq_false h, Bool.and_false]
theorem cx_covt {ec pm : Nat → Nat} {n P m : Nat} (h0 : cx_cl ec n m = false) (h : cx_un pm n m = 2 ^ P - 1) : cx_cov ec pm n P m = true := by
  unfold cx_cov
  rw [decide_eq_true h, h0]
  rfl
