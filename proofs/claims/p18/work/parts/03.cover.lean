-- covers, pure: entries a < T with item it a, colour co a, option op a; m the mask
def cv_n (f : Nat → Bool) : Nat → Nat
  | 0 => 0
  | e + 1 => cv_n f e + (if f e = true then 1 else 0)
theorem cv_n1 (f : Nat → Bool) : ∀ k, 0 < cv_n f k → ∃ a, a < k ∧ f a = true := by
  intro k
  induction k with
  | zero => intro h; exact absurd h (Nat.lt_irrefl 0)
  | succ k ih =>
    intro h
    by_cases z : f k = true
    · exact ⟨k, Nat.lt_succ_self k, z⟩
    · have e : cv_n f (k + 1) = cv_n f k + (if f k = true then 1 else 0) := rfl
      rw [if_neg z] at e
      obtain ⟨a, h1, h2⟩ := ih (by omega)
      exact ⟨a, by omega, h2⟩
theorem cv_n1' (f : Nat → Bool) : ∀ k a, a < k → f a = true → 0 < cv_n f k := by
  intro k
  induction k with
  | zero => intro a h; exact absurd h (Nat.not_lt_zero a)
  | succ k ih =>
    intro a h h2
    have e : cv_n f (k + 1) = cv_n f k + (if f k = true then 1 else 0) := rfl
    by_cases z : a = k
    · subst z
      rw [if_pos h2] at e
      omega
    · have := ih a (by omega) h2
      omega
theorem cv_n2 (f : Nat → Bool) : ∀ k, 2 ≤ cv_n f k → ∃ a b, a < b ∧ b < k ∧ f a = true ∧ f b = true := by
  intro k
  induction k with
  | zero => intro h; exact absurd h (by show ¬ 2 ≤ 0; omega)
  | succ k ih =>
    intro h
    have e : cv_n f (k + 1) = cv_n f k + (if f k = true then 1 else 0) := rfl
    by_cases z : f k = true
    · rw [if_pos z] at e
      obtain ⟨a, h1, h2⟩ := cv_n1 f k (by omega)
      exact ⟨a, k, h1, Nat.lt_succ_self k, h2, z⟩
    · rw [if_neg z] at e
      obtain ⟨a, b, h1, h2, h3⟩ := ih (by omega)
      exact ⟨a, b, h1, by omega, h3⟩
theorem cv_n2' (f : Nat → Bool) : ∀ k a b, a < b → b < k → f a = true → f b = true → 2 ≤ cv_n f k := by
  intro k
  induction k with
  | zero => intro a b _ h; exact absurd h (Nat.not_lt_zero b)
  | succ k ih =>
    intro a b h h1 h2 h3
    have e : cv_n f (k + 1) = cv_n f k + (if f k = true then 1 else 0) := rfl
    by_cases z : b = k
    · subst z
      rw [if_pos h3] at e
      have := cv_n1' f b a h h2
      omega
    · have := ih a b h (by omega) h2 h3
      omega
theorem cv_nle (f : Nat → Bool) : ∀ k, cv_n f k ≤ k := by
  intro k
  induction k with
  | zero => exact Nat.le_refl 0
  | succ k ih =>
    have e : cv_n f (k + 1) = cv_n f k + (if f k = true then 1 else 0) := rfl
    by_cases z : f k = true
    · rw [if_pos z] at e; omega
    · rw [if_neg z] at e; omega
theorem cv_mono (f : Nat → Bool) {i j : Nat} (h : i ≤ j) : cv_n f i ≤ cv_n f j := by
  induction j with
  | zero => rw [show i = 0 by omega]; exact Nat.le_refl _
  | succ j ih =>
    by_cases z : i = j + 1
    · rw [z]; exact Nat.le_refl _
    · have := ih (by omega)
      have e : cv_n f (j + 1) = cv_n f j + (if f j = true then 1 else 0) := rfl
      omega
theorem cv_st {f : Nat → Bool} {o : Nat} (h : f o = true) : cv_n f (o + 1) = cv_n f o + 1 := by
  show cv_n f o + (if f o = true then 1 else 0) = _
  rw [if_pos h]
theorem cv_sf {f : Nat → Bool} {o : Nat} (h : ¬ f o = true) : cv_n f (o + 1) = cv_n f o := by
  show cv_n f o + (if f o = true then 1 else 0) = _
  rw [if_neg h]; rfl
theorem cv_uniq {f : Nat → Bool} {o p : Nat} (ho : f o = true) (hp : f p = true) (h : cv_n f o = cv_n f p) : o = p := by
  rcases Nat.lt_trichotomy o p with z | z | z
  · have := cv_mono f (show o + 1 ≤ p from z)
    rw [cv_st ho] at this
    omega
  · exact z
  · have := cv_mono f (show p + 1 ≤ o from z)
    rw [cv_st hp] at this
    omega
-- the inner loop of the reference: f the members, co the colours
def cv_I (f : Nat → Bool) (co : Nat → Nat) (e c w : Nat) (s : Bool) : Prop :=
  c = cv_n f e ∧ (0 < c → ∃ a, a < e ∧ f a = true ∧ co a = w) ∧ (s = true ↔ ∀ a, a < e → f a = true → co a = w ∧ co a ≠ 0)
theorem cv_I0 (f : Nat → Bool) (co : Nat → Nat) (w : Nat) : cv_I f co 0 0 w true :=
  ⟨rfl, fun h => absurd h (Nat.lt_irrefl 0), fun _ a h => absurd h (Nat.not_lt_zero a), fun _ => rfl⟩
theorem cv_In {f : Nat → Bool} {co : Nat → Nat} {e c w : Nat} {s : Bool} (h : cv_I f co e c w s) (z : ¬ f e = true) : cv_I f co (e + 1) c w s := by
  obtain ⟨h1, h2, h3⟩ := h
  refine ⟨?_, ?_, ?_⟩
  · show c = cv_n f e + (if f e = true then 1 else 0)
    rw [if_neg z]; omega
  · intro hc
    obtain ⟨a, ha, hb⟩ := h2 hc
    exact ⟨a, by omega, hb⟩
  · rw [h3]
    constructor
    · intro g a ha hf
      by_cases y : a = e
      · subst y; exact absurd hf z
      · exact g a (by omega) hf
    · intro g a ha hf
      exact g a (by omega) hf
theorem cv_Ic {f : Nat → Bool} {e c : Nat} (h : c = cv_n f e) (z : f e = true) : c + 1 = cv_n f (e + 1) := by
  show c + 1 = cv_n f e + (if f e = true then 1 else 0)
  rw [if_pos z]; omega
theorem cv_I1 {f : Nat → Bool} {co : Nat → Nat} {e w : Nat} {s : Bool} (h : cv_I f co e 0 w s) (z : f e = true) (hz : co e ≠ 0) : cv_I f co (e + 1) 1 (co e) s := by
  obtain ⟨h1, h2, h3⟩ := h
  have no : ∀ a, a < e → f a = true → False := by
    intro a ha hf
    have := cv_n1' f e a ha hf
    omega
  refine ⟨cv_Ic h1 z, fun _ => ⟨e, Nat.lt_succ_self e, z, rfl⟩, ?_⟩
  have hs : s = true := h3.mpr (fun a ha hf => (no a ha hf).elim)
  constructor
  · intro _ a ha hf
    by_cases y : a = e
    · subst y; exact ⟨rfl, hz⟩
    · exact (no a (by omega) hf).elim
  · intro _; exact hs
theorem cv_I10 {f : Nat → Bool} {co : Nat → Nat} {e w : Nat} {s : Bool} (h : cv_I f co e 0 w s) (z : f e = true) (hz : co e = 0) : cv_I f co (e + 1) 1 (co e) false := by
  obtain ⟨h1, h2, h3⟩ := h
  refine ⟨cv_Ic h1 z, fun _ => ⟨e, Nat.lt_succ_self e, z, rfl⟩, ?_⟩
  constructor
  · intro y; exact absurd y (by decide)
  · intro g; exact absurd hz (g e (Nat.lt_succ_self e) z).2
theorem cv_If {f : Nat → Bool} {co : Nat → Nat} {e c w : Nat} {s : Bool} (h : cv_I f co e c w s) (hc : c ≠ 0) (z : f e = true) (hz : co e ≠ w ∨ co e = 0) : cv_I f co (e + 1) (c + 1) w false := by
  obtain ⟨h1, h2, h3⟩ := h
  refine ⟨cv_Ic h1 z, ?_, ?_⟩
  · intro _
    obtain ⟨a, ha, hb⟩ := h2 (by omega)
    exact ⟨a, by omega, hb⟩
  · constructor
    · intro y; exact absurd y (by decide)
    · intro g
      have := g e (Nat.lt_succ_self e) z
      rcases hz with hz | hz
      · exact absurd this.1 hz
      · exact absurd hz this.2
theorem cv_It {f : Nat → Bool} {co : Nat → Nat} {e c w : Nat} {s : Bool} (h : cv_I f co e c w s) (hc : c ≠ 0) (z : f e = true) (hw : co e = w) (hz : co e ≠ 0) : cv_I f co (e + 1) (c + 1) w s := by
  obtain ⟨h1, h2, h3⟩ := h
  refine ⟨cv_Ic h1 z, ?_, ?_⟩
  · intro _
    obtain ⟨a, ha, hb⟩ := h2 (by omega)
    exact ⟨a, by omega, hb⟩
  · rw [h3]
    constructor
    · intro g a ha hf
      by_cases y : a = e
      · subst y; exact ⟨hw, hz⟩
      · exact g a (by omega) hf
    · intro g a ha hf
      exact g a (by omega) hf
-- what the reference asks of an item: a primary one, a secondary one
def cv_G1 (f : Nat → Bool) (T : Nat) : Prop := (∃ a, a < T ∧ f a = true) ∧ ∀ a b, a < T → b < T → f a = true → f b = true → a = b
def cv_G2 (f : Nat → Bool) (co : Nat → Nat) (T : Nat) : Prop := ∀ a b, a < T → b < T → f a = true → f b = true → a ≠ b → co a = co b ∧ co a ≠ 0
theorem cv_one {f : Nat → Bool} {co : Nat → Nat} {T c w : Nat} {s : Bool} (h : cv_I f co T c w s) : c = 1 ↔ cv_G1 f T := by
  obtain ⟨h1, h2, h3⟩ := h
  constructor
  · intro hc
    refine ⟨cv_n1 f T (by omega), ?_⟩
    intro a b ha hb fa fb
    rcases Nat.lt_trichotomy a b with z | z | z
    · have := cv_n2' f T a b z hb fa fb
      omega
    · exact z
    · have := cv_n2' f T b a z ha fb fa
      omega
  · rintro ⟨⟨a, ha, fa⟩, g⟩
    have := cv_n1' f T a ha fa
    by_cases y : 2 ≤ cv_n f T
    · obtain ⟨x, y, h4, h5, h6, h7⟩ := cv_n2 f T y
      have := g x y (by omega) h5 h6 h7
      omega
    · omega
theorem cv_two {f : Nat → Bool} {co : Nat → Nat} {T c w : Nat} {s : Bool} (h : cv_I f co T c w s) : (2 ≤ c → s = true) ↔ cv_G2 f co T := by
  obtain ⟨h1, h2, h3⟩ := h
  constructor
  · intro g a b ha hb fa fb hab
    have hc : 2 ≤ c := by
      rcases Nat.lt_trichotomy a b with z | z | z
      · have := cv_n2' f T a b z hb fa fb
        omega
      · exact absurd z hab
      · have := cv_n2' f T b a z ha fb fa
        omega
    have k := h3.mp (g hc)
    exact ⟨(k a ha fa).1.trans (k b hb fb).1.symm, (k a ha fa).2⟩
  · intro g hc
    refine h3.mpr ?_
    obtain ⟨e, he, fe, we⟩ := h2 (by omega)
    have hc2 : 2 ≤ cv_n f T := by omega
    obtain ⟨x, y, hxy, hy, fx, fy⟩ := cv_n2 f T hc2
    intro a ha fa
    by_cases z : a = e
    · subst z
      refine ⟨we, ?_⟩
      by_cases u : a = x
      · exact (g a y ha hy fa fy (by omega)).2
      · exact (g a x ha (by omega) fa fx u).2
    · have := g a e ha he fa fe z
      exact ⟨this.1.trans we, this.2⟩
-- the document's cover
def cv_A (it op : Nat → Nat) (T P m : Nat) : Prop := ∀ t, t < P → ∃ a, a < T ∧ it a = t ∧ m.testBit (op a) = true
def cv_B (it co op : Nat → Nat) (T m : Nat) : Prop := ∀ a b, a < T → b < T → a ≠ b → it a = it b → m.testBit (op a) = true → m.testBit (op b) = true → co a = co b ∧ co a ≠ 0
def cv_f (it op : Nat → Nat) (m t : Nat) (a : Nat) : Bool := decide (it a = t) && m.testBit (op a)
theorem cv_ff {it op : Nat → Nat} {m t a : Nat} : cv_f it op m t a = true ↔ it a = t ∧ m.testBit (op a) = true := by
  unfold cv_f
  rw [Bool.and_eq_true, decide_eq_true_eq]
def cv_G (it co op : Nat → Nat) (T P m t : Nat) : Prop := (t < P → cv_G1 (cv_f it op m t) T) ∧ (P ≤ t → cv_G2 (cv_f it op m t) co T)
theorem cv_all {it co op : Nat → Nat} {T P S m : Nat} (hi : ∀ a, a < T → it a < P + S) (hp : ∀ a, a < T → it a < P → co a = 0) :
    (∀ t, t < P + S → cv_G it co op T P m t) ↔ cv_A it op T P m ∧ cv_B it co op T m := by
  constructor
  · intro g
    constructor
    · intro t ht
      obtain ⟨⟨a, ha, fa⟩, _⟩ := (g t (by omega)).1 ht
      exact ⟨a, ha, cv_ff.mp fa⟩
    · intro a b ha hb hab hi2 ma mb
      have k := g (it a) (hi a ha)
      have fa : cv_f it op m (it a) a = true := cv_ff.mpr ⟨rfl, ma⟩
      have fb : cv_f it op m (it a) b = true := cv_ff.mpr ⟨hi2.symm, mb⟩
      by_cases z : it a < P
      · exact absurd ((k.1 z).2 a b ha hb fa fb) hab
      · exact k.2 (by omega) a b ha hb fa fb hab
  · rintro ⟨gA, gB⟩ t ht
    constructor
    · intro htp
      refine ⟨?_, ?_⟩
      · obtain ⟨a, ha, h2⟩ := gA t htp
        exact ⟨a, ha, cv_ff.mpr h2⟩
      · intro a b ha hb fa fb
        by_cases z : a = b
        · exact z
        · have ka := cv_ff.mp fa
          have kb := cv_ff.mp fb
          have := gB a b ha hb z (ka.1.trans kb.1.symm) ka.2 kb.2
          exact absurd (hp a ha (by omega)) this.2
    · intro _ a b ha hb fa fb hab
      have ka := cv_ff.mp fa
      have kb := cv_ff.mp fb
      exact gB a b ha hb hab (ka.1.trans kb.1.symm) ka.2 kb.2
