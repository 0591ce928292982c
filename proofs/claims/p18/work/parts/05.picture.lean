-- the picture of a state: P, S items; n options, T their entries, D pending; it, co, op of an entry; st the options' starts; ec, pm the masks
def ir_P (P S n T D : Nat) (it co op st ec pm : Nat → Nat) : Prop :=
  (1 ≤ P ∧ P ≤ 12 ∧ S ≤ 8 ∧ n ≤ 16 ∧ T + D ≤ 64) ∧
  (st 0 = 0 ∧ st n = T ∧ (∀ o, o < n → st o ≤ st (o + 1)) ∧ (∀ o, o ≤ n → st o ≤ T)) ∧
  (∀ e, e < T + D → it e < P + S ∧ co e < 16 ∧ (it e < P → co e = 0)) ∧
  (∀ e, e < T → op e < n ∧ st (op e) ≤ e ∧ e < st (op e + 1)) ∧
  (∀ o e, o < n → st o ≤ e → e < st (o + 1) → op e = o) ∧
  (∀ a b, a < T → b < T → op a = op b → it a = it b → a = b) ∧
  (∀ a b, T ≤ a → T ≤ b → a < T + D → b < T + D → it a = it b → a = b) ∧
  cx_M it co op n T P ec pm
def ir_u (f : Nat → Nat) (k x : Nat) : Nat → Nat := fun j => if j = k then x else f j
theorem ir_us {f : Nat → Nat} {k x : Nat} : ir_u f k x k = x := if_pos rfl
theorem ir_un {f : Nat → Nat} {k x j : Nat} (h : j ≠ k) : ir_u f k x j = f j := if_neg h
def ir_o (op : Nat → Nat) (T n : Nat) : Nat → Nat := fun e => if e < T then op e else n
theorem ir_Mc {it co it' co' op ec pm : Nat → Nat} {n T P : Nat} (h : ∀ a, a < T → it' a = it a ∧ co' a = co a) (hM : cx_M it co op n T P ec pm) : cx_M it' co' op n T P ec pm := by
  intro o ho
  obtain ⟨h1, h2, h3, h4⟩ := hM o ho
  refine ⟨h1, h2, ?_, ?_⟩
  · intro t
    rw [h3]
    constructor
    · rintro ⟨k1, a, k2, k3, k4⟩
      exact ⟨k1, a, k2, k3, by rw [(h a k2).1]; exact k4⟩
    · rintro ⟨k1, a, k2, k3, k4⟩
      exact ⟨k1, a, k2, k3, by rw [← (h a k2).1]; exact k4⟩
  · intro e
    rw [h4]
    unfold cx_K
    constructor
    · rintro ⟨k1, a, b, k2, k3, k4, k5, k6⟩
      refine ⟨k1, a, b, k2, k3, k4, k5, ?_⟩
      rw [(h a k2).1, (h a k2).2, (h b k3).1, (h b k3).2]
      exact k6
    · rintro ⟨k1, a, b, k2, k3, k4, k5, k6⟩
      refine ⟨k1, a, b, k2, k3, k4, k5, ?_⟩
      rw [(h a k2).1, (h a k2).2, (h b k3).1, (h b k3).2] at k6
      exact k6
theorem ir_add {P S n T D t c : Nat} {it co op st ec pm : Nat → Nat} (h : ir_P P S n T D it co op st ec pm) (hD : T + D < 64)
    (ht : t < P + S) (hc : c < 16) (hp : t < P → c = 0) (hn : ∀ a, T ≤ a → a < T + D → it a ≠ t) :
    ir_P P S n T (D + 1) (ir_u it (T + D) t) (ir_u co (T + D) c) op st ec pm := by
  obtain ⟨h1, h2, h3, h4, h5, h6, h7, h8⟩ := h
  have old : ∀ a, a < T + D → ir_u it (T + D) t a = it a ∧ ir_u co (T + D) c a = co a := fun a ha => ⟨ir_un (by omega), ir_un (by omega)⟩
  refine ⟨⟨h1.1, h1.2.1, h1.2.2.1, h1.2.2.2.1, by omega⟩, h2, ?_, h4, h5, ?_, ?_, ?_⟩
  · intro e he
    by_cases z : e = T + D
    · subst z
      rw [ir_us, ir_us]
      exact ⟨ht, hc, hp⟩
    · rw [(old e (by omega)).1, (old e (by omega)).2]
      exact h3 e (by omega)
  · intro a b ha hb
    rw [(old a (by omega)).1, (old b (by omega)).1]
    exact h6 a b ha hb
  · intro a b ha hb ha2 hb2
    by_cases za : a = T + D
    · by_cases zb : b = T + D
      · intro _; omega
      · rw [za, ir_us, (old b (by omega)).1]
        intro e
        exact absurd e.symm (hn b hb (by omega))
    · by_cases zb : b = T + D
      · rw [zb, ir_us, (old a (by omega)).1]
        intro e
        exact absurd e (hn a ha (by omega))
      · rw [(old a (by omega)).1, (old b (by omega)).1]
        exact h7 a b ha hb (by omega) (by omega)
  · exact ir_Mc (fun a ha => old a (by omega)) h8
theorem ir_disc {P S n T D : Nat} {it co op st ec pm : Nat → Nat} (h : ir_P P S n T D it co op st ec pm) : ir_P P S n T 0 it co op st ec pm := by
  obtain ⟨h1, h2, h3, h4, h5, h6, h7, h8⟩ := h
  exact ⟨⟨h1.1, h1.2.1, h1.2.2.1, h1.2.2.2.1, by omega⟩, h2, fun e he => h3 e (by omega), h4, h5, h6, fun a b _ _ ha => absurd ha (by omega), h8⟩
theorem ir_clear {P S : Nat} {it co op st ec pm : Nat → Nat} (h : 1 ≤ P ∧ P ≤ 12 ∧ S ≤ 8) (h0 : st 0 = 0) : ir_P P S 0 0 0 it co op st ec pm := by
  refine ⟨⟨h.1, h.2.1, h.2.2, by omega, by omega⟩, ⟨h0, h0, fun o ho => absurd ho (Nat.not_lt_zero o), ?_⟩, fun e he => absurd he (by omega), fun e he => absurd he (Nat.not_lt_zero e), fun o e ho => absurd ho (Nat.not_lt_zero o), fun a b ha => absurd ha (Nat.not_lt_zero a), fun a b _ _ ha => absurd ha (by omega), fun o ho => absurd ho (Nat.not_lt_zero o)⟩
  intro o ho
  have : o = 0 := by omega
  subst this
  omega
theorem ir_end {P S n T D k q : Nat} {it co op st ec pm : Nat → Nat} (h : ir_P P S n T D it co op st ec pm) (hn : n < 16)
    (hq : q < 2 ^ P) (hk : k < 2 ^ n)
    (hqs : ∀ t, q.testBit t = true ↔ t < P ∧ ∃ a, T ≤ a ∧ a < T + D ∧ it a = t)
    (hks : ∀ e, k.testBit e = true ↔ e < n ∧ ∃ a b, st e ≤ a ∧ a < st (e + 1) ∧ T ≤ b ∧ b < T + D ∧ cx_K it co a b) :
    ir_P P S (n + 1) (T + D) 0 it co (ir_o op T n) (ir_u st (n + 1) (T + D)) (ir_u ec n k) (ir_u pm n q) := by
  obtain ⟨h1, h2, h3, h4, h5, h6, h7, h8⟩ := h
  have oT : ∀ a, a < T → ir_o op T n a = op a := fun a ha => if_pos ha
  have oN : ∀ a, T ≤ a → ir_o op T n a = n := fun a ha => if_neg (by omega)
  refine ⟨⟨h1.1, h1.2.1, h1.2.2.1, by omega, by omega⟩, ⟨?_, ir_us, ?_, ?_⟩, h3, ?_, ?_, ?_, fun a b _ _ ha => absurd ha (by omega), ?_⟩
  · rw [ir_un (by omega)]; exact h2.1
  · intro o ho
    by_cases z : o = n
    · subst z
      rw [ir_us, ir_un (by omega), h2.2.1]
      omega
    · rw [ir_un (by omega), ir_un (by omega)]
      exact h2.2.2.1 o (by omega)
  · intro o ho
    by_cases z : o = n + 1
    · rw [z, ir_us]; omega
    · rw [ir_un z]
      have := h2.2.2.2 o (by omega)
      omega
  · intro e he
    by_cases z : e < T
    · rw [oT e z]
      have := h4 e z
      rw [ir_un (by omega), ir_un (by omega)]
      exact ⟨by omega, this.2⟩
    · rw [oN e (by omega), ir_us, ir_un (by omega), h2.2.1]
      omega
  · intro o e ho he1 he2
    by_cases z : o = n
    · subst z
      rw [ir_un (by omega), h2.2.1] at he1
      exact oN e he1
    · rw [ir_un (by omega)] at he1
      rw [ir_un (by omega)] at he2
      have h9 := h5 o e (by omega) he1 he2
      have := h2.2.2.2 (o + 1) (by omega)
      rw [oT e (by omega)]
      exact h9
  · intro a b ha hb
    by_cases za : a < T
    · by_cases zb : b < T
      · rw [oT a za, oT b zb]
        exact h6 a b za zb
      · rw [oT a za, oN b (by omega)]
        intro e
        have := (h4 a za).1
        omega
    · by_cases zb : b < T
      · rw [oN a (by omega), oT b zb]
        intro e
        have := (h4 b zb).1
        omega
      · intro _ hi
        exact h7 a b (by omega) (by omega) (by omega) (by omega) hi
  · refine cx_Mup (k := k) (q := q) h8 (fun a ha => (h4 a ha).1) (by omega) oT (fun a ha _ => oN a ha) (fun o ho => ir_un (by omega)) (fun o ho => ir_un (by omega)) ir_us ir_us hq hk hqs ?_
    intro e
    rw [hks]
    constructor
    · rintro ⟨k1, a, b, k2, k3, k4, k5, k6⟩
      have := h2.2.2.2 (e + 1) (by omega)
      exact ⟨k1, a, b, by omega, h5 e a k1 k2 k3, k4, k5, k6⟩
    · rintro ⟨k1, a, b, k2, k3, k4, k5, k6⟩
      have := h4 a k2
      rw [k3] at this
      exact ⟨k1, a, b, this.2.1, this.2.2, k4, k5, k6⟩
