-- the law's check behind a solve: the mask of a stored cover, each stored cover, the count
def lm_I (m n j : Nat) (s : Nat × Int32) : Prop := s.1 < 2 ^ n ∧ (∀ o, s.1.testBit o = true ↔ m.testBit o = true ∧ cv_n m.testBit o < j) ∧
  (s.2 = -1 ∨ ∃ p, s.2 = nI p ∧ p < 16 ∧ cv_n m.testBit p < j)
theorem lm_0 (m n : Nat) : lm_I m n 0 (0, -1) := by
  refine ⟨Nat.two_pow_pos n, fun o => ?_, Or.inl rfl⟩
  rw [Nat.zero_testBit]
  exact ⟨fun h => absurd h (by decide), fun h => absurd h.2 (Nat.not_lt_zero _)⟩
theorem lm_s {m n j o : Nat} {s : Nat × Int32} (h : lm_I m n j s) (hn : o < n) (ho : o < 16) (hb : m.testBit o = true) (hc : cv_n m.testBit o = j) : lm_I m n (j + 1) (s.1 ||| 2 ^ o, nI o) := by
  obtain ⟨h1, h2, _⟩ := h
  refine ⟨Nat.or_lt_two_pow h1 (Nat.pow_lt_pow_right (by decide) hn), fun b => ?_, Or.inr ⟨o, rfl, ho, by omega⟩⟩
  show (s.1 ||| 2 ^ o).testBit b = true ↔ _
  rw [Nat.testBit_or, Bool.or_eq_true, h2, Nat.testBit_two_pow, decide_eq_true_eq]
  constructor
  · rintro (⟨k1, k2⟩ | k1)
    · exact ⟨k1, by omega⟩
    · subst k1
      exact ⟨hb, by omega⟩
  · rintro ⟨k1, k2⟩
    by_cases y : cv_n m.testBit b < j
    · exact Or.inl ⟨k1, y⟩
    · exact Or.inr (cv_uniq hb k1 (by omega))
theorem lm_end {m n : Nat} {s : Nat × Int32} (hm : m < 2 ^ 16) (h : lm_I m n (cv_n m.testBit 16) s) : s.1 = m := by
  apply Nat.eq_of_testBit_eq
  intro o
  have k := h.2.1 o
  cases e : m.testBit o
  · apply cc_bf
    intro z
    rw [(k.mp z).1] at e
    exact absurd e (by decide)
  · refine k.mpr ⟨e, ?_⟩
    have := cv_mono m.testBit (show o + 1 ≤ 16 from cq_bit hm e)
    rw [cv_st e] at this
    omega
theorem lm_gt {m n j o : Nat} {s : Nat × Int32} (h : lm_I m n j s) (ho : o < 16) (hc : cv_n m.testBit o = j) : ¬ nI o ≤ s.2 := by
  rcases h.2.2 with e | ⟨p, e, hp, hp2⟩
  · rw [e]
    intro z
    have := (ir_m1 (x := nI o) (nI_pos (by omega))).1
    rw [Int32.le_iff_toInt_le, nI_toInt (by omega)] at z
    have e2 : (-1 : Int32).toInt = -1 := by decide
    omega
  · rw [e]
    refine nI_ge ?_ (by omega)
    rcases Nat.lt_or_ge p o with z | z
    · exact z
    · have := cv_mono m.testBit z
      omega
theorem ll_302 {post : Int32 → Prop} {L : Nat} {xs : Nat → Int32} {J44 : Int32 → Int32 → Int32 → Int32 → Int32 → Int32 → Int32 → Int32 → Int32 → (Nat → Int32) → (Nat → Int32) → (Nat → Int32) → (Nat → Int32) → (Nat → Int32) → Prop} {J263 : Int32 → Prop}
    {x1 x2 x6 x7 x9 fs fu : Int32} {kc ks n P q k e : Nat} {ec pm : Nat → Nat} {ae ast ax ap sm : Nat → Int32} (g : Nat → Nat)
    (hn : n ≤ 16) (hP : P ≤ 12) (hx : ∀ o, o < n → ax o = nI (ec o)) (hp : ∀ o, o < n → ap o = nI (pm o)) (hpm : ∀ o, o < n → pm o < 2 ^ P) (hq : q < 65536) (heq : e ≤ q) (he64 : e ≤ 64) (hk : k < e)
    (hg : ∀ k, k < q → k < 64 → sm k = nI (g k) ∧ g k < 2 ^ n ∧ cx_cov ec pm n P (g k) = true ∧ g k ≠ 0 ∧ (k + 1 < q → cl_lt (g k) (g (k + 1)))) (hJ : J263 (nI (k + 1))) :
    ∃ f, wL_law_302 post L xs J44 J263 x1 x2 x6 x7 x9 (nI n) (nI e) (nI k) (nI (cv_n (g k).testBit 16)) kc ks (nI P) fs fu (nI n) (nI q) ae ast ax ap sm f 0 (-1) 0 := by
  obtain ⟨g1, g2, g3, g4, g5⟩ := hg k (by omega) (by omega)
  have hp16 : 2 ^ n ≤ 65536 := cc_p16 hn
  have g6 : g k < 2 ^ 16 := Nat.lt_of_lt_of_le g2 hp16
  have a16 := cv_nle (g k).testBit 16
  refine pk_loop (σ := Nat × Int32) (fun f j s => wL_law_302 post L xs J44 J263 x1 x2 x6 x7 x9 (nI n) (nI e) (nI k) (nI (cv_n (g k).testBit 16)) kc ks (nI P) fs fu (nI n) (nI q) ae ast ax ap sm f (nI s.1) s.2 (nI j))
    (fun j s => lm_I (g k) n j s) (cv_n (g k).testBit 16) 0 (0, -1) (by omega) (lm_0 _ _) ?_ ?_
  · intro f s hs
    have e1 := lm_end g6 hs
    refine pk_le (cv_n (g k).testBit 16) (cv_n (g k).testBit 16) (fun _ => ?_) (fun z => absurd z (by omega)) rfl rfl (by omega) (by omega)
    rw [e1]
    refine xl_isCover hn hP g2 hx hp hpm (fun _ => br_f (by decide) ?_) (fun z => by rw [g3] at z; exact absurd z (by decide))
    refine pk_le e (k + 1) (fun _ => nm_r (nI_1 k) hJ) (fun z => ?_) rfl (nI_1 k) (by omega) (by omega)
    obtain ⟨y1, y2, y3, y4, y5⟩ := hg (k + 1) (by omega) (by omega)
    have y6 : g (k + 1) < 2 ^ 16 := Nat.lt_of_lt_of_le y2 hp16
    have b16 := cv_nle (g (k + 1)).testBit 16
    have b1 := cs_pos y6 y4
    refine ll_size (nI_1 k) (by omega) (by omega) hq y1 (by omega) ?_
    exact pk_le 1 (cv_n (g (k + 1)).testBit 16) (fun _ => ll_398 (by omega) (by omega) hq g1 y1 g6 y6 (g5 (by omega)) hJ) (fun z => absurd z (by omega)) rfl rfl (by omega) (by omega)
  · intro f j s hj hs hw
    refine pk_le (cv_n (g k).testBit 16) j (fun z => absurd z (by omega)) (fun _ => ?_) rfl rfl (by omega) (by omega)
    refine ll_opt rfl (by omega) (by omega) hq g1 (by omega) hj (fun o o1 o2 o3 => ?_)
    have on := cs_opt g2 o2
    refine br_f (lm_gt hs o1 o3) (br_t (nI_lt on (by omega)) ?_)
    exact nm_r (e' := nI (s.1 ||| 2 ^ o)) (by rw [cc_sh o (by omega), cc_or]) (nm_r (nI_1 j) (hw _ (lm_s hs on o1 o2 o3)))
theorem ll_263 {post : Int32 → Prop} {L : Nat} {xs : Nat → Int32} {J44 : Int32 → Int32 → Int32 → Int32 → Int32 → Int32 → Int32 → Int32 → Int32 → (Nat → Int32) → (Nat → Int32) → (Nat → Int32) → (Nat → Int32) → (Nat → Int32) → Prop}
    {x1 x2 x7 fs fu : Int32} {kc ks n P q e pos : Nat} {ec pm : Nat → Nat} {ae ast ax ap sm : Nat → Int32}
    (hn : n ≤ 16) (hP : P ≤ 12) (hx : ∀ o, o < n → ax o = nI (ec o)) (hp : ∀ o, o < n → ap o = nI (pm o)) (hpm : ∀ o, o < n → pm o < 2 ^ P) (hq : q < 65536) (heq : e ≤ q) (he64 : e ≤ 64) (hlast : q ≤ e ∨ 64 ≤ e)
    (hS : cs_S n q (cx_cov ec pm n P) sm)
    (h : wL_law_553 post L xs J44 x1 x2 1 (nI q) (nI (pos + 1)) x7 kc ks (nI P) fs fu (nI n) (nI q) ae ast ax ap sm) :
    ∃ f, wL_law_263 post L xs J44 x1 x2 (nI pos) x7 (nI q) (nI n) (nI e) kc ks (nI P) fs fu (nI n) (nI q) ae ast ax ap sm f 0 := by
  obtain ⟨_, g, hg⟩ := hS
  have hp16 : 2 ^ n ≤ 65536 := cc_p16 hn
  refine pk_loop (σ := Unit) (fun f k _ => wL_law_263 post L xs J44 x1 x2 (nI pos) x7 (nI q) (nI n) (nI e) kc ks (nI P) fs fu (nI n) (nI q) ae ast ax ap sm f (nI k)) (fun _ _ => True) e 0 () (by omega) trivial ?_ ?_
  · intro f _ _
    refine pk_le e e (fun _ => ?_) (fun z => absurd z (by omega)) rfl rfl (by omega) (by omega)
    exact ll_none (by omega) hq hlast (br_t rfl (nm_r (nI_1 pos) h))
  · intro f k _ hk _ hw
    obtain ⟨g1, g2, g3, g4, g5⟩ := hg k (by omega) (by omega)
    have g6 : g k < 2 ^ 16 := Nat.lt_of_lt_of_le g2 hp16
    have b1 := cs_pos g6 g4
    have b2 := cs_len hn g2
    refine pk_le e k (fun z => absurd z (by omega)) (fun _ => ?_) rfl rfl (by omega) (by omega)
    refine ll_size rfl (by omega) (by omega) hq g1 (by omega) ?_
    refine pk_lt (cv_n (g k).testBit 16) 1 (fun z => absurd z (by omega)) (fun _ => ?_) rfl rfl (by omega) (by omega)
    refine pk_le (cv_n (g k).testBit 16) n (fun _ => ?_) (fun z => absurd z (by omega)) rfl rfl (by omega) (by omega)
    exact ll_302 g hn hP hx hp hpm hq heq he64 hk hg (hw () trivial)
theorem ll_208 {post : Int32 → Prop} {L : Nat} {xs : Nat → Int32} {J44 : Int32 → Int32 → Int32 → Int32 → Int32 → Int32 → Int32 → Int32 → Int32 → (Nat → Int32) → (Nat → Int32) → (Nat → Int32) → (Nat → Int32) → (Nat → Int32) → Prop}
    {x1 x2 x7 fs fu : Int32} {kc ks n P q pos : Nat} {ec pm : Nat → Nat} {ae ast ax ap sm : Nat → Int32}
    (hn : n ≤ 16) (hP : P ≤ 12) (hx : ∀ o, o < n → ax o = nI (ec o)) (hp : ∀ o, o < n → ap o = nI (pm o)) (hpm : ∀ o, o < n → pm o < 2 ^ P) (hq : q < 65536)
    (hS : cs_S n q (cx_cov ec pm n P) sm)
    (h : wL_law_553 post L xs J44 x1 x2 1 (nI q) (nI (pos + 1)) x7 kc ks (nI P) fs fu (nI n) (nI q) ae ast ax ap sm) :
    ∃ f, wL_law_208 post L xs J44 x1 x2 (nI pos) x7 (nI q) (nI n) kc ks (nI P) fs fu (nI n) (nI q) ae ast ax ap sm f 0 0 := by
  have hp16 : 2 ^ n ≤ 65536 := cc_p16 hn
  have hsh : (1 : Int32) <<< (nI n &&& 31) = nI (2 ^ n) := cc_sh n (by omega)
  refine pk_loop (σ := Unit) (fun f i _ => wL_law_208 post L xs J44 x1 x2 (nI pos) x7 (nI q) (nI n) kc ks (nI P) fs fu (nI n) (nI q) ae ast ax ap sm f (nI (cv_n (cx_cov ec pm n P) i)) (nI i)) (fun _ _ => True) (2 ^ n) 0 () (Nat.zero_le _) trivial ?_ ?_
  · intro f _ _
    refine pk_le (2 ^ n) (2 ^ n) (fun _ => ?_) (fun z => absurd z (by omega)) hsh rfl (by omega) (by omega)
    refine br_t (by rw [hS.1]) ?_
    exact pk_le 64 q (fun z => ll_263 (e := 64) hn hP hx hp hpm hq z (by omega) (Or.inr (by omega)) hS h) (fun z => ll_263 (e := q) hn hP hx hp hpm hq (by omega) (by omega) (Or.inl (by omega)) hS h) rfl rfl (by omega) (by omega)
  · intro f i _ hi _ hw
    refine pk_le (2 ^ n) i (fun z => absurd z (by omega)) (fun _ => ?_) hsh rfl (by omega) (by omega)
    refine xl_isCover hn hP hi hx hp hpm (fun z => br_f (by decide) ?_) (fun z => br_t rfl ?_)
    · have t := hw () trivial
      rw [cv_st z] at t
      exact nm_r (nI_1 _) (nm_r (nI_1 i) t)
    · have t := hw () trivial
      rw [cv_sf (by rw [z]; decide)] at t
      exact nm_r (nI_1 i) t
