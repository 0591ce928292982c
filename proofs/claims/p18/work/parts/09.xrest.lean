-- out of whole: the class half of the relation, the stored covers, the tests of addItem
def ir_X (P S n T D : Nat) (it co st ec pm : Nat → Nat) (cv : Int32) (sm : Nat → Int32) (u : St2) : Prop :=
  ∃ ae ast ax ap : Nat → Int32, u = (nI P, nI S, nI (T + D), nI n, cv, ae, ast, ax, ap, sm) ∧
    (∀ e, e < T + D → ae e = nI (it e * 16 + co e)) ∧ (∀ o, o ≤ n → ast o = nI (st o)) ∧ (∀ o, o < n → ax o = nI (ec o)) ∧ (∀ o, o < n → ap o = nI (pm o))
theorem ir_b {P S n T D : Nat} {it co op st ec pm : Nat → Nat} (h : ir_P P S n T D it co op st ec pm) : ∀ e, e < T + D → it e < 65536 ∧ co e < 16 := by
  obtain ⟨a1, a2, a3, _⟩ := h
  intro e he
  have b := a3 e he
  exact ⟨by omega, b.2.1⟩
theorem ir_cl {a b : Nat} (hab : a ≤ b) (hb : b < 2 ^ 31) (x : Int32) : ∃ q, a ≤ q ∧ q ≤ b ∧ ∀ post : Int32 → Prop, post (nI q) → wpX_clamped post () x (nI a) (nI b) := by
  by_cases z : nI a ≤ x
  · have h0 : ¬ x < 0 := by
      intro y
      have h1 : (0 : Int32) ≤ nI a := nI_pos' (by omega)
      rw [Int32.lt_iff_toInt_lt] at y
      rw [Int32.le_iff_toInt_le] at z h1
      omega
    obtain ⟨j, hj, rfl⟩ := nI_of h0
    rw [nI_leI (by omega) hj] at z
    by_cases y : j ≤ b
    · exact ⟨j, z, y, fun post h => br_t ((nI_leI (by omega) hj).mpr z) (br_t ((nI_leI hj hb).mpr y) h)⟩
    · exact ⟨b, hab, Nat.le_refl b, fun post h => br_t ((nI_leI (by omega) hj).mpr z) (br_f (fun w => y ((nI_leI hj hb).mp w)) h)⟩
  · exact ⟨a, Nat.le_refl a, hab, fun post h => br_f z h⟩
theorem ir_ge {x : Int32} {n : Nat} (hn : n < 2 ^ 31) (h : nI n ≤ x) : ¬ x < 0 ∧ ¬ x < nI n := by
  have h1 : (0 : Int32) ≤ nI n := nI_pos' hn
  constructor
  · intro y
    rw [Int32.lt_iff_toInt_lt] at y
    rw [Int32.le_iff_toInt_le] at h h1
    omega
  · intro y
    rw [Int32.lt_iff_toInt_lt] at y
    rw [Int32.le_iff_toInt_le] at h
    omega
theorem ir_m1 {x : Int32} (h : ¬ x < 0) : ¬ x < -1 ∧ (-1 : Int32) ≤ x := by
  obtain ⟨j, hj, rfl⟩ := nI_of h
  have e : (-1 : Int32).toInt = -1 := by decide
  have e2 := nI_toInt hj
  constructor
  · intro y
    rw [Int32.lt_iff_toInt_lt] at y
    omega
  · rw [Int32.le_iff_toInt_le]
    omega
def sr_x (x : Int32) (o : Nat) : Bool := decide (¬ ((x.toUInt32 >>> ((nI o).toUInt32 &&& Int32.toUInt32 31)).toInt32 &&& 1) = 0)
theorem sr_has {post : Int32 → Prop} {x : Int32} {o : Nat} (h1 : sr_x x o = true → post 1) (h0 : sr_x x o = false → post 0) : wpX_contains post () x (nI o) :=
  ⟨fun z => h0 (decide_eq_false (fun y => y z)), fun z => h1 (decide_eq_true z)⟩
theorem sr_X24 {post : Int32 → Prop} {fp fs fu fc fv : Int32} {ae ast ax ap sm : Nat → Int32} {k : Nat} (hk : k < 64) (h : post (nI (cv_n (sr_x (sm k)) 16))) :
    ∃ f, wX_solutionSize_24 post (nI k) fp fs fu fc fv ae ast ax ap sm f 0 0 :=
  pk_loop (σ := Unit) (fun f i _ => wX_solutionSize_24 post (nI k) fp fs fu fc fv ae ast ax ap sm f (nI (cv_n (sr_x (sm k)) i)) (nI i)) (fun _ _ => True) 16 0 () (by omega) trivial
    (fun f _ _ => pk_le 16 16 (fun _ => h) (fun z => absurd z (by omega)))
    (fun f i _ hi _ hw => pk_le 16 i (fun z => absurd z (by omega)) (fun _ => ⟨pk_in k 64 hk, by
      rw [cc_cl k]
      exact sr_has
        (fun q => br_f (by decide) (nm_r (nI_1 _) (nm_r (nI_1 i) (by
          have := hw () trivial
          rw [cv_st q] at this
          exact this))))
        (fun q => br_t rfl (nm_r (nI_1 i) (by
          have := hw () trivial
          rw [cv_sf (by rw [q]; decide)] at this
          exact this)))⟩))
theorem sr_X20 {post : Int32 → Prop} {fp fs fu fc fv : Int32} {ae ast ax ap sm : Nat → Int32} {k j : Nat} (hk : k < 64) (hj : j < cv_n (sr_x (sm k)) 16)
    (h : ∀ o, o < 16 → sr_x (sm k) o = true → cv_n (sr_x (sm k)) o = j → post (nI o)) :
    ∃ f, wX_solutionOption_20 post (nI k) (nI j) fp fs fu fc fv ae ast ax ap sm f 0 0 :=
  have h16 := cv_nle (sr_x (sm k)) 16
  pk_loop (σ := Unit) (fun f i _ => wX_solutionOption_20 post (nI k) (nI j) fp fs fu fc fv ae ast ax ap sm f (nI (cv_n (sr_x (sm k)) i)) (nI i)) (fun i _ => cv_n (sr_x (sm k)) i ≤ j) 16 0 () (by omega) (Nat.zero_le j)
    (fun f _ q => absurd q (by omega))
    (fun f i _ hi k1 hw => pk_le 16 i (fun z => absurd z (by omega)) (fun _ => ⟨pk_in k 64 hk, by
      rw [cc_cl k]
      exact sr_has
        (fun q => br_f (by decide) (pk_eq (cv_n (sr_x (sm k)) i) j (fun e => h i hi q e) (fun e => nm_r (nI_1 _) (nm_r (nI_1 i) (by
          have := hw () (by rw [cv_st q]; omega)
          rw [cv_st q] at this
          exact this))) rfl rfl (by omega) (by omega)))
        (fun q => br_t rfl (nm_r (nI_1 i) (by
          have e : cv_n (sr_x (sm k)) (i + 1) = cv_n (sr_x (sm k)) i := cv_sf (by rw [q]; decide)
          have := hw () (by rw [e]; exact k1)
          rw [e] at this
          exact this)))⟩))
theorem ad_cases (P S : Nat) (hP : P ≤ 12) (hS : S ≤ 8) (x y : Int32) :
    (∀ A B C K : Prop, A → ((x < 0 → A) ∧ (¬ x < 0 → (((x < (nI P + nI S) → (((y < 0 → B) ∧ (¬ y < 0 → (((y ≤ 15 → (((nI P ≤ x → K) ∧ (¬ nI P ≤ x → (((y = 0 → K) ∧ (¬ y = 0 → C))))))) ∧ (¬ y ≤ 15 → B))))))) ∧ (¬ x < (nI P + nI S) → A)))))) ∨
    (∀ A B C K : Prop, B → ((x < 0 → A) ∧ (¬ x < 0 → (((x < (nI P + nI S) → (((y < 0 → B) ∧ (¬ y < 0 → (((y ≤ 15 → (((nI P ≤ x → K) ∧ (¬ nI P ≤ x → (((y = 0 → K) ∧ (¬ y = 0 → C))))))) ∧ (¬ y ≤ 15 → B))))))) ∧ (¬ x < (nI P + nI S) → A)))))) ∨
    (∀ A B C K : Prop, C → ((x < 0 → A) ∧ (¬ x < 0 → (((x < (nI P + nI S) → (((y < 0 → B) ∧ (¬ y < 0 → (((y ≤ 15 → (((nI P ≤ x → K) ∧ (¬ nI P ≤ x → (((y = 0 → K) ∧ (¬ y = 0 → C))))))) ∧ (¬ y ≤ 15 → B))))))) ∧ (¬ x < (nI P + nI S) → A)))))) ∨
    (∃ t c, x = nI t ∧ y = nI c ∧ t < P + S ∧ c < 16 ∧ (t < P → c = 0) ∧ ∀ A B C K : Prop, K → ((x < 0 → A) ∧ (¬ x < 0 → (((x < (nI P + nI S) → (((y < 0 → B) ∧ (¬ y < 0 → (((y ≤ 15 → (((nI P ≤ x → K) ∧ (¬ nI P ≤ x → (((y = 0 → K) ∧ (¬ y = 0 → C))))))) ∧ (¬ y ≤ 15 → B))))))) ∧ (¬ x < (nI P + nI S) → A)))))) := by
  rw [nI_add]
  rcases pk_ix x (show P + S < 2 ^ 31 by omega) with h | h | ⟨t, ht, rfl⟩
  · exact Or.inl (fun A B C K a => br_t h a)
  · have g := ir_ge (by omega) h
    exact Or.inl (fun A B C K a => br_f g.1 (br_f g.2 a))
  · have b1 : ¬ nI t < 0 := nI_pos (by omega)
    have b2 : nI t < nI (P + S) := nI_lt ht (by omega)
    rcases pk_ix y (show 16 < 2 ^ 31 by omega) with h | h | ⟨c, hc, rfl⟩
    · exact Or.inr (Or.inl (fun A B C K b => br_f b1 (br_t b2 (br_t h b))))
    · have g := ir_ge (by omega) h
      have g2 : ¬ y ≤ 15 := by
        intro z
        obtain ⟨j, hj, rfl⟩ := nI_of g.1
        rw [nI_leI (by omega) hj] at h
        have z2 : nI j ≤ nI 15 := z
        rw [nI_leI hj (by omega)] at z2
        omega
      exact Or.inr (Or.inl (fun A B C K b => br_f b1 (br_t b2 (br_f g.1 (br_f g2 b)))))
    · have c1 : ¬ nI c < 0 := nI_pos (by omega)
      have c2 : nI c ≤ 15 := nI_le (b := 15) (by omega) (by decide)
      by_cases hp : P ≤ t
      · exact Or.inr (Or.inr (Or.inr ⟨t, c, rfl, rfl, ht, hc, fun z => absurd z (by omega), fun A B C K q => br_f b1 (br_t b2 (br_f c1 (br_t c2 (br_t (nI_le hp (by omega)) q))))⟩))
      · have d1 : ¬ nI P ≤ nI t := nI_ge (by omega) (by omega)
        by_cases h0 : c = 0
        · subst h0
          exact Or.inr (Or.inr (Or.inr ⟨t, 0, rfl, rfl, ht, hc, fun _ => rfl, fun A B C K q => br_f b1 (br_t b2 (br_f c1 (br_t c2 (br_f d1 (br_t rfl q)))))⟩))
        · exact Or.inr (Or.inr (Or.inl (fun A B C K q => br_f b1 (br_t b2 (br_f c1 (br_t c2 (br_f d1 (br_f (nI_ne0 (by omega) (by omega)) q))))))))
