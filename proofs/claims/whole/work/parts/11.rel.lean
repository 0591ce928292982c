-- the relation: one picture, the class's state and the reference's state beside it
def ir_X (P S n T D : Nat) (it co st ec pm : Nat → Nat) (cv : Int32) (sm : Nat → Int32) (u : SX) : Prop :=
  ∃ ae ast ax ap : Nat → Int32, u = (nI P, nI S, nI (T + D), nI n, cv, ae, ast, ax, ap, sm) ∧
    (∀ e, e < T + D → ae e = nI (it e * 16 + co e)) ∧ (∀ o, o ≤ n → ast o = nI (st o)) ∧ (∀ o, o < n → ax o = nI (ec o)) ∧ (∀ o, o < n → ap o = nI (pm o))
def ir_Y (P S n T D : Nat) (it co op st : Nat → Nat) (va cn sd : Int32) (sm : Nat → Int32) (v : SY) : Prop :=
  ∃ yi yc yo ys yl : Nat → Int32, v = (nI P, nI S, nI T, nI D, nI n, va, cn, sd, yi, yc, yo, ys, yl, sm) ∧
    (∀ e, e < T + D → yi e = nI (it e) ∧ yc e = nI (co e)) ∧ (∀ e, e < T → yo e = nI (op e)) ∧ (∀ o, o < n → ys o = nI (st o) ∧ yl o = nI (st (o + 1) - st o))
def ir_R (cv va cn sd : Int32) : Prop :=
  (va = 0 ∧ cv = -1) ∨ (va = 1 ∧ ∃ q, q < 65536 ∧ cv = nI q ∧ cn = nI q ∧ sd = nI (yl_m q))
def i_Rel (_ : Nat) (u : SX) (v : SY) : Prop :=
  ∃ (P S n T D : Nat) (it co op st ec pm : Nat → Nat) (cv va cn sd : Int32) (sm : Nat → Int32),
    ir_P P S n T D it co op st ec pm ∧ ir_X P S n T D it co st ec pm cv sm u ∧ ir_Y P S n T D it co op st va cn sd sm v ∧ ir_R cv va cn sd
theorem i_up {k : Nat} {u : SX} {v : SY} (h : i_Rel k u v) : i_Rel (k + 3) u v := h
theorem ir_H {P S n T D : Nat} {it co op st ec pm : Nat → Nat} {yi yc yo : Nat → Int32} (h : ir_P P S n T D it co op st ec pm)
    (h1 : ∀ e, e < T + D → yi e = nI (it e) ∧ yc e = nI (co e)) (h2 : ∀ e, e < T → yo e = nI (op e)) : yl_H n T P S it co op yi yc yo := by
  obtain ⟨a1, a2, a3, a4, _⟩ := h
  refine ⟨a1.2.2.2.1, by omega, a1.2.1, a1.2.2.1, fun e he => ?_⟩
  have b1 := a3 e (by omega)
  have b2 := a4 e he
  exact ⟨(h1 e (by omega)).1, (h1 e (by omega)).2, h2 e he, by omega, by omega, b1.2.1⟩
theorem ir_C {P S n T D : Nat} {it co op st ec pm : Nat → Nat} (h : ir_P P S n T D it co op st ec pm) : yl_C n T P S it co op (cx_cov ec pm n P) := by
  obtain ⟨a1, a2, a3, a4, a5, a6, a7, a8⟩ := h
  intro m _ _
  rw [cx_C a8 (fun a ha => (a4 a ha).1) a6 m]
  exact cv_all (fun a ha => (a3 a (by omega)).1) (fun a ha => (a3 a (by omega)).2.2)
theorem ir_b {P S n T D : Nat} {it co op st ec pm : Nat → Nat} (h : ir_P P S n T D it co op st ec pm) : ∀ e, e < T + D → it e < 65536 ∧ co e < 16 := by
  obtain ⟨a1, a2, a3, _⟩ := h
  intro e he
  have b := a3 e he
  exact ⟨by omega, b.2.1⟩
theorem ir_init (P S : Nat) (h : 1 ≤ P ∧ P ≤ 12 ∧ S ≤ 8) : i_Rel 2 (nI P, nI S, 0, 0, (-1), (fun _ => 0), (fun _ => 0), (fun _ => 0), (fun _ => 0), (fun _ => 0))
    (nI P, nI S, 0, 0, 0, 0, 0, 0, (fun _ => 0), (fun _ => 0), (fun _ => 0), (fun _ => 0), (fun _ => 0), (fun _ => 0)) :=
  ⟨P, S, 0, 0, 0, fun _ => 0, fun _ => 0, fun _ => 0, fun _ => 0, fun _ => 0, fun _ => 0, -1, 0, 0, 0, fun _ => 0, ir_clear h rfl,
    ⟨fun _ => 0, fun _ => 0, fun _ => 0, fun _ => 0, rfl, fun e he => absurd he (by omega), fun o ho => rfl, fun o ho => absurd ho (by omega), fun o ho => absurd ho (by omega)⟩,
    ⟨fun _ => 0, fun _ => 0, fun _ => 0, fun _ => 0, fun _ => 0, rfl, fun e he => absurd he (by omega), fun e he => absurd he (by omega), fun o ho => absurd ho (by omega)⟩,
    Or.inl ⟨rfl, rfl⟩⟩
theorem ir_cl {a b : Nat} (hab : a ≤ b) (hb : b < 2 ^ 31) (x : Int32) : ∃ q, a ≤ q ∧ q ≤ b ∧ ∀ post : Int32 → Prop, post (nI q) → wpX_clamped post x (nI a) (nI b) := by
  by_cases z : nI a ≤ x
  · have h0 : ¬ x < 0 := by
      intro y
      have h1 : (0 : Int32) ≤ nI a := nI_pos' (by omega)
      rw [Int32.lt_iff_toInt_lt] at y
      rw [Int32.le_iff_toInt_le] at z h1
      omega
    obtain ⟨j, hj, rfl⟩ := nI_of h0
    rw [nI_leI (by omega) hj] at z
    by_cases y : j ≤ b
    · exact ⟨j, z, y, fun post h => br_t ((nI_leI (by omega) hj).mpr z) (br_t ((nI_leI hj hb).mpr y) h)⟩
    · exact ⟨b, hab, Nat.le_refl b, fun post h => br_t ((nI_leI (by omega) hj).mpr z) (br_f (fun w => y ((nI_leI hj hb).mp w)) h)⟩
  · exact ⟨a, Nat.le_refl a, hab, fun post h => br_f z h⟩
theorem ir_ge {x : Int32} {n : Nat} (hn : n < 2 ^ 31) (h : nI n ≤ x) : ¬ x < 0 ∧ ¬ x < nI n := by
  have h1 : (0 : Int32) ≤ nI n := nI_pos' hn
  constructor
  · intro y
    rw [Int32.lt_iff_toInt_lt] at y
    rw [Int32.le_iff_toInt_le] at h h1
    omega
  · intro y
    rw [Int32.lt_iff_toInt_lt] at y
    rw [Int32.le_iff_toInt_le] at h
    omega
theorem ir_m1 {x : Int32} (h : ¬ x < 0) : ¬ x < -1 ∧ (-1 : Int32) ≤ x := by
  obtain ⟨j, hj, rfl⟩ := nI_of h
  have e : (-1 : Int32).toInt = -1 := by decide
  have e2 := nI_toInt hj
  constructor
  · intro y
    rw [Int32.lt_iff_toInt_lt] at y
    omega
  · rw [Int32.le_iff_toInt_le]
    omega
theorem i_vc0 (k0 : Int32) (k1 : Int32) : wpX_init (fun u => wpY_init (fun v => i_Rel 2 u v) k0 k1) k0 k1 := by
  obtain ⟨P, hP1, hP2, hP⟩ := ir_cl (a := 1) (b := 12) (by decide) (by decide) k0
  obtain ⟨S, hS1, hS2, hS⟩ := ir_cl (a := 0) (b := 8) (by decide) (by decide) k1
  unfold wpX_init
  refine hP _ (hS _ ?_)
  exact hP (fun z => wY_init_74 (fun v => i_Rel 2 (nI P, nI S, 0, 0, (-1), (fun _ => 0), (fun _ => 0), (fun _ => 0), (fun _ => 0), (fun _ => 0)) v) k1 z 0 0 0 0 0 0 0 0 (fun _ => 0) (fun _ => 0) (fun _ => 0) (fun _ => 0) (fun _ => 0) (fun _ => 0))
    (hS (fun z => i_Rel 2 (nI P, nI S, 0, 0, (-1), (fun _ => 0), (fun _ => 0), (fun _ => 0), (fun _ => 0), (fun _ => 0)) (nI P, z, 0, 0, 0, 0, 0, 0, (fun _ => 0), (fun _ => 0), (fun _ => 0), (fun _ => 0), (fun _ => 0), (fun _ => 0)))
      (ir_init P S ⟨hP1, hP2, hS2⟩))
