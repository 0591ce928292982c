-- the law itself
theorem lz_cell {post : Int32 → Prop} {L : Nat} {xs : Nat → Int32} {p : Int32} {j : Nat} (hL : L ≤ 260) (hp : p = nI j) (hj : j < 1000) (h : ∀ x, post x) : wpL_cell post L xs () p := by
  subst hp
  exact pk_le L j (fun _ => h _) (fun z => ⟨pk_in j L z, h _⟩)
theorem lz_mod {post : Int32 → Prop} {x y : Int32} {m : Nat} (hy : y = nI m) (hm : 0 < m) (hm2 : m < 1000) (h : ∀ j, j < m → post (nI j)) : wpL_mod post () x y := by
  subst hy
  refine ⟨nI_ne0 hm (by omega), nm_e ?_⟩
  have em := nI_toInt (show m < 2 ^ 31 by omega)
  have e := rem_toInt x (nI m)
  have t := tmod_bounds (a := x.toInt) (M := (nI m).toInt) (by omega)
  rw [← e] at t
  have z0 : (0 : Int32).toInt = 0 := by decide
  generalize x - x / nI m * nI m = r at t ⊢
  refine br_c (fun z => ?_) (fun z => ?_)
  · rw [Int32.le_iff_toInt_le] at z
    obtain ⟨j, hj, rfl⟩ := nI_of (x := r) (by rw [Int32.lt_iff_toInt_lt]; omega)
    rw [nI_toInt hj] at t
    exact h j (by omega)
  · have z2 : ¬ (0 : Int32).toInt ≤ r.toInt := fun w => z (Int32.le_iff_toInt_le.mpr w)
    have ea : (r + nI m).toInt = r.toInt + (nI m).toInt := Jvm.Kit.i32_add (by omega) (by omega)
    obtain ⟨j, hj, ej⟩ := nI_of (x := r + nI m) (by rw [Int32.lt_iff_toInt_lt]; omega)
    rw [ej, nI_toInt hj] at ea
    rw [ej]
    exact h j (by omega)
theorem lz_form {P S : Nat} {x4 x5 : Int32} {u : St2} (I : li_I P S x4 x5 u) : ∃ (fu fc fv : Int32) (ae ast ax ap sm : Nat → Int32), u = (nI P, nI S, fu, fc, fv, ae, ast, ax, ap, sm) := by
  obtain ⟨n, T, D, it, co, op, st, ec, pm, cv, sm, hp, ⟨ae, ast, ax, ap, e, _⟩, hr⟩ := I
  exact ⟨_, _, _, ae, ast, ax, ap, sm, e⟩
theorem lz_553 {post : Int32 → Prop} {L : Nat} {xs : Nat → Int32} {J44 : Int32 → Int32 → Int32 → Int32 → Int32 → Int32 → Int32 → Int32 → Int32 → (Nat → Int32) → (Nat → Int32) → (Nat → Int32) → (Nat → Int32) → (Nat → Int32) → Prop}
    {x1 x2 x4 x5 x6 x7 fu fc fv : Int32} {P S kc ks : Nat} {ae ast ax ap sm : Nat → Int32} (I : li_I P S x4 x5 (nI P, nI S, fu, fc, fv, ae, ast, ax, ap, sm))
    (h : J44 x4 x5 x6 x7 (nI P) (nI S) fu fc fv ae ast ax ap sm) : wL_law_553 post L xs J44 x1 x2 x4 x5 x6 x7 kc ks (nI P) (nI S) fu fc fv ae ast ax ap sm := by
  rcases li_cnt I with ⟨rfl, rfl⟩ | ⟨rfl, rfl⟩
  · exact br_t rfl (br_t rfl h)
  · exact br_f (by decide) (br_t rfl h)
def lz_J (P S pos : Nat) (x7 : Int32) (J44 : Int32 → Int32 → Int32 → Int32 → Int32 → Int32 → Int32 → Int32 → Int32 → (Nat → Int32) → (Nat → Int32) → (Nat → Int32) → (Nat → Int32) → (Nat → Int32) → Prop) : Prop :=
  ∀ (x4 x5 : Int32) (d : Nat) (fu fc fv : Int32) (ae ast ax ap sm : Nat → Int32), 0 < d → d ≤ 3 → li_I P S x4 x5 (nI P, nI S, fu, fc, fv, ae, ast, ax, ap, sm) → J44 x4 x5 (nI (pos + d)) x7 (nI P) (nI S) fu fc fv ae ast ax ap sm
theorem lz_77 {post : Int32 → Prop} {L : Nat} {xs : Nat → Int32} {J44 : Int32 → Int32 → Int32 → Int32 → Int32 → Int32 → Int32 → Int32 → Int32 → (Nat → Int32) → (Nat → Int32) → (Nat → Int32) → (Nat → Int32) → (Nat → Int32) → Prop}
    {x4 x5 x7 fu fc fv : Int32} {P S kc ks pos o : Nat} {ae ast ax ap sm : Nat → Int32} (hL : L ≤ 260) (hP : 0 < P) (hP4 : P ≤ 4) (hS : S ≤ 2) (hpos : pos ≤ 262) (ho : o < 10)
    (I : li_I P S x4 x5 (nI P, nI S, fu, fc, fv, ae, ast, ax, ap, sm)) (HJ : lz_J P S pos x7 J44) :
    wL_law_77 post L xs J44 (nI P) (nI S) x4 x5 (nI pos) x7 (nI o) kc ks (nI P) (nI S) fu fc fv ae ast ax ap sm := by
  have p1 : nI pos + 1 = nI (pos + 1) := nI_1 pos
  have p2 : nI pos + 2 = nI (pos + 2) := nI_add pos 2
  have p3 : nI pos + 3 = nI (pos + 3) := nI_add pos 3
  have add : ∀ y z : Int32, wL_law_121 post L xs J44 (nI P) (nI S) x4 x5 (nI pos) x7 y z kc ks (nI P) (nI S) fu fc fv ae ast ax ap sm := by
    intro y z
    refine li_add I y z (fun r u' hI => ?_)
    obtain ⟨fu', fc', fv', ae', ast', ax', ap', sm', rfl⟩ := lz_form hI
    exact nm_r p3 (lz_553 hI (HJ _ _ 3 _ _ _ _ _ _ _ _ (by omega) (by omega) hI))
  refine pk_lt 5 o (fun a => pk_lt 7 o (fun b => pk_eq o 8 (fun c => ?_) (fun c => ?_)) (fun b => ?_)) (fun a => ?_)
  · refine li_solve I (fun n q ec pm fu' ae' ast' ax' ap' sm' h1 h2 h3 h4 h5 h6 h7 hI => ?_)
    exact br_t (nI_pos' (by omega)) (br_t rfl (ll_208 h1 h2 h3 h4 h5 h6 h7 (lz_553 hI (HJ _ _ 1 _ _ _ _ _ _ _ _ (by omega) (by omega) hI))))
  · refine lz_cell hL p1 (by omega) (fun x => lz_mod (m := 4) rfl (by omega) (by omega) (fun j hj => br_c (fun _ => li_clear I (fun u' hI => ?_)) (fun _ => li_disc I (fun r u' hI => ?_))))
    · obtain ⟨fu', fc', fv', ae', ast', ax', ap', sm', rfl⟩ := lz_form hI
      exact nm_r p2 (lz_553 hI (HJ _ _ 2 _ _ _ _ _ _ _ _ (by omega) (by omega) hI))
    · obtain ⟨fu', fc', fv', ae', ast', ax', ap', sm', rfl⟩ := lz_form hI
      exact nm_r p2 (lz_553 hI (HJ _ _ 2 _ _ _ _ _ _ _ _ (by omega) (by omega) hI))
  · refine li_end I (fun r u' hr hI => ?_) (fun r u' hr hI => ?_)
    · obtain ⟨fu', fc', fv', ae', ast', ax', ap', sm', rfl⟩ := lz_form hI
      exact br_t hr (nm_r p1 (lz_553 hI (HJ _ _ 1 _ _ _ _ _ _ _ _ (by omega) (by omega) hI)))
    · obtain ⟨fu', fc', fv', ae', ast', ax', ap', sm', rfl⟩ := lz_form hI
      exact br_f hr (nm_r p1 (lz_553 hI (HJ _ _ 1 _ _ _ _ _ _ _ _ (by omega) (by omega) hI)))
  · exact lz_cell hL p1 (by omega) (fun x => lz_mod (m := P + S) (nI_add P S) (by omega) (by omega) (fun j hj => br_c (fun _ => lz_cell hL p2 (by omega) (fun y => lz_mod (m := 3) rfl (by omega) (by omega) (fun c hc => add _ _))) (fun _ => add _ _)))
theorem lz_44 {L : Nat} {xs : Nat → Int32} {P S kc ks : Nat} (hL : L ≤ 260) (hP : 0 < P) (hP4 : P ≤ 4) (hS : S ≤ 2) : ∀ (k pos : Nat) (x4 x5 fu fc fv : Int32) (ae ast ax ap sm : Nat → Int32), L + 1 ≤ pos + k → pos ≤ L + 2 → li_I P S x4 x5 (nI P, nI S, fu, fc, fv, ae, ast, ax, ap, sm) →
    wL_law_44 (fun r => r = 1) L xs (nI P) (nI S) kc ks (k + 2) x4 x5 (nI pos) 0 (nI P) (nI S) fu fc fv ae ast ax ap sm := by
  intro k
  have fin : ∀ (f pos : Nat) (x4 x5 fu fc fv : Int32) (ae ast ax ap sm : Nat → Int32), pos ≤ L + 2 → li_I P S x4 x5 (nI P, nI S, fu, fc, fv, ae, ast, ax, ap, sm) →
      wL_law_77 (fun r => r = 1) L xs (wL_law_44 (fun r => r = 1) L xs (nI P) (nI S) kc ks (f + 1)) (nI P) (nI S) x4 x5 (nI pos) 1 8 kc ks (nI P) (nI S) fu fc fv ae ast ax ap sm := by
    intro f pos x4 x5 fu fc fv ae ast ax ap sm hp I
    exact lz_77 (o := 8) hL hP hP4 hS (by omega) (by omega) I (fun x4 x5 d fu fc fv ae ast ax ap sm _ _ _ => br_f (by decide) rfl)
  induction k with
  | zero =>
    intro pos x4 x5 fu fc fv ae ast ax ap sm h1 h2 I
    exact br_t rfl (pk_lt pos L (fun z => absurd z (by omega)) (fun _ => fin 0 pos x4 x5 fu fc fv ae ast ax ap sm h2 I))
  | succ k ih =>
    intro pos x4 x5 fu fc fv ae ast ax ap sm h1 h2 I
    refine br_t rfl (pk_lt pos L (fun z => ⟨pk_in pos L z, ?_⟩) (fun _ => fin (k + 1) pos x4 x5 fu fc fv ae ast ax ap sm h2 I))
    exact lz_mod (m := 10) rfl (by omega) (by omega) (fun o ho => lz_77 hL hP hP4 hS (by omega) ho I (fun x4 x5 d fu fc fv ae ast ax ap sm d1 d2 hI => ih (pos + d) x4 x5 fu fc fv ae ast ax ap sm (by omega) (by omega) hI))
