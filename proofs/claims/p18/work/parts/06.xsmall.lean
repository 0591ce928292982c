-- the class's own small methods, each with a general post
theorem xl_isPending {post : Int32 → Prop} {fp fs fv : Int32} {ae ast ax ap sm : Nat → Int32} {n T D t : Nat} {it co : Nat → Nat}
    (hn : n ≤ 16) (hT : T + D ≤ 64) (hs : ast n = nI T) (he : ∀ e, e < T + D → ae e = nI (it e * 16 + co e)) (hb : ∀ e, e < T + D → it e < 65536 ∧ co e < 16) (ht : t < 65536)
    (h1 : ∀ a, T ≤ a → a < T + D → it a = t → post 1) (h0 : (∀ a, T ≤ a → a < T + D → it a ≠ t) → post 0) :
    wpX_isPending post (fp, fs, nI (T + D), nI n, fv, ae, ast, ax, ap, sm) (nI t) := by
  refine ⟨pk_in n 17 (by omega), nm_r (e' := nI T) (by rw [cc_cl n]; exact hs) ?_⟩
  exact pk_loop (σ := Unit) (fun f i _ => wX_isPending_10 post (nI t) fp fs (nI (T + D)) (nI n) fv ae ast ax ap sm f (nI i)) (fun i _ => T ≤ i ∧ ∀ a, T ≤ a → a < i → it a ≠ t) (T + D) T () (by omega) ⟨Nat.le_refl T, fun a ha hb => absurd hb (by omega)⟩
    (fun f _ h => pk_le (T + D) (T + D) (fun _ => h0 h.2) (fun z => absurd z (by omega)))
    (fun f i _ hi h hw => pk_le (T + D) i (fun z => absurd z (by omega)) (fun _ => ⟨pk_in i 64 (by omega), cc_16,
      pk_eq (it i) t (fun z => h1 i h.1 hi z) (fun z => nm_r (nI_1 i) (hw () ⟨by omega, fun a ha hb => by
        by_cases y : a = i
        · rw [y]; exact z
        · exact h.2 a ha (by omega)⟩)) (by rw [cc_cl i, he i hi, cc_div (hb i hi).2 (hb i hi).1]) rfl (by have := (hb i hi).1; omega) (by omega)⟩))
theorem xl_pendSize {post : Int32 → Prop} {fp fs fv : Int32} {ae ast ax ap sm : Nat → Int32} {n T D : Nat}
    (hn : n ≤ 16) (hs : ast n = nI T) (h : post (nI D)) : wpX_pendingSize post (fp, fs, nI (T + D), nI n, fv, ae, ast, ax, ap, sm) := by
  refine ⟨pk_in n 17 (by omega), ?_⟩
  show post (nI (T + D) - ast (nI n).toNatClampNeg)
  rw [cc_cl n, hs, pk_sub (by omega), show T + D - T = D by omega]
  exact h
def xl_pp (it : Nat → Nat) (P T i s : Nat) : Prop := T ≤ i ∧ s < 2 ^ P ∧ ∀ t, s.testBit t = true ↔ t < P ∧ ∃ a, T ≤ a ∧ a < i ∧ it a = t
theorem xl_pp0 (it : Nat → Nat) (P T : Nat) : xl_pp it P T T 0 := by
  refine ⟨Nat.le_refl T, Nat.two_pow_pos P, fun t => ?_⟩
  rw [Nat.zero_testBit]
  exact ⟨fun h => absurd h (by decide), fun ⟨_, a, h1, h2, _⟩ => absurd h2 (by omega)⟩
theorem xl_ppn {it : Nat → Nat} {P T i s : Nat} (h : xl_pp it P T i s) (z : P ≤ it i) : xl_pp it P T (i + 1) s := by
  obtain ⟨h1, h2, h3⟩ := h
  refine ⟨by omega, h2, fun t => ?_⟩
  rw [h3]
  constructor
  · rintro ⟨k1, a, k2, k3, k4⟩
    exact ⟨k1, a, k2, by omega, k4⟩
  · rintro ⟨k1, a, k2, k3, k4⟩
    by_cases y : a = i
    · rw [y] at k4
      omega
    · exact ⟨k1, a, k2, by omega, k4⟩
theorem xl_pps {it : Nat → Nat} {P T i s : Nat} (h : xl_pp it P T i s) (z : it i < P) : xl_pp it P T (i + 1) (s ||| 2 ^ it i) := by
  obtain ⟨h1, h2, h3⟩ := h
  refine ⟨by omega, Nat.or_lt_two_pow h2 (Nat.pow_lt_pow_right (by decide) z), fun t => ?_⟩
  rw [Nat.testBit_or, Bool.or_eq_true, h3, Nat.testBit_two_pow, decide_eq_true_eq]
  constructor
  · rintro (⟨k1, a, k2, k3, k4⟩ | k1)
    · exact ⟨k1, a, k2, by omega, k4⟩
    · exact ⟨by omega, i, h1, by omega, k1⟩
  · rintro ⟨k1, a, k2, k3, k4⟩
    by_cases y : a = i
    · rw [y] at k4
      exact Or.inr k4
    · exact Or.inl ⟨k1, a, k2, by omega, k4⟩
theorem xl_pendPrim {post : Int32 → Prop} {fs fv : Int32} {ae ast ax ap sm : Nat → Int32} {n P T D : Nat} {it co : Nat → Nat}
    (hn : n ≤ 16) (hP : P ≤ 12) (hT : T + D ≤ 64) (hs : ast n = nI T) (he : ∀ e, e < T + D → ae e = nI (it e * 16 + co e)) (hb : ∀ e, e < T + D → it e < 65536 ∧ co e < 16)
    (h : ∀ k, k < 2 ^ P → (∀ t, k.testBit t = true ↔ t < P ∧ ∃ a, T ≤ a ∧ a < T + D ∧ it a = t) → post (nI k)) :
    wpX_pendingPrimaries post (nI P, fs, nI (T + D), nI n, fv, ae, ast, ax, ap, sm) := by
  refine ⟨pk_in n 17 (by omega), nm_r (e' := nI T) (by rw [cc_cl n]; exact hs) ?_⟩
  exact pk_loop (σ := Nat) (fun f i s => wX_pendingPrimaries_12 post (nI P) fs (nI (T + D)) (nI n) fv ae ast ax ap sm f (nI s) (nI i)) (fun i s => xl_pp it P T i s) (T + D) T 0 (by omega) (xl_pp0 it P T)
    (fun f s k => pk_le (T + D) (T + D) (fun _ => h s k.2.1 k.2.2) (fun z => absurd z (by omega)))
    (fun f i s hi k hw => pk_le (T + D) i (fun z => absurd z (by omega)) (fun _ => ⟨pk_in i 64 (by omega), cc_16,
      nm_r (e' := nI (it i)) (by rw [cc_cl i, he i hi, cc_div (hb i hi).2 (hb i hi).1])
        (pk_le P (it i) (fun z => nm_r (nI_1 i) (hw s (xl_ppn k z)))
          (fun z => nm_r (e' := nI (s ||| 2 ^ it i)) (by rw [cc_sh _ (by omega), cc_or]) (nm_r (nI_1 i) (hw _ (xl_pps k z)))) rfl rfl (by omega) (by have := (hb i hi).1; omega))⟩))
theorem xl_eClash {post : Int32 → Prop} {it co : Nat → Nat} {a b : Nat} (ha : it a < 65536 ∧ co a < 16) (hb : it b < 65536 ∧ co b < 16)
    (h1 : cx_K it co a b → post 1) (h0 : ¬ cx_K it co a b → post 0) : wpX_entriesClash post () (nI (it a * 16 + co a)) (nI (it b * 16 + co b)) := by
  refine ⟨cc_16, cc_16, ?_⟩
  refine pk_eq (it a) (it b) (fun z => ?_) (fun z => h0 (fun k => z k.1)) (cc_div ha.2 ha.1) (cc_div hb.2 hb.1) (by omega) (by omega)
  refine pk_eq (it a * 16 + co a) (it b * 16 + co b) (fun y => ?_) (fun y => h1 ⟨z, Or.inl (by omega)⟩) rfl rfl (by omega) (by omega)
  refine ⟨cc_16, ?_⟩
  exact pk_eq (co a) 0 (fun w => h1 ⟨z, Or.inr w⟩) (fun w => h0 (fun k => by
    rcases k.2 with q | q
    · omega
    · exact w q)) (cc_rem ha.2 ha.1) rfl (by omega) (by omega)
theorem xl_oc27 {post J : Int32 → Prop} {fp fs fu fc fv : Int32} {ae ast ax ap sm : Nat → Int32} {x y a s e : Nat} {it co : Nat → Nat}
    (hy : y < 16) (hs : s ≤ e) (he : e ≤ 64) (ha : a < 64) (hst : ast (y + 1) = nI e)
    (hE : ae a = nI (it a * 16 + co a)) (hE2 : ∀ b, b < e → ae b = nI (it b * 16 + co b)) (hba : it a < 65536 ∧ co a < 16) (hb : ∀ b, b < e → it b < 65536 ∧ co b < 16)
    (h1 : ∀ b, s ≤ b → b < e → cx_K it co a b → post 1) (h0 : (∀ b, s ≤ b → b < e → ¬ cx_K it co a b) → J (nI (a + 1))) :
    ∃ f, wX_optionsClash_27 post J (nI x) (nI y) (nI a) fp fs fu fc fv ae ast ax ap sm f (nI s) :=
  pk_loop (σ := Unit) (fun f i _ => wX_optionsClash_27 post J (nI x) (nI y) (nI a) fp fs fu fc fv ae ast ax ap sm f (nI i)) (fun i _ => s ≤ i ∧ ∀ b, s ≤ b → b < i → ¬ cx_K it co a b) e s () hs ⟨Nat.le_refl s, fun b hb hb2 => absurd hb2 (by omega)⟩
    (fun f _ k => ⟨pk_in (y + 1) 17 (by omega) (nI_1 y), pk_le e e (fun _ => nm_r (nI_1 a) (h0 k.2)) (fun z => absurd z (by omega)) (by rw [nI_1, cc_cl (y + 1)]; exact hst)⟩)
    (fun f i _ hi k hw => ⟨pk_in (y + 1) 17 (by omega) (nI_1 y), pk_le e i (fun z => absurd z (by omega)) (fun _ => ⟨pk_in a 64 ha, pk_in i 64 (by omega), by
      rw [cc_cl a, cc_cl i, hE, hE2 i hi]
      exact xl_eClash hba (hb i hi) (fun q => br_f (by decide) (h1 i k.1 hi q)) (fun q => br_t rfl (nm_r (nI_1 i) (hw () ⟨by omega, fun b hb hb2 => by
        by_cases w : b = i
        · rw [w]; exact q
        · exact k.2 b hb (by omega)⟩)))⟩) (by rw [nI_1, cc_cl (y + 1)]; exact hst)⟩)
theorem xl_oClash {post : Int32 → Prop} {fp fs fu fc fv : Int32} {ae ast ax ap sm : Nat → Int32} {x y s1 e1 s2 e2 M : Nat} {it co : Nat → Nat}
    (hx : x < 16) (hy : y < 16) (hs1 : s1 ≤ e1) (hs2 : s2 ≤ e2) (he1 : e1 ≤ M) (he2 : e2 ≤ M) (hM : M ≤ 64)
    (t1 : ast x = nI s1) (t2 : ast (x + 1) = nI e1) (t3 : ast y = nI s2) (t4 : ast (y + 1) = nI e2)
    (hE : ∀ b, b < M → ae b = nI (it b * 16 + co b)) (hb : ∀ b, b < M → it b < 65536 ∧ co b < 16)
    (h1 : (∃ a b, s1 ≤ a ∧ a < e1 ∧ s2 ≤ b ∧ b < e2 ∧ cx_K it co a b) → post 1) (h0 : ¬ (∃ a b, s1 ≤ a ∧ a < e1 ∧ s2 ≤ b ∧ b < e2 ∧ cx_K it co a b) → post 0) :
    wpX_optionsClash post (fp, fs, fu, fc, fv, ae, ast, ax, ap, sm) (nI x) (nI y) := by
  refine ⟨pk_in x 17 (by omega), nm_r (e' := nI s1) (by rw [cc_cl x]; exact t1) ?_⟩
  exact pk_loop (σ := Unit) (fun f i _ => wX_optionsClash_7 post (nI x) (nI y) fp fs fu fc fv ae ast ax ap sm f (nI i)) (fun i _ => s1 ≤ i ∧ ∀ a b, s1 ≤ a → a < i → s2 ≤ b → b < e2 → ¬ cx_K it co a b) e1 s1 () hs1 ⟨Nat.le_refl s1, fun a b ha ha2 => absurd ha2 (by omega)⟩
    (fun f _ k => ⟨pk_in (x + 1) 17 (by omega) (nI_1 x), pk_le e1 e1 (fun _ => h0 (fun ⟨a, b, q1, q2, q3, q4, q5⟩ => k.2 a b q1 q2 q3 q4 q5)) (fun z => absurd z (by omega)) (by rw [nI_1, cc_cl (x + 1)]; exact t2)⟩)
    (fun f i _ hi k hw => ⟨pk_in (x + 1) 17 (by omega) (nI_1 x), pk_le e1 i (fun z => absurd z (by omega)) (fun _ => ⟨pk_in y 17 (by omega), nm_r (e' := nI s2) (by rw [cc_cl y]; exact t3)
      (xl_oc27 (e := e2) hy hs2 (by omega) (by omega) t4 (hE i (by omega)) (fun b q => hE b (by omega)) (hb i (by omega)) (fun b q => hb b (by omega))
        (fun b q1 q2 q3 => h1 ⟨i, b, k.1, hi, q1, q2, q3⟩)
        (fun q => hw () ⟨by omega, fun a b w1 w2 w3 w4 => by
          by_cases v : a = i
          · rw [v]; exact q b w3 w4
          · exact k.2 a b w1 (by omega) w3 w4⟩))⟩) (by rw [nI_1, cc_cl (x + 1)]; exact t2)⟩)
def xl_cb (C : Nat → Prop) (i s : Nat) : Prop := s < 2 ^ i ∧ ∀ e, s.testBit e = true ↔ e < i ∧ C e
theorem xl_cb0 (C : Nat → Prop) : xl_cb C 0 0 := by
  refine ⟨Nat.two_pow_pos 0, fun t => ?_⟩
  rw [Nat.zero_testBit]
  exact ⟨fun h => absurd h (by decide), fun h => absurd h.1 (Nat.not_lt_zero t)⟩
theorem xl_cbn {C : Nat → Prop} {i s : Nat} (h : xl_cb C i s) (z : ¬ C i) : xl_cb C (i + 1) s := by
  refine ⟨cc_lift h.1, fun e => ?_⟩
  rw [h.2]
  constructor
  · rintro ⟨k1, k2⟩
    exact ⟨by omega, k2⟩
  · rintro ⟨k1, k2⟩
    by_cases y : e = i
    · rw [y] at k2
      exact absurd k2 z
    · exact ⟨by omega, k2⟩
theorem xl_cbs {C : Nat → Prop} {i s : Nat} (h : xl_cb C i s) (z : C i) : xl_cb C (i + 1) (s ||| 2 ^ i) := by
  refine ⟨cc_orlt h.1 (Nat.lt_succ_self i), fun e => ?_⟩
  rw [Nat.testBit_or, Bool.or_eq_true, h.2, Nat.testBit_two_pow, decide_eq_true_eq]
  constructor
  · rintro (⟨k1, k2⟩ | k1)
    · exact ⟨by omega, k2⟩
    · exact ⟨by omega, by rw [← k1]; exact z⟩
  · rintro ⟨k1, k2⟩
    by_cases y : e = i
    · exact Or.inr y.symm
    · exact Or.inl ⟨by omega, k2⟩
theorem xl_cBefore {post : Int32 → Prop} {fp fs fu fc fv : Int32} {ae ast ax ap sm : Nat → Int32} {n M : Nat} {it co st : Nat → Nat}
    (hn : n < 16) (hM : M ≤ 64) (hst : ∀ o, o ≤ n + 1 → ast o = nI (st o)) (hmo : ∀ o, o ≤ n → st o ≤ st (o + 1)) (hle : ∀ o, o ≤ n + 1 → st o ≤ M)
    (hE : ∀ b, b < M → ae b = nI (it b * 16 + co b)) (hb : ∀ b, b < M → it b < 65536 ∧ co b < 16)
    (h : ∀ k, k < 2 ^ n → (∀ e, k.testBit e = true ↔ e < n ∧ ∃ a b, st e ≤ a ∧ a < st (e + 1) ∧ st n ≤ b ∧ b < st (n + 1) ∧ cx_K it co a b) → post (nI k)) :
    wpX_clashesBefore post (fp, fs, fu, fc, fv, ae, ast, ax, ap, sm) (nI n) :=
  pk_loop (σ := Nat) (fun f i s => wX_clashesBefore_4 post (nI n) fp fs fu fc fv ae ast ax ap sm f (nI s) (nI i)) (fun i s => xl_cb (fun e => ∃ a b, st e ≤ a ∧ a < st (e + 1) ∧ st n ≤ b ∧ b < st (n + 1) ∧ cx_K it co a b) i s) n 0 0 (by omega) (xl_cb0 _)
    (fun f s k => pk_le n n (fun _ => h s k.1 k.2) (fun z => absurd z (by omega)))
    (fun f i s hi k hw => pk_le n i (fun z => absurd z (by omega)) (fun _ =>
      xl_oClash (s1 := st i) (e1 := st (i + 1)) (s2 := st n) (e2 := st (n + 1)) (M := M) (by omega) hn (hmo i (by omega)) (hmo n (by omega)) (hle _ (by omega)) (hle _ (by omega)) hM (hst _ (by omega)) (hst _ (by omega)) (hst _ (by omega)) (hst _ (by omega)) hE hb
        (fun q => br_f (by decide) (nm_r (e' := nI (s ||| 2 ^ i)) (by rw [cc_sh _ (by omega), cc_or]) (nm_r (nI_1 i) (hw _ (xl_cbs k q)))))
        (fun q => br_t rfl (nm_r (nI_1 i) (hw _ (xl_cbn k q))))))
