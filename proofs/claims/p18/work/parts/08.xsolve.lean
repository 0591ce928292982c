-- the class's solve: one turn of its loop, then the walk
theorem xl_51A {post : Int32 → St2 → Prop} {J : Int32 → Int32 → Int32 → (Nat → Int32) → (Nat → Int32) → (Nat → Int32) → (Nat → Int32) → (Nat → Int32) → Prop}
    {fp fs fu fv x : Int32} {ae ast ax ap sm : Nat → Int32} {n c i t : Nat} {ec : Nat → Nat} (hn : n ≤ 16) (hi : i + 1 < n) (hc : c < 2 ^ i) (hx : ∀ o, o < n → ax o = nI (ec o))
    (h1 : cx_cl ec n (c ||| 2 ^ i) = true → J x (nI (c ||| 2 ^ (i + 1))) (nI (t + 1)) ae ast ax ap sm)
    (h0 : cx_cl ec n (c ||| 2 ^ i) = false → J x (nI ((c ||| 2 ^ i) ||| 2 ^ (i + 1))) (nI (t + 1)) ae ast ax ap sm) :
    wX_solve_51 post J x (nI (c ||| 2 ^ i)) (nI t) fp fs fu (nI n) fv ae ast ax ap sm := by
  have hm : c ||| 2 ^ i < 65536 := Nat.lt_of_lt_of_le (cc_orlt hc (show i < 16 by omega)) (Nat.le_refl _)
  unfold wX_solve_51
  exact xl_hasClash hn hm hx (fun q => br_f (by decide) (xl_nwgA hn hi hc (nm_r (nI_1 t) (h1 q)))) (fun q => br_t rfl (xl_nlA hn hi hc (nm_r (nI_1 t) (h0 q))))
theorem xl_51B {post : Int32 → St2 → Prop} {J : Int32 → Int32 → Int32 → (Nat → Int32) → (Nat → Int32) → (Nat → Int32) → (Nat → Int32) → (Nat → Int32) → Prop}
    {fp fs fu fv x : Int32} {ae ast ax ap sm : Nat → Int32} {n c i t z : Nat} {ec : Nat → Nat} (hn : n ≤ 16) (hi : i + 1 = n) (hc : c < 2 ^ i) (hx : ∀ o, o < n → ax o = nI (ec o)) (hz : cw_N c z)
    (h : J x (nI z) (nI (t + 1)) ae ast ax ap sm) :
    wX_solve_51 post J x (nI (c ||| 2 ^ i)) (nI t) fp fs fu (nI n) fv ae ast ax ap sm := by
  have hm : c ||| 2 ^ i < 65536 := Nat.lt_of_lt_of_le (cc_orlt hc (show i < 16 by omega)) (Nat.le_refl _)
  unfold wX_solve_51
  exact xl_hasClash hn hm hx (fun q => br_f (by decide) (xl_nwgB hn hi hc hz (nm_r (nI_1 t) h))) (fun q => br_t rfl (xl_nlB hn hi hc hz (nm_r (nI_1 t) h)))
theorem xl_17 {post : Int32 → St2 → Prop} {fs fu fv : Int32} {ae ast ax ap : Nat → Int32} {n P t m k : Nat} {ec pm : Nat → Nat} {a : Nat × (Nat → Int32)}
    (hn : n ≤ 16) (hP : P ≤ 12) (hm0 : m ≠ 0) (hm : m < 2 ^ n) (ht : t < 65536) (ha : a.1 ≤ t)
    (hx : ∀ o, o < n → ax o = nI (ec o)) (hp : ∀ o, o < n → ap o = nI (pm o)) (hpm : ∀ o, o < n → pm o < 2 ^ P)
    (h : wX_solve_51 post (wX_solve_17 post (nI P) fs fu (nI n) fv k) (nI (cw_put (cx_cov ec pm n P) m a).1) (nI m) (nI t) (nI P) fs fu (nI n) fv ae ast ax ap (cw_put (cx_cov ec pm n P) m a).2) :
    wX_solve_17 post (nI P) fs fu (nI n) fv (k + 1) (nI a.1) (nI m) (nI t) ae ast ax ap a.2 := by
  have hm2 : m < 65536 := Nat.lt_of_lt_of_le hm (cc_p16 hn)
  refine pk_le 65536 t (fun z => absurd z (by omega)) (fun _ => br_f (nI_ne0 (by omega) (by omega)) ?_)
  refine xl_isCover hn hP hm hx hp hpm (fun q => br_f (by decide) ?_) (fun q => br_t rfl ?_)
  · have e : cw_put (cx_cov ec pm n P) m a = (a.1 + 1, if a.1 < 64 then upd a.2 a.1 (nI m) else a.2) := if_pos q
    rw [e] at h
    refine pk_le 64 a.1 (fun z => ?_) (fun z => ⟨pk_in a.1 64 z, nm_r (e' := upd a.2 a.1 (nI m)) (by rw [cc_cl a.1]) ?_⟩)
    · refine nm_r (nI_1 a.1) ?_
      dsimp only at h
      rw [if_neg (by omega)] at h
      exact h
    · refine nm_r (nI_1 a.1) ?_
      dsimp only at h
      rw [if_pos z] at h
      exact h
  · rw [cw_put0 a q] at h
    exact h
theorem xl_solve {post : Int32 → St2 → Prop} {fs fu fv : Int32} {ae ast ax ap sm : Nat → Int32} {n P : Nat} {ec pm : Nat → Nat}
    (hn : n ≤ 16) (hP : P ≤ 12) (hx : ∀ o, o < n → ax o = nI (ec o)) (hp : ∀ o, o < n → ap o = nI (pm o)) (hpm : ∀ o, o < n → pm o < 2 ^ P)
    (h : (cw_walk (cx_cov ec pm n P) n 0 0 (0, sm)).1 < 65536 → post (nI (cw_walk (cx_cov ec pm n P) n 0 0 (0, sm)).1) (nI P, fs, fu, nI n, nI (cw_walk (cx_cov ec pm n P) n 0 0 (0, sm)).1, ae, ast, ax, ap, (cw_walk (cx_cov ec pm n P) n 0 0 (0, sm)).2)) :
    wpX_solve post (nI P, fs, fu, nI n, fv, ae, ast, ax, ap, sm) := by
  cases n with
  | zero => exact br_t (by decide) ⟨1, br_f (by decide) (br_t rfl (h (show 0 < 65536 by decide)))⟩
  | succ d =>
    refine br_f (nI_nle (by omega) (by omega)) ⟨65537, ?_⟩
    have hp16 := cc_p16 hn
    have key := cw_X (n := d + 1) hn (cx_cov ec pm (d + 1) P) (cx_cl ec (d + 1)) (fun t m a => t ≤ 65536 → wX_solve_17 post (nI P) fs fu (nI (d + 1)) fv (65537 - t) (nI a.1) (nI m) (nI t) ae ast ax ap a.2)
      (fun m x q => cx_clup x q) (fun m q => cx_cov0 q)
      (fun t c i z a hc hi ht ha hz hw => fun _ => by
        obtain ⟨k, hk⟩ : ∃ k, 65537 - t = k + 1 := ⟨65536 - t, by omega⟩
        have hk2 : 65537 - (t + 1) = k := by omega
        have hw' := hw (by omega)
        rw [hk2] at hw'
        rw [hk]
        exact xl_17 hn hP (cc_ne0 c i) (cc_orlt hc (by omega)) ht ha hx hp hpm (xl_51B hn hi hc hx hz hw'))
      (fun t c i a hc hi ht ha hcl hw => fun _ => by
        obtain ⟨k, hk⟩ : ∃ k, 65537 - t = k + 1 := ⟨65536 - t, by omega⟩
        have hk2 : 65537 - (t + 1) = k := by omega
        have hw' := hw (by omega)
        rw [hk2] at hw'
        rw [hk]
        exact xl_17 hn hP (cc_ne0 c i) (cc_orlt hc (by omega)) ht ha hx hp hpm (xl_51A hn hi hc hx (fun _ => hw') (fun q => by rw [hcl] at q; exact absurd q (by decide))))
      (fun t c i a hc hi ht ha hcl hw => fun _ => by
        obtain ⟨k, hk⟩ : ∃ k, 65537 - t = k + 1 := ⟨65536 - t, by omega⟩
        have hk2 : 65537 - (t + 1) = k := by omega
        have hw' := hw (by omega)
        rw [hk2] at hw'
        rw [hk]
        exact xl_17 hn hP (cc_ne0 c i) (cc_orlt hc (by omega)) ht ha hx hp hpm (xl_51A hn hi hc hx (fun q => by rw [hcl] at q; exact absurd q (by decide)) (fun _ => hw')))
      d 0 0 0 (0, sm) 0 (by omega) (by decide) (by omega) (Nat.le_refl 0) (Or.inl ⟨rfl, rfl⟩)
      (fun t' h1 h2 => fun h3 => by
        obtain ⟨k, hk⟩ : ∃ k, 65537 - t' = k + 1 := ⟨65536 - t', by omega⟩
        rw [hk]
        exact br_c (fun _ => h (by omega)) (fun _ => br_t rfl (h (by omega))))
    exact key (by omega)
