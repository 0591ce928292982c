-- the class's search
theorem xl_has {post : Int32 → Prop} {m o : Nat} (hm : m < 65536) (ho : o < 16) (h1 : m.testBit o = true → post 1) (h0 : m.testBit o = false → post 0) :
    wpX_contains post () (nI m) (nI o) := by
  refine ⟨fun z => h0 ((nx_bit hm ho).mp z), fun z => h1 ?_⟩
  cases e : m.testBit o
  · exact absurd ((nx_bit hm ho).mpr e) z
  · rfl
theorem xl_hasClash {post : Int32 → Prop} {fp fs fu fv : Int32} {ae ast ax ap sm : Nat → Int32} {n m : Nat} {ec : Nat → Nat}
    (hn : n ≤ 16) (hm : m < 65536) (hx : ∀ o, o < n → ax o = nI (ec o))
    (h1 : cx_cl ec n m = true → post 1) (h0 : cx_cl ec n m = false → post 0) :
    wpX_hasClash post (fp, fs, fu, nI n, fv, ae, ast, ax, ap, sm) (nI m) :=
  pk_loop (σ := Unit) (fun f i _ => wX_hasClash_2 post (nI m) fp fs fu (nI n) fv ae ast ax ap sm f (nI i)) (fun i _ => cx_cl ec i m = false) n 0 () (by omega) rfl
    (fun f _ k => pk_le n n (fun _ => h0 k) (fun z => absurd z (by omega)))
    (fun f i _ hi k hw => pk_le n i (fun z => absurd z (by omega)) (fun _ => xl_has hm (by omega)
      (fun q => br_f (by decide) ⟨pk_in i 16 (by omega), by
        rw [cc_cl i, hx i hi, nx_and]
        exact pk_eq (ec i &&& m) 0 (fun w => nm_r (nI_1 i) (hw () (cx_cls k (fun _ => w)))) (fun w => h1 ((cx_cli ec m n).mpr ⟨i, hi, q, w⟩)) rfl rfl
          (Nat.lt_of_le_of_lt Nat.and_le_right (by omega)) (by omega)⟩)
      (fun q => br_t rfl (nm_r (nI_1 i) (hw () (cx_cls k (fun w => by rw [q] at w; exact absurd w (by decide))))))))
theorem xl_primIn {post : Int32 → Prop} {fp fs fu fv : Int32} {ae ast ax ap sm : Nat → Int32} {n m : Nat} {pm : Nat → Nat}
    (hn : n ≤ 16) (hm : m < 65536) (hx : ∀ o, o < n → ap o = nI (pm o)) (h : post (nI (cx_un pm n m))) :
    wpX_primariesIn post (fp, fs, fu, nI n, fv, ae, ast, ax, ap, sm) (nI m) :=
  pk_loop (σ := Unit) (fun f i _ => wX_primariesIn_4 post (nI m) fp fs fu (nI n) fv ae ast ax ap sm f (nI (cx_un pm i m)) (nI i)) (fun _ _ => True) n 0 () (by omega) trivial
    (fun f _ k => pk_le n n (fun _ => h) (fun z => absurd z (by omega)))
    (fun f i _ hi k hw => pk_le n i (fun z => absurd z (by omega)) (fun _ => xl_has hm (by omega)
      (fun q => br_f (by decide) ⟨pk_in i 16 (by omega), nm_r (e' := nI (cx_un pm (i + 1) m)) (by
        rw [cc_cl i, hx i hi, cc_or, show cx_un pm (i + 1) m = cx_un pm i m ||| pm i from if_pos q]) (nm_r (nI_1 i) (hw () trivial))⟩)
      (fun q => br_t rfl (nm_r (nI_1 i) (by
        have e : cx_un pm (i + 1) m = cx_un pm i m := if_neg (by rw [q]; decide)
        have := hw () trivial
        rw [e] at this
        exact this)))))
theorem xl_isCover {post : Int32 → Prop} {fs fu fv : Int32} {ae ast ax ap sm : Nat → Int32} {n P m : Nat} {ec pm : Nat → Nat}
    (hn : n ≤ 16) (hP : P ≤ 12) (hm : m < 2 ^ n) (hx : ∀ o, o < n → ax o = nI (ec o)) (hp : ∀ o, o < n → ap o = nI (pm o)) (hpm : ∀ o, o < n → pm o < 2 ^ P)
    (h1 : cx_cov ec pm n P m = true → post 1) (h0 : cx_cov ec pm n P m = false → post 0) :
    wpX_isCover post (nI P, fs, fu, nI n, fv, ae, ast, ax, ap, sm) (nI m) := by
  have hm2 : m < 65536 := Nat.lt_of_lt_of_le hm (cc_p16 hn)
  have hP2 : 2 ^ P ≤ 65536 := cc_p16 (by omega)
  have hu := cx_unlt (pm := pm) (n := n) (P := P) m hpm
  refine br_t ((cc_in hn _).mpr ⟨m, hm, rfl⟩) ?_
  refine xl_hasClash hn hm2 hx (fun q => br_f (by decide) (h0 (cx_cov0 q))) (fun q => br_t rfl (xl_primIn hn hm2 hp ?_))
  exact pk_eq (cx_un pm n m) (2 ^ P - 1) (fun w => h1 (cx_covt q w)) (fun w => h0 (cx_covf w)) rfl
    (by rw [cc_sh P (by omega)]; exact pk_sub (Nat.two_pow_pos P)) (by omega) (by omega)
theorem xl_isCoverN {post : Int32 → Prop} {fp fs fu fv : Int32} {ae ast ax ap sm : Nat → Int32} {n : Nat} {x : Int32}
    (hn : n ≤ 16) (hx : ¬ ∃ m, m < 2 ^ n ∧ x = nI m) (h0 : post 0) :
    wpX_isCover post (fp, fs, fu, nI n, fv, ae, ast, ax, ap, sm) x :=
  br_f (fun z => hx ((cc_in hn x).mp z)) h0
theorem xl_last {post : Int32 → Prop} {m : Nat} (hm : m < 65536) (h1 : ∀ i, i < 16 → m.testBit i = true → (∀ o, i < o → m.testBit o = false) → post (nI i)) (h0 : m = 0 → post (-1)) :
    wpX_lastOption post () (nI m) := by
  have h := pk_loopD (σ := Unit) (fun f i _ => wX_lastOption_3 post (nI m) f (nI i + (-1))) (fun i _ => i ≤ 16 ∧ ∀ o, i ≤ o → m.testBit o = false)
    (fun f _ k => br_t (by decide +kernel) (h0 (Nat.eq_of_testBit_eq (fun o => by rw [Nat.zero_testBit]; exact k.2 o (Nat.zero_le o)))))
    (fun f i _ k hw => by
      show wX_lastOption_3 post (nI m) (f + 1) (nI (i + 1) + (-1))
      rw [pk_m1]
      have k1 := k.1
      exact br_f (nI_pos (by omega)) (xl_has hm (by omega) (fun q => br_f (by decide) (h1 i (by omega) q (fun o ho => k.2 o ho)))
        (fun q => br_t rfl (nm_e (hw () ⟨by omega, fun o ho => by
          by_cases w : o = i
          · rw [w]; exact q
          · exact k.2 o (by omega)⟩)))))
    16 () ⟨Nat.le_refl 16, fun o ho => Nat.testBit_lt_two_pow (Nat.lt_of_lt_of_le hm (cc_pw (i := 16) ho))⟩
  have e : nI 16 + (-1) = 15 := by decide +kernel
  have h2 : wX_lastOption_3 post (nI m) 17 (nI 16 + (-1)) := h
  rw [e] at h2
  exact ⟨17, h2⟩
theorem xl_lastT {post : Int32 → Prop} {c i : Nat} (hi : i < 16) (hc : c < 2 ^ i) (h : post (nI i)) : wpX_lastOption post () (nI (c ||| 2 ^ i)) := by
  refine xl_last (Nat.lt_of_lt_of_le (cc_orlt hc hi) (Nat.le_refl _)) (fun j hj q1 q2 => ?_) (fun z => absurd z (cc_ne0 c i))
  rcases Nat.lt_trichotomy i j with z | z | z
  · rw [cc_above hc z] at q1
    exact absurd q1 (by decide)
  · rw [← z]; exact h
  · have := q2 i z
    rw [cc_top] at this
    exact absurd this (by decide)
theorem xl_moved {post : Int32 → Prop} {c i : Nat} (hi : i < 16) (hc : c < 2 ^ i) (h : post (nI (c ||| 2 ^ (i + 1)))) : wpX_movedOn post () (nI (c ||| 2 ^ i)) (nI i) := by
  show post ((nI (c ||| 2 ^ i) &&& (((1 : Int32) <<< (nI i &&& 31)) ^^^ (-1))) ||| ((1 : Int32) <<< ((nI i + 1) &&& 31)))
  rw [nI_1, cc_sh i (by omega), cc_sh (i + 1) (by omega), cc_del hi hc, cc_or]
  exact h
theorem xl_nwgA {post : Int32 → Prop} {fp fs fu fv : Int32} {ae ast ax ap sm : Nat → Int32} {n c i : Nat} (hn : n ≤ 16) (hi : i + 1 < n) (hc : c < 2 ^ i)
    (h : post (nI (c ||| 2 ^ (i + 1)))) : wpX_nextWithoutGrowing post (fp, fs, fu, nI n, fv, ae, ast, ax, ap, sm) (nI (c ||| 2 ^ i)) := by
  unfold wpX_nextWithoutGrowing
  dsimp only
  refine xl_lastT (by omega) hc ?_
  exact pk_le n (i + 1) (fun z => absurd z (by omega)) (fun _ => xl_moved (by omega) hc h) rfl (nI_1 i)
theorem xl_nwgB {post : Int32 → Prop} {fp fs fu fv : Int32} {ae ast ax ap sm : Nat → Int32} {n c i z : Nat} (hn : n ≤ 16) (hi : i + 1 = n) (hc : c < 2 ^ i) (hz : cw_N c z)
    (h : post (nI z)) : wpX_nextWithoutGrowing post (fp, fs, fu, nI n, fv, ae, ast, ax, ap, sm) (nI (c ||| 2 ^ i)) := by
  unfold wpX_nextWithoutGrowing
  dsimp only
  refine xl_lastT (by omega) hc ?_
  refine pk_le n (i + 1) (fun _ => ?_) (fun y => absurd y (by omega)) rfl (nI_1 i)
  refine nm_r (e' := nI c) (by rw [cc_sh i (by omega), cc_del (by omega) hc]) ?_
  rcases hz with ⟨rfl, rfl⟩ | ⟨e, j, he, rfl, rfl⟩
  · exact xl_last (by omega) (fun j _ q => by rw [Nat.zero_testBit] at q; exact absurd q (by decide)) (fun _ => br_t rfl h)
  · have hj : j < i := by
      rcases Nat.lt_or_ge j i with y | y
      · exact y
      · have := Nat.testBit_lt_two_pow (Nat.lt_of_lt_of_le hc (cc_pw y))
        rw [cc_top] at this
        exact absurd this (by decide)
    exact xl_lastT (by omega) he (br_f (cc_m1ne j (by omega)) (xl_moved (by omega) he h))
theorem xl_nlA {post : Int32 → Prop} {fp fs fu fv : Int32} {ae ast ax ap sm : Nat → Int32} {n c i : Nat} (hn : n ≤ 16) (hi : i + 1 < n) (hc : c < 2 ^ i)
    (h : post (nI ((c ||| 2 ^ i) ||| 2 ^ (i + 1)))) : wpX_nextList post (fp, fs, fu, nI n, fv, ae, ast, ax, ap, sm) (nI (c ||| 2 ^ i)) := by
  unfold wpX_nextList
  dsimp only
  refine xl_lastT (by omega) hc ?_
  refine pk_le n (i + 1) (fun z => absurd z (by omega)) (fun _ => ?_) rfl (nI_1 i)
  rw [nI_1, cc_sh (i + 1) (by omega), cc_or]
  exact h
theorem xl_nlB {post : Int32 → Prop} {fp fs fu fv : Int32} {ae ast ax ap sm : Nat → Int32} {n c i z : Nat} (hn : n ≤ 16) (hi : i + 1 = n) (hc : c < 2 ^ i) (hz : cw_N c z)
    (h : post (nI z)) : wpX_nextList post (fp, fs, fu, nI n, fv, ae, ast, ax, ap, sm) (nI (c ||| 2 ^ i)) := by
  unfold wpX_nextList
  dsimp only
  refine xl_lastT (by omega) hc ?_
  exact pk_le n (i + 1) (fun _ => xl_nwgB hn hi hc hz h) (fun y => absurd y (by omega)) rfl (nI_1 i)
