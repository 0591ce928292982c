-- the law's check behind a solve: sizes and options of the stored covers
theorem ll_size {post : Int32 → Prop} {fp fs fu fc z : Int32} {ae ast ax ap sm : Nat → Int32} {q k m : Nat} (hz : z = nI k) (hk : k < q) (h64 : k < 64) (hq : q < 65536) (hm : sm k = nI m) (hm2 : m < 65536)
    (h : post (nI (cv_n m.testBit 16))) : wpX_solutionSize post (fp, fs, fu, fc, nI q, ae, ast, ax, ap, sm) z := by
  subst hz
  exact br_f (nI_pos (by omega)) (br_f (nI_ge hk (by omega)) (br_t (nI_lt (b := 64) h64 (by decide)) (sr_X24 h64 (by rw [hm, cs_cnt hm2 (Nat.le_refl 16)]; exact h))))
theorem ll_opt {post : Int32 → Prop} {fp fs fu fc z : Int32} {ae ast ax ap sm : Nat → Int32} {q k m j : Nat} (hz : z = nI k) (hk : k < q) (h64 : k < 64) (hq : q < 65536) (hm : sm k = nI m) (hm2 : m < 65536)
    (hj : j < cv_n m.testBit 16) (h : ∀ o, o < 16 → m.testBit o = true → cv_n m.testBit o = j → post (nI o)) : wpX_solutionOption post (fp, fs, fu, fc, nI q, ae, ast, ax, ap, sm) z (nI j) := by
  subst hz
  have h16 := cv_nle m.testBit 16
  unfold wpX_solutionOption
  dsimp only
  refine br_f (nI_pos (by omega)) (ll_size rfl hk h64 hq hm hm2 (br_t (nI_lt hj (by omega)) (sr_X20 h64 (by rw [hm, cs_cnt hm2 (Nat.le_refl 16)]; exact hj) (fun o o1 o2 o3 => h o o1 ?_ ?_))))
  · rw [hm, cs_bit hm2 o o1] at o2
    exact o2
  · rw [hm, cs_cnt hm2 (by omega)] at o3
    exact o3
theorem ll_none {post : Int32 → Prop} {fp fs fu fc : Int32} {ae ast ax ap sm : Nat → Int32} {q e : Nat} (he : e < 65536) (hq : q < 65536) (hqe : q ≤ e ∨ 64 ≤ e) (h : post (-1)) :
    wpX_solutionSize post (fp, fs, fu, fc, nI q, ae, ast, ax, ap, sm) (nI e) :=
  br_f (nI_pos (by omega)) (pk_le q e (fun _ => h) (fun z => br_f (nI_nlt (b := 64) (by omega) (by omega)) h) rfl rfl (by omega) (by omega))
theorem ll_468 {post : Int32 → Prop} {L : Nat} {xs : Nat → Int32} {J44 : Int32 → Int32 → Int32 → Int32 → Int32 → Int32 → Int32 → Int32 → Int32 → (Nat → Int32) → (Nat → Int32) → (Nat → Int32) → (Nat → Int32) → (Nat → Int32) → Prop} {J263 : Int32 → Prop}
    {x1 x2 x6 x7 x9 x10 x12 x19 fp fs fu fc fv : Int32} {kc ks k a b : Nat} {ae ast ax ap sm : Nat → Int32} (ha : a ≤ 16) (hb : b ≤ 16) (hc : x19 = -1 ∨ (x19 = 0 ∧ a < b)) (hJ : J263 (nI (k + 1))) :
    wL_law_468 post L xs J44 J263 x1 x2 x6 x7 x9 x10 x12 (nI k) (nI a) (nI b) x19 kc ks fp fs fu fc fv ae ast ax ap sm := by
  rcases hc with rfl | ⟨rfl, hab⟩
  · exact br_t (by decide) (br_f (by decide) (nm_r (nI_1 k) hJ))
  · exact br_t (by decide) (br_t rfl (br_t (nI_lt hab (by omega)) (nm_r (nI_1 k) hJ)))
theorem ll_398 {post : Int32 → Prop} {L : Nat} {xs : Nat → Int32} {J44 : Int32 → Int32 → Int32 → Int32 → Int32 → Int32 → Int32 → Int32 → Int32 → (Nat → Int32) → (Nat → Int32) → (Nat → Int32) → (Nat → Int32) → (Nat → Int32) → Prop} {J263 : Int32 → Prop}
    {x1 x2 x6 x7 x9 x10 x12 fp fs fu fc : Int32} {kc ks q k x y : Nat} {ae ast ax ap sm : Nat → Int32} (hk : k + 1 < q) (h64 : k + 1 < 64) (hq : q < 65536) (hx : sm k = nI x) (hy : sm (k + 1) = nI y) (hx2 : x < 2 ^ 16) (hy2 : y < 2 ^ 16)
    (hlt : cl_lt x y) (hJ : J263 (nI (k + 1))) :
    ∃ f, wL_law_398 post L xs J44 J263 x1 x2 x6 x7 x9 x10 x12 (nI k) (nI (cv_n x.testBit 16)) (nI (cv_n y.testBit 16)) kc ks fp fs fu fc (nI q) ae ast ax ap sm f 0 0 := by
  have a16 := cv_nle x.testBit 16
  have b16 := cv_nle y.testBit 16
  obtain ⟨w, w1, w2, w3, w4⟩ := cq_cmp hx2 hy2 hlt
  have step : ∀ (f j : Nat), j < w → wL_law_398 post L xs J44 J263 x1 x2 x6 x7 x9 x10 x12 (nI k) (nI (cv_n x.testBit 16)) (nI (cv_n y.testBit 16)) kc ks fp fs fu fc (nI q) ae ast ax ap sm f (nI (j + 1)) 0 →
      wL_law_398 post L xs J44 J263 x1 x2 x6 x7 x9 x10 x12 (nI k) (nI (cv_n x.testBit 16)) (nI (cv_n y.testBit 16)) kc ks fp fs fu fc (nI q) ae ast ax ap sm (f + 1) (nI j) 0 := by
    intro f j hj hw
    refine pk_le (cv_n x.testBit 16) j (fun z => absurd z (by omega)) (fun _ => ?_) rfl rfl (by omega) (by omega)
    refine pk_le (cv_n y.testBit 16) j (fun z => absurd z (by omega)) (fun _ => br_t rfl ?_) rfl rfl (by omega) (by omega)
    refine ll_opt rfl (by omega) (by omega) hq hx hx2 (by omega) (fun o o1 o2 o3 => ?_)
    refine ll_opt (nI_1 k) hk h64 hq hy hy2 (by omega) (fun p p1 p2 p3 => ?_)
    have at2 := w3 j o hj ⟨o2, o3⟩
    have e : o = p := cv_uniq at2.1 p2 (at2.2.trans p3.symm)
    subst e
    exact pk_le o o (fun _ => pk_le o o (fun _ => nm_r (nI_1 j) hw) (fun z => absurd z (by omega))) (fun z => absurd z (by omega))
  rcases w4 with ⟨w5, i, hi, ho⟩ | w5
  · refine pk_loop (σ := Int32) (fun f j s => wL_law_398 post L xs J44 J263 x1 x2 x6 x7 x9 x10 x12 (nI k) (nI (cv_n x.testBit 16)) (nI (cv_n y.testBit 16)) kc ks fp fs fu fc (nI q) ae ast ax ap sm f (nI j) s)
      (fun j s => (j ≤ w → s = 0) ∧ (j = w + 1 → s = -1)) (w + 1) 0 0 (by omega) ⟨fun _ => rfl, fun z => absurd z (by omega)⟩ ?_ ?_
    · intro f s hs
      have e := hs.2 rfl
      subst e
      have t := ll_468 (post := post) (L := L) (xs := xs) (J44 := J44) (J263 := J263) (x1 := x1) (x2 := x2) (x6 := x6) (x7 := x7) (x9 := x9) (x10 := x10) (x12 := x12) (fp := fp) (fs := fs) (fu := fu) (fc := fc) (fv := nI q) (kc := kc) (ks := ks) (k := k) (ae := ae) (ast := ast) (ax := ax) (ap := ap) (sm := sm) a16 b16 (Or.inl rfl) hJ
      exact br_c (fun _ => t) (fun _ => br_c (fun _ => t) (fun _ => br_f (by decide) t))
    · intro f j s hj hs hw
      have e := hs.1 (by omega)
      subst e
      by_cases jw : j < w
      · exact step f j jw (hw 0 ⟨fun _ => rfl, fun z => absurd z (by omega)⟩)
      · have ej : j = w := by omega
        subst ej
        refine pk_le (cv_n x.testBit 16) j (fun z => absurd z (by omega)) (fun _ => ?_) rfl rfl (by omega) (by omega)
        refine pk_le (cv_n y.testBit 16) j (fun z => absurd z (by omega)) (fun _ => br_t rfl ?_) rfl rfl (by omega) (by omega)
        refine ll_opt rfl (by omega) (by omega) hq hx hx2 w5 (fun o o1 o2 o3 => ?_)
        refine ll_opt (nI_1 k) hk h64 hq hy hy2 w2 (fun p p1 p2 p3 => ?_)
        have e : o = i := cv_uniq o2 hi.1 (o3.trans hi.2.symm)
        have g := ho p ⟨p2, p3⟩
        exact pk_le p o (fun z => absurd z (by omega)) (fun _ => nm_r (nI_1 j) (hw (-1) ⟨fun z => absurd z (by omega), fun _ => rfl⟩))
  · refine pk_loop (σ := Int32) (fun f j s => wL_law_398 post L xs J44 J263 x1 x2 x6 x7 x9 x10 x12 (nI k) (nI (cv_n x.testBit 16)) (nI (cv_n y.testBit 16)) kc ks fp fs fu fc (nI q) ae ast ax ap sm f (nI j) s)
      (fun j s => s = 0) w 0 0 (by omega) rfl ?_ ?_
    · intro f s hs
      subst hs
      exact pk_le (cv_n x.testBit 16) w (fun _ => ll_468 a16 b16 (Or.inr ⟨rfl, by omega⟩) hJ) (fun z => absurd z (by omega)) rfl rfl (by omega) (by omega)
    · intro f j s hj hs hw
      subst hs
      exact step f j hj (hw 0 rfl)
