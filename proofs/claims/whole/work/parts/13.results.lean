-- the stored covers, read
def sr_x (x : Int32) (o : Nat) : Bool := decide (¬ ((x.toUInt32 >>> ((nI o).toUInt32 &&& Int32.toUInt32 31)).toInt32 &&& 1) = 0)
theorem sr_has {post : Int32 → Prop} {x : Int32} {o : Nat} (h1 : sr_x x o = true → post 1) (h0 : sr_x x o = false → post 0) : wpX_contains post x (nI o) :=
  ⟨fun z => h0 (decide_eq_false (fun y => y z)), fun z => h1 (decide_eq_true z)⟩
theorem sr_bit {A B : Prop} {x : Int32} {o : Nat} (h0 : sr_x x o = false → A) (h1 : sr_x x o = true → B) :
    (((x.toUInt32 >>> ((nI o).toUInt32 &&& Int32.toUInt32 31)).toInt32 &&& 1) = 0 → A) ∧ (¬ ((x.toUInt32 >>> ((nI o).toUInt32 &&& Int32.toUInt32 31)).toInt32 &&& 1) = 0 → B) :=
  ⟨fun z => h0 (decide_eq_false (fun y => y z)), fun z => h1 (decide_eq_true z)⟩
theorem sr_X24 {post : Int32 → Prop} {fp fs fu fc fv : Int32} {ae ast ax ap sm : Nat → Int32} {k : Nat} (hk : k < 64) (h : post (nI (cv_n (sr_x (sm k)) 16))) :
    ∃ f, wX_solutionSize_24 post (nI k) fp fs fu fc fv ae ast ax ap sm f 0 0 :=
  pk_loop (σ := Unit) (fun f i _ => wX_solutionSize_24 post (nI k) fp fs fu fc fv ae ast ax ap sm f (nI (cv_n (sr_x (sm k)) i)) (nI i)) (fun _ _ => True) 16 0 () (by omega) trivial
    (fun f _ _ => pk_le 16 16 (fun _ => h) (fun z => absurd z (by omega)))
    (fun f i _ hi _ hw => pk_le 16 i (fun z => absurd z (by omega)) (fun _ => ⟨pk_in k 64 hk, by
      rw [cc_cl k]
      exact sr_has
        (fun q => br_f (by decide) (nm_r (nI_1 _) (nm_r (nI_1 i) (by
          have := hw () trivial
          rw [cv_st q] at this
          exact this))))
        (fun q => br_t rfl (nm_r (nI_1 i) (by
          have := hw () trivial
          rw [cv_sf (by rw [q]; decide)] at this
          exact this)))⟩))
theorem sr_Y25 {post : Int32 → Prop} {gp gs gt gd gn gv gc gr : Int32} {yi yc yo ys yl sm : Nat → Int32} {k : Nat} (hk : k < 64) (h : post (nI (cv_n (sr_x (sm k)) 16))) :
    ∃ f, wY_solutionSize_25 post (nI k) gp gs gt gd gn gv gc gr yi yc yo ys yl sm f 0 0 :=
  pk_loop (σ := Unit) (fun f i _ => wY_solutionSize_25 post (nI k) gp gs gt gd gn gv gc gr yi yc yo ys yl sm f (nI (cv_n (sr_x (sm k)) i)) (nI i)) (fun _ _ => True) 16 0 () (by omega) trivial
    (fun f _ _ => pk_le 16 16 (fun _ => h) (fun z => absurd z (by omega)))
    (fun f i _ hi _ hw => pk_le 16 i (fun z => absurd z (by omega)) (fun _ => ⟨pk_in k 64 hk, by
      rw [cc_cl k]
      exact sr_bit
        (fun q => nm_r (nI_1 i) (by
          have := hw () trivial
          rw [cv_sf (by rw [q]; decide)] at this
          exact this))
        (fun q => nm_r (nI_1 _) (nm_r (nI_1 i) (by
          have := hw () trivial
          rw [cv_st q] at this
          exact this)))⟩))
theorem sr_X20 {post : Int32 → Prop} {fp fs fu fc fv : Int32} {ae ast ax ap sm : Nat → Int32} {k j : Nat} (hk : k < 64) (hj : j < cv_n (sr_x (sm k)) 16)
    (h : ∀ o, o < 16 → sr_x (sm k) o = true → cv_n (sr_x (sm k)) o = j → post (nI o)) :
    ∃ f, wX_solutionOption_20 post (nI k) (nI j) fp fs fu fc fv ae ast ax ap sm f 0 0 :=
  have h16 := cv_nle (sr_x (sm k)) 16
  pk_loop (σ := Unit) (fun f i _ => wX_solutionOption_20 post (nI k) (nI j) fp fs fu fc fv ae ast ax ap sm f (nI (cv_n (sr_x (sm k)) i)) (nI i)) (fun i _ => cv_n (sr_x (sm k)) i ≤ j) 16 0 () (by omega) (Nat.zero_le j)
    (fun f _ q => absurd q (by omega))
    (fun f i _ hi k1 hw => pk_le 16 i (fun z => absurd z (by omega)) (fun _ => ⟨pk_in k 64 hk, by
      rw [cc_cl k]
      exact sr_has
        (fun q => br_f (by decide) (pk_eq (cv_n (sr_x (sm k)) i) j (fun e => h i hi q e) (fun e => nm_r (nI_1 _) (nm_r (nI_1 i) (by
          have := hw () (by rw [cv_st q]; omega)
          rw [cv_st q] at this
          exact this))) rfl rfl (by omega) (by omega)))
        (fun q => br_t rfl (nm_r (nI_1 i) (by
          have e : cv_n (sr_x (sm k)) (i + 1) = cv_n (sr_x (sm k)) i := cv_sf (by rw [q]; decide)
          have := hw () (by rw [e]; exact k1)
          rw [e] at this
          exact this)))⟩))
theorem sr_Y28 {post : Int32 → Prop} {gp gs gt gd gn gv gc gr : Int32} {yi yc yo ys yl sm : Nat → Int32} {k j : Nat} (hk : k < 64) (hj : j < cv_n (sr_x (sm k)) 16)
    (h : ∀ o, o < 16 → sr_x (sm k) o = true → cv_n (sr_x (sm k)) o = j → post (nI o)) :
    ∃ f, wY_solutionOption_28 post (nI k) (nI j) gp gs gt gd gn gv gc gr yi yc yo ys yl sm f 0 0 :=
  have h16 := cv_nle (sr_x (sm k)) 16
  pk_loop (σ := Unit) (fun f i _ => wY_solutionOption_28 post (nI k) (nI j) gp gs gt gd gn gv gc gr yi yc yo ys yl sm f (nI (cv_n (sr_x (sm k)) i)) (nI i)) (fun i _ => cv_n (sr_x (sm k)) i ≤ j) 16 0 () (by omega) (Nat.zero_le j)
    (fun f _ q => absurd q (by omega))
    (fun f i _ hi k1 hw => pk_le 16 i (fun z => absurd z (by omega)) (fun _ => ⟨pk_in k 64 hk, by
      rw [cc_cl k]
      exact sr_bit
        (fun q => nm_r (nI_1 i) (by
          have e : cv_n (sr_x (sm k)) (i + 1) = cv_n (sr_x (sm k)) i := cv_sf (by rw [q]; decide)
          have := hw () (by rw [e]; exact k1)
          rw [e] at this
          exact this))
        (fun q => pk_eq (cv_n (sr_x (sm k)) i) j (fun e => h i hi q e) (fun e => nm_r (nI_1 _) (nm_r (nI_1 i) (by
          have := hw () (by rw [cv_st q]; omega)
          rw [cv_st q] at this
          exact this))) rfl rfl (by omega) (by omega))⟩))
theorem sr_size {fp fs fu fc cv gp gs gt gd gn va cn sd : Int32} {ae ast ax ap yi yc yo ys yl sm : Nat → Int32} (hr : ir_R cv va cn sd) (x : Int32) :
    ∃ r : Int32, (∀ post : Int32 → Prop, post r → wpX_solutionSize post (fp, fs, fu, fc, cv, ae, ast, ax, ap, sm) x) ∧
      (∀ post : Int32 → Prop, post r → wpY_solutionSize post (gp, gs, gt, gd, gn, va, cn, sd, yi, yc, yo, ys, yl, sm) x) ∧
      (r = -1 ∨ ∃ k, x = nI k ∧ k < 64 ∧ r = nI (cv_n (sr_x (sm k)) 16)) := by
  rcases hr with ⟨rfl, rfl⟩ | ⟨rfl, q, hq, rfl, rfl, rfl⟩
  · exact ⟨-1, fun post h => br_c (fun _ => h) (fun z => br_t (ir_m1 z).2 h), fun post h => br_t rfl h, Or.inl rfl⟩
  · rcases pk_ix x (show q < 2 ^ 31 by omega) with z | z | ⟨j, hj, rfl⟩
    · exact ⟨-1, fun post h => br_t z h, fun post h => br_f (by decide) (br_t z h), Or.inl rfl⟩
    · have g := ir_ge (by omega) z
      refine ⟨-1, fun post h => br_f g.1 (br_t z h), fun post h => br_f (by decide) (br_f g.1 (br_f ?_ h)), Or.inl rfl⟩
      obtain ⟨j, hj, rfl⟩ := nI_of g.1
      rw [nI_leI (by omega) hj] at z
      have : yl_m q ≤ q := by unfold yl_m; split <;> omega
      exact nI_nlt (by omega) hj
    · have b1 : ¬ nI j < 0 := nI_pos (by omega)
      have b2 : ¬ nI q ≤ nI j := nI_ge hj (by omega)
      by_cases h64 : j < 64
      · have e : j < yl_m q := by unfold yl_m; split <;> omega
        have := yl_mle q
        exact ⟨_, fun post h => br_f b1 (br_f b2 (br_t (nI_lt (b := 64) h64 (by decide)) (sr_X24 h64 h))),
          fun post h => br_f (by decide) (br_f b1 (br_t (nI_lt e (by omega)) (sr_Y25 h64 h))), Or.inr ⟨j, rfl, h64, rfl⟩⟩
      · have := yl_mle q
        exact ⟨-1, fun post h => br_f b1 (br_f b2 (br_f (nI_nlt (b := 64) (by omega) (by omega)) h)),
          fun post h => br_f (by decide) (br_f b1 (br_f (nI_nlt (by omega) (by omega)) h)), Or.inl rfl⟩
theorem i_vc_solutionSize {k : Nat} {u : SX} {v : SY} (I : i_Rel k u v) (hk : k + 3 ≤ 1538) (v1 : Int32) : wpX_solutionSize (fun r => wpY_solutionSize (fun r' => r' = r ∧ i_Rel (k + 3) u v) v v1) u v1 := by
  have R : i_Rel (k + 3) u v := I
  obtain ⟨P, S, n, T, D, it, co, op, st, ec, pm, cv, va, cn, sd, sm, hp, ⟨ae, ast, ax, ap, rfl, x1, x2, x3, x4⟩, ⟨yi, yc, yo, ys, yl, rfl, y1, y2, y3⟩, hr⟩ := I
  obtain ⟨r, hX, hY, _⟩ := sr_size hr v1
  exact hX _ (hY _ ⟨rfl, R⟩)
theorem i_vc_solutionOption {k : Nat} {u : SX} {v : SY} (I : i_Rel k u v) (hk : k + 3 ≤ 1538) (v1 : Int32) (v2 : Int32) : wpX_solutionOption (fun r => wpY_solutionOption (fun r' => r' = r ∧ i_Rel (k + 3) u v) v v1 v2) u v1 v2 := by
  have R : i_Rel (k + 3) u v := I
  obtain ⟨P, S, n, T, D, it, co, op, st, ec, pm, cv, va, cn, sd, sm, hp, ⟨ae, ast, ax, ap, rfl, x1, x2, x3, x4⟩, ⟨yi, yc, yo, ys, yl, rfl, y1, y2, y3⟩, hr⟩ := I
  obtain ⟨r, hX, hY, hv⟩ := sr_size hr v1
  unfold wpX_solutionOption wpY_solutionOption
  dsimp only
  rcases hv with rfl | ⟨q, rfl, hq, rfl⟩
  · exact br_c (fun _ => hY _ (br_t rfl ⟨rfl, R⟩)) (fun z => hX _ (br_f (ir_m1 z).1 (hY _ (br_t rfl ⟨rfl, R⟩))))
  · have h16 := cv_nle (sr_x (sm q)) 16
    have ne := cc_m1ne (cv_n (sr_x (sm q)) 16) (by omega)
    rcases pk_ix v2 (show cv_n (sr_x (sm q)) 16 < 2 ^ 31 by omega) with z | z | ⟨j, hj, rfl⟩
    · exact br_t z (hY _ (br_f ne (br_t z ⟨rfl, R⟩)))
    · have g := ir_ge (by omega) z
      exact br_f g.1 (hX _ (br_f g.2 (hY _ (br_f ne (br_f g.1 (br_f g.2 ⟨rfl, R⟩))))))
    · have b1 : ¬ nI j < 0 := nI_pos (by omega)
      have b2 := nI_lt hj (show cv_n (sr_x (sm q)) 16 < 2 ^ 31 by omega)
      refine br_f b1 (hX _ (br_t b2 (sr_X20 hq hj (fun o o1 o2 o3 => hY _ (br_f ne (br_f b1 (br_t b2 (sr_Y28 hq hj (fun p p1 p2 p3 => ?_)))))))))
      exact ⟨by rw [cv_uniq p2 o2 (p3.trans o3.symm)], R⟩
