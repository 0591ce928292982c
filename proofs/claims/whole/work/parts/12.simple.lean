-- the methods that only read or only set
theorem i_vc_discardPending {k : Nat} {u : SX} {v : SY} (I : i_Rel k u v) (hk : k + 3 ≤ 1538) : wpX_discardPending (fun r u' => wpY_discardPending (fun r' v' => r' = r ∧ i_Rel (k + 3) u' v') v) u := by
  obtain ⟨P, S, n, T, D, it, co, op, st, ec, pm, cv, va, cn, sd, sm, hp, ⟨ae, ast, ax, ap, rfl, x1, x2, x3, x4⟩, ⟨yi, yc, yo, ys, yl, rfl, y1, y2, y3⟩, hr⟩ := I
  have hn : n ≤ 16 := hp.1.2.2.2.1
  have hs : ast n = nI T := by rw [x2 n (Nat.le_refl n), hp.2.1.2.1]
  unfold wpX_discardPending
  dsimp only
  refine xl_pendSize hn hs ⟨pk_in n 17 (by omega), nm_r (e' := nI T) (by rw [cc_cl n]; exact hs) ?_⟩
  exact ⟨rfl, P, S, n, T, 0, it, co, op, st, ec, pm, cv, va, cn, sd, sm, ir_disc hp,
    ⟨ae, ast, ax, ap, rfl, fun e he => x1 e (by omega), x2, x3, x4⟩, ⟨yi, yc, yo, ys, yl, rfl, fun e he => y1 e (by omega), y2, y3⟩, hr⟩
theorem i_vc_clearOptions {k : Nat} {u : SX} {v : SY} (I : i_Rel k u v) (hk : k + 3 ≤ 1538) : wpX_clearOptions (fun u' => wpY_clearOptions (fun v' => i_Rel (k + 3) u' v') v) u := by
  obtain ⟨P, S, n, T, D, it, co, op, st, ec, pm, cv, va, cn, sd, sm, hp, ⟨ae, ast, ax, ap, rfl, x1, x2, x3, x4⟩, ⟨yi, yc, yo, ys, yl, rfl, y1, y2, y3⟩, hr⟩ := I
  exact ⟨P, S, 0, 0, 0, it, co, op, st, ec, pm, -1, 0, cn, sd, sm, ir_clear ⟨hp.1.1, hp.1.2.1, hp.1.2.2.1⟩ hp.2.1.1,
    ⟨ae, ast, ax, ap, rfl, fun e he => absurd he (by omega), fun o ho => x2 o (by omega), fun o ho => absurd ho (by omega), fun o ho => absurd ho (by omega)⟩,
    ⟨yi, yc, yo, ys, yl, rfl, fun e he => absurd he (by omega), fun e he => absurd he (by omega), fun o ho => absurd ho (by omega)⟩, Or.inl ⟨rfl, rfl⟩⟩
theorem i_vc_primaryCount {k : Nat} {u : SX} {v : SY} (I : i_Rel k u v) (hk : k + 3 ≤ 1538) : wpX_primaryCount (fun r => wpY_primaryCount (fun r' => r' = r ∧ i_Rel (k + 3) u v) v) u := by
  have R : i_Rel (k + 3) u v := I
  obtain ⟨P, S, n, T, D, it, co, op, st, ec, pm, cv, va, cn, sd, sm, hp, ⟨ae, ast, ax, ap, rfl, x1, x2, x3, x4⟩, ⟨yi, yc, yo, ys, yl, rfl, y1, y2, y3⟩, hr⟩ := I
  exact ⟨rfl, R⟩
theorem i_vc_secondaryCount {k : Nat} {u : SX} {v : SY} (I : i_Rel k u v) (hk : k + 3 ≤ 1538) : wpX_secondaryCount (fun r => wpY_secondaryCount (fun r' => r' = r ∧ i_Rel (k + 3) u v) v) u := by
  have R : i_Rel (k + 3) u v := I
  obtain ⟨P, S, n, T, D, it, co, op, st, ec, pm, cv, va, cn, sd, sm, hp, ⟨ae, ast, ax, ap, rfl, x1, x2, x3, x4⟩, ⟨yi, yc, yo, ys, yl, rfl, y1, y2, y3⟩, hr⟩ := I
  exact ⟨rfl, R⟩
theorem i_vc_optionCount {k : Nat} {u : SX} {v : SY} (I : i_Rel k u v) (hk : k + 3 ≤ 1538) : wpX_optionCount (fun r => wpY_optionCount (fun r' => r' = r ∧ i_Rel (k + 3) u v) v) u := by
  have R : i_Rel (k + 3) u v := I
  obtain ⟨P, S, n, T, D, it, co, op, st, ec, pm, cv, va, cn, sd, sm, hp, ⟨ae, ast, ax, ap, rfl, x1, x2, x3, x4⟩, ⟨yi, yc, yo, ys, yl, rfl, y1, y2, y3⟩, hr⟩ := I
  exact ⟨rfl, R⟩
theorem i_vc_pendingSize {k : Nat} {u : SX} {v : SY} (I : i_Rel k u v) (hk : k + 3 ≤ 1538) : wpX_pendingSize (fun r => wpY_pendingSize (fun r' => r' = r ∧ i_Rel (k + 3) u v) v) u := by
  have R : i_Rel (k + 3) u v := I
  obtain ⟨P, S, n, T, D, it, co, op, st, ec, pm, cv, va, cn, sd, sm, hp, ⟨ae, ast, ax, ap, rfl, x1, x2, x3, x4⟩, ⟨yi, yc, yo, ys, yl, rfl, y1, y2, y3⟩, hr⟩ := I
  have hn : n ≤ 16 := hp.1.2.2.2.1
  have hs : ast n = nI T := by rw [x2 n (Nat.le_refl n), hp.2.1.2.1]
  exact xl_pendSize hn hs ⟨rfl, R⟩
theorem ir_osX {post : Int32 → Prop} {fp fs fu fv : Int32} {ae ast ax ap sm : Nat → Int32} {n o : Nat} {st : Nat → Nat} (hn : n ≤ 16) (ho : o < n) (h2 : ∀ o, o ≤ n → ast o = nI (st o)) (hm : st o ≤ st (o + 1))
    (h : post (nI (st (o + 1) - st o))) : wpX_optionSize post (fp, fs, fu, nI n, fv, ae, ast, ax, ap, sm) (nI o) := by
  refine br_f (nI_pos (by omega)) (br_t (nI_lt ho (by omega)) ⟨pk_in (o + 1) 17 (by omega) (nI_1 o), pk_in o 17 (by omega), ?_⟩)
  rw [nI_1, cc_cl (o + 1), cc_cl o, h2 o (by omega), h2 (o + 1) (by omega), pk_sub hm]
  exact h
theorem ir_osN {post : Int32 → Prop} {fp fs fu fv x : Int32} {ae ast ax ap sm : Nat → Int32} {n : Nat} (hx : x < 0 ∨ ¬ x < nI n) (h : post (-1)) :
    wpX_optionSize post (fp, fs, fu, nI n, fv, ae, ast, ax, ap, sm) x := by
  rcases hx with z | z
  · exact br_t z h
  · exact br_c (fun _ => h) (fun _ => br_f z h)
theorem i_vc_optionSize {k : Nat} {u : SX} {v : SY} (I : i_Rel k u v) (hk : k + 3 ≤ 1538) (v1 : Int32) : wpX_optionSize (fun r => wpY_optionSize (fun r' => r' = r ∧ i_Rel (k + 3) u v) v v1) u v1 := by
  have R : i_Rel (k + 3) u v := I
  obtain ⟨P, S, n, T, D, it, co, op, st, ec, pm, cv, va, cn, sd, sm, hp, ⟨ae, ast, ax, ap, rfl, x1, x2, x3, x4⟩, ⟨yi, yc, yo, ys, yl, rfl, y1, y2, y3⟩, hr⟩ := I
  have hn : n ≤ 16 := hp.1.2.2.2.1
  rcases pk_ix v1 (show n < 2 ^ 31 by omega) with h | h | ⟨o, ho, rfl⟩
  · exact ir_osN (Or.inl h) (br_t h ⟨rfl, R⟩)
  · have g := ir_ge (by omega) h
    exact ir_osN (Or.inr g.2) (br_f g.1 (br_f g.2 ⟨rfl, R⟩))
  · exact ir_osX hn ho x2 (hp.2.1.2.2.1 o ho) (br_f (nI_pos (by omega)) (br_t (nI_lt ho (by omega)) ⟨pk_in o 16 (by omega), by rw [cc_cl o]; exact (y3 o ho).2, R⟩))
theorem i_vc_optionEntry {k : Nat} {u : SX} {v : SY} (I : i_Rel k u v) (hk : k + 3 ≤ 1538) (v1 : Int32) (v2 : Int32) : wpX_optionEntry (fun r => wpY_optionEntry (fun r' => r' = r ∧ i_Rel (k + 3) u v) v v1 v2) u v1 v2 := by
  have R : i_Rel (k + 3) u v := I
  obtain ⟨P, S, n, T, D, it, co, op, st, ec, pm, cv, va, cn, sd, sm, hp, ⟨ae, ast, ax, ap, rfl, x1, x2, x3, x4⟩, ⟨yi, yc, yo, ys, yl, rfl, y1, y2, y3⟩, hr⟩ := I
  have hn : n ≤ 16 := hp.1.2.2.2.1
  have hTD : T + D ≤ 64 := hp.1.2.2.2.2
  unfold wpX_optionEntry
  dsimp only
  rcases pk_ix v1 (show n < 2 ^ 31 by omega) with h | h | ⟨o, ho, rfl⟩
  · refine br_c (fun _ => br_t h ⟨rfl, R⟩) (fun z => ir_osN (Or.inl h) (br_f (ir_m1 z).1 (br_t h ⟨rfl, R⟩)))
  · have g := ir_ge (by omega) h
    refine br_c (fun _ => br_f g.1 (br_f g.2 ⟨rfl, R⟩)) (fun z => ir_osN (Or.inr g.2) (br_f (ir_m1 z).1 (br_f g.1 (br_f g.2 ⟨rfl, R⟩))))
  · have hm := hp.2.1.2.2.1 o ho
    have hle := hp.2.1.2.2.2 (o + 1) (by omega)
    have b1 : ¬ nI o < 0 := nI_pos (by omega)
    have b2 : nI o < nI n := nI_lt ho (by omega)
    have b3 : vp_in (nI o) 16 := pk_in o 16 (by omega)
    have b4 : yl (nI o).toNatClampNeg = nI (st (o + 1) - st o) := by rw [cc_cl o]; exact (y3 o ho).2
    rcases pk_ix v2 (show st (o + 1) - st o < 2 ^ 31 by omega) with z | z | ⟨j, hj, rfl⟩
    · exact br_t z (br_f b1 (br_t b2 (br_t z ⟨rfl, R⟩)))
    · have g := ir_ge (by omega) z
      exact br_f g.1 (ir_osX hn ho x2 hm (br_f g.2 (br_f b1 (br_t b2 (br_f g.1 ⟨b3, br_f (by rw [b4]; exact g.2) ⟨rfl, R⟩⟩)))))
    · have c1 : ¬ nI j < 0 := nI_pos (by omega)
      have c2 : nI j < nI (st (o + 1) - st o) := nI_lt hj (by omega)
      have c3 : ast (nI o).toNatClampNeg + nI j = nI (st o + j) := by rw [cc_cl o, x2 o (by omega), nI_add]
      have c4 : ys (nI o).toNatClampNeg + nI j = nI (st o + j) := by rw [cc_cl o, (y3 o ho).1, nI_add]
      have c5 : vp_in (nI (st o + j)) 64 := pk_in (st o + j) 64 (by omega)
      refine br_f c1 (ir_osX hn ho x2 hm (br_t c2 ⟨pk_in o 17 (by omega), ?_⟩))
      rw [c3]
      refine ⟨c5, br_f b1 (br_t b2 (br_f c1 ⟨b3, ?_⟩))⟩
      rw [b4]
      refine br_t c2 ⟨b3, nm_r c4 ⟨c5, c5, ?_⟩⟩
      rw [cc_cl (st o + j), (y1 (st o + j) (by omega)).1, (y1 (st o + j) (by omega)).2, x1 (st o + j) (by omega), cc_mk]
      exact ⟨rfl, R⟩
theorem i_vc_isCover {k : Nat} {u : SX} {v : SY} (I : i_Rel k u v) (hk : k + 3 ≤ 1538) (v1 : Int32) : wpX_isCover (fun r => wpY_isCover (fun r' => r' = r ∧ i_Rel (k + 3) u v) v v1) u v1 := by
  have R : i_Rel (k + 3) u v := I
  obtain ⟨P, S, n, T, D, it, co, op, st, ec, pm, cv, va, cn, sd, sm, hp, ⟨ae, ast, ax, ap, rfl, x1, x2, x3, x4⟩, ⟨yi, yc, yo, ys, yl, rfl, y1, y2, y3⟩, hr⟩ := I
  have hn : n ≤ 16 := hp.1.2.2.2.1
  have hP : P ≤ 12 := hp.1.2.1
  have hpm : ∀ o, o < n → pm o < 2 ^ P := fun o ho => (hp.2.2.2.2.2.2.2 o ho).1
  have H := ir_H hp y1 y2
  have C := ir_C hp
  by_cases z : ∃ m, m < 2 ^ n ∧ v1 = nI m
  · obtain ⟨m, hm, rfl⟩ := z
    by_cases m0 : m = 0
    · subst m0
      exact xl_isCover hn hP hm x3 x4 hpm (fun q => by rw [cx_0 hp.1.1] at q; exact absurd q (by decide)) (fun _ => br_t rfl ⟨rfl, R⟩)
    · exact xl_isCover hn hP hm x3 x4 hpm
        (fun q => yl_isCoverB H C hm m0 (fun _ => ⟨rfl, R⟩) (fun w => by rw [q] at w; exact absurd w (by decide)))
        (fun q => yl_isCoverB H C hm m0 (fun w => by rw [q] at w; exact absurd w (by decide)) (fun _ => ⟨rfl, R⟩))
  · exact xl_isCoverN hn z (br_c (fun _ => ⟨rfl, R⟩) (fun _ => br_f (fun w => z ((cc_in hn v1).mp w)) ⟨rfl, R⟩))
theorem i_vc_solve {k : Nat} {u : SX} {v : SY} (I : i_Rel k u v) (hk : k + 3 ≤ 1538) : wpX_solve (fun r u' => wpY_solve (fun r' v' => r' = r ∧ i_Rel (k + 3) u' v') v) u := by
  obtain ⟨P, S, n, T, D, it, co, op, st, ec, pm, cv, va, cn, sd, sm, hp, ⟨ae, ast, ax, ap, rfl, x1, x2, x3, x4⟩, ⟨yi, yc, yo, ys, yl, rfl, y1, y2, y3⟩, hr⟩ := I
  have hn : n ≤ 16 := hp.1.2.2.2.1
  have hP : P ≤ 12 := hp.1.2.1
  have hpm : ∀ o, o < n → pm o < 2 ^ P := fun o ho => (hp.2.2.2.2.2.2.2 o ho).1
  refine xl_solve hn hP x3 x4 hpm (fun hq => yl_solve (ir_H hp y1 y2) (ir_C hp) ?_)
  exact ⟨rfl, P, S, n, T, D, it, co, op, st, ec, pm, _, 1, _, _, _, hp, ⟨ae, ast, ax, ap, rfl, x1, x2, x3, x4⟩, ⟨yi, yc, yo, ys, yl, rfl, y1, y2, y3⟩, Or.inr ⟨rfl, _, hq, rfl, rfl, rfl⟩⟩
theorem i_vc_solutionCount {k : Nat} {u : SX} {v : SY} (I : i_Rel k u v) (hk : k + 3 ≤ 1538) : wpX_solutionCount (fun r => wpY_solutionCount (fun r' => r' = r ∧ i_Rel (k + 3) u v) v) u := by
  have R : i_Rel (k + 3) u v := I
  obtain ⟨P, S, n, T, D, it, co, op, st, ec, pm, cv, va, cn, sd, sm, hp, ⟨ae, ast, ax, ap, rfl, x1, x2, x3, x4⟩, ⟨yi, yc, yo, ys, yl, rfl, y1, y2, y3⟩, hr⟩ := I
  rcases hr with ⟨rfl, rfl⟩ | ⟨rfl, q, hq, rfl, rfl, rfl⟩
  · exact br_t rfl ⟨rfl, R⟩
  · exact br_f (by decide) ⟨rfl, R⟩
