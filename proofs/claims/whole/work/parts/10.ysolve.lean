-- the reference's solve
def yl_m (q : Nat) : Nat := if q < 64 then q else 64
theorem yl_mle (q : Nat) : yl_m q ≤ 64 := by unfold yl_m; split <;> omega
def yl_C (n T P S : Nat) (it co op : Nat → Nat) (cov : Nat → Bool) : Prop := ∀ m, m < 2 ^ n → m ≠ 0 → ((∀ t, t < P + S → cv_G it co op T P m t) ↔ cov m = true)
theorem yl_isCoverB {post : Int32 → Prop} {gd gv gc gr : Int32} {yi yc yo ys yl sm : Nat → Int32} {n T P S m : Nat} {it co op : Nat → Nat} {cov : Nat → Bool}
    (H : yl_H n T P S it co op yi yc yo) (C : yl_C n T P S it co op cov) (hm : m < 2 ^ n) (hm0 : m ≠ 0)
    (h1 : cov m = true → post 1) (h0 : cov m = false → post 0) :
    wpY_isCover post (nI P, nI S, nI T, gd, nI n, gv, gc, gr, yi, yc, yo, ys, yl, sm) (nI m) :=
  yl_isCover H hm hm0 (fun q => h1 ((C m hm hm0).mp q)) (fun q => h0 (cc_bf (fun z => q ((C m hm hm0).mpr z))))
theorem yl_103 {post : Int32 → SY → Prop} {J : Int32 → Int32 → Int32 → Int32 → Int32 → (Nat → Int32) → (Nat → Int32) → (Nat → Int32) → (Nat → Int32) → (Nat → Int32) → (Nat → Int32) → Prop}
    {x1 x2 x4 gd gv : Int32} {yi yc yo ys yl : Nat → Int32} {n T P S m s : Nat} {it co op : Nat → Nat} {cov : Nat → Bool} {a : Nat × (Nat → Int32)}
    (H : yl_H n T P S it co op yi yc yo) (C : yl_C n T P S it co op cov) (hm : m < 2 ^ n) (hm0 : m ≠ 0) (ha : a.1 < 65536)
    (h : J (nI m) x4 (nI (s + 1)) (nI (cw_put cov m a).1) (nI (yl_m (cw_put cov m a).1)) yi yc yo ys yl (cw_put cov m a).2) :
    wY_solve_103 post J x1 x2 (nI m) x4 (nI s) (nI P) (nI S) (nI T) gd (nI n) gv (nI a.1) (nI (yl_m a.1)) yi yc yo ys yl a.2 := by
  have h64 := yl_mle a.1
  unfold wY_solve_103
  refine yl_isCoverB H C hm hm0 (fun q => br_f (by decide) ?_) (fun q => br_t rfl (nm_r (nI_1 s) ?_))
  · have e : cw_put cov m a = (a.1 + 1, if a.1 < 64 then upd a.2 a.1 (nI m) else a.2) := if_pos q
    rw [e] at h
    dsimp only at h
    refine pk_le 64 (yl_m a.1) (fun z => ?_) (fun z => ⟨pk_in (yl_m a.1) 64 z, ?_⟩)
    · have hb : ¬ a.1 < 64 := by
        intro y
        unfold yl_m at z
        rw [if_pos y] at z
        omega
      have e2 : yl_m (a.1 + 1) = yl_m a.1 := by
        unfold yl_m
        rw [if_neg hb, if_neg (by omega)]
      rw [if_neg hb, e2] at h
      exact nm_r (nI_1 a.1) (nm_r (nI_1 s) h)
    · have hb : a.1 < 64 := by
        rcases Nat.lt_or_ge a.1 64 with y | y
        · exact y
        · unfold yl_m at z
          rw [if_neg (by omega)] at z
          omega
      have e1 : yl_m a.1 = a.1 := if_pos hb
      have e2 : yl_m (a.1 + 1) = a.1 + 1 := by
        unfold yl_m
        by_cases y : a.1 + 1 < 64
        · rw [if_pos y]
        · rw [if_neg y]; omega
      rw [if_pos hb, e2] at h
      rw [e1]
      exact nm_r (e' := upd a.2 a.1 (nI m)) (by rw [cc_cl a.1]) (nm_r (nI_1 a.1) (nm_r (nI_1 a.1) (nm_r (nI_1 s) h)))
  · rw [cw_put0 a q] at h
    exact h
theorem yl_solve {post : Int32 → SY → Prop} {gd gv gc gr : Int32} {yi yc yo ys yl sm : Nat → Int32} {n T P S : Nat} {it co op : Nat → Nat} {cov : Nat → Bool}
    (H : yl_H n T P S it co op yi yc yo) (C : yl_C n T P S it co op cov)
    (h : post (nI (cw_walk cov n 0 0 (0, sm)).1) (nI P, nI S, nI T, gd, nI n, 1, nI (cw_walk cov n 0 0 (0, sm)).1, nI (yl_m (cw_walk cov n 0 0 (0, sm)).1), yi, yc, yo, ys, yl, (cw_walk cov n 0 0 (0, sm)).2)) :
    wpY_solve post (nI P, nI S, nI T, gd, nI n, gv, gc, gr, yi, yc, yo, ys, yl, sm) := by
  have hn := H.1
  have hp16 := cc_p16 hn
  refine nm_r (e' := nI (2 ^ n)) (cc_sh n (by omega)) ?_
  cases n with
  | zero => exact ⟨1, br_t (by decide) h⟩
  | succ d =>
    have hpos := Nat.two_pow_pos (d + 1)
    have hpe : 2 ^ (d + 1) = 2 ^ d + 2 ^ d := by rw [Nat.pow_succ]; omega
    have hpos2 := Nat.two_pow_pos d
    have key := cw_Y (n := d + 1) cov (fun s m i a => s ≤ 2 ^ (d + 1) → wY_solve_27 post (nI (d + 1)) (nI (2 ^ (d + 1))) (nI P) (nI S) (nI T) gd (nI (d + 1)) gv (2 ^ (d + 1) + 1 - s) (nI m) (nI i) (nI s) (nI a.1) (nI (yl_m a.1)) yi yc yo ys yl a.2)
      (fun s c i a hc hi hs ha hw => fun _ => by
        obtain ⟨k, hk⟩ : ∃ k, 2 ^ (d + 1) + 1 - s = k + 1 := ⟨2 ^ (d + 1) - s, by omega⟩
        have hk2 : 2 ^ (d + 1) + 1 - (s + 1) = k := by omega
        have hw' := hw (by omega)
        rw [hk2] at hw'
        rw [hk]
        refine pk_le (2 ^ (d + 1)) s (fun z => absurd z (by omega)) (fun _ => ?_) rfl rfl (by omega) (by omega)
        refine pk_le (d + 1) (i + 1) (fun z => absurd z (by omega)) (fun _ => ?_) rfl (nI_1 i)
        refine nm_r (nI_1 i) (nm_r (e' := nI ((c ||| 2 ^ i) ||| 2 ^ (i + 1))) (by rw [cc_sh (i + 1) (by omega), cc_or]) ?_)
        exact yl_103 H C (cc_orlt (cc_orlt hc (Nat.lt_succ_self i)) hi) (cc_ne0 _ _) (by omega) hw')
      (fun s c j a hc hj hs ha hw => fun _ => by
        obtain ⟨k, hk⟩ : ∃ k, 2 ^ (d + 1) + 1 - s = k + 1 := ⟨2 ^ (d + 1) - s, by omega⟩
        have hk2 : 2 ^ (d + 1) + 1 - (s + 1) = k := by omega
        have hw' := hw (by omega)
        rw [hk2] at hw'
        rw [hk]
        show wY_solve_27 post (nI (d + 1)) (nI (2 ^ (d + 1))) (nI P) (nI S) (nI T) gd (nI (d + 1)) gv (k + 1) (nI ((c ||| 2 ^ j) ||| 2 ^ d)) (nI d) (nI s) (nI a.1) (nI (yl_m a.1)) yi yc yo ys yl a.2
        have hcj : c ||| 2 ^ j < 2 ^ d := cc_orlt hc (by omega)
        refine pk_le (2 ^ (d + 1)) s (fun z => absurd z (by omega)) (fun _ => ?_) rfl rfl (by omega) (by omega)
        refine pk_le (d + 1) (d + 1) (fun _ => ?_) (fun z => absurd z (by omega)) rfl (nI_1 d)
        refine nm_r (e' := nI (c ||| 2 ^ j)) (by rw [cc_sh d (by omega), cc_del (by omega) hcj]) ?_
        refine yl_lastT (by omega) hc (br_t (nI_pos' (by omega)) ?_)
        refine nm_r (e' := nI c) (by rw [cc_sh j (by omega), cc_del (by omega) hc]) (nm_r (nI_1 j) (nm_r (e' := nI (c ||| 2 ^ (j + 1))) (by rw [cc_sh (j + 1) (by omega), cc_or]) ?_))
        exact yl_103 H C (cc_orlt (cc_lift hc) hj) (cc_ne0 _ _) (by omega) hw')
      d 0 0 2 (0, sm) (by omega) (by decide) (by omega) (show 0 + 1 < 2 by decide)
      (fun _ => fun _ => by
        obtain ⟨k, hk⟩ : ∃ k, 2 ^ (d + 1) + 1 - (2 + 2 ^ (d + 1) - 2) = k + 1 := ⟨0, by omega⟩
        rw [hk]
        exact pk_le (2 ^ (d + 1)) (2 + 2 ^ (d + 1) - 2) (fun _ => h) (fun z => absurd z (by omega)) rfl rfl (by omega) (by omega))
    have key2 := key (by omega)
    have hk2 : 2 ^ (d + 1) + 1 - 2 = 2 ^ (d + 1) - 1 := by omega
    rw [hk2] at key2
    refine ⟨2 ^ (d + 1) - 1 + 1, ?_⟩
    refine pk_le (2 ^ (d + 1)) 1 (fun z => absurd z (by omega)) (fun _ => ?_) rfl rfl (by omega) (by omega)
    refine pk_le (d + 1) 0 (fun z => absurd z (by omega)) (fun _ => ?_) rfl cc_m1
    refine nm_r cc_m1 (nm_r (e' := nI (0 ||| 2 ^ 0)) (by decide +kernel) ?_)
    exact yl_103 (a := (0, sm)) (s := 1) H C (cc_orlt (by decide) (by omega)) (cc_ne0 _ _) (show 0 < 65536 by decide) key2
