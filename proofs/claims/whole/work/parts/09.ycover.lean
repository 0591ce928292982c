-- the reference: isCover, highest
def yl_b : Bool → Int32
  | true => 1
  | false => 0
def yl_H (n T P S : Nat) (it co op : Nat → Nat) (yi yc yo : Nat → Int32) : Prop :=
  n ≤ 16 ∧ T ≤ 64 ∧ P ≤ 12 ∧ S ≤ 8 ∧ (∀ e, e < T → yi e = nI (it e) ∧ yc e = nI (co e) ∧ yo e = nI (op e) ∧ op e < 16 ∧ it e < 65536 ∧ co e < 16)
theorem yl_108 {post J19 : Int32 → Prop} {J43 : Int32 → Int32 → Int32 → Int32 → Prop} {x1 x2 x4 x5 gp gs gt gd gn gv gc gr : Int32} {yi yc yo ys yl sm : Nat → Int32} {c e w : Nat}
    (he : e < 64) (hw : w < 16) (hc : yc e = nI w)
    (h1 : w = 0 → J43 (nI (c + 1)) x4 0 (nI (e + 1))) (h0 : w ≠ 0 → J43 (nI (c + 1)) x4 x5 (nI (e + 1))) :
    wY_isCover_108 post J19 J43 x1 x2 (nI c) x4 x5 (nI e) gp gs gt gd gn gv gc gr yi yc yo ys yl sm :=
  ⟨pk_in e 64 he, pk_eq w 0 (fun z => nm_r (nI_1 c) (nm_r (nI_1 e) (h1 z))) (fun z => nm_r (nI_1 c) (nm_r (nI_1 e) (h0 z))) (by rw [cc_cl e]; exact hc) rfl⟩
theorem yl_43 {post J : Int32 → Prop} {gd gn gv gc gr : Int32} {yi yc yo ys yl sm : Nat → Int32} {n T P S m t : Nat} {it co op : Nat → Nat}
    (H : yl_H n T P S it co op yi yc yo) (hm : m < 65536) (ht : t < 65536)
    (hJ : cv_G it co op T P m t → J (nI (t + 1))) (h0 : ¬ cv_G it co op T P m t → post 0) :
    ∃ f, wY_isCover_43 post J (nI m) (nI t) (nI P) (nI S) (nI T) gd gn gv gc gr yi yc yo ys yl sm f 0 0 1 0 := by
  obtain ⟨hn, hT, hP, hS, hE⟩ := H
  refine pk_loop (σ := Nat × Nat × Bool) (fun f e s => wY_isCover_43 post J (nI m) (nI t) (nI P) (nI S) (nI T) gd gn gv gc gr yi yc yo ys yl sm f (nI s.1) (nI s.2.1) (yl_b s.2.2) (nI e))
    (fun e s => cv_I (cv_f it op m t) co e s.1 s.2.1 s.2.2 ∧ s.2.1 < 16) T 0 (0, 0, true) (by omega) ⟨cv_I0 _ _ _, by decide⟩ ?_ ?_
  · rintro f ⟨c, w, s⟩ ⟨k, kw⟩
    dsimp only at k kw
    have hc : c ≤ T := by rw [k.1]; exact cv_nle _ _
    refine pk_le T T (fun _ => ?_) (fun z => absurd z (by omega))
    refine pk_le P t (fun z => ?_) (fun z => ?_) rfl rfl (by omega) (by omega)
    · refine pk_lt t P (fun y => absurd y (by omega)) (fun _ => ?_) rfl rfl (by omega) (by omega)
      have g : cv_G it co op T P m t ↔ (2 ≤ c → s = true) := by
        rw [cv_two k]
        exact ⟨fun g => g.2 z, fun g => ⟨fun y => absurd y (by omega), fun _ => g⟩⟩
      refine pk_lt c 2 (fun y => nm_r (nI_1 t) (hJ (g.mpr (fun y2 => absurd y2 (by omega))))) (fun y => ?_) rfl rfl (by omega) (by omega)
      cases s with
      | true => exact br_f (show ¬ (1 : Int32) = 0 by decide) (nm_r (nI_1 t) (hJ (g.mpr (fun _ => rfl))))
      | false => exact br_t rfl (h0 (fun q => absurd (g.mp q y) (by decide)))
    · have g : cv_G it co op T P m t ↔ c = 1 := by
        rw [cv_one k]
        exact ⟨fun g => g.1 z, fun g => ⟨fun _ => g, fun y => absurd y (by omega)⟩⟩
      exact pk_eq c 1 (fun y => pk_lt t P (fun _ => nm_r (nI_1 t) (hJ (g.mpr y))) (fun y2 => absurd y2 (by omega)) rfl rfl (by omega) (by omega)) (fun y => h0 (fun q => y (g.mp q))) rfl rfl (by omega) (by omega)
  · rintro f e ⟨c, w, s⟩ he ⟨k, kw⟩ hw
    dsimp only at k kw
    have hc : c ≤ e := by rw [k.1]; exact cv_nle _ _
    obtain ⟨e1, e2, e3, e4, e5, e6⟩ := hE e he
    refine pk_le T e (fun z => absurd z (by omega)) (fun _ => ⟨pk_in e 64 (by omega), ?_⟩)
    rw [cc_cl e]
    refine pk_eq (it e) t (fun z => ⟨pk_in e 64 (by omega), ?_⟩) (fun z => nm_r (nI_1 e) (hw (c, w, s) ⟨cv_In k (fun q => z (cv_ff.mp q).1), kw⟩)) e1 rfl (by omega) (by omega)
    rw [e3, e2]
    refine br_c (fun y => ?_) (fun y => ?_)
    · have y2 := (nx_bit hm e4).mp y
      exact nm_r (nI_1 e) (hw (c, w, s) ⟨cv_In k (fun q => by rw [(cv_ff.mp q).2] at y2; exact absurd y2 (by decide)), kw⟩)
    · have y2 : m.testBit (op e) = true := by
        cases q : m.testBit (op e)
        · exact absurd ((nx_bit hm e4).mpr q) y
        · rfl
      have mem : cv_f it op m t e = true := cv_ff.mpr ⟨z, y2⟩
      refine pk_eq c 0 (fun v => ⟨pk_in e 64 (by omega), nm_e ?_⟩) (fun v => ⟨pk_in e 64 (by omega), ?_⟩) rfl rfl (by omega) (by omega)
      · subst v
        exact yl_108 (by omega) e6 e2 (fun g => hw (1, co e, false) ⟨cv_I10 k mem g, e6⟩) (fun g => hw (1, co e, s) ⟨cv_I1 k mem g, e6⟩)
      · refine pk_eq (co e) w (fun g => ?_) (fun g => ?_) rfl rfl (by omega) (by omega)
        · exact yl_108 (by omega) e6 e2 (fun g2 => hw (c + 1, w, false) ⟨cv_If k v mem (Or.inr g2), kw⟩) (fun g2 => hw (c + 1, w, s) ⟨cv_It k v mem g g2, kw⟩)
        · exact yl_108 (by omega) e6 e2 (fun g2 => hw (c + 1, w, false) ⟨cv_If k v mem (Or.inl g), kw⟩) (fun g2 => hw (c + 1, w, false) ⟨cv_If k v mem (Or.inl g), kw⟩)
theorem yl_isCover {post : Int32 → Prop} {gd gv gc gr : Int32} {yi yc yo ys yl sm : Nat → Int32} {n T P S m : Nat} {it co op : Nat → Nat}
    (H : yl_H n T P S it co op yi yc yo) (hm : m < 2 ^ n) (hm0 : m ≠ 0)
    (h1 : (∀ t, t < P + S → cv_G it co op T P m t) → post 1) (h0 : ¬ (∀ t, t < P + S → cv_G it co op T P m t) → post 0) :
    wpY_isCover post (nI P, nI S, nI T, gd, nI n, gv, gc, gr, yi, yc, yo, ys, yl, sm) (nI m) := by
  have hn := H.1
  have hP := H.2.2.1
  have hS := H.2.2.2.1
  have hm2 : m < 65536 := Nat.lt_of_lt_of_le hm (cc_p16 hn)
  refine br_f (nI_ne0 (by omega) (by omega)) (br_t ((cc_in hn _).mpr ⟨m, hm, rfl⟩) ?_)
  exact pk_loop (σ := Unit) (fun f i _ => wY_isCover_19 post (nI m) (nI P) (nI S) (nI T) gd (nI n) gv gc gr yi yc yo ys yl sm f (nI i)) (fun i _ => ∀ t, t < i → cv_G it co op T P m t) (P + S) 0 () (by omega) (fun t ht => absurd ht (by omega))
    (fun f _ k => pk_le (P + S) (P + S) (fun _ => h1 k) (fun z => absurd z (by omega)) (nI_add P S))
    (fun f i _ hi k hw => pk_le (P + S) i (fun z => absurd z (by omega)) (fun _ => yl_43 H hm2 (by omega)
      (fun g => hw () (fun t ht => by
        by_cases z : t = i
        · rw [z]; exact g
        · exact k t (by omega)))
      (fun g => h0 (fun q => g (q i hi)))) (nI_add P S))
theorem yl_bit {m o : Nat} {A B : Prop} (hm : m < 65536) (ho : o < 16) (h0 : m.testBit o = false → A) (h1 : m.testBit o = true → B) :
    ((((nI m).toUInt32 >>> ((nI o).toUInt32 &&& Int32.toUInt32 31)).toInt32 &&& 1) = 0 → A) ∧ (¬ (((nI m).toUInt32 >>> ((nI o).toUInt32 &&& Int32.toUInt32 31)).toInt32 &&& 1) = 0 → B) := by
  refine ⟨fun z => h0 ((nx_bit hm ho).mp z), fun z => h1 ?_⟩
  cases e : m.testBit o
  · exact absurd ((nx_bit hm ho).mpr e) z
  · rfl
theorem yl_last {post : Int32 → Prop} {gp gs gt gd gn gv gc gr : Int32} {yi yc yo ys yl sm : Nat → Int32} {m : Nat} (hm : m < 65536) (h1 : ∀ i, i < 16 → m.testBit i = true → (∀ o, i < o → m.testBit o = false) → post (nI i)) (h0 : m = 0 → post (-1)) :
    wpY_highest post (gp, gs, gt, gd, gn, gv, gc, gr, yi, yc, yo, ys, yl, sm) (nI m) := by
  have h := pk_loopD (σ := Unit) (fun f i _ => wY_highest_3 post (nI m) gp gs gt gd gn gv gc gr yi yc yo ys yl sm f (nI i + (-1))) (fun i _ => i ≤ 16 ∧ ∀ o, i ≤ o → m.testBit o = false)
    (fun f _ k => br_t (by decide +kernel) (h0 (Nat.eq_of_testBit_eq (fun o => by rw [Nat.zero_testBit]; exact k.2 o (Nat.zero_le o)))))
    (fun f i _ k hw => by
      show wY_highest_3 post (nI m) gp gs gt gd gn gv gc gr yi yc yo ys yl sm (f + 1) (nI (i + 1) + (-1))
      rw [pk_m1]
      have k1 := k.1
      exact br_f (nI_pos (by omega)) (yl_bit hm (by omega) (fun q => nm_e (hw () ⟨by omega, fun o ho => by
          by_cases w : o = i
          · rw [w]; exact q
          · exact k.2 o (by omega)⟩)) (fun q => h1 i (by omega) q (fun o ho => k.2 o ho))))
    16 () ⟨Nat.le_refl 16, fun o ho => Nat.testBit_lt_two_pow (Nat.lt_of_lt_of_le hm (cc_pw (i := 16) ho))⟩
  have e : nI 16 + (-1) = 15 := by decide +kernel
  have h2 : wY_highest_3 post (nI m) gp gs gt gd gn gv gc gr yi yc yo ys yl sm 17 (nI 16 + (-1)) := h
  rw [e] at h2
  exact ⟨17, h2⟩
theorem yl_lastT {post : Int32 → Prop} {gp gs gt gd gn gv gc gr : Int32} {yi yc yo ys yl sm : Nat → Int32} {c i : Nat} (hi : i < 16) (hc : c < 2 ^ i) (h : post (nI i)) :
    wpY_highest post (gp, gs, gt, gd, gn, gv, gc, gr, yi, yc, yo, ys, yl, sm) (nI (c ||| 2 ^ i)) := by
  refine yl_last (Nat.lt_of_lt_of_le (cc_orlt hc hi) (Nat.le_refl _)) (fun j hj q1 q2 => ?_) (fun z => absurd z (cc_ne0 c i))
  rcases Nat.lt_trichotomy i j with z | z | z
  · rw [cc_above hc z] at q1
    exact absurd q1 (by decide)
  · rw [← z]; exact h
  · have := q2 i z
    rw [cc_top] at this
    exact absurd this (by decide)
