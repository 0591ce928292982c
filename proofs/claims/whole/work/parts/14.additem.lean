-- addItem: the shared tests, then the two searches for the item
theorem ad_cases (P S : Nat) (hP : P ≤ 12) (hS : S ≤ 8) (x y : Int32) :
    (∀ A B C K : Prop, A → ((x < 0 → A) ∧ (¬ x < 0 → (((x < (nI P + nI S) → (((y < 0 → B) ∧ (¬ y < 0 → (((y ≤ 15 → (((nI P ≤ x → K) ∧ (¬ nI P ≤ x → (((y = 0 → K) ∧ (¬ y = 0 → C))))))) ∧ (¬ y ≤ 15 → B))))))) ∧ (¬ x < (nI P + nI S) → A)))))) ∨
    (∀ A B C K : Prop, B → ((x < 0 → A) ∧ (¬ x < 0 → (((x < (nI P + nI S) → (((y < 0 → B) ∧ (¬ y < 0 → (((y ≤ 15 → (((nI P ≤ x → K) ∧ (¬ nI P ≤ x → (((y = 0 → K) ∧ (¬ y = 0 → C))))))) ∧ (¬ y ≤ 15 → B))))))) ∧ (¬ x < (nI P + nI S) → A)))))) ∨
    (∀ A B C K : Prop, C → ((x < 0 → A) ∧ (¬ x < 0 → (((x < (nI P + nI S) → (((y < 0 → B) ∧ (¬ y < 0 → (((y ≤ 15 → (((nI P ≤ x → K) ∧ (¬ nI P ≤ x → (((y = 0 → K) ∧ (¬ y = 0 → C))))))) ∧ (¬ y ≤ 15 → B))))))) ∧ (¬ x < (nI P + nI S) → A)))))) ∨
    (∃ t c, x = nI t ∧ y = nI c ∧ t < P + S ∧ c < 16 ∧ (t < P → c = 0) ∧ ∀ A B C K : Prop, K → ((x < 0 → A) ∧ (¬ x < 0 → (((x < (nI P + nI S) → (((y < 0 → B) ∧ (¬ y < 0 → (((y ≤ 15 → (((nI P ≤ x → K) ∧ (¬ nI P ≤ x → (((y = 0 → K) ∧ (¬ y = 0 → C))))))) ∧ (¬ y ≤ 15 → B))))))) ∧ (¬ x < (nI P + nI S) → A)))))) := by
  rw [nI_add]
  rcases pk_ix x (show P + S < 2 ^ 31 by omega) with h | h | ⟨t, ht, rfl⟩
  · exact Or.inl (fun A B C K a => br_t h a)
  · have g := ir_ge (by omega) h
    exact Or.inl (fun A B C K a => br_f g.1 (br_f g.2 a))
  · have b1 : ¬ nI t < 0 := nI_pos (by omega)
    have b2 : nI t < nI (P + S) := nI_lt ht (by omega)
    rcases pk_ix y (show 16 < 2 ^ 31 by omega) with h | h | ⟨c, hc, rfl⟩
    · exact Or.inr (Or.inl (fun A B C K b => br_f b1 (br_t b2 (br_t h b))))
    · have g := ir_ge (by omega) h
      have g2 : ¬ y ≤ 15 := by
        intro z
        obtain ⟨j, hj, rfl⟩ := nI_of g.1
        rw [nI_leI (by omega) hj] at h
        have z2 : nI j ≤ nI 15 := z
        rw [nI_leI hj (by omega)] at z2
        omega
      exact Or.inr (Or.inl (fun A B C K b => br_f b1 (br_t b2 (br_f g.1 (br_f g2 b)))))
    · have c1 : ¬ nI c < 0 := nI_pos (by omega)
      have c2 : nI c ≤ 15 := nI_le (b := 15) (by omega) (by decide)
      by_cases hp : P ≤ t
      · exact Or.inr (Or.inr (Or.inr ⟨t, c, rfl, rfl, ht, hc, fun z => absurd z (by omega), fun A B C K q => br_f b1 (br_t b2 (br_f c1 (br_t c2 (br_t (nI_le hp (by omega)) q))))⟩))
      · have d1 : ¬ nI P ≤ nI t := nI_ge (by omega) (by omega)
        by_cases h0 : c = 0
        · subst h0
          exact Or.inr (Or.inr (Or.inr ⟨t, 0, rfl, rfl, ht, hc, fun _ => rfl, fun A B C K q => br_f b1 (br_t b2 (br_f c1 (br_t c2 (br_f d1 (br_t rfl q)))))⟩))
        · exact Or.inr (Or.inr (Or.inl (fun A B C K q => br_f b1 (br_t b2 (br_f c1 (br_t c2 (br_f d1 (br_f (nI_ne0 (by omega) (by omega)) q))))))))
theorem ad_Y49 {post : Int32 → SY → Prop} {gp gs gn gv gc gr : Int32} {yi yc yo ys yl sm : Nat → Int32} {T D t c : Nat} {it : Nat → Nat}
    (hT : T + D ≤ 64) (hE : ∀ e, e < T + D → yi e = nI (it e)) (hb : ∀ e, e < T + D → it e < 65536) (ht : t < 65536)
    (hd : ∀ a, T ≤ a → a < T + D → it a = t → post (-4) (gp, gs, nI T, nI D, gn, gv, gc, gr, yi, yc, yo, ys, yl, sm))
    (hf : (∀ a, T ≤ a → a < T + D → it a ≠ t) → 64 ≤ T + D → post (-5) (gp, gs, nI T, nI D, gn, gv, gc, gr, yi, yc, yo, ys, yl, sm))
    (hk : (∀ a, T ≤ a → a < T + D → it a ≠ t) → T + D < 64 → post 0 (gp, gs, nI T, nI (D + 1), gn, gv, gc, gr, upd yi (T + D) (nI t), upd yc (T + D) (nI c), yo, ys, yl, sm)) :
    ∃ f, wY_addItem_49 post (nI t) (nI c) gp gs (nI T) (nI D) gn gv gc gr yi yc yo ys yl sm f 0 :=
  pk_loop (σ := Unit) (fun f i _ => wY_addItem_49 post (nI t) (nI c) gp gs (nI T) (nI D) gn gv gc gr yi yc yo ys yl sm f (nI i)) (fun i _ => ∀ a, T ≤ a → a < T + i → it a ≠ t) D 0 () (by omega) (fun a h1 h2 => absurd h2 (by omega))
    (fun f _ k => pk_le D D (fun _ => pk_lt (T + D) 64 (fun z => ⟨pk_in (T + D) 64 z (nI_add T D), nm_r (e' := upd yi (T + D) (nI t)) (by rw [nI_add, cc_cl (T + D)])
        ⟨pk_in (T + D) 64 z (nI_add T D), nm_r (e' := upd yc (T + D) (nI c)) (by rw [nI_add, cc_cl (T + D)]) (nm_r (nI_1 D) (hk k z))⟩⟩) (fun z => hf k z) (nI_add T D)) (fun z => absurd z (by omega)))
    (fun f i _ hi k hw => pk_le D i (fun z => absurd z (by omega)) (fun _ => ⟨pk_in (T + i) 64 (by omega) (nI_add T i), by
      rw [nI_add, cc_cl (T + i), hE (T + i) (by omega)]
      exact pk_eq (it (T + i)) t (fun z => hd (T + i) (by omega) (by omega) z) (fun z => nm_r (nI_1 i) (hw () (fun a h1 h2 => by
        by_cases y : a = T + i
        · rw [y]; exact z
        · exact k a h1 (by omega)))) rfl rfl (by have := hb (T + i) (by omega); omega) (by omega)⟩))
theorem i_vc_addItem {k : Nat} {u : SX} {v : SY} (I : i_Rel k u v) (hk : k + 3 ≤ 1538) (v1 : Int32) (v2 : Int32) : wpX_addItem (fun r u' => wpY_addItem (fun r' v' => r' = r ∧ i_Rel (k + 3) u' v') v v1 v2) u v1 v2 := by
  have R : i_Rel (k + 3) u v := I
  obtain ⟨P, S, n, T, D, it, co, op, st, ec, pm, cv, va, cn, sd, sm, hp, ⟨ae, ast, ax, ap, rfl, x1, x2, x3, x4⟩, ⟨yi, yc, yo, ys, yl, rfl, y1, y2, y3⟩, hr⟩ := I
  have hn : n ≤ 16 := hp.1.2.2.2.1
  have hT : T + D ≤ 64 := hp.1.2.2.2.2
  have hs : ast n = nI T := by rw [x2 n (Nat.le_refl n), hp.2.1.2.1]
  have hb := ir_b hp
  rcases ad_cases P S hp.1.2.1 hp.1.2.2.1 v1 v2 with g | g | g | ⟨t, c, rfl, rfl, ht, hc, hpc, g⟩
  · exact g _ _ _ _ (g _ _ _ _ ⟨rfl, R⟩)
  · exact g _ _ _ _ (g _ _ _ _ ⟨rfl, R⟩)
  · exact g _ _ _ _ (g _ _ _ _ ⟨rfl, R⟩)
  · have hP := hp.1.2.1
    have hS := hp.1.2.2.1
    refine g _ _ _ _ ?_
    unfold wX_addItem_47
    refine xl_isPending hn hT hs x1 hb (by omega) (fun a h1 h2 h3 => br_f (by decide) (g _ _ _ _ ?_)) (fun no => br_t rfl ?_)
    · exact ad_Y49 (it := it) hT (fun e he => (y1 e he).1) (fun e he => (hb e he).1) (by omega) (fun _ _ _ _ => ⟨rfl, R⟩) (fun q => absurd h3 (q a h1 h2)) (fun q => absurd h3 (q a h1 h2))
    · refine pk_lt (T + D) 64 (fun z => ⟨pk_in (T + D) 64 z, nm_r (e' := upd ae (T + D) (nI (t * 16 + c))) (by rw [cc_cl (T + D), cc_mk]) (nm_r (nI_1 (T + D)) (g _ _ _ _ ?_))⟩) (fun z => g _ _ _ _ ?_)
      · refine ad_Y49 (it := it) hT (fun e he => (y1 e he).1) (fun e he => (hb e he).1) (by omega) (fun a h1 h2 h3 => absurd h3 (no a h1 h2)) (fun _ q => absurd q (by omega)) (fun _ _ => ?_)
        refine ⟨rfl, P, S, n, T, D + 1, ir_u it (T + D) t, ir_u co (T + D) c, op, st, ec, pm, cv, va, cn, sd, sm, ir_add hp z ht hc hpc no,
          ⟨_, ast, ax, ap, rfl, fun e he => ?_, x2, x3, x4⟩, ⟨_, _, yo, ys, yl, rfl, fun e he => ?_, y2, y3⟩, hr⟩
        · by_cases w : e = T + D
          · rw [w, pk_us, ir_us, ir_us]
          · rw [pk_un w, ir_un w, ir_un w]
            exact x1 e (by omega)
        · by_cases w : e = T + D
          · rw [w, pk_us, pk_us, ir_us, ir_us]
            exact ⟨rfl, rfl⟩
          · rw [pk_un w, pk_un w, ir_un w, ir_un w]
            exact y1 e (by omega)
      · exact ad_Y49 (it := it) hT (fun e he => (y1 e he).1) (fun e he => (hb e he).1) (by omega) (fun a h1 h2 h3 => absurd h3 (no a h1 h2)) (fun _ _ => ⟨rfl, R⟩) (fun _ q => absurd q (by omega))
