-- endOption
def ee_b : Bool → Int32
  | true => 1
  | false => 0
theorem ee_Y74 {post : Int32 → SY → Prop} {gp gs gn gv gc gr : Int32} {yi yc yo ys yl sm : Nat → Int32} {T D n : Nat}
    (hT : T + D ≤ 64) (hn : n < 16)
    (h : ∀ yo', (∀ e, e < T → yo' e = yo e) → (∀ e, T ≤ e → e < T + D → yo' e = nI n) → post (nI n) (gp, gs, nI (T + D), 0, nI (n + 1), 0, gc, gr, yi, yc, yo', upd ys n (nI T), upd yl n (nI D), sm)) :
    ∃ f, wY_endOption_74 post (nI n) gp gs (nI T) (nI D) gn gv gc gr f 0 yi yc yo ys yl sm :=
  pk_loop (fun f i s => wY_endOption_74 post (nI n) gp gs (nI T) (nI D) gn gv gc gr f (nI i) yi yc s ys yl sm) (fun i s => (∀ e, e < T → s e = yo e) ∧ (∀ e, T ≤ e → e < T + i → s e = nI n)) D 0 yo (by omega) ⟨fun _ _ => rfl, fun e h1 h2 => absurd h2 (by omega)⟩
    (fun f s k => pk_le D D (fun _ => ⟨pk_in n 16 hn, nm_r (e' := upd ys n (nI T)) (by rw [cc_cl n]) ⟨pk_in n 16 hn, nm_r (e' := upd yl n (nI D)) (by rw [cc_cl n]) (nm_r (nI_add T D) (nm_r (nI_1 n) (h s k.1 k.2)))⟩⟩) (fun z => absurd z (by omega)))
    (fun f i s hi k hw => pk_le D i (fun z => absurd z (by omega)) (fun _ => ⟨pk_in (T + i) 64 (by omega) (nI_add T i), nm_r (e' := upd s (T + i) (nI n)) (by rw [nI_add, cc_cl (T + i)]) (nm_r (nI_1 i) (hw _ ⟨fun e he => by
        rw [pk_un (by omega)]
        exact k.1 e he, fun e h1 h2 => by
        by_cases z : e = T + i
        · rw [z, pk_us]
        · rw [pk_un z]
          exact k.2 e h1 (by omega)⟩))⟩))
theorem ee_Y14 {post : Int32 → SY → Prop} {gs gv gc gr : Int32} {yi yc yo ys yl sm : Nat → Int32} {P T D n : Nat} {it : Nat → Nat}
    (hT : T + D ≤ 64) (hn : n ≤ 16) (hP : P ≤ 12) (hE : ∀ e, e < T + D → yi e = nI (it e)) (hb : ∀ e, e < T + D → it e < 65536)
    (h7 : (∀ a, T ≤ a → a < T + D → P ≤ it a) → post (-7) (nI P, gs, nI T, nI D, nI n, gv, gc, gr, yi, yc, yo, ys, yl, sm))
    (h8 : (∃ a, T ≤ a ∧ a < T + D ∧ it a < P) → 16 ≤ n → post (-8) (nI P, gs, nI T, nI D, nI n, gv, gc, gr, yi, yc, yo, ys, yl, sm))
    (h : (∃ a, T ≤ a ∧ a < T + D ∧ it a < P) → n < 16 → ∃ f, wY_endOption_74 post (nI n) (nI P) gs (nI T) (nI D) (nI n) gv gc gr f 0 yi yc yo ys yl sm) :
    ∃ f, wY_endOption_14 post (nI P) gs (nI T) (nI D) (nI n) gv gc gr yi yc yo ys yl sm f 0 0 :=
  pk_loop (σ := Bool) (fun f i s => wY_endOption_14 post (nI P) gs (nI T) (nI D) (nI n) gv gc gr yi yc yo ys yl sm f (ee_b s) (nI i)) (fun i s => s = true ↔ ∃ a, T ≤ a ∧ a < T + i ∧ it a < P) D 0 false (by omega)
    ⟨fun z => absurd z (by decide), fun ⟨a, h1, h2, _⟩ => absurd h2 (by omega)⟩
    (fun f s k => pk_le D D (fun _ => by
      cases s with
      | false => exact br_t rfl (h7 (fun a h1 h2 => by
          rcases Nat.lt_or_ge (it a) P with z | z
          · exact absurd (k.mpr ⟨a, h1, h2, z⟩) (by decide)
          · exact z))
      | true => exact br_f (show ¬ (1 : Int32) = 0 by decide) (pk_lt n 16 (fun z => h (k.mp rfl) z) (fun z => h8 (k.mp rfl) z))) (fun z => absurd z (by omega)))
    (fun f i s hi k hw => pk_le D i (fun z => absurd z (by omega)) (fun _ => ⟨pk_in (T + i) 64 (by omega) (nI_add T i), by
      rw [nI_add, cc_cl (T + i), hE (T + i) (by omega)]
      refine pk_le P (it (T + i)) (fun z => nm_r (nI_1 i) (hw s ?_)) (fun z => nm_r (nI_1 i) (hw true ?_)) rfl rfl (by omega) (by have := hb (T + i) (by omega); omega)
      · rw [k]
        constructor
        · rintro ⟨a, h1, h2, h3⟩
          exact ⟨a, h1, by omega, h3⟩
        · rintro ⟨a, h1, h2, h3⟩
          by_cases y : a = T + i
          · rw [y] at h3
            omega
          · exact ⟨a, h1, by omega, h3⟩
      · exact ⟨fun _ => ⟨T + i, by omega, by omega, z⟩, fun _ => rfl⟩⟩))
theorem i_vc_endOption {k : Nat} {u : SX} {v : SY} (I : i_Rel k u v) (hk : k + 3 ≤ 1538) : wpX_endOption (fun r u' => wpY_endOption (fun r' v' => r' = r ∧ i_Rel (k + 3) u' v') v) u := by
  have R : i_Rel (k + 3) u v := I
  obtain ⟨P, S, n, T, D, it, co, op, st, ec, pm, cv, va, cn, sd, sm, hp, ⟨ae, ast, ax, ap, rfl, x1, x2, x3, x4⟩, ⟨yi, yc, yo, ys, yl, rfl, y1, y2, y3⟩, hr⟩ := I
  have hn : n ≤ 16 := hp.1.2.2.2.1
  have hP : P ≤ 12 := hp.1.2.1
  have hT : T + D ≤ 64 := hp.1.2.2.2.2
  have hsn : st n = T := hp.2.1.2.1
  have hs : ast n = nI T := by rw [x2 n (Nat.le_refl n), hsn]
  have hb := ir_b hp
  have hmo := hp.2.1.2.2.1
  have hle := hp.2.1.2.2.2
  unfold wpX_endOption
  dsimp only
  refine xl_pendSize hn hs (pk_eq D 0 (fun z => br_t (by rw [z]; rfl) ⟨rfl, R⟩) (fun z => ?_))
  have yne : ¬ nI D = 0 := nI_ne0 (by omega) (by omega)
  refine xl_pendPrim hn hP hT hs x1 hb (fun q hq hqs => ?_)
  have hq2 : q < 65536 := Nat.lt_of_lt_of_le hq (cc_p16 (by omega))
  refine pk_eq q 0 (fun y => br_f yne ?_) (fun y => ?_)
  · have no : ∀ a, T ≤ a → a < T + D → P ≤ it a := by
      intro a h1 h2
      rcases Nat.lt_or_ge (it a) P with w | w
      · have := (hqs (it a)).mpr ⟨w, a, h1, h2, rfl⟩
        rw [y, Nat.zero_testBit] at this
        exact absurd this (by decide)
      · exact w
    exact ee_Y14 (it := it) hT hn hP (fun e he => (y1 e he).1) (fun e he => (hb e he).1) (fun _ => ⟨rfl, R⟩) (fun ⟨a, h1, h2, h3⟩ => absurd h3 (by have := no a h1 h2; omega)) (fun ⟨a, h1, h2, h3⟩ => absurd h3 (by have := no a h1 h2; omega))
  · have ex : ∃ a, T ≤ a ∧ a < T + D ∧ it a < P := by
      obtain ⟨t, ht⟩ := Nat.exists_testBit_of_ne_zero y
      obtain ⟨h1, a, h2, h3, h4⟩ := (hqs t).mp ht
      exact ⟨a, h2, h3, by omega⟩
    have yno : ¬ ∀ a, T ≤ a → a < T + D → P ≤ it a := by
      intro w
      obtain ⟨a, h1, h2, h3⟩ := ex
      have := w a h1 h2
      omega
    refine pk_lt n 16 (fun w => ?_) (fun w => br_f yne ?_)
    · refine ⟨pk_in n 16 w, nm_r (e' := upd ap n (nI q)) (by rw [cc_cl n]) ⟨pk_in (n + 1) 17 (by omega) (nI_1 n), nm_r (e' := upd ast (n + 1) (nI (T + D))) (by rw [nI_1, cc_cl (n + 1)]) ?_⟩⟩
      have s1 : ∀ o, o ≤ n → ir_u st (n + 1) (T + D) o = st o := fun o ho => ir_un (by omega)
      have s2 : ir_u st (n + 1) (T + D) (n + 1) = T + D := ir_us
      have x2' : ∀ o, o ≤ n + 1 → upd ast (n + 1) (nI (T + D)) o = nI (ir_u st (n + 1) (T + D) o) := by
        intro o ho
        by_cases e : o = n + 1
        · rw [e, pk_us, ir_us]
        · rw [pk_un e, ir_un e]
          exact x2 o (by omega)
      refine xl_cBefore (st := ir_u st (n + 1) (T + D)) (M := T + D) w hT x2' ?_ ?_ x1 hb (fun m hm hms => ?_)
      · intro o ho
        by_cases e : o = n
        · rw [e, s2, s1 n (Nat.le_refl n), hsn]
          omega
        · rw [s1 o ho, s1 (o + 1) (by omega)]
          exact hmo o (by omega)
      · intro o ho
        by_cases e : o = n + 1
        · rw [e, s2]
          omega
        · rw [s1 o (by omega)]
          have := hle o (by omega)
          omega
      · have hms2 : ∀ e, m.testBit e = true ↔ e < n ∧ ∃ a b, st e ≤ a ∧ a < st (e + 1) ∧ T ≤ b ∧ b < T + D ∧ cx_K it co a b := by
          intro e
          rw [hms e, s2, s1 n (Nat.le_refl n), hsn]
          constructor
          · rintro ⟨h1, a, b, h2, h3, h4⟩
            rw [s1 e (by omega)] at h2
            rw [s1 (e + 1) (by omega)] at h3
            exact ⟨h1, a, b, h2, h3, h4⟩
          · rintro ⟨h1, a, b, h2, h3, h4⟩
            exact ⟨h1, a, b, by rw [s1 e (by omega)]; exact h2, by rw [s1 (e + 1) (by omega)]; exact h3, h4⟩
        refine ⟨pk_in n 16 w, nm_r (e' := upd ax n (nI m)) (by rw [cc_cl n]) (nm_r (nI_1 n) (br_f yne ?_))⟩
        refine ee_Y14 (it := it) hT hn hP (fun e he => (y1 e he).1) (fun e he => (hb e he).1) (fun h => absurd h yno) (fun _ h => absurd h (by omega)) (fun _ _ => ee_Y74 hT w (fun yo' o1 o2 => ?_))
        refine ⟨rfl, P, S, n + 1, T + D, 0, it, co, ir_o op T n, ir_u st (n + 1) (T + D), ir_u ec n m, ir_u pm n q, -1, 0, cn, sd, sm, ir_end hp w hq hm hqs hms2,
          ⟨ae, _, _, _, rfl, x1, x2', ?_, ?_⟩, ⟨yi, yc, yo', _, _, rfl, y1, ?_, ?_⟩, Or.inl ⟨rfl, rfl⟩⟩
        · intro o ho
          by_cases e : o = n
          · rw [e, pk_us, ir_us]
          · rw [pk_un e, ir_un e]
            exact x3 o (by omega)
        · intro o ho
          by_cases e : o = n
          · rw [e, pk_us, ir_us]
          · rw [pk_un e, ir_un e]
            exact x4 o (by omega)
        · intro e he
          by_cases h : e < T
          · rw [o1 e h, show ir_o op T n e = op e from if_pos h]
            exact y2 e h
          · rw [o2 e (by omega) he, show ir_o op T n e = n from if_neg h]
        · intro o ho
          by_cases e : o = n
          · rw [e, pk_us, pk_us, s2, s1 n (Nat.le_refl n), hsn, show T + D - T = D by omega]
            exact ⟨rfl, rfl⟩
          · rw [pk_un e, pk_un e, s1 o (by omega), s1 (o + 1) (by omega)]
            exact y3 o (by omega)
    · exact ee_Y14 (it := it) hT hn hP (fun e he => (y1 e he).1) (fun e he => (hb e he).1) (fun h => absurd h yno) (fun _ _ => ⟨rfl, R⟩) (fun _ h => absurd h (by omega))
