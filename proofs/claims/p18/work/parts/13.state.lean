-- the state between two steps of the law, and one lemma a method
def li_I (P S : Nat) (x4 x5 : Int32) (u : St2) : Prop := ∃ (n T D : Nat) (it co op st ec pm : Nat → Nat) (cv : Int32) (sm : Nat → Int32),
  ir_P P S n T D it co op st ec pm ∧ ir_X P S n T D it co st ec pm cv sm u ∧ ((x4 = 0 ∧ cv = -1) ∨ (x4 = 1 ∧ cv = x5))
theorem li_add {P S : Nat} {x4 x5 : Int32} {u : St2} {post : Int32 → St2 → Prop} (I : li_I P S x4 x5 u) (v1 v2 : Int32) (h : ∀ r u', li_I P S x4 x5 u' → post r u') : wpX_addItem post u v1 v2 := by
  have R := I
  obtain ⟨n, T, D, it, co, op, st, ec, pm, cv, sm, hp, ⟨ae, ast, ax, ap, rfl, x1, x2, x3, x4⟩, hr⟩ := I
  have hn : n ≤ 16 := hp.1.2.2.2.1
  have hT : T + D ≤ 64 := hp.1.2.2.2.2
  have hs : ast n = nI T := by rw [x2 n (Nat.le_refl n), hp.2.1.2.1]
  have hb := ir_b hp
  rcases ad_cases P S hp.1.2.1 hp.1.2.2.1 v1 v2 with g | g | g | ⟨t, c, rfl, rfl, ht, hc, hpc, g⟩
  · exact g _ _ _ _ (h _ _ R)
  · exact g _ _ _ _ (h _ _ R)
  · exact g _ _ _ _ (h _ _ R)
  · have hP := hp.1.2.1
    have hS := hp.1.2.2.1
    refine g _ _ _ _ ?_
    unfold wX_addItem_47
    refine xl_isPending hn hT hs x1 hb (by omega) (fun a h1 h2 h3 => br_f (by decide) (h _ _ R)) (fun no => br_t rfl ?_)
    refine pk_lt (T + D) 64 (fun z => ⟨pk_in (T + D) 64 z, nm_r (e' := upd ae (T + D) (nI (t * 16 + c))) (by rw [cc_cl (T + D), cc_mk]) (nm_r (nI_1 (T + D)) (h _ _ ?_))⟩) (fun z => h _ _ R)
    refine ⟨n, T, D + 1, ir_u it (T + D) t, ir_u co (T + D) c, op, st, ec, pm, cv, sm, ir_add hp z ht hc hpc no, ⟨_, ast, ax, ap, rfl, fun e he => ?_, x2, x3, x4⟩, hr⟩
    by_cases w : e = T + D
    · rw [w, pk_us, ir_us, ir_us]
    · rw [pk_un w, ir_un w, ir_un w]
      exact x1 e (by omega)
theorem li_disc {P S : Nat} {x4 x5 : Int32} {u : St2} {post : Int32 → St2 → Prop} (I : li_I P S x4 x5 u) (h : ∀ r u', li_I P S x4 x5 u' → post r u') : wpX_discardPending post u := by
  obtain ⟨n, T, D, it, co, op, st, ec, pm, cv, sm, hp, ⟨ae, ast, ax, ap, rfl, x1, x2, x3, x4⟩, hr⟩ := I
  have hn : n ≤ 16 := hp.1.2.2.2.1
  have hs : ast n = nI T := by rw [x2 n (Nat.le_refl n), hp.2.1.2.1]
  unfold wpX_discardPending
  dsimp only
  refine xl_pendSize hn hs ⟨pk_in n 17 (by omega), nm_r (e' := nI T) (by rw [cc_cl n]; exact hs) (h _ _ ?_)⟩
  exact ⟨n, T, 0, it, co, op, st, ec, pm, cv, sm, ir_disc hp, ⟨ae, ast, ax, ap, rfl, fun e he => x1 e (by omega), x2, x3, x4⟩, hr⟩
theorem li_clear {P S : Nat} {x4 x5 : Int32} {u : St2} {post : St2 → Prop} (I : li_I P S x4 x5 u) (h : ∀ u', li_I P S 0 x5 u' → post u') : wpX_clearOptions post u := by
  obtain ⟨n, T, D, it, co, op, st, ec, pm, cv, sm, hp, ⟨ae, ast, ax, ap, rfl, x1, x2, x3, x4⟩, hr⟩ := I
  exact h _ ⟨0, 0, 0, it, co, op, st, ec, pm, -1, sm, ir_clear ⟨hp.1.1, hp.1.2.1, hp.1.2.2.1⟩ hp.2.1.1,
    ⟨ae, ast, ax, ap, rfl, fun e he => absurd he (by omega), fun o ho => x2 o (by omega), fun o ho => absurd ho (by omega), fun o ho => absurd ho (by omega)⟩, Or.inl ⟨rfl, rfl⟩⟩
theorem li_end {P S : Nat} {x4 x5 : Int32} {u : St2} {post : Int32 → St2 → Prop} (I : li_I P S x4 x5 u) (hno : ∀ r u', r < 0 → li_I P S x4 x5 u' → post r u') (hyes : ∀ r u', ¬ r < 0 → li_I P S 0 x5 u' → post r u') : wpX_endOption post u := by
  have R := I
  obtain ⟨n, T, D, it, co, op, st, ec, pm, cv, sm, hp, ⟨ae, ast, ax, ap, rfl, x1, x2, x3, x4⟩, hr⟩ := I
  have hn : n ≤ 16 := hp.1.2.2.2.1
  have hP : P ≤ 12 := hp.1.2.1
  have hT : T + D ≤ 64 := hp.1.2.2.2.2
  have hsn : st n = T := hp.2.1.2.1
  have hs : ast n = nI T := by rw [x2 n (Nat.le_refl n), hsn]
  have hb := ir_b hp
  have hmo := hp.2.1.2.2.1
  have hle := hp.2.1.2.2.2
  unfold wpX_endOption
  dsimp only
  refine xl_pendSize hn hs (pk_eq D 0 (fun z => hno _ _ (by decide) R) (fun z => ?_))
  refine xl_pendPrim hn hP hT hs x1 hb (fun q hq hqs => ?_)
  have hq2 : q < 65536 := Nat.lt_of_lt_of_le hq (cc_p16 (by omega))
  refine pk_eq q 0 (fun y => hno _ _ (by decide) R) (fun y => ?_)
  refine pk_lt n 16 (fun w => ?_) (fun w => hno _ _ (by decide) R)
  refine ⟨pk_in n 16 w, nm_r (e' := upd ap n (nI q)) (by rw [cc_cl n]) ⟨pk_in (n + 1) 17 (by omega) (nI_1 n), nm_r (e' := upd ast (n + 1) (nI (T + D))) (by rw [nI_1, cc_cl (n + 1)]) ?_⟩⟩
  have s1 : ∀ o, o ≤ n → ir_u st (n + 1) (T + D) o = st o := fun o ho => ir_un (by omega)
  have s2 : ir_u st (n + 1) (T + D) (n + 1) = T + D := ir_us
  have x2' : ∀ o, o ≤ n + 1 → upd ast (n + 1) (nI (T + D)) o = nI (ir_u st (n + 1) (T + D) o) := by
    intro o ho
    by_cases e : o = n + 1
    · rw [e, pk_us, ir_us]
    · rw [pk_un e, ir_un e]
      exact x2 o (by omega)
  refine xl_cBefore (st := ir_u st (n + 1) (T + D)) (M := T + D) w hT x2' ?_ ?_ x1 hb (fun m hm hms => ?_)
  · intro o ho
    by_cases e : o = n
    · rw [e, s2, s1 n (Nat.le_refl n), hsn]
      omega
    · rw [s1 o ho, s1 (o + 1) (by omega)]
      exact hmo o (by omega)
  · intro o ho
    by_cases e : o = n + 1
    · rw [e, s2]
      omega
    · rw [s1 o (by omega)]
      have := hle o (by omega)
      omega
  · have hms2 : ∀ e, m.testBit e = true ↔ e < n ∧ ∃ a b, st e ≤ a ∧ a < st (e + 1) ∧ T ≤ b ∧ b < T + D ∧ cx_K it co a b := by
      intro e
      rw [hms e, s2, s1 n (Nat.le_refl n), hsn]
      constructor
      · rintro ⟨h1, a, b, h2, h3, h4⟩
        rw [s1 e (by omega)] at h2
        rw [s1 (e + 1) (by omega)] at h3
        exact ⟨h1, a, b, h2, h3, h4⟩
      · rintro ⟨h1, a, b, h2, h3, h4⟩
        exact ⟨h1, a, b, by rw [s1 e (by omega)]; exact h2, by rw [s1 (e + 1) (by omega)]; exact h3, h4⟩
    refine ⟨pk_in n 16 w, nm_r (e' := upd ax n (nI m)) (by rw [cc_cl n]) (nm_r (nI_1 n) (hyes _ _ (nI_pos (by omega)) ?_))⟩
    refine ⟨n + 1, T + D, 0, it, co, ir_o op T n, ir_u st (n + 1) (T + D), ir_u ec n m, ir_u pm n q, -1, sm, ir_end hp w hq hm hqs hms2, ⟨ae, _, _, _, rfl, x1, x2', ?_, ?_⟩, Or.inl ⟨rfl, rfl⟩⟩
    · intro o ho
      by_cases e : o = n
      · rw [e, pk_us, ir_us]
      · rw [pk_un e, ir_un e]
        exact x3 o (by omega)
    · intro o ho
      by_cases e : o = n
      · rw [e, pk_us, ir_us]
      · rw [pk_un e, ir_un e]
        exact x4 o (by omega)
theorem li_solve {P S : Nat} {x4 x5 : Int32} {u : St2} {post : Int32 → St2 → Prop} (I : li_I P S x4 x5 u)
    (h : ∀ (n q : Nat) (ec pm : Nat → Nat) (fu : Int32) (ae ast ax ap sm : Nat → Int32), n ≤ 16 → P ≤ 12 → (∀ o, o < n → ax o = nI (ec o)) → (∀ o, o < n → ap o = nI (pm o)) → (∀ o, o < n → pm o < 2 ^ P) → q < 65536 →
      cs_S n q (cx_cov ec pm n P) sm → li_I P S 1 (nI q) (nI P, nI S, fu, nI n, nI q, ae, ast, ax, ap, sm) → post (nI q) (nI P, nI S, fu, nI n, nI q, ae, ast, ax, ap, sm)) : wpX_solve post u := by
  obtain ⟨n, T, D, it, co, op, st, ec, pm, cv, sm, hp, ⟨ae, ast, ax, ap, rfl, x1, x2, x3, x4⟩, hr⟩ := I
  have hn : n ≤ 16 := hp.1.2.2.2.1
  have hP : P ≤ 12 := hp.1.2.1
  have hpm : ∀ o, o < n → pm o < 2 ^ P := fun o ho => (hp.2.2.2.2.2.2.2 o ho).1
  refine xl_solve hn hP x3 x4 hpm (fun hq => h n _ ec pm _ ae ast ax ap _ hn hP x3 x4 hpm hq (cs_all (cx_0 hp.1.1) sm) ?_)
  exact ⟨n, T, D, it, co, op, st, ec, pm, _, _, hp, ⟨ae, ast, ax, ap, rfl, x1, x2, x3, x4⟩, Or.inr ⟨rfl, rfl⟩⟩
theorem li_cnt {P S : Nat} {x4 x5 : Int32} {fp fs fu fc fv : Int32} {ae ast ax ap sm : Nat → Int32} (I : li_I P S x4 x5 (fp, fs, fu, fc, fv, ae, ast, ax, ap, sm)) : (x4 = 0 ∧ fv = -1) ∨ (x4 = 1 ∧ fv = x5) := by
  obtain ⟨n, T, D, it, co, op, st, ec, pm, cv, s, hp, ⟨be, bst, bx, bp, e, _⟩, hr⟩ := I
  have e2 : fv = cv := congrArg (fun z : St2 => z.2.2.2.2.1) e
  rw [e2]
  exact hr
