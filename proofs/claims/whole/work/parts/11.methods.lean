/-! The small methods -/
theorem bg_wE_new {l : bf_L} {ε : bf_E} (h : ε.1 ≤ 8 ∧ (ε.1 = 8 → ε.2.2.1 < 6) ∧ (ε.1 ≤ 6 → ε.2.2.1 < bf_ct l ∧ ε.2.2.2 < bf_ct l)) : bf_wE (bg_addE l ε) (bf_ct l) := by
  unfold bf_wE bf_eK bf_eA bf_eB
  rw [show (bg_addE l ε).2.1 (bf_ct l) = ε from if_pos rfl]
  exact h
theorem bg_wS_new {l : bf_L} {σ : bf_S} (h : σ.1 ≤ 12 ∧ (σ.1 = 1 ∨ σ.1 = 2 ∨ σ.1 = 3 ∨ σ.1 = 6 ∨ σ.1 = 7 ∨ σ.1 = 8 → ∃ r, r < 6 ∧ σ.2.1 = nI r) ∧ (σ.1 = 1 → ∃ r, r < 6 ∧ σ.2.2.1 = nI r) ∧
    (σ.1 = 4 ∨ σ.1 = 5 → ∃ p, p < 3 ∧ σ.2.2.1 = nI p) ∧ (6 ≤ σ.1 → σ.1 ≠ 10 → σ.2.2.2.2.2.1 < bf_ct l) ∧ (11 ≤ σ.1 → σ.2.2.2.2.2.2 < bf_ct l) ∧ (10 ≤ σ.1 → σ.2.2.2.1 < bf_sz l ∧ σ.2.2.2.2.1 < bf_sz l)) :
    bf_wS (bg_addS l σ) (bf_sz l) := by
  unfold bf_wS bf_K bf_R bf_N bf_X bf_Y bf_A bf_B
  rw [show (bg_addS l σ).1 (bf_sz l) = σ from if_pos rfl]
  exact h
/-! ranges -/
def gr_out (n : Nat) (x : Int32) : Prop := x < 0 ∨ nI n ≤ x
theorem gr_cases (x : Int32) (n : Nat) (hn : n < 2 ^ 31 := by decide) : gr_out n x ∨ ∃ j, j < n ∧ x = nI j := by
  rcases pk_ix x hn with h | h | h
  · exact Or.inl (Or.inl h)
  · exact Or.inl (Or.inr h)
  · exact Or.inr h
theorem gr_nneg {n : Nat} {x : Int32} (h : nI n ≤ x) (hn : n < 2 ^ 31) : ¬ x < 0 := Int32.not_lt.mpr (Int32.le_trans (nI_pos' hn) h)
theorem gx_isR0 {post : Int32 → Prop} {x : Int32} (h : gr_out 6 x) (H : post 0) : wpX_isRegister post x := by
  rcases h with h | h
  · exact br_t h H
  · exact br_f (gr_nneg h (by decide)) (br_t h H)
theorem gx_isR1 {post : Int32 → Prop} {j : Nat} (h : j < 6) (H : post 1) : wpX_isRegister post (nI j) := br_f (nI_pos (by omega)) (br_f (nI_ge (b := 6) h (by decide)) H)
theorem gx_isP0 {post : Int32 → Prop} {x : Int32} (h : gr_out 3 x) (H : post 0) : wpX_isProcedure post x := by
  rcases h with h | h
  · exact br_t h H
  · exact br_f (gr_nneg h (by decide)) (br_t h H)
theorem gx_isP1 {post : Int32 → Prop} {j : Nat} (h : j < 3) (H : post 1) : wpX_isProcedure post (nI j) := br_f (nI_pos (by omega)) (br_f (nI_ge (b := 3) h (by decide)) H)
theorem gy_isR0 {post : Int32 → Prop} {v : SY} {x : Int32} (h : gr_out 6 x) (H : post 0) : wpY_isRegister post v x := by
  obtain ⟨ydp, ypd, yhi, yoh, yop, ynx, yba, yca, yed, ysp, ysK, ysR, ysN, ysA, ysB, ysX, ysY, ysz, yeK, yeL, yeR, yeM, yct, yeV, ytS, ytP, yrg, ypn, yog, yoq, yoN, yoT, yoB⟩ := v
  rcases h with h | h
  · exact br_t h H
  · exact br_f (gr_nneg h (by decide)) (br_t (Int32.lt_of_lt_of_le (show (5 : Int32) < nI 6 by decide) h) H)
theorem gy_isR1 {post : Int32 → Prop} {v : SY} {j : Nat} (h : j < 6) (H : post 1) : wpY_isRegister post v (nI j) := by
  obtain ⟨ydp, ypd, yhi, yoh, yop, ynx, yba, yca, yed, ysp, ysK, ysR, ysN, ysA, ysB, ysX, ysY, ysz, yeK, yeL, yeR, yeM, yct, yeV, ytS, ytP, yrg, ypn, yog, yoq, yoN, yoT, yoB⟩ := v
  exact br_f (nI_pos (by omega)) (br_f (nI_nlt (a := 5) (by omega) (by decide)) H)
theorem i_vc_number {k : Nat} {u : SX} {v : SY} (I : i_Rel k u v) (hk : k + 4 ≤ 2048) (v1 : Int32) : wpX_number (fun r u' => wpY_number (fun r' v' => r' = r ∧ i_Rel (k + 4) u' v') v v1) u v1 := by
  have J : ∀ k', i_Rel k' u v := fun _ => I
  obtain ⟨bk, P, es, ss, h, pc, sc, M, g, pl, so, oc, W, X, Y⟩ := I
  have W1 := W.1
  have W2 := W.2.1
  have w4 := W.2.2.2.1
  have h24 := (W1 3 (by decide)).2.2.1
  obtain ⟨xph, xkh, xes, xem, xss, xsm, xdb, xfo, xco, xst, xen, xlo, xrg, xpn, xkr, xkp, xeK, xeX, xeY, xeR, xeV, xeS, xsK, xsA, xsB, xsX, xsY, xsS, xpB, xpS, xfS, xfT, xfB⟩ := u
  obtain ⟨ydp, ypd, yhi, yoh, yop, ynx, yba, yca, yed, ysp, ysK, ysR, ysN, ysA, ysB, ysX, ysY, ysz, yeK, yeL, yeR, yeM, yct, yeV, ytS, ytP, yrg, ypn, yog, yoq, yoN, yoT, yoB⟩ := v
  have e3 : xem = nI (bf_ct (P 3)) := X.2.2.1
  have f4 : yct 3 = nI (bf_ct (P 3)) := Y.2.2.2.1
  by_cases c1 : v1 < -100
  · exact br_t c1 (br_t c1 ⟨rfl, J _⟩)
  by_cases c2 : v1 ≤ 100
  · by_cases hc : bf_ct (P 3) < 24
    · refine br_f c1 (br_t c2 (br_t (by rw [e3]; exact nI_lt (b := 24) hc (by decide)) (gx_mkE (ε := (7, v1, 0, 0)) W1 W2 hc w4 X ⟨rfl, fun _ => rfl, fun z => absurd z (by simp), fun z => absurd z (by simp)⟩ (fun u' X' => ?_))))
      obtain ⟨xph, xkh, xes, xem, xss, xsm, xdb, xfo, xco, xst, xen, xlo, xrg, xpn, xkr, xkp, xeK, xeX, xeY, xeR, xeV, xeS, xsK, xsA, xsB, xsX, xsY, xsS, xpB, xpS, xfS, xfT, xfB⟩ := u'
      refine br_f c1 (br_t c2 (br_f (by rw [f4]; exact bx_ne (b := 24) (by omega)) (gy_mkE (ε := (7, v1, 0, 0)) (fun q hq => (W1 q hq).2) hc w4 Y ⟨rfl, fun _ => rfl, fun z => absurd z (by simp), fun z => absurd z (by simp)⟩ (fun v' Y' => ?_))))
      obtain ⟨ydp, ypd, yhi, yoh, yop, ynx, yba, yca, yed, ysp, ysK, ysR, ysN, ysA, ysB, ysX, ysY, ysz, yeK, yeL, yeR, yeM, yct, yeV, ytS, ytP, yrg, ypn, yog, yoq, yoN, yoT, yoB⟩ := v'
      exact ⟨rfl, _, _, _, _, _, _, _, _, _, _, _, _, bg_W_E W hc (bg_wE_new ⟨by simp, fun z => absurd z (by simp), fun z => absurd z (by simp)⟩), X', Y'⟩
    · exact br_f c1 (br_t c2 (br_f (by rw [e3]; exact nI_nlt (b := 24) (by omega) (by omega)) (br_f c1 (br_t c2 (br_t (by rw [f4, show bf_ct (P 3) = 24 by omega]; rfl) ⟨rfl, J _⟩)))))
  · exact br_f c1 (br_f c2 (br_f c1 (br_f c2 ⟨rfl, J _⟩)))
theorem i_vc_register {k : Nat} {u : SX} {v : SY} (I : i_Rel k u v) (hk : k + 4 ≤ 2048) (v1 : Int32) : wpX_register (fun r u' => wpY_register (fun r' v' => r' = r ∧ i_Rel (k + 4) u' v') v v1) u v1 := by
  have J : ∀ k', i_Rel k' u v := fun _ => I
  obtain ⟨bk, P, es, ss, h, pc, sc, M, g, pl, so, oc, W, X, Y⟩ := I
  have W1 := W.1
  have W2 := W.2.1
  have w4 := W.2.2.2.1
  have h24 := (W1 3 (by decide)).2.2.1
  obtain ⟨xph, xkh, xes, xem, xss, xsm, xdb, xfo, xco, xst, xen, xlo, xrg, xpn, xkr, xkp, xeK, xeX, xeY, xeR, xeV, xeS, xsK, xsA, xsB, xsX, xsY, xsS, xpB, xpS, xfS, xfT, xfB⟩ := u
  obtain ⟨ydp, ypd, yhi, yoh, yop, ynx, yba, yca, yed, ysp, ysK, ysR, ysN, ysA, ysB, ysX, ysY, ysz, yeK, yeL, yeR, yeM, yct, yeV, ytS, ytP, yrg, ypn, yog, yoq, yoN, yoT, yoB⟩ := v
  have e3 : xem = nI (bf_ct (P 3)) := X.2.2.1
  have f4 : yct 3 = nI (bf_ct (P 3)) := Y.2.2.2.1
  unfold wpX_register wpY_register
  rcases gr_cases v1 6 with o | ⟨j, hj, rfl⟩
  · exact gx_isR0 o (br_t rfl (gy_isR0 o (br_t rfl ⟨rfl, J _⟩)))
  · refine gx_isR1 hj (br_f (by decide) ?_)
    by_cases hc : bf_ct (P 3) < 24
    · refine br_t (by rw [e3]; exact nI_lt (b := 24) hc (by decide)) (gx_mkE (ε := (8, 0, j, 0)) W1 W2 hc w4 X ⟨rfl, fun z => absurd z (by simp), fun _ => rfl, fun z => absurd z (by simp)⟩ (fun u' X' => ?_))
      obtain ⟨xph, xkh, xes, xem, xss, xsm, xdb, xfo, xco, xst, xen, xlo, xrg, xpn, xkr, xkp, xeK, xeX, xeY, xeR, xeV, xeS, xsK, xsA, xsB, xsX, xsY, xsS, xpB, xpS, xfS, xfT, xfB⟩ := u'
      refine gy_isR1 hj (br_f (by decide) (br_f (by rw [f4]; exact bx_ne (b := 24) (by omega)) (gy_mkE (ε := (8, 0, j, 0)) (fun q hq => (W1 q hq).2) hc w4 Y ⟨rfl, fun z => absurd z (by simp), fun _ => rfl, fun z => absurd z (by simp)⟩ (fun v' Y' => ?_))))
      obtain ⟨ydp, ypd, yhi, yoh, yop, ynx, yba, yca, yed, ysp, ysK, ysR, ysN, ysA, ysB, ysX, ysY, ysz, yeK, yeL, yeR, yeM, yct, yeV, ytS, ytP, yrg, ypn, yog, yoq, yoN, yoT, yoB⟩ := v'
      exact ⟨rfl, _, _, _, _, _, _, _, _, _, _, _, _, bg_W_E W hc (bg_wE_new ⟨by simp, fun _ => hj, fun z => absurd z (by simp)⟩), X', Y'⟩
    · exact br_f (by rw [e3]; exact nI_nlt (b := 24) (by omega) (by omega)) (gy_isR1 hj (br_f (by decide) (br_t (by rw [f4, show bf_ct (P 3) = 24 by omega]; rfl) ⟨rfl, J _⟩)))
theorem i_vc_apply {k : Nat} {u : SX} {v : SY} (I : i_Rel k u v) (hk : k + 4 ≤ 2048) (v1 : Int32) : wpX_apply (fun r u' => wpY_apply (fun r' v' => r' = r ∧ i_Rel (k + 4) u' v') v v1) u v1 := by
  have J : ∀ k', i_Rel k' u v := fun _ => I
  obtain ⟨bk, P, es, ss, h, pc, sc, M, g, pl, so, oc, W, X, Y⟩ := I
  have W1 := W.1
  have W2 := W.2.1
  have w4 := W.2.2.2.1
  have w5 := W.2.2.2.2.1
  have h24 := (W1 3 (by decide)).2.2.1
  have hb := (W1 3 (by decide)).1
  obtain ⟨xph, xkh, xes, xem, xss, xsm, xdb, xfo, xco, xst, xen, xlo, xrg, xpn, xkr, xkp, xeK, xeX, xeY, xeR, xeV, xeS, xsK, xsA, xsB, xsX, xsY, xsS, xpB, xpS, xfS, xfT, xfB⟩ := u
  obtain ⟨ydp, ypd, yhi, yoh, yop, ynx, yba, yca, yed, ysp, ysK, ysR, ysN, ysA, ysB, ysX, ysY, ysz, yeK, yeL, yeR, yeM, yct, yeV, ytS, ytP, yrg, ypn, yog, yoq, yoN, yoT, yoB⟩ := v
  have e2 : xes = nI es := X.2.1
  have e3 : xem = nI (bf_ct (P 3)) := X.2.2.1
  have f2 : ypd = nI es := Y.2.1
  have f4 : yct 3 = nI (bf_ct (P 3)) := Y.2.2.2.1
  by_cases c1 : v1 < 0
  · exact br_t c1 (br_t c1 ⟨rfl, J _⟩)
  by_cases c2 : v1 ≤ 6
  · obtain ⟨a, ha, rfl⟩ := nI_of2 (M := 6) (n := 6) (by decide) c1 c2
    by_cases hc : bf_ct (P 3) < 24
    · by_cases h2 : 2 ≤ es
      · obtain ⟨e, rfl⟩ : ∃ e, es = e + 1 + 1 := ⟨es - 2, by omega⟩
        have p0 := w5 e (by omega)
        have p1 := w5 (e + 1) (by omega)
        refine br_f c1 (br_t c2 (br_t (by rw [e3]; exact nI_lt (b := 24) hc (by decide)) (br_t (by rw [e2]; exact nI_le (a := 2) h2 (by omega)) (gx_takeE X (by omega) (fun u1 X1 => ?_)))))
        obtain ⟨xph, xkh, xes, xem, xss, xsm, xdb, xfo, xco, xst, xen, xlo, xrg, xpn, xkr, xkp, xeK, xeX, xeY, xeR, xeV, xeS, xsK, xsA, xsB, xsX, xsY, xsS, xpB, xpS, xfS, xfT, xfB⟩ := u1
        refine gx_takeE X1 (by omega) (fun u2 X2 => ?_)
        obtain ⟨xph, xkh, xes, xem, xss, xsm, xdb, xfo, xco, xst, xen, xlo, xrg, xpn, xkr, xkp, xeK, xeX, xeY, xeR, xeV, xeS, xsK, xsA, xsB, xsX, xsY, xsS, xpB, xpS, xfS, xfT, xfB⟩ := u2
        have m0 : xeR (nI (24 * bk 3 + pc e)).toNatClampNeg = M (pc e) := by rw [nI_clamp (by omega)]; exact X2.2.2.2.2.2.2.2.2.2.2.2.1 _ p0
        have m1 : xeR (nI (24 * bk 3 + pc (e + 1))).toNatClampNeg = M (pc (e + 1)) := by rw [nI_clamp (by omega)]; exact X2.2.2.2.2.2.2.2.2.2.2.2.1 _ p1
        refine ⟨vp_in_nI (by omega) (by decide), vp_in_nI (by omega) (by decide), ?_⟩
        rw [m0, m1]
        refine gx_mkE (ε := (a, 0, pc e, pc (e + 1))) W1 W2 hc (by omega) X2 ⟨rfl, fun z => absurd z (by show a ≠ 7; omega), fun z => absurd z (by show a ≠ 8; omega), fun _ => ⟨rfl, rfl⟩⟩ (fun u' X' => ?_)
        obtain ⟨xph, xkh, xes, xem, xss, xsm, xdb, xfo, xco, xst, xen, xlo, xrg, xpn, xkr, xkp, xeK, xeX, xeY, xeR, xeV, xeS, xsK, xsA, xsB, xsX, xsY, xsS, xpB, xpS, xfS, xfT, xfB⟩ := u'
        obtain ⟨y1, rfl, y3, y4, y5, y6, y7, y8, y9, y10, y11, y12, y13, y14⟩ := Y
        have q0 : ytP (nI e).toNatClampNeg = nI (pc e) := by rw [nI_clamp (by omega)]; exact y12 e (by omega)
        have q1 : ytP (nI e + 1).toNatClampNeg = nI (pc (e + 1)) := by rw [nI_1, nI_clamp (by omega)]; exact y12 (e + 1) (by omega)
        have ad : ∀ x, (72 : Int32) + nI x = nI (72 + x) := fun x => nI_add 72 x
        have n0 : yeM ((72 : Int32) + nI (pc e)).toNatClampNeg = M (pc e) := by rw [ad, nI_clamp (by omega)]; exact y11 _ p0
        have n1 : yeM ((72 : Int32) + nI (pc (e + 1))).toNatClampNeg = M (pc (e + 1)) := by rw [ad, nI_clamp (by omega)]; exact y11 _ p1
        refine br_f c1 (br_t c2 (br_f (by rw [f4]; exact bx_ne (b := 24) (by omega)) (br_t (nI_le (a := 2) h2 (by omega)) (nm_r (e' := nI e) (pk_sub (a := e + 1 + 1) (b := 2) (by omega)) ⟨vp_in_nI (by omega) (by decide), nm_r q0 ⟨by rw [nI_1]; exact vp_in_nI (by omega) (by decide), nm_r q1
          ⟨by rw [ad]; exact vp_in_nI (by omega) (by decide), by rw [ad]; exact vp_in_nI (by omega) (by decide), ?_⟩⟩⟩))))
        rw [n0, n1]
        refine gy_mkE (ε := (a, 0, pc e, pc (e + 1))) (es := e) (ss := ss) (h := h) (pc := pc) (sc := sc) (M := M) (g := g) (pl := pl) (so := so) (oc := oc) (fun q hq => (W1 q hq).2) hc (by omega) ⟨y1, rfl, y3, y4, y5, y6, y7, y8, y9, y10, y11, fun j hj => y12 j (by omega), y13, y14⟩ ⟨rfl, fun z => absurd z (by show a ≠ 7; omega), fun z => absurd z (by show a ≠ 8; omega), fun _ => ⟨rfl, rfl⟩⟩ (fun v' Y' => ?_)
        obtain ⟨ydp, ypd, yhi, yoh, yop, ynx, yba, yca, yed, ysp, ysK, ysR, ysN, ysA, ysB, ysX, ysY, ysz, yeK, yeL, yeR, yeM, yct, yeV, ytS, ytP, yrg, ypn, yog, yoq, yoN, yoT, yoB⟩ := v'
        have We : bg_W bk P e ss h pc sc := ⟨W1, W2, W.2.2.1, by omega, fun j hj => w5 j (by omega), W.2.2.2.2.2⟩
        exact ⟨rfl, _, _, _, _, _, _, _, _, _, _, _, _, bg_W_E We hc (bg_wE_new ⟨by show a ≤ 8; omega, fun z => absurd z (by show a ≠ 8; omega), fun _ => ⟨p0, p1⟩⟩), X', Y'⟩
      · exact br_f c1 (br_t c2 (br_t (by rw [e3]; exact nI_lt (b := 24) hc (by decide)) (br_f (by rw [e2]; exact nI_ge (b := 2) (by omega) (by decide)) (br_f c1 (br_t c2 (br_f (by rw [f4]; exact bx_ne (b := 24) (by omega)) (br_f (by rw [f2]; exact nI_ge (b := 2) (by omega) (by decide)) ⟨rfl, J _⟩)))))))
    · exact br_f c1 (br_t c2 (br_f (by rw [e3]; exact nI_nlt (b := 24) (by omega) (by omega)) (br_f c1 (br_t c2 (br_t (by rw [f4, show bf_ct (P 3) = 24 by omega]; rfl) ⟨rfl, J _⟩)))))
  · exact br_f c1 (br_f c2 (br_f c1 (br_f c2 ⟨rfl, J _⟩)))
