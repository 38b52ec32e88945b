/-! update, discard, procedure, load, and the calls that only read -/
theorem gu_dec (v1 v2 : Int32) :
    ((∀ post : Int32 → Prop, post 0 → wpX_isGoodUpdate post v1 v2) ∧ (∀ (post : Int32 → SY → Prop) (v : SY), post (-1) v → wpY_update post v v1 v2)) ∨
    (∃ o, o ≤ 3 ∧ v1 = nI o ∧ (o < 3 → ∃ r, r < 6 ∧ v2 = nI r) ∧ (∀ post : Int32 → Prop, post 1 → wpX_isGoodUpdate post v1 v2) ∧
      (∀ (post : Int32 → SY → Prop) {ydp ypd yhi yoh yop ynx yba yca yed ysp : Int32} {ysK ysR ysN ysA ysB ysX ysY ysz yeK yeL yeR yeM yct yeV ytS ytP yrg ypn yog yoq yoN yoT yoB : Nat → Int32}, wY_update_24 post v1 v2 ydp ypd yhi yoh yop ynx yba yca yed ysp ysK ysR ysN ysA ysB ysX ysY ysz yeK yeL yeR yeM yct yeV ytS ytP yrg ypn yog yoq yoN yoT yoB → wpY_update post (ydp, ypd, yhi, yoh, yop, ynx, yba, yca, yed, ysp, ysK, ysR, ysN, ysA, ysB, ysX, ysY, ysz, yeK, yeL, yeR, yeM, yct, yeV, ytS, ytP, yrg, ypn, yog, yoq, yoN, yoT, yoB) v1 v2)) := by
  rcases gr_cases v1 4 with o | ⟨o, ho, rfl⟩
  · have n3 : ¬ v1 = 3 := by
      rintro rfl
      rcases o with o | o
      · exact absurd o (by decide)
      · exact absurd o (by decide)
    refine Or.inl ⟨fun post H => ?_, fun post v H => ?_⟩
    · rcases o with o | o
      · exact br_f n3 (br_t o H)
      · exact br_f n3 (br_f (gr_nneg o (by decide)) (br_t (Int32.le_trans (show (3 : Int32) ≤ nI 4 by decide) o) H))
    · obtain ⟨ydp, ypd, yhi, yoh, yop, ynx, yba, yca, yed, ysp, ysK, ysR, ysN, ysA, ysB, ysX, ysY, ysz, yeK, yeL, yeR, yeM, yct, yeV, ytS, ytP, yrg, ypn, yog, yoq, yoN, yoT, yoB⟩ := v
      rcases o with o | o
      · exact br_t o H
      · exact br_f (gr_nneg o (by decide)) (br_t (Int32.lt_of_lt_of_le (show (3 : Int32) < nI 4 by decide) o) H)
  by_cases o3 : o = 3
  · subst o3
    exact Or.inr ⟨3, by decide, rfl, fun z => absurd z (by simp), fun post H => br_t rfl H, fun post => by intros; exact br_f (by decide) (br_f (by decide) (br_t (by decide) (by assumption)))⟩
  · have n3 : ¬ nI o = 3 := bx_ne (b := 3) o3
    have h0 : ¬ nI o < 0 := nI_pos (by omega)
    have h3 : ¬ (3 : Int32) ≤ nI o := nI_ge (b := 3) (by omega) (by decide)
    have h4 : ¬ (3 : Int32) < nI o := nI_nlt (a := 3) (by omega) (by decide)
    rcases gr_cases v2 6 with a | ⟨r, hr, rfl⟩
    · refine Or.inl ⟨fun post H => br_f n3 (br_f h0 (br_f h3 (gx_isR0 a (br_t rfl H)))), fun post v H => ?_⟩
      obtain ⟨ydp, ypd, yhi, yoh, yop, ynx, yba, yca, yed, ysp, ysK, ysR, ysN, ysA, ysB, ysX, ysY, ysz, yeK, yeL, yeR, yeM, yct, yeV, ytS, ytP, yrg, ypn, yog, yoq, yoN, yoT, yoB⟩ := v
      exact br_f h0 (br_f h4 (br_f h3 (gy_isR0 a (br_t rfl H))))
    · exact Or.inr ⟨o, by omega, rfl, fun _ => ⟨r, hr, rfl⟩, fun post H => br_f n3 (br_f h0 (br_f h3 (gx_isR1 hr (br_f (by decide) H)))), fun post => by intros; exact br_f h0 (br_f h4 (br_f h3 (gy_isR1 hr (br_f (by decide) (by assumption)))))⟩
theorem i_vc_update {k : Nat} {u : SX} {v : SY} (I : i_Rel k u v) (hk : k + 4 ≤ 2048) (v1 : Int32) (v2 : Int32) : wpX_update (fun r u' => wpY_update (fun r' v' => r' = r ∧ i_Rel (k + 4) u' v') v v1 v2) u v1 v2 := by
  have J : ∀ k', i_Rel k' u v := fun _ => I
  obtain ⟨bk, P, es, ss, h, pc, sc, M, g, pl, so, oc, W, X, Y⟩ := I
  have W1 := W.1
  have w4 := W.2.2.2.1
  have w5 := W.2.2.2.2.1
  have w6 := W.2.2.2.2.2.1
  have h16 := (W1 3 (by decide)).2.1
  have h24 := (W1 3 (by decide)).2.2.1
  have hb := (W1 3 (by decide)).1
  obtain ⟨xph, xkh, xes, xem, xss, xsm, xdb, xfo, xco, xst, xen, xlo, xrg, xpn, xkr, xkp, xeK, xeX, xeY, xeR, xeV, xeS, xsK, xsA, xsB, xsX, xsY, xsS, xpB, xpS, xfS, xfT, xfB⟩ := u
  obtain ⟨ydp, ypd, yhi, yoh, yop, ynx, yba, yca, yed, ysp, ysK, ysR, ysN, ysA, ysB, ysX, ysY, ysz, yeK, yeL, yeR, yeM, yct, yeV, ytS, ytP, yrg, ypn, yog, yoq, yoN, yoT, yoB⟩ := v
  have e2 : xes = nI es := X.2.1
  have e5 : xsm = nI (bf_sz (P 3)) := X.2.2.2.2.1
  have f2 : ypd = nI es := Y.2.1
  have f5 : ysz 3 = nI (bf_sz (P 3)) := Y.2.2.2.2.1
  unfold wpX_update
  rcases gu_dec v1 v2 with ⟨bX, bY⟩ | ⟨o, ho, rfl, g1, gX, gY⟩
  · exact bX _ (br_t rfl (bY _ _ ⟨rfl, J _⟩))
  refine gX _ (br_f (by decide) ?_)
  by_cases hc : bf_sz (P 3) < 16
  · by_cases h1 : 1 ≤ es
    · obtain ⟨e, rfl⟩ : ∃ e, es = e + 1 := ⟨es - 1, by omega⟩
      have p0 := w5 e (by omega)
      have eo : (6 : Int32) + nI o = nI (6 + o) := nI_add 6 o
      have x13 := X.2.2.2.2.2.2.2.2.2.2.2.2.1
      have x12 := X.2.2.2.2.2.2.2.2.2.2.2.1
      have ex : xes - 1 = nI e := by rw [e2]; exact nI_pred e
      have et : xeS (xes - 1).toNatClampNeg = nI (24 * bk 3 + pc e) := by rw [ex, nI_clamp (by omega)]; exact x13 e (by omega)
      have em : xeR (nI (24 * bk 3 + pc e)).toNatClampNeg = M (pc e) := by rw [nI_clamp (by omega)]; exact x12 _ p0
      refine br_t (by rw [e5]; exact nI_lt (b := 16) hc (by decide)) (br_t (by rw [e2]; exact nI_le (a := 1) (by omega) (by omega)) (nm_r eo ⟨by rw [ex]; exact vp_in_nI (by omega) (by decide), nm_r et ?_⟩))
      have y12 := Y.2.2.2.2.2.2.2.2.2.2.2.1
      have y11 := Y.2.2.2.2.2.2.2.2.2.2.1
      have fx : ypd - 1 = nI e := by rw [f2]; exact nI_pred e
      have ft : ytP (ypd - 1).toNatClampNeg = nI (pc e) := by rw [fx, nI_clamp (by omega)]; exact y12 e (by omega)
      have ad : (72 : Int32) + nI (pc e) = nI (72 + pc e) := nI_add 72 _
      have fm : yeM ((72 : Int32) + nI (pc e)).toNatClampNeg = M (pc e) := by rw [ad, nI_clamp (by omega)]; exact y11 _ p0
      have fi : vp_in ((72 : Int32) + nI (pc e)) 96 := by rw [ad]; exact vp_in_nI (by omega) (by decide)
      -- both sides take the expression and make the statement
      have take : ∀ {post : Int32 → SX → Prop}, (∀ u', bg_X bk (bg_put P 3 (bg_addS (P 3) (6 + o, v2, 0, 0, 0, pc e, 0))) e (ss + 1) h pc (bg_at sc ss (bf_sz (P 3))) M g pl so oc u' → post (nI (ss + 1)) u') → wX_update_75 post v2 (nI (6 + o)) xph xkh xes xem xss xsm xdb xfo xco xst xen xlo xrg xpn xkr xkp xeK xeX xeY xeR xeV xeS xsK xsA xsB xsX xsY xsS xpB xpS xfS xfT xfB := by
        intro post H
        unfold wX_update_75
        refine gx_takeE X (by omega) (fun u1 X1 => ?_)
        obtain ⟨xph, xkh, xes, xem, xss, xsm, xdb, xfo, xco, xst, xen, xlo, xrg, xpn, xkr, xkp, xeK, xeX, xeY, xeR, xeV, xeS, xsK, xsA, xsB, xsX, xsY, xsS, xpB, xpS, xfS, xfT, xfB⟩ := u1
        refine gx_mkS (σ := (6 + o, v2, 0, 0, 0, pc e, 0)) W1 W.2.1 hc w6 X1 ⟨rfl, fun _ => ⟨rfl, rfl⟩, fun z => absurd z (by show ¬ 10 ≤ 6 + o; omega), fun _ _ => rfl, fun z => absurd z (by show ¬ 11 ≤ 6 + o; omega)⟩ (fun u' X' => ?_)
        obtain ⟨xph, xkh, xes, xem, xss, xsm, xdb, xfo, xco, xst, xen, xlo, xrg, xpn, xkr, xkp, xeK, xeX, xeY, xeR, xeV, xeS, xsK, xsA, xsB, xsX, xsY, xsS, xpB, xpS, xfS, xfT, xfB⟩ := u'
        exact H _ X'
      have takeY : ∀ {post : Int32 → SY → Prop}, (∀ v', bg_Y (bg_put P 3 (bg_addS (P 3) (6 + o, v2, 0, 0, 0, pc e, 0))) e (ss + 1) h pc (bg_at sc ss (bf_sz (P 3))) M g pl so oc v' → post (nI (ss + 1)) v') → wY_update_86 post (nI o) v2 (nI (pc e)) ydp ypd yhi yoh yop ynx yba yca yed ysp ysK ysR ysN ysA ysB ysX ysY ysz yeK yeL yeR yeM yct yeV ytS ytP yrg ypn yog yoq yoN yoT yoB := by
        intro post H
        obtain ⟨rfl, rfl, rfl, y4, y5, rfl, rfl, rfl, rfl, y10, y11, y12, y13, y14⟩ := Y
        have ei : (48 : Int32) + ysz 3 = nI (48 + bf_sz (P 3)) := by rw [y5]; exact nI_add 48 _
        have hi4 : vp_in ((48 : Int32) + ysz 3) 64 := by rw [ei]; exact vp_in_nI (by omega) (by decide)
        have hc4 : ((48 : Int32) + ysz 3).toNatClampNeg = 48 + bf_sz (P 3) := by rw [ei]; exact nI_clamp (by omega)
        refine nm_r (nI_pred e) ⟨hi4, nm_r (e' := upd ysX (48 + bf_sz (P 3)) (nI (pc e))) (by rw [hc4]) ?_⟩
        rw [eo]
        refine gy_mkS (σ := (6 + o, v2, 0, 0, 0, pc e, 0)) (es := e) (fun q hq => (W1 q hq).2) hc w6 y4 y5 y10 y11 (fun j hj => y12 j (by omega)) y13 y14 (fun _ _ => rfl) (fun _ _ => rfl) (fun _ z => pk_un z) (fun _ _ => rfl) ⟨rfl, fun _ => ⟨rfl, rfl⟩, fun z => absurd z (by show ¬ 10 ≤ 6 + o; omega), fun _ _ => pk_us, fun z => absurd z (by show ¬ 11 ≤ 6 + o; omega)⟩ (fun v' Y' => ?_)
        obtain ⟨ydp, ypd, yhi, yoh, yop, ynx, yba, yca, yed, ysp, ysK, ysR, ysN, ysA, ysB, ysX, ysY, ysz, yeK, yeL, yeR, yeM, yct, yeV, ytS, ytP, yrg, ypn, yog, yoq, yoN, yoT, yoB⟩ := v'
        exact H _ Y'
      have fin : ∀ u' v', bg_X bk (bg_put P 3 (bg_addS (P 3) (6 + o, v2, 0, 0, 0, pc e, 0))) e (ss + 1) h pc (bg_at sc ss (bf_sz (P 3))) M g pl so oc u' → bg_Y (bg_put P 3 (bg_addS (P 3) (6 + o, v2, 0, 0, 0, pc e, 0))) e (ss + 1) h pc (bg_at sc ss (bf_sz (P 3))) M g pl so oc v' → i_Rel (k + 4) u' v' := by
        intro u' v' X' Y'
        refine ⟨_, _, _, _, _, _, _, _, _, _, _, _, bg_W_S W1 W.2.1 W.2.2.1 (by omega) (fun j hj => w5 j (by omega)) w6 W.2.2.2.2.2.2.1 W.2.2.2.2.2.2.2.2 hc (bg_wS_new ⟨by show 6 + o ≤ 12; omega, fun z => g1 ?_, fun z => ?_, fun z => ?_, fun _ _ => p0, fun z => absurd z (by show ¬ 11 ≤ 6 + o; omega), fun z => absurd z (by show ¬ 10 ≤ 6 + o; omega)⟩), X', Y'⟩
        · have z : 6 + o = 1 ∨ 6 + o = 2 ∨ 6 + o = 3 ∨ 6 + o = 6 ∨ 6 + o = 7 ∨ 6 + o = 8 := z
          omega
        · have z : 6 + o = 1 := z
          omega
        · have z : 6 + o = 4 ∨ 6 + o = 5 := z
          omega
      by_cases o3 : o = 3
      · refine br_t (by rw [o3]; rfl) (take (fun u' X' => gY _ (br_f (by rw [f5]; exact bx_ne (b := 16) (by omega)) (br_t (by rw [f2]; exact nI_le (a := 1) (by omega) (by omega)) ⟨by rw [fx]; exact vp_in_nI (by omega) (by decide), nm_r ft (br_t (by rw [o3]; decide) (takeY (fun v' Y' => ⟨rfl, fin u' v' X' Y'⟩)))⟩))))
      · refine br_f (bx_ne (b := 9) (by omega)) ⟨vp_in_nI (by omega) (by decide), ?_⟩
        rw [em]
        have h3 : ¬ (3 : Int32) ≤ nI o := nI_ge (b := 3) (by omega) (by decide)
        refine br_c (fun z => ?_) (fun z => ?_)
        · refine gY _ (br_f (by rw [f5]; exact bx_ne (b := 16) (by omega)) (br_t (by rw [f2]; exact nI_le (a := 1) (by omega) (by omega)) ⟨by rw [fx]; exact vp_in_nI (by omega) (by decide), nm_r ft (br_f h3 ⟨fi, br_t ?_ ⟨rfl, J _⟩⟩)⟩))
          rw [fm]; exact z
        · refine take (fun u' X' => gY _ (br_f (by rw [f5]; exact bx_ne (b := 16) (by omega)) (br_t (by rw [f2]; exact nI_le (a := 1) (by omega) (by omega)) ⟨by rw [fx]; exact vp_in_nI (by omega) (by decide), nm_r ft (br_f h3 ⟨fi, br_f ?_ (takeY (fun v' Y' => ⟨rfl, fin u' v' X' Y'⟩))⟩)⟩)))
          rw [fm]; exact z
    · exact br_t (by rw [e5]; exact nI_lt (b := 16) hc (by decide)) (br_f (by rw [e2]; exact nI_ge (b := 1) (by omega) (by decide)) (gY _ (br_f (by rw [f5]; exact bx_ne (b := 16) (by omega)) (br_f (by rw [f2]; exact nI_ge (b := 1) (by omega) (by decide)) ⟨rfl, J _⟩))))
  · exact br_f (by rw [e5]; exact nI_nlt (b := 16) (by omega) (by omega)) (gY _ (br_t (by rw [f5, show bf_sz (P 3) = 16 by omega]; rfl) ⟨rfl, J _⟩))
/-! emptying -/
theorem bg_wemp (l : bf_L) : bf_wL (bg_emp l) := ⟨Nat.zero_le _, Nat.zero_le _, fun i hi => absurd hi (Nat.not_lt_zero i), fun i hi => absurd hi (Nat.not_lt_zero i)⟩
theorem i_vc_discard {k : Nat} {u : SX} {v : SY} (I : i_Rel k u v) (hk : k + 4 ≤ 2048) : wpX_discard (fun r u' => wpY_discard (fun r' v' => r' = r ∧ i_Rel (k + 4) u' v') v) u := by
  obtain ⟨bk, P, es, ss, h, pc, sc, M, g, pl, so, oc, W, X, Y⟩ := I
  obtain ⟨W1, W2, W3, -, -, -, -, -, W9⟩ := W
  obtain ⟨xph, xkh, xes, xem, xss, xsm, xdb, xfo, xco, xst, xen, xlo, xrg, xpn, xkr, xkp, xeK, xeX, xeY, xeR, xeV, xeS, xsK, xsA, xsB, xsX, xsY, xsS, xpB, xpS, xfS, xfT, xfB⟩ := u
  obtain ⟨ydp, ypd, yhi, yoh, yop, ynx, yba, yca, yed, ysp, ysK, ysR, ysN, ysA, ysB, ysX, ysY, ysz, yeK, yeL, yeR, yeM, yct, yeV, ytS, ytP, yrg, ypn, yog, yoq, yoN, yoT, yoB⟩ := v
  obtain ⟨x1, x2, x3, x4, x5, x6, x7, x8, x9, x10, x11, x12, x13, x14, x15⟩ := X
  obtain ⟨y1, y2, y3, y4, y5, y6, y7, y8, y9, y10, y11, y12, y13, y14⟩ := Y
  refine nm_e (nm_e ⟨y3.trans x4.symm, bk, bg_put P 3 (bg_emp (P 3)), 0, 0, h, pc, sc, M, g, pl, so, oc, ?_, ?_, ?_⟩)
  · refine ⟨fun q hq => ⟨(W1 q hq).1, ?_⟩, W2, fun q hq => ?_, Nat.zero_le _, fun j hj => absurd hj (Nat.not_lt_zero j), Nat.zero_le _, fun j hj => absurd hj (Nat.not_lt_zero j), fun z => ?_, W9⟩
    · by_cases z : q = 3
      · rw [z, bg_put_s]; exact bg_wemp _
      · rw [bg_put_n z]; exact (W1 q hq).2
    · rw [bg_put_n (by omega)]; exact W3 q hq
    · rw [bg_put_s] at z; exact absurd z (Nat.not_lt_zero 0)
  · refine ⟨x1, rfl, by rw [bg_put_s]; rfl, rfl, by rw [bg_put_s]; rfl, x6, x7, x8, x9, x10, fun q hq => ?_, fun e he => ?_, fun j hj => absurd hj (Nat.not_lt_zero j), fun j hj => absurd hj (Nat.not_lt_zero j), fun p hp => ?_⟩
    · by_cases z : q = 3
      · subst z
        rw [bg_put_s]
        exact ⟨fun i hi => absurd hi (Nat.not_lt_zero i), fun i hi => absurd hi (Nat.not_lt_zero i)⟩
      · rw [bg_put_n z]; exact x11 q hq
    · rw [bg_put_s] at he; exact absurd he (Nat.not_lt_zero e)
    · rw [bg_put_n (by omega)]; exact x15 p hp
  · refine ⟨y1, rfl, rfl, by rw [bg_put_s]; exact pk_us, by rw [bg_put_s]; exact pk_us, y6, y7, y8, y9, fun q hq => ?_, fun e he => ?_, fun j hj => absurd hj (Nat.not_lt_zero j), fun j hj => absurd hj (Nat.not_lt_zero j), fun p hp => ?_⟩
    · by_cases z : q = 3
      · subst z
        rw [bg_put_s]
        exact ⟨fun i hi => absurd hi (Nat.not_lt_zero i), fun i hi => absurd hi (Nat.not_lt_zero i)⟩
      · rw [bg_put_n z]; exact y10 q hq
    · rw [bg_put_s] at he; exact absurd he (Nat.not_lt_zero e)
    · rw [bg_put_n (by omega)]; exact (pk_un (by omega)).trans (y14 p hp)
theorem i_vc_load {k : Nat} {u : SX} {v : SY} (I : i_Rel k u v) (hk : k + 4 ≤ 2048) (v1 : Int32) (v2 : Int32) : wpX_load (fun r u' => wpY_load (fun r' v' => r' = r ∧ i_Rel (k + 4) u' v') v v1 v2) u v1 v2 := by
  have J : ∀ k', i_Rel k' u v := fun _ => I
  obtain ⟨bk, P, es, ss, h, pc, sc, M, g, pl, so, oc, W, X, Y⟩ := I
  obtain ⟨xph, xkh, xes, xem, xss, xsm, xdb, xfo, xco, xst, xen, xlo, xrg, xpn, xkr, xkp, xeK, xeX, xeY, xeR, xeV, xeS, xsK, xsA, xsB, xsX, xsY, xsS, xpB, xpS, xfS, xfT, xfB⟩ := u
  obtain ⟨ydp, ypd, yhi, yoh, yop, ynx, yba, yca, yed, ysp, ysK, ysR, ysN, ysA, ysB, ysX, ysY, ysz, yeK, yeL, yeR, yeM, yct, yeV, ytS, ytP, yrg, ypn, yog, yoq, yoN, yoT, yoB⟩ := v
  unfold wpX_load wpY_load
  rcases gr_cases v1 6 with o | ⟨j, hj, rfl⟩
  · exact gx_isR0 o (br_t rfl (gy_isR0 o (br_t rfl ⟨rfl, J _⟩)))
  · obtain ⟨x1, x2, x3, x4, x5, x6, x7, x8, x9, x10, x11⟩ := X
    obtain ⟨y1, y2, y3, y4, y5, y6, y7, y8, y9, y10⟩ := Y
    have hin : vp_in (nI j) 6 := vp_in_nI hj (by decide)
    exact gx_isR1 hj (br_f (by decide) ⟨hin, nm_e (gy_isR1 hj (br_f (by decide) ⟨hin, nm_e ⟨rfl, bk, P, es, ss, h, pc, sc, M, upd g (nI j).toNatClampNeg v2, pl, so, oc, W, ⟨x1, x2, x3, x4, x5, x6, x7, x8, by rw [x9], x10, x11⟩, ⟨y1, y2, y3, y4, y5, y6, y7, by rw [y8], y9, y10⟩⟩⟩))⟩)
theorem i_vc_outcome {k : Nat} {u : SX} {v : SY} (I : i_Rel k u v) (hk : k + 4 ≤ 2048) : wpX_outcome (fun r => wpY_outcome (fun r' => r' = r ∧ i_Rel (k + 4) u v) v) u := by
  have J : ∀ k', i_Rel k' u v := fun _ => I
  obtain ⟨bk, P, es, ss, h, pc, sc, M, g, pl, so, oc, W, X, Y⟩ := I
  obtain ⟨xph, xkh, xes, xem, xss, xsm, xdb, xfo, xco, xst, xen, xlo, xrg, xpn, xkr, xkp, xeK, xeX, xeY, xeR, xeV, xeS, xsK, xsA, xsB, xsX, xsY, xsS, xpB, xpS, xfS, xfT, xfB⟩ := u
  obtain ⟨ydp, ypd, yhi, yoh, yop, ynx, yba, yca, yed, ysp, ysK, ysR, ysN, ysA, ysB, ysX, ysY, ysz, yeK, yeL, yeR, yeM, yct, yeV, ytS, ytP, yrg, ypn, yog, yoq, yoN, yoT, yoB⟩ := v
  exact ⟨Y.2.2.2.2.2.2.1.trans X.2.2.2.2.2.2.2.1.symm, J _⟩
theorem i_vc_look {k : Nat} {u : SX} {v : SY} (I : i_Rel k u v) (hk : k + 4 ≤ 2048) (v1 : Int32) : wpX_look (fun r => wpY_look (fun r' => r' = r ∧ i_Rel (k + 4) u v) v v1) u v1 := by
  have J : ∀ k', i_Rel k' u v := fun _ => I
  obtain ⟨bk, P, es, ss, h, pc, sc, M, g, pl, so, oc, W, X, Y⟩ := I
  obtain ⟨xph, xkh, xes, xem, xss, xsm, xdb, xfo, xco, xst, xen, xlo, xrg, xpn, xkr, xkp, xeK, xeX, xeY, xeR, xeV, xeS, xsK, xsA, xsB, xsX, xsY, xsS, xpB, xpS, xfS, xfT, xfB⟩ := u
  obtain ⟨ydp, ypd, yhi, yoh, yop, ynx, yba, yca, yed, ysp, ysK, ysR, ysN, ysA, ysB, ysX, ysY, ysz, yeK, yeL, yeR, yeM, yct, yeV, ytS, ytP, yrg, ypn, yog, yoq, yoN, yoT, yoB⟩ := v
  unfold wpX_look wpY_look
  rcases gr_cases v1 6 with o | ⟨j, hj, rfl⟩
  · exact gx_isR0 o (br_t rfl (gy_isR0 o (br_t rfl ⟨rfl, J _⟩)))
  · have hin : vp_in (nI j) 6 := vp_in_nI hj (by decide)
    have e : yrg = xrg := Y.2.2.2.2.2.2.2.1.trans X.2.2.2.2.2.2.2.2.1.symm
    exact gx_isR1 hj (br_f (by decide) ⟨hin, gy_isR1 hj (br_f (by decide) ⟨hin, by rw [e], J _⟩)⟩)
theorem i_vc_pile {k : Nat} {u : SX} {v : SY} (I : i_Rel k u v) (hk : k + 4 ≤ 2048) : wpX_pile (fun r => wpY_pile (fun r' => r' = r ∧ i_Rel (k + 4) u v) v) u := by
  have J : ∀ k', i_Rel k' u v := fun _ => I
  obtain ⟨bk, P, es, ss, h, pc, sc, M, g, pl, so, oc, W, X, Y⟩ := I
  obtain ⟨xph, xkh, xes, xem, xss, xsm, xdb, xfo, xco, xst, xen, xlo, xrg, xpn, xkr, xkp, xeK, xeX, xeY, xeR, xeV, xeS, xsK, xsA, xsB, xsX, xsY, xsS, xpB, xpS, xfS, xfT, xfB⟩ := u
  obtain ⟨ydp, ypd, yhi, yoh, yop, ynx, yba, yca, yed, ysp, ysK, ysR, ysN, ysA, ysB, ysX, ysY, ysz, yeK, yeL, yeR, yeM, yct, yeV, ytS, ytP, yrg, ypn, yog, yoq, yoN, yoT, yoB⟩ := v
  exact ⟨Y.1.trans X.1.symm, J _⟩
theorem i_vc_onPile {k : Nat} {u : SX} {v : SY} (I : i_Rel k u v) (hk : k + 4 ≤ 2048) (v1 : Int32) : wpX_onPile (fun r => wpY_onPile (fun r' => r' = r ∧ i_Rel (k + 4) u v) v v1) u v1 := by
  have J : ∀ k', i_Rel k' u v := fun _ => I
  obtain ⟨bk, P, es, ss, h, pc, sc, M, g, pl, so, oc, W, X, Y⟩ := I
  have h12 := W.2.2.2.2.2.2.2.2
  obtain ⟨xph, xkh, xes, xem, xss, xsm, xdb, xfo, xco, xst, xen, xlo, xrg, xpn, xkr, xkp, xeK, xeX, xeY, xeR, xeV, xeS, xsK, xsA, xsB, xsX, xsY, xsS, xpB, xpS, xfS, xfT, xfB⟩ := u
  obtain ⟨ydp, ypd, yhi, yoh, yop, ynx, yba, yca, yed, ysp, ysK, ysR, ysN, ysA, ysB, ysX, ysY, ysz, yeK, yeL, yeR, yeM, yct, yeV, ytS, ytP, yrg, ypn, yog, yoq, yoN, yoT, yoB⟩ := v
  have e1 : xph = nI h := X.1
  have f1 : yhi = nI h := Y.1
  have e2 : ypn = xpn := Y.2.2.2.2.2.2.2.2.1.trans X.2.2.2.2.2.2.2.2.2.1.symm
  subst e1 f1 e2
  rcases pk_ix v1 (n := h) (by omega) with o | o | ⟨j, hj, rfl⟩
  · exact br_t o (br_t o ⟨rfl, J _⟩)
  · exact br_f (gr_nneg o (by omega)) (br_t o (br_f (gr_nneg o (by omega)) (br_f (Int32.not_lt.mpr o) ⟨rfl, J _⟩)))
  · have ei : nI h - 1 - nI j = nI (h - 1 - j) := by
      show nI h - nI 1 - nI j = _
      rw [pk_sub (by omega), pk_sub (by omega)]
    have hin : vp_in (nI h - 1 - nI j) 12 := by rw [ei]; exact vp_in_nI (by omega) (by decide)
    exact br_f (nI_pos (by omega)) (br_f (nI_ge hj (by omega)) ⟨hin, br_f (nI_pos (by omega)) (br_t (nI_lt hj (by omega)) ⟨hin, rfl, J _⟩)⟩)
theorem i_vc_steps {k : Nat} {u : SX} {v : SY} (I : i_Rel k u v) (hk : k + 4 ≤ 2048) : wpX_steps (fun r => wpY_steps (fun r' => r' = r ∧ i_Rel (k + 4) u v) v) u := by
  have J : ∀ k', i_Rel k' u v := fun _ => I
  obtain ⟨bk, P, es, ss, h, pc, sc, M, g, pl, so, oc, W, X, Y⟩ := I
  obtain ⟨xph, xkh, xes, xem, xss, xsm, xdb, xfo, xco, xst, xen, xlo, xrg, xpn, xkr, xkp, xeK, xeX, xeY, xeR, xeV, xeS, xsK, xsA, xsB, xsX, xsY, xsS, xpB, xpS, xfS, xfT, xfB⟩ := u
  obtain ⟨ydp, ypd, yhi, yoh, yop, ynx, yba, yca, yed, ysp, ysK, ysR, ysN, ysA, ysB, ysX, ysY, ysz, yeK, yeL, yeR, yeM, yct, yeV, ytS, ytP, yrg, ypn, yog, yoq, yoN, yoT, yoB⟩ := v
  exact ⟨Y.2.2.2.2.2.1.trans X.2.2.2.2.2.2.1.symm, J _⟩
