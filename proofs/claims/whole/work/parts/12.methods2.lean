/-! The other small methods -/
theorem gx_62_0 {post : Int32 → Prop} {x : Int32} (h : gr_out 6 x) (H : post 0) : wX_isGoodSimple_62 post x := by
  unfold wX_isGoodSimple_62
  exact gx_isR0 h ⟨rfl, H⟩
theorem gx_62_1 {post : Int32 → Prop} {j : Nat} (h : j < 6) (H : post 1) : wX_isGoodSimple_62 post (nI j) := by
  unfold wX_isGoodSimple_62
  exact gx_isR1 h ⟨rfl, H⟩
theorem gx_67_0 {post : Int32 → Prop} {x : Int32} (h : gr_out 3 x) (H : post 0) : wX_isGoodSimple_67 post x := by
  unfold wX_isGoodSimple_67
  exact gx_isP0 h ⟨rfl, H⟩
theorem gx_67_1 {post : Int32 → Prop} {j : Nat} (h : j < 3) (H : post 1) : wX_isGoodSimple_67 post (nI j) := by
  unfold wX_isGoodSimple_67
  exact gx_isP1 h ⟨rfl, H⟩
/-- simple: refused on both sides, or taken on both -/
theorem gs_dec (v1 v2 v3 : Int32) :
    ((∀ post : Int32 → Prop, post 0 → wpX_isGoodSimple post v1 v2 v3) ∧ (∀ (post : Int32 → Prop) (v : SY), post 1 → wpY_badSimple post v v1 v2 v3)) ∨
    (∃ o, o ≤ 5 ∧ v1 = nI o ∧ (o = 1 ∨ o = 2 ∨ o = 3 → ∃ r, r < 6 ∧ v2 = nI r) ∧ (o = 1 → ∃ r, r < 6 ∧ v3 = nI r) ∧ (o = 4 ∨ o = 5 → ∃ p, p < 3 ∧ v3 = nI p) ∧
      (∀ post : Int32 → Prop, post 1 → wpX_isGoodSimple post v1 v2 v3) ∧ (∀ (post : Int32 → Prop) (v : SY), post 0 → wpY_badSimple post v v1 v2 v3)) := by
  rcases gr_cases v1 6 with o | ⟨o, ho, rfl⟩
  · refine Or.inl ⟨fun post H => ?_, fun post v H => ?_⟩
    · rcases o with o | o
      · exact br_t o H
      · exact br_f (gr_nneg o (by decide)) (br_t (Int32.lt_of_lt_of_le (show (5 : Int32) < nI 6 by decide) o) H)
    · obtain ⟨ydp, ypd, yhi, yoh, yop, ynx, yba, yca, yed, ysp, ysK, ysR, ysN, ysA, ysB, ysX, ysY, ysz, yeK, yeL, yeR, yeM, yct, yeV, ytS, ytP, yrg, ypn, yog, yoq, yoN, yoT, yoB⟩ := v
      rcases o with o | o
      · exact br_t o H
      · exact br_f (gr_nneg o (by decide)) (br_f (Int32.not_le.mpr (Int32.lt_of_lt_of_le (show (5 : Int32) < nI 6 by decide) o)) H)
  have h6 : o = 0 ∨ o = 1 ∨ o = 2 ∨ o = 3 ∨ o = 4 ∨ o = 5 := by omega
  rcases h6 with rfl | rfl | rfl | rfl | rfl | rfl
  · refine Or.inr ⟨0, by decide, rfl, fun z => by omega, fun z => by omega, fun z => by omega, fun post H => ?_, fun post v H => ?_⟩
    · exact br_f (by decide) (br_f (by decide) (br_t rfl H))
    · obtain ⟨ydp, ypd, yhi, yoh, yop, ynx, yba, yca, yed, ysp, ysK, ysR, ysN, ysA, ysB, ysX, ysY, ysz, yeK, yeL, yeR, yeM, yct, yeV, ytS, ytP, yrg, ypn, yog, yoq, yoN, yoT, yoB⟩ := v
      exact br_f (by decide) (br_t (by decide) (br_t (by decide) (br_f (by decide) (br_t (by decide) H))))
  · rcases gr_cases v2 6 with a | ⟨r, hr, rfl⟩
    · refine Or.inl ⟨fun post H => ?_, fun post v H => ?_⟩
      · exact br_f (by decide) (br_f (by decide) (br_f (by decide) (br_t rfl (gx_isR0 a (br_t rfl H)))))
      · obtain ⟨ydp, ypd, yhi, yoh, yop, ynx, yba, yca, yed, ysp, ysK, ysR, ysN, ysA, ysB, ysX, ysY, ysz, yeK, yeL, yeR, yeM, yct, yeV, ytS, ytP, yrg, ypn, yog, yoq, yoN, yoT, yoB⟩ := v
        exact br_f (by decide) (br_t (by decide) (br_f (by decide) (br_f (by decide) (gy_isR0 a (br_t rfl H)))))
    · rcases gr_cases v3 6 with b | ⟨s, hs, rfl⟩
      · refine Or.inl ⟨fun post H => ?_, fun post v H => ?_⟩
        · exact br_f (by decide) (br_f (by decide) (br_f (by decide) (br_t rfl (gx_isR1 hr (br_f (by decide) (gx_isR0 b (br_t rfl H)))))))
        · obtain ⟨ydp, ypd, yhi, yoh, yop, ynx, yba, yca, yed, ysp, ysK, ysR, ysN, ysA, ysB, ysX, ysY, ysz, yeK, yeL, yeR, yeM, yct, yeV, ytS, ytP, yrg, ypn, yog, yoq, yoN, yoT, yoB⟩ := v
          exact br_f (by decide) (br_t (by decide) (br_f (by decide) (br_f (by decide) (gy_isR1 hr (br_f (by decide) (br_t rfl (gy_isR0 b (br_t rfl H))))))))
      · refine Or.inr ⟨1, by decide, rfl, fun _ => ⟨r, hr, rfl⟩, fun _ => ⟨s, hs, rfl⟩, fun z => by omega, fun post H => ?_, fun post v H => ?_⟩
        · exact br_f (by decide) (br_f (by decide) (br_f (by decide) (br_t rfl (gx_isR1 hr (br_f (by decide) (gx_isR1 hs (br_f (by decide) H)))))))
        · obtain ⟨ydp, ypd, yhi, yoh, yop, ynx, yba, yca, yed, ysp, ysK, ysR, ysN, ysA, ysB, ysX, ysY, ysz, yeK, yeL, yeR, yeM, yct, yeV, ytS, ytP, yrg, ypn, yog, yoq, yoN, yoT, yoB⟩ := v
          exact br_f (by decide) (br_t (by decide) (br_f (by decide) (br_f (by decide) (gy_isR1 hr (br_f (by decide) (br_t rfl (gy_isR1 hs (br_f (by decide) H))))))))
  · rcases gr_cases v2 6 with a | ⟨r, hr, rfl⟩
    · refine Or.inl ⟨fun post H => ?_, fun post v H => ?_⟩
      · exact br_f (by decide) (br_f (by decide) (br_f (by decide) (br_f (by decide) (br_t rfl (gx_62_0 a H)))))
      · obtain ⟨ydp, ypd, yhi, yoh, yop, ynx, yba, yca, yed, ysp, ysK, ysR, ysN, ysA, ysB, ysX, ysY, ysz, yeK, yeL, yeR, yeM, yct, yeV, ytS, ytP, yrg, ypn, yog, yoq, yoN, yoT, yoB⟩ := v
        exact br_f (by decide) (br_t (by decide) (br_f (by decide) (br_f (by decide) (gy_isR0 a (br_t rfl H)))))
    · refine Or.inr ⟨2, by decide, rfl, fun _ => ⟨r, hr, rfl⟩, fun z => by omega, fun z => by omega, fun post H => ?_, fun post v H => ?_⟩
      · exact br_f (by decide) (br_f (by decide) (br_f (by decide) (br_f (by decide) (br_t rfl (gx_62_1 hr H)))))
      · obtain ⟨ydp, ypd, yhi, yoh, yop, ynx, yba, yca, yed, ysp, ysK, ysR, ysN, ysA, ysB, ysX, ysY, ysz, yeK, yeL, yeR, yeM, yct, yeV, ytS, ytP, yrg, ypn, yog, yoq, yoN, yoT, yoB⟩ := v
        exact br_f (by decide) (br_t (by decide) (br_f (by decide) (br_f (by decide) (gy_isR1 hr (br_f (by decide) (br_f (by decide) (br_t (by decide) H)))))))
  · rcases gr_cases v2 6 with a | ⟨r, hr, rfl⟩
    · refine Or.inl ⟨fun post H => ?_, fun post v H => ?_⟩
      · exact br_f (by decide) (br_f (by decide) (br_f (by decide) (br_f (by decide) (br_f (by decide) (br_t rfl (gx_62_0 a H))))))
      · obtain ⟨ydp, ypd, yhi, yoh, yop, ynx, yba, yca, yed, ysp, ysK, ysR, ysN, ysA, ysB, ysX, ysY, ysz, yeK, yeL, yeR, yeM, yct, yeV, ytS, ytP, yrg, ypn, yog, yoq, yoN, yoT, yoB⟩ := v
        exact br_f (by decide) (br_t (by decide) (br_f (by decide) (br_f (by decide) (gy_isR0 a (br_t rfl H)))))
    · refine Or.inr ⟨3, by decide, rfl, fun _ => ⟨r, hr, rfl⟩, fun z => by omega, fun z => by omega, fun post H => ?_, fun post v H => ?_⟩
      · exact br_f (by decide) (br_f (by decide) (br_f (by decide) (br_f (by decide) (br_f (by decide) (br_t rfl (gx_62_1 hr H))))))
      · obtain ⟨ydp, ypd, yhi, yoh, yop, ynx, yba, yca, yed, ysp, ysK, ysR, ysN, ysA, ysB, ysX, ysY, ysz, yeK, yeL, yeR, yeM, yct, yeV, ytS, ytP, yrg, ypn, yog, yoq, yoN, yoT, yoB⟩ := v
        exact br_f (by decide) (br_t (by decide) (br_f (by decide) (br_f (by decide) (gy_isR1 hr (br_f (by decide) (br_f (by decide) (br_t (by decide) H)))))))
  · rcases gr_cases v3 3 with b | ⟨s, hs, rfl⟩
    · refine Or.inl ⟨fun post H => ?_, fun post v H => ?_⟩
      · exact br_f (by decide) (br_f (by decide) (br_f (by decide) (br_f (by decide) (br_f (by decide) (br_f (by decide) (br_t rfl (gx_67_0 b H)))))))
      · obtain ⟨ydp, ypd, yhi, yoh, yop, ynx, yba, yca, yed, ysp, ysK, ysR, ysN, ysA, ysB, ysX, ysY, ysz, yeK, yeL, yeR, yeM, yct, yeV, ytS, ytP, yrg, ypn, yog, yoq, yoN, yoT, yoB⟩ := v
        refine br_f (by decide) (br_t (by decide) (br_f (by decide) (br_t (by decide) (br_f (by decide) (br_f (by decide) ?_)))))
        rcases b with b | b
        · exact br_t b H
        · exact br_f (gr_nneg b (by decide)) (br_f (Int32.not_le.mpr (Int32.lt_of_lt_of_le (show (2 : Int32) < nI 3 by decide) b)) H)
    · refine Or.inr ⟨4, by decide, rfl, fun z => by omega, fun z => by omega, fun _ => ⟨s, hs, rfl⟩, fun post H => ?_, fun post v H => ?_⟩
      · exact br_f (by decide) (br_f (by decide) (br_f (by decide) (br_f (by decide) (br_f (by decide) (br_f (by decide) (br_t rfl (gx_67_1 hs H)))))))
      · obtain ⟨ydp, ypd, yhi, yoh, yop, ynx, yba, yca, yed, ysp, ysK, ysR, ysN, ysA, ysB, ysX, ysY, ysz, yeK, yeL, yeR, yeM, yct, yeV, ytS, ytP, yrg, ypn, yog, yoq, yoN, yoT, yoB⟩ := v
        exact br_f (by decide) (br_t (by decide) (br_f (by decide) (br_t (by decide) (br_f (by decide) (br_f (by decide) (br_f (nI_pos (by omega)) (br_t (nI_le (b := 2) (by omega) (by decide)) H)))))))
  · rcases gr_cases v3 3 with b | ⟨s, hs, rfl⟩
    · refine Or.inl ⟨fun post H => ?_, fun post v H => ?_⟩
      · exact br_f (by decide) (br_f (by decide) (br_f (by decide) (br_f (by decide) (br_f (by decide) (br_f (by decide) (br_f (by decide) (br_t rfl (gx_67_0 b H))))))))
      · obtain ⟨ydp, ypd, yhi, yoh, yop, ynx, yba, yca, yed, ysp, ysK, ysR, ysN, ysA, ysB, ysX, ysY, ysz, yeK, yeL, yeR, yeM, yct, yeV, ytS, ytP, yrg, ypn, yog, yoq, yoN, yoT, yoB⟩ := v
        refine br_f (by decide) (br_t (by decide) (br_f (by decide) (br_t (by decide) (br_f (by decide) (br_f (by decide) ?_)))))
        rcases b with b | b
        · exact br_t b H
        · exact br_f (gr_nneg b (by decide)) (br_f (Int32.not_le.mpr (Int32.lt_of_lt_of_le (show (2 : Int32) < nI 3 by decide) b)) H)
    · refine Or.inr ⟨5, by decide, rfl, fun z => by omega, fun z => by omega, fun _ => ⟨s, hs, rfl⟩, fun post H => ?_, fun post v H => ?_⟩
      · exact br_f (by decide) (br_f (by decide) (br_f (by decide) (br_f (by decide) (br_f (by decide) (br_f (by decide) (br_f (by decide) (br_t rfl (gx_67_1 hs H))))))))
      · obtain ⟨ydp, ypd, yhi, yoh, yop, ynx, yba, yca, yed, ysp, ysK, ysR, ysN, ysA, ysB, ysX, ysY, ysz, yeK, yeL, yeR, yeM, yct, yeV, ytS, ytP, yrg, ypn, yog, yoq, yoN, yoT, yoB⟩ := v
        exact br_f (by decide) (br_t (by decide) (br_f (by decide) (br_t (by decide) (br_f (by decide) (br_f (by decide) (br_f (nI_pos (by omega)) (br_t (nI_le (b := 2) (by omega) (by decide)) H)))))))
theorem i_vc_simple {k : Nat} {u : SX} {v : SY} (I : i_Rel k u v) (hk : k + 4 ≤ 2048) (v1 : Int32) (v2 : Int32) (v3 : Int32) : wpX_simple (fun r u' => wpY_simple (fun r' v' => r' = r ∧ i_Rel (k + 4) u' v') v v1 v2 v3) u v1 v2 v3 := by
  have J : ∀ k', i_Rel k' u v := fun _ => I
  obtain ⟨bk, P, es, ss, h, pc, sc, M, g, pl, so, oc, W, X, Y⟩ := I
  have W1 := W.1
  have w6 := W.2.2.2.2.2.1
  have h16 := (W1 3 (by decide)).2.1
  obtain ⟨xph, xkh, xes, xem, xss, xsm, xdb, xfo, xco, xst, xen, xlo, xrg, xpn, xkr, xkp, xeK, xeX, xeY, xeR, xeV, xeS, xsK, xsA, xsB, xsX, xsY, xsS, xpB, xpS, xfS, xfT, xfB⟩ := u
  obtain ⟨ydp, ypd, yhi, yoh, yop, ynx, yba, yca, yed, ysp, ysK, ysR, ysN, ysA, ysB, ysX, ysY, ysz, yeK, yeL, yeR, yeM, yct, yeV, ytS, ytP, yrg, ypn, yog, yoq, yoN, yoT, yoB⟩ := v
  have e5 : xsm = nI (bf_sz (P 3)) := X.2.2.2.2.1
  have f5 : ysz 3 = nI (bf_sz (P 3)) := Y.2.2.2.2.1
  unfold wpX_simple wpY_simple
  rcases gs_dec v1 v2 v3 with ⟨bX, bY⟩ | ⟨o, ho, rfl, g1, g2, g3, gX, gY⟩
  · exact bX _ (br_t rfl (bY _ _ (br_f (by decide) ⟨rfl, J _⟩)))
  · refine gX _ (br_f (by decide) ?_)
    by_cases hc : bf_sz (P 3) < 16
    · refine br_t (by rw [e5]; exact nI_lt (b := 16) hc (by decide)) (gx_mkS (σ := (o, v2, v3, 0, 0, 0, 0)) W1 W.2.1 hc w6 X ⟨rfl, fun _ => ⟨rfl, rfl⟩, fun z => absurd z (by show ¬ 10 ≤ o; omega), fun z => absurd z (by show ¬ 6 ≤ o; omega), fun z => absurd z (by show ¬ 11 ≤ o; omega)⟩ (fun u' X' => ?_))
      obtain ⟨xph, xkh, xes, xem, xss, xsm, xdb, xfo, xco, xst, xen, xlo, xrg, xpn, xkr, xkp, xeK, xeX, xeY, xeR, xeV, xeS, xsK, xsA, xsB, xsX, xsY, xsS, xpB, xpS, xfS, xfT, xfB⟩ := u'
      refine gY _ _ (br_t rfl (br_f (by rw [f5]; exact bx_ne (b := 16) (by omega)) ?_))
      obtain ⟨rfl, rfl, rfl, y4, y5, rfl, rfl, rfl, rfl, y10, y11, y12, y13, y14⟩ := Y
      refine gy_mkS (σ := (o, v2, v3, 0, 0, 0, 0)) (fun q hq => (W1 q hq).2) hc w6 y4 y5 y10 y11 y12 y13 y14 (fun _ _ => rfl) (fun _ _ => rfl) (fun _ _ => rfl) (fun _ _ => rfl) ⟨rfl, fun _ => ⟨rfl, rfl⟩, fun z => absurd z (by show ¬ 10 ≤ o; omega), fun z => absurd z (by show ¬ 6 ≤ o; omega), fun z => absurd z (by show ¬ 11 ≤ o; omega)⟩ (fun v' Y' => ?_)
      obtain ⟨ydp, ypd, yhi, yoh, yop, ynx, yba, yca, yed, ysp, ysK, ysR, ysN, ysA, ysB, ysX, ysY, ysz, yeK, yeL, yeR, yeM, yct, yeV, ytS, ytP, yrg, ypn, yog, yoq, yoN, yoT, yoB⟩ := v'
      exact ⟨rfl, _, _, _, _, _, _, _, _, _, _, _, _, bg_W_S W1 W.2.1 W.2.2.1 W.2.2.2.1 W.2.2.2.2.1 w6 W.2.2.2.2.2.2.1 W.2.2.2.2.2.2.2.2 hc (bg_wS_new ⟨by show o ≤ 12; omega, fun z => g1 (by have z : o = 1 ∨ o = 2 ∨ o = 3 ∨ o = 6 ∨ o = 7 ∨ o = 8 := z; omega), g2, g3, fun z => absurd z (by show ¬ 6 ≤ o; omega), fun z => absurd z (by show ¬ 11 ≤ o; omega), fun z => absurd z (by show ¬ 10 ≤ o; omega)⟩), X', Y'⟩
    · exact br_f (by rw [e5]; exact nI_nlt (b := 16) (by omega) (by omega)) (gY _ _ (br_t rfl (br_t (by rw [f5, show bf_sz (P 3) = 16 by omega]; rfl) ⟨rfl, J _⟩)))
theorem i_vc_seq {k : Nat} {u : SX} {v : SY} (I : i_Rel k u v) (hk : k + 4 ≤ 2048) : wpX_seq (fun r u' => wpY_seq (fun r' v' => r' = r ∧ i_Rel (k + 4) u' v') v) u := by
  have J : ∀ k', i_Rel k' u v := fun _ => I
  obtain ⟨bk, P, es, ss, h, pc, sc, M, g, pl, so, oc, W, X, Y⟩ := I
  have W1 := W.1
  have w6 := W.2.2.2.2.2.1
  have w7 := W.2.2.2.2.2.2.1
  have h16 := (W1 3 (by decide)).2.1
  obtain ⟨xph, xkh, xes, xem, xss, xsm, xdb, xfo, xco, xst, xen, xlo, xrg, xpn, xkr, xkp, xeK, xeX, xeY, xeR, xeV, xeS, xsK, xsA, xsB, xsX, xsY, xsS, xpB, xpS, xfS, xfT, xfB⟩ := u
  obtain ⟨ydp, ypd, yhi, yoh, yop, ynx, yba, yca, yed, ysp, ysK, ysR, ysN, ysA, ysB, ysX, ysY, ysz, yeK, yeL, yeR, yeM, yct, yeV, ytS, ytP, yrg, ypn, yog, yoq, yoN, yoT, yoB⟩ := v
  have e4 : xss = nI ss := X.2.2.2.1
  have e5 : xsm = nI (bf_sz (P 3)) := X.2.2.2.2.1
  have f3 : ydp = nI ss := Y.2.2.1
  have f5 : ysz 3 = nI (bf_sz (P 3)) := Y.2.2.2.2.1
  by_cases hc : bf_sz (P 3) < 16
  · by_cases h2 : 2 ≤ ss
    · obtain ⟨s, rfl⟩ : ∃ s, ss = s + 1 + 1 := ⟨ss - 2, by omega⟩
      have p0 := w7 s (by omega)
      have p1 := w7 (s + 1) (by omega)
      refine br_t (by rw [e5]; exact nI_lt (b := 16) hc (by decide)) (br_t (by rw [e4]; exact nI_le (a := 2) h2 (by omega)) (gx_takeS X (by omega) (fun u1 X1 => ?_)))
      obtain ⟨xph, xkh, xes, xem, xss, xsm, xdb, xfo, xco, xst, xen, xlo, xrg, xpn, xkr, xkp, xeK, xeX, xeY, xeR, xeV, xeS, xsK, xsA, xsB, xsX, xsY, xsS, xpB, xpS, xfS, xfT, xfB⟩ := u1
      refine gx_takeS X1 (by omega) (fun u2 X2 => ?_)
      obtain ⟨xph, xkh, xes, xem, xss, xsm, xdb, xfo, xco, xst, xen, xlo, xrg, xpn, xkr, xkp, xeK, xeX, xeY, xeR, xeV, xeS, xsK, xsA, xsB, xsX, xsY, xsS, xpB, xpS, xfS, xfT, xfB⟩ := u2
      refine gx_mkS (σ := (10, 0, 0, sc s, sc (s + 1), 0, 0)) W1 W.2.1 hc (by omega) X2 ⟨rfl, fun z => absurd z (by simp), fun _ => ⟨rfl, rfl⟩, fun _ z => absurd rfl z, fun z => absurd z (by simp)⟩ (fun u' X' => ?_)
      obtain ⟨xph, xkh, xes, xem, xss, xsm, xdb, xfo, xco, xst, xen, xlo, xrg, xpn, xkr, xkp, xeK, xeX, xeY, xeR, xeV, xeS, xsK, xsA, xsB, xsX, xsY, xsS, xpB, xpS, xfS, xfT, xfB⟩ := u'
      obtain ⟨rfl, rfl, rfl, y4, y5, rfl, rfl, rfl, rfl, y10, y11, y12, y13, y14⟩ := Y
      have ei : (48 : Int32) + ysz 3 = nI (48 + bf_sz (P 3)) := by rw [y5]; exact nI_add 48 _
      have hi4 : vp_in ((48 : Int32) + ysz 3) 64 := by rw [ei]; exact vp_in_nI (by omega) (by decide)
      have hc4 : ((48 : Int32) + ysz 3).toNatClampNeg = 48 + bf_sz (P 3) := by rw [ei]; exact nI_clamp (by omega)
      have q0 : ytS (nI s).toNatClampNeg = nI (sc s) := by rw [nI_clamp (by omega)]; exact y13 s (by omega)
      have q1 : ytS (nI s + 1).toNatClampNeg = nI (sc (s + 1)) := by rw [nI_1, nI_clamp (by omega)]; exact y13 (s + 1) (by omega)
      refine br_f (by rw [y5]; exact bx_ne (b := 16) (by omega)) (br_t (nI_le (a := 2) h2 (by omega)) (nm_r (e' := nI s) (pk_sub (a := s + 1 + 1) (b := 2) (by omega)) ⟨vp_in_nI (by omega) (by decide), hi4, nm_r (e' := upd ysA (48 + bf_sz (P 3)) (nI (sc s))) (by rw [hc4, q0]) ⟨by rw [nI_1]; exact vp_in_nI (by omega) (by decide), hi4, nm_r (e' := upd ysB (48 + bf_sz (P 3)) (nI (sc (s + 1)))) (by rw [hc4, q1]) ?_⟩⟩))
      refine gy_mkS (σ := (10, 0, 0, sc s, sc (s + 1), 0, 0)) (ss := s) (fun q hq => (W1 q hq).2) hc (by omega) y4 y5 y10 y11 y12 (fun j hj => y13 j (by omega)) y14 (fun _ z => pk_un z) (fun _ z => pk_un z) (fun _ _ => rfl) (fun _ _ => rfl) ⟨rfl, fun z => absurd z (by simp), fun _ => ⟨pk_us, pk_us⟩, fun _ z => absurd rfl z, fun z => absurd z (by simp)⟩ (fun v' Y' => ?_)
      obtain ⟨ydp, ypd, yhi, yoh, yop, ynx, yba, yca, yed, ysp, ysK, ysR, ysN, ysA, ysB, ysX, ysY, ysz, yeK, yeL, yeR, yeM, yct, yeV, ytS, ytP, yrg, ypn, yog, yoq, yoN, yoT, yoB⟩ := v'
      exact ⟨rfl, _, _, _, _, _, _, _, _, _, _, _, _, bg_W_S W1 W.2.1 W.2.2.1 W.2.2.2.1 W.2.2.2.2.1 (by omega) (fun j hj => w7 j (by omega)) W.2.2.2.2.2.2.2.2 hc (bg_wS_new ⟨by simp, fun z => absurd z (by simp), fun z => absurd z (by simp), fun z => absurd z (by simp), fun _ z => absurd rfl z, fun z => absurd z (by simp), fun _ => ⟨p0, p1⟩⟩), X', Y'⟩
    · exact br_t (by rw [e5]; exact nI_lt (b := 16) hc (by decide)) (br_f (by rw [e4]; exact nI_ge (b := 2) (by omega) (by decide)) (br_f (by rw [f5]; exact bx_ne (b := 16) (by omega)) (br_f (by rw [f3]; exact nI_ge (b := 2) (by omega) (by decide)) ⟨rfl, J _⟩)))
  · exact br_f (by rw [e5]; exact nI_nlt (b := 16) (by omega) (by omega)) (br_t (by rw [f5, show bf_sz (P 3) = 16 by omega]; rfl) ⟨rfl, J _⟩)
theorem i_vc_tested {k : Nat} {u : SX} {v : SY} (I : i_Rel k u v) (hk : k + 4 ≤ 2048) (v1 : Int32) : wpX_tested (fun r u' => wpY_tested (fun r' v' => r' = r ∧ i_Rel (k + 4) u' v') v v1) u v1 := by
  have J : ∀ k', i_Rel k' u v := fun _ => I
  obtain ⟨bk, P, es, ss, h, pc, sc, M, g, pl, so, oc, W, X, Y⟩ := I
  have W1 := W.1
  have w4 := W.2.2.2.1
  have w5 := W.2.2.2.2.1
  have w6 := W.2.2.2.2.2.1
  have w7 := W.2.2.2.2.2.2.1
  have h16 := (W1 3 (by decide)).2.1
  have h24 := (W1 3 (by decide)).2.2.1
  obtain ⟨xph, xkh, xes, xem, xss, xsm, xdb, xfo, xco, xst, xen, xlo, xrg, xpn, xkr, xkp, xeK, xeX, xeY, xeR, xeV, xeS, xsK, xsA, xsB, xsX, xsY, xsS, xpB, xpS, xfS, xfT, xfB⟩ := u
  obtain ⟨ydp, ypd, yhi, yoh, yop, ynx, yba, yca, yed, ysp, ysK, ysR, ysN, ysA, ysB, ysX, ysY, ysz, yeK, yeL, yeR, yeM, yct, yeV, ytS, ytP, yrg, ypn, yog, yoq, yoN, yoT, yoB⟩ := v
  have e2 : xes = nI es := X.2.1
  have e4 : xss = nI ss := X.2.2.2.1
  have e5 : xsm = nI (bf_sz (P 3)) := X.2.2.2.2.1
  have f2 : ypd = nI es := Y.2.1
  have f3 : ydp = nI ss := Y.2.2.1
  have f5 : ysz 3 = nI (bf_sz (P 3)) := Y.2.2.2.2.1
  rcases gr_cases v1 2 with b | ⟨o, ho, rfl⟩
  · have n0 : ¬ v1 = 0 := by
      rintro rfl
      rcases b with b | b
      · exact absurd b (by decide)
      · exact absurd b (by decide)
    have n1 : ¬ v1 = 1 := by
      rintro rfl
      rcases b with b | b
      · exact absurd b (by decide)
      · exact absurd b (by decide)
    refine br_f n0 (br_f n1 ?_)
    rcases b with b | b
    · exact br_t b ⟨rfl, J _⟩
    · exact br_f (gr_nneg b (by decide)) (br_f (Int32.not_le.mpr (Int32.lt_of_lt_of_le (show (1 : Int32) < nI 2 by decide) b)) ⟨rfl, J _⟩)
  have go : ∀ {post : Int32 → SX → Prop}, wX_tested_11 post (nI o) xph xkh xes xem xss xsm xdb xfo xco xst xen xlo xrg xpn xkr xkp xeK xeX xeY xeR xeV xeS xsK xsA xsB xsX xsY xsS xpB xpS xfS xfT xfB → wpX_tested post (xph, xkh, xes, xem, xss, xsm, xdb, xfo, xco, xst, xen, xlo, xrg, xpn, xkr, xkp, xeK, xeX, xeY, xeR, xeV, xeS, xsK, xsA, xsB, xsX, xsY, xsS, xpB, xpS, xfS, xfT, xfB) (nI o) := by
    intro post H
    have h2 : o = 0 ∨ o = 1 := by omega
    rcases h2 with rfl | rfl
    · exact br_t rfl H
    · exact br_f (by decide) (br_t rfl H)
  refine go ?_
  have yc1 : ¬ nI o < 0 := nI_pos (by omega)
  have yc2 : nI o ≤ 1 := nI_le (b := 1) (by omega) (by decide)
  by_cases hc : bf_sz (P 3) < 16
  · by_cases hs2 : 2 ≤ ss
    · by_cases he2 : 2 ≤ es
      · obtain ⟨s, rfl⟩ : ∃ s, ss = s + 1 + 1 := ⟨ss - 2, by omega⟩
        obtain ⟨e, rfl⟩ : ∃ e, es = e + 1 + 1 := ⟨es - 2, by omega⟩
        have p0 := w7 s (by omega)
        have p1 := w7 (s + 1) (by omega)
        have p2 := w5 e (by omega)
        have p3 := w5 (e + 1) (by omega)
        refine br_t (by rw [e5]; exact nI_lt (b := 16) hc (by decide)) (br_f (by rw [e4]; exact nI_nlt (b := 2) (by omega) (by omega)) (br_t (by rw [e2]; exact nI_le (a := 2) he2 (by omega)) (gx_takeS X (by omega) (fun u1 X1 => ?_))))
        obtain ⟨xph, xkh, xes, xem, xss, xsm, xdb, xfo, xco, xst, xen, xlo, xrg, xpn, xkr, xkp, xeK, xeX, xeY, xeR, xeV, xeS, xsK, xsA, xsB, xsX, xsY, xsS, xpB, xpS, xfS, xfT, xfB⟩ := u1
        refine gx_takeS X1 (by omega) (fun u2 X2 => ?_)
        obtain ⟨xph, xkh, xes, xem, xss, xsm, xdb, xfo, xco, xst, xen, xlo, xrg, xpn, xkr, xkp, xeK, xeX, xeY, xeR, xeV, xeS, xsK, xsA, xsB, xsX, xsY, xsS, xpB, xpS, xfS, xfT, xfB⟩ := u2
        refine gx_takeE X2 (by omega) (fun u3 X3 => ?_)
        obtain ⟨xph, xkh, xes, xem, xss, xsm, xdb, xfo, xco, xst, xen, xlo, xrg, xpn, xkr, xkp, xeK, xeX, xeY, xeR, xeV, xeS, xsK, xsA, xsB, xsX, xsY, xsS, xpB, xpS, xfS, xfT, xfB⟩ := u3
        refine gx_takeE X3 (by omega) (fun u4 X4 => ?_)
        obtain ⟨xph, xkh, xes, xem, xss, xsm, xdb, xfo, xco, xst, xen, xlo, xrg, xpn, xkr, xkp, xeK, xeX, xeY, xeR, xeV, xeS, xsK, xsA, xsB, xsX, xsY, xsS, xpB, xpS, xfS, xfT, xfB⟩ := u4
        have eo : (11 : Int32) + nI o = nI (11 + o) := nI_add 11 o
        rw [eo]
        refine gx_mkS (σ := (11 + o, 0, 0, sc s, sc (s + 1), pc e, pc (e + 1))) W1 W.2.1 hc (by omega) X4 ⟨rfl, fun z => absurd z (by show ¬ 11 + o < 10; omega), fun _ => ⟨rfl, rfl⟩, fun _ _ => rfl, fun _ => rfl⟩ (fun u' X' => ?_)
        obtain ⟨xph, xkh, xes, xem, xss, xsm, xdb, xfo, xco, xst, xen, xlo, xrg, xpn, xkr, xkp, xeK, xeX, xeY, xeR, xeV, xeS, xsK, xsA, xsB, xsX, xsY, xsS, xpB, xpS, xfS, xfT, xfB⟩ := u'
        obtain ⟨rfl, rfl, rfl, y4, y5, rfl, rfl, rfl, rfl, y10, y11, y12, y13, y14⟩ := Y
        have ei : (48 : Int32) + ysz 3 = nI (48 + bf_sz (P 3)) := by rw [y5]; exact nI_add 48 _
        have hi4 : vp_in (nI (48 + bf_sz (P 3))) 64 := vp_in_nI (by omega) (by decide)
        have hc4 : (nI (48 + bf_sz (P 3))).toNatClampNeg = 48 + bf_sz (P 3) := nI_clamp (by omega)
        have q0 : ytS (nI s).toNatClampNeg = nI (sc s) := by rw [nI_clamp (by omega)]; exact y13 s (by omega)
        have q1 : ytS (nI s + 1).toNatClampNeg = nI (sc (s + 1)) := by rw [nI_1, nI_clamp (by omega)]; exact y13 (s + 1) (by omega)
        have q2 : ytP (nI e).toNatClampNeg = nI (pc e) := by rw [nI_clamp (by omega)]; exact y12 e (by omega)
        have q3 : ytP (nI e + 1).toNatClampNeg = nI (pc (e + 1)) := by rw [nI_1, nI_clamp (by omega)]; exact y12 (e + 1) (by omega)
        refine br_f yc1 (br_t yc2 (br_f (by rw [y5]; exact bx_ne (b := 16) (by omega)) (br_f (nI_nlt (b := 2) (by omega) (by omega)) (br_t (nI_le (a := 2) he2 (by omega)) (nm_r (e' := nI s) (pk_sub (a := s + 1 + 1) (b := 2) (by omega)) (nm_r (e' := nI e) (pk_sub (a := e + 1 + 1) (b := 2) (by omega)) (nm_r ei
          ⟨vp_in_nI (by omega) (by decide), hi4, nm_r (e' := upd ysA (48 + bf_sz (P 3)) (nI (sc s))) (by rw [hc4, q0]) ⟨by rw [nI_1]; exact vp_in_nI (by omega) (by decide), hi4, nm_r (e' := upd ysB (48 + bf_sz (P 3)) (nI (sc (s + 1)))) (by rw [hc4, q1])
          ⟨vp_in_nI (by omega) (by decide), hi4, nm_r (e' := upd ysX (48 + bf_sz (P 3)) (nI (pc e))) (by rw [hc4, q2]) ⟨by rw [nI_1]; exact vp_in_nI (by omega) (by decide), hi4, nm_r (e' := upd ysY (48 + bf_sz (P 3)) (nI (pc (e + 1)))) (by rw [hc4, q3]) ?_⟩⟩⟩⟩)))))))
        rw [eo]
        refine gy_mkS (σ := (11 + o, 0, 0, sc s, sc (s + 1), pc e, pc (e + 1))) (ss := s) (es := e) (fun q hq => (W1 q hq).2) hc (by omega) y4 y5 y10 y11 (fun j hj => y12 j (by omega)) (fun j hj => y13 j (by omega)) y14 (fun _ z => pk_un z) (fun _ z => pk_un z) (fun _ z => pk_un z) (fun _ z => pk_un z) ⟨rfl, fun z => absurd z (by show ¬ 11 + o < 10; omega), fun _ => ⟨pk_us, pk_us⟩, fun _ _ => pk_us, fun _ => pk_us⟩ (fun v' Y' => ?_)
        obtain ⟨ydp, ypd, yhi, yoh, yop, ynx, yba, yca, yed, ysp, ysK, ysR, ysN, ysA, ysB, ysX, ysY, ysz, yeK, yeL, yeR, yeM, yct, yeV, ytS, ytP, yrg, ypn, yog, yoq, yoN, yoT, yoB⟩ := v'
        refine ⟨rfl, _, _, _, _, _, _, _, _, _, _, _, _, bg_W_S W1 W.2.1 W.2.2.1 (by omega) (fun j hj => w5 j (by omega)) (by omega) (fun j hj => w7 j (by omega)) W.2.2.2.2.2.2.2.2 hc (bg_wS_new ⟨by show 11 + o ≤ 12; omega, fun z => ?_, fun z => ?_, fun z => ?_, fun _ _ => p2, fun _ => p3, fun _ => ⟨p0, p1⟩⟩), X', Y'⟩
        · have z : 11 + o = 1 ∨ 11 + o = 2 ∨ 11 + o = 3 ∨ 11 + o = 6 ∨ 11 + o = 7 ∨ 11 + o = 8 := z
          omega
        · have z : 11 + o = 1 := z
          omega
        · have z : 11 + o = 4 ∨ 11 + o = 5 := z
          omega
      · exact br_t (by rw [e5]; exact nI_lt (b := 16) hc (by decide)) (br_f (by rw [e4]; exact nI_nlt (b := 2) (by omega) (by omega)) (br_f (by rw [e2]; exact nI_ge (b := 2) (by omega) (by decide))
          (br_f yc1 (br_t yc2 (br_f (by rw [f5]; exact bx_ne (b := 16) (by omega)) (br_f (by rw [f3]; exact nI_nlt (b := 2) (by omega) (by omega)) (br_f (by rw [f2]; exact nI_ge (b := 2) (by omega) (by decide)) ⟨rfl, J _⟩)))))))
    · exact br_t (by rw [e5]; exact nI_lt (b := 16) hc (by decide)) (br_t (by rw [e4]; exact nI_lt (b := 2) (by omega) (by decide)) (br_f yc1 (br_t yc2 (br_f (by rw [f5]; exact bx_ne (b := 16) (by omega)) (br_t (by rw [f3]; exact nI_lt (b := 2) (by omega) (by decide)) ⟨rfl, J _⟩)))))
  · exact br_f (by rw [e5]; exact nI_nlt (b := 16) (by omega) (by omega)) (br_f yc1 (br_t yc2 (br_t (by rw [f5, show bf_sz (P 3) = 16 by omega]; rfl) ⟨rfl, J _⟩)))
