/-! The beginning, and run -/
/-- a run's first state -/
def gm_0 (P : Nat → bf_L) (g pl : Nat → Int32) (h p : Nat) (b : Int32) : bf_M := (g, pl, h, [(p, bf_sz (P p) - 1, 0, decide (b ≠ 0))], 0, 0, 0)
/-- what is left of its end -/
def gm_g (mf : bf_M) (g : Nat → Int32) : Nat → Int32 := if mf.2.2.2.2.2.2 = 0 then mf.1 else g
def gm_p (mf : bf_M) (pl : Nat → Int32) : Nat → Int32 := if mf.2.2.2.2.2.2 = 0 then mf.2.1 else pl
def gm_h (mf : bf_M) (h : Nat) : Nat := if mf.2.2.2.2.2.2 = 0 then mf.2.2.1 else h
theorem gm_W {P : Nat → bf_L} {g pl : Nat → Int32} {h p : Nat} {b : Int32} (hG : bf_G P) (hp : p < 3) (hh : h ≤ 12) : bf_W P g pl (gm_0 P g pl h p b) := by
  have h1 := (hG p hp).2
  have h2 := (hG p hp).1.1
  refine ⟨⟨⟨hp, ?_, Nat.zero_le _, fun _ z => absurd rfl z⟩, ?_, trivial, trivial⟩, (by show 0 = bf_cc P [(p, bf_sz (P p) - 1, 0, decide (b ≠ 0))]; rw [bf_cc_0]; rfl), Nat.zero_le _, Nat.zero_le _, hh, fun _ _ => rfl, fun _ _ => rfl, Nat.zero_le _⟩
  · show bf_sz (P p) - 1 < bf_sz (P p)
    omega
  · show 0 + (bf_sz (P p) - 1) < 16 * (0 + 1)
    omega
theorem gm_mu {P : Nat → bf_L} {g pl : Nat → Int32} {h p : Nat} {b : Int32} (hG : bf_G P) (hp : p < 3) : bf_mu (gm_0 P g pl h p b).2.2.2.2.2.1 (gm_0 P g pl h p b).2.2.2.1 < 60100 := by
  have h2 := (hG p hp).1.1
  show (300 - 0) * 200 + (bf_sz (P p) - 1 + 1) < 60100
  omega
theorem gx_run {post : Int32 → SX → Prop} {u : SX} {bk : Nat → Nat} {P : Nat → bf_L} {es ss h : Nat} {pc sc : Nat → Nat} {M g pl : Nat → Int32} {so oc : Int32} {p kk : Nat} {b : Int32} {mf : bf_M} (W : bg_W bk P es ss h pc sc) (X : bg_X bk P es ss h pc sc M g pl so oc u) (hp : p < 3) (hkk : kk < 60100)
    (hto : bf_to P kk (gm_0 P g pl h p b) mf) (Wf : bf_W P g pl mf)
    (H : ∀ u', bg_X bk P es ss (gm_h mf h) pc sc M (gm_g mf g) (gm_p mf pl) (nI mf.2.2.2.2.2.1) (nI mf.2.2.2.2.2.2) u' → post (nI mf.2.2.2.2.2.2) u') : wpX_run post u (nI p) b := by
  obtain ⟨xph, xkh, xes, xem, xss, xsm, xdb, xfo, xco, xst, xen, xlo, xrg, xpn, xkr, xkp, xeK, xeX, xeY, xeR, xeV, xeS, xsK, xsA, xsB, xsX, xsY, xsS, xpB, xpS, xfS, xfT, xfB⟩ := u
  obtain ⟨rfl, x2, x3, x4, x5, x6, x7, x8, rfl, rfl, x11, x12, x13, x14, x15⟩ := X
  have hP : bx_P bk P xeK xeX xeY xsK xsA xsB xsX xsY xpS := fun q hq => ⟨(W.1 q (by omega)).1, (W.1 q (by omega)).2, W.2.2.1 q hq, (x11 q (by omega)).1, (x11 q (by omega)).2, (x15 q hq).2⟩
  have W0 := gm_W (g := xrg) (pl := xpn) (h := h) (b := b) (bx_PG hP) hp W.2.2.2.2.2.2.2.2
  have hcp : (nI p).toNatClampNeg = p := nI_clamp (by omega)
  unfold wpX_run
  refine gx_isP1 hp ?_
  refine br_f (by decide) ?_
  refine bx_keep (fun kr kp hkr hkp => ?_)
  refine ⟨vp_in_nI hp (by decide), ?_⟩
  rw [hcp, (x15 p hp).2]
  have go : ∀ w : Bool, w = decide (b ≠ 0) → wX_run_49 post (bx_b w) (nI (16 * bk p + (bf_sz (P p) - 1))) (nI h) (nI h) xes xem xss xsm xdb 0 0 0 0 xlo xrg xpn kr kp xeK xeX xeY xeR xeV xeS xsK xsA xsB xsX xsY xsS xpB xpS xfS xfT xfB := by
    intro w hw
    subst hw
    refine bx_open (k := 0) (by decide) (bx_nar _) ⟨kk + 1, ?_⟩
    refine bx_loop (g0 := xrg) (p0 := xpn) hP (mf := mf) (fun eV S T B => ?_) kk _ hto W0 0 (kk + 1) _ _ _ _ (by omega) (by omega) (bx_f_put (fs := []) trivial)
    by_cases hz : mf.2.2.2.2.2.2 = 0
    · refine br_t (by rw [hz]; rfl) (H _ ⟨?_, x2, x3, x4, x5, x6, rfl, rfl, ?_, ?_, x11, x12, x13, x14, x15⟩)
      · rw [gm_h, if_pos hz]
      · rw [gm_g, if_pos hz]
      · rw [gm_p, if_pos hz]
    · have h3 := Wf.2.2.2.2.2.2.2
      refine br_f (bx_ne (b := 0) hz) (bx_rest hkr hkp Wf.2.2.2.2.2.1 Wf.2.2.2.2.2.2.1 (H _ ⟨?_, x2, x3, x4, x5, x6, rfl, rfl, ?_, ?_, x11, x12, x13, x14, x15⟩))
      · rw [gm_h, if_neg hz]
      · rw [gm_g, if_neg hz]
      · rw [gm_p, if_neg hz]
  exact br_c (fun z => go false (by rw [z]; rfl)) (fun z => go true (decide_eq_true z).symm)
theorem gy_run {post : Int32 → SY → Prop} {v : SY} {bk : Nat → Nat} {P : Nat → bf_L} {es ss h : Nat} {pc sc : Nat → Nat} {M g pl : Nat → Int32} {so oc : Int32} {p kk : Nat} {b : Int32} {mf : bf_M} (W : bg_W bk P es ss h pc sc) (Y : bg_Y P es ss h pc sc M g pl so oc v) (hp : p < 3)
    (hto : bf_to P kk (gm_0 P g pl h p b) mf)
    (H : ∀ v', bg_Y P es ss (gm_h mf h) pc sc M (gm_g mf g) (gm_p mf pl) (nI mf.2.2.2.2.2.1) (nI mf.2.2.2.2.2.2) v' → post (nI mf.2.2.2.2.2.2) v') : wpY_run post v (nI p) b := by
  obtain ⟨ydp, ypd, yhi, yoh, yop, ynx, yba, yca, yed, ysp, ysK, ysR, ysN, ysA, ysB, ysX, ysY, ysz, yeK, yeL, yeR, yeM, yct, yeV, ytS, ytP, yrg, ypn, yog, yoq, yoN, yoT, yoB⟩ := v
  obtain ⟨rfl, y2, y3, y4, y5, y6, y7, rfl, rfl, y10, y11, y12, y13, y14⟩ := Y
  have hP : ry_P P ysK ysR ysN ysA ysB ysX ysY ysz yeK yeL yeR := fun q hq => ⟨(W.1 q (by omega)).2, W.2.2.1 q hq, (y10 q (by omega)).1, (y10 q (by omega)).2, y14 q hq⟩
  have hz1 := W.2.2.1 p hp
  have W0 := gm_W (g := yrg) (pl := ypn) (h := h) (b := b) (ry_PG hP) hp W.2.2.2.2.2.2.2.2
  refine br_f (nI_pos (by omega)) (br_t (nI_le (b := 2) (by omega) (by decide)) (ry_keep (fun kr kp hkr hkp => ?_)))
  have go : ∀ w : Bool, w = decide (b ≠ 0) → wY_run_45 post (nI p) (bx_b w) ydp ypd (nI h) (nI h) 0 ynx yba 0 ((-1)) 0 ysK ysR ysN ysA ysB ysX ysY ysz yeK yeL yeR yeM yct yeV ytS ytP yrg ypn kr kp yoN yoT yoB := by
    intro w hw
    subst hw
    have nb : narrow .boolean (.int (bx_b (decide (b ≠ 0)))) = .int (bx_b (decide (b ≠ 0))) := by cases decide (b ≠ 0) <;> rfl
    have fb : fits .boolean (.int (bx_b (decide (b ≠ 0)))) = true := by cases decide (b ≠ 0) <;> decide
    have en : (16 : Int32) * nI p + ysz (nI p).toNatClampNeg - 1 = nI (16 * p + (bf_sz (P p) - 1)) := by
      rw [nI_clamp (show p < 2 ^ 31 by omega), y14 p hp]
      obtain ⟨z', hz'⟩ : ∃ z', bf_sz (P p) = z' + 1 := ⟨bf_sz (P p) - 1, by omega⟩
      rw [hz']
      show nI 16 * nI p + nI (z' + 1) - 1 = nI (16 * p + (z' + 1 - 1))
      rw [pk_mul, nI_add]
      exact nI_pred (16 * p + z')
    refine ⟨nb, fb, vp_in_nI (by omega) (by decide), nm_r en ⟨kk + 2, ?_⟩⟩
    refine ry_loop (g0 := yrg) (p0 := ypn) hP (mf := mf) hkr hkp (fun hz op nx ba eV N T B => ?_) (fun hz op nx ba eV N T B => ?_) kk _ hto W0 (kk + 2) _ _ _ _ _ _ _ _ (by omega) ⟨rfl, fun _ => ⟨fun _ => ⟨rfl, rfl, rfl, trivial⟩, fun z => absurd rfl z⟩⟩
    · have H := H (ydp, ypd, nI mf.2.2.1, nI h, op, nx, ba, nI mf.2.2.2.2.1, 0, nI mf.2.2.2.2.2.1, ysK, ysR, ysN, ysA, ysB, ysX, ysY, ysz, yeK, yeL, yeR, yeM, yct, eV, ytS, ytP, mf.1, mf.2.1, kr, kp, N, T, B) ⟨?_, y2, y3, y4, y5, rfl, ?_, ?_, ?_, y10, y11, y12, y13, y14⟩
      · rw [hz] at H; exact H
      · rw [gm_h, if_pos hz]
      · rw [hz]; rfl
      · rw [gm_g, if_pos hz]
      · rw [gm_p, if_pos hz]
    · refine H _ ⟨?_, y2, y3, y4, y5, rfl, rfl, ?_, ?_, y10, y11, y12, y13, y14⟩
      · rw [gm_h, if_neg hz]
      · rw [gm_g, if_neg hz]
      · rw [gm_p, if_neg hz]
  exact br_c (fun z => go false (by rw [z]; rfl)) (fun z => go true (decide_eq_true z).symm)
theorem i_vc_run {k : Nat} {u : SX} {v : SY} (I : i_Rel k u v) (hk : k + 4 ≤ 2048) (v1 : Int32) (v2 : Int32) : wpX_run (fun r u' => wpY_run (fun r' v' => r' = r ∧ i_Rel (k + 4) u' v') v v1 v2) u v1 v2 := by
  have J : ∀ k', i_Rel k' u v := fun _ => I
  obtain ⟨bk, P, es, ss, h, pc, sc, M, g, pl, so, oc, W, X, Y⟩ := I
  rcases gr_cases v1 3 with o | ⟨p, hp, rfl⟩
  · obtain ⟨xph, xkh, xes, xem, xss, xsm, xdb, xfo, xco, xst, xen, xlo, xrg, xpn, xkr, xkp, xeK, xeX, xeY, xeR, xeV, xeS, xsK, xsA, xsB, xsX, xsY, xsS, xpB, xpS, xfS, xfT, xfB⟩ := u
    obtain ⟨ydp, ypd, yhi, yoh, yop, ynx, yba, yca, yed, ysp, ysK, ysR, ysN, ysA, ysB, ysX, ysY, ysz, yeK, yeL, yeR, yeM, yct, yeV, ytS, ytP, yrg, ypn, yog, yoq, yoN, yoT, yoB⟩ := v
    unfold wpX_run
    refine gx_isP0 o (br_t rfl ?_)
    rcases o with o | o
    · exact br_t o ⟨rfl, J _⟩
    · exact br_f (gr_nneg o (by decide)) (br_f (Int32.not_le.mpr (Int32.lt_of_lt_of_le (show (2 : Int32) < nI 3 by decide) o)) ⟨rfl, J _⟩)
  · have hG : bf_G P := fun q hq => ⟨(W.1 q (by omega)).2, W.2.2.1 q hq⟩
    have hh := W.2.2.2.2.2.2.2.2
    obtain ⟨kk, mf, hkk, hto, Wf⟩ := bf_ends hG 60100 (gm_0 P g pl h p v2) (gm_W hG hp hh) (gm_mu hG hp)
    refine gx_run W X hp hkk hto Wf (fun u' X' => gy_run W Y hp hto (fun v' Y' => ⟨rfl, bk, P, es, ss, gm_h mf h, pc, sc, M, gm_g mf g, gm_p mf pl, _, _, ?_, X', Y'⟩))
    refine ⟨W.1, W.2.1, W.2.2.1, W.2.2.2.1, W.2.2.2.2.1, W.2.2.2.2.2.1, W.2.2.2.2.2.2.1, W.2.2.2.2.2.2.2.1, ?_⟩
    unfold gm_h
    split
    · exact Wf.2.2.2.2.1
    · exact hh
/-! the beginning -/
def gi_l (n : Nat) : bf_L := (fun _ => (0, 0, 0, 0, 0, 0, 0), fun _ => (7, 0, 0, 0), n, 0)
def gi_P (q : Nat) : bf_L := gi_l (if q < 3 then 1 else 0)
theorem gi_w (n : Nat) (hn : n ≤ 16) : bf_wL (gi_l n) :=
  ⟨hn, Nat.zero_le _, fun i _ => ⟨Nat.zero_le _, fun z => absurd z (by show ¬ (0 = 1 ∨ 0 = 2 ∨ 0 = 3 ∨ 0 = 6 ∨ 0 = 7 ∨ 0 = 8); decide), fun z => absurd z (by show ¬ 0 = 1; decide), fun z => absurd z (by show ¬ (0 = 4 ∨ 0 = 5); decide), fun z => absurd z (by show ¬ 6 ≤ 0; decide), fun z => absurd z (by show ¬ 11 ≤ 0; decide), fun z => absurd z (by show ¬ 10 ≤ 0; decide)⟩, fun e he => absurd he (Nat.not_lt_zero e)⟩
theorem i_vc0 : wpX_init (fun u => wpY_init (fun v => i_Rel 0 u v)) := by
  refine ⟨4, br_f (by decide) ⟨vp_in_iff.mpr (by decide), nm_e ⟨vp_in_iff.mpr (by decide), nm_e (nm_r (e' := 1) (by decide) (br_f (by decide) ⟨vp_in_iff.mpr (by decide), nm_e ⟨vp_in_iff.mpr (by decide), nm_e (nm_r (e' := 2) (by decide) (br_f (by decide) ⟨vp_in_iff.mpr (by decide), nm_e ⟨vp_in_iff.mpr (by decide), nm_e (nm_r (e' := 3) (by decide) (br_t (by decide) ?_))⟩⟩))⟩⟩))⟩⟩⟩
  refine ⟨4, br_f (by decide) ⟨vp_in_iff.mpr (by decide), nm_e (nm_r (e' := 1) (by decide) (br_f (by decide) ⟨vp_in_iff.mpr (by decide), nm_e (nm_r (e' := 2) (by decide) (br_f (by decide) ⟨vp_in_iff.mpr (by decide), nm_e (nm_r (e' := 3) (by decide) (br_t (by decide) ?_))⟩))⟩))⟩⟩
  refine ⟨fun q => q, gi_P, 0, 0, 0, fun _ => 0, fun _ => 0, fun _ => 0, fun _ => 0, fun _ => 0, 0, -4, ?_, ?_, ?_⟩
  · refine ⟨fun q hq => ⟨hq, gi_w _ (by split <;> omega)⟩, fun q q' _ _ e => e, fun q hq => ?_, Nat.zero_le _, fun j hj => absurd hj (Nat.not_lt_zero j), Nat.zero_le _, fun j hj => absurd hj (Nat.not_lt_zero j), fun z => absurd z (by show ¬ 0 < 0; decide), Nat.zero_le _⟩
    show 0 < if q < 3 then 1 else 0
    rw [if_pos hq]; decide
  · refine ⟨rfl, rfl, rfl, rfl, rfl, rfl, rfl, rfl, rfl, rfl, fun q hq => ⟨fun i hi => ⟨rfl, fun _ => ⟨rfl, rfl⟩, fun z => absurd z (by show ¬ 10 ≤ 0; decide), fun z => absurd z (by show ¬ 6 ≤ 0; decide), fun z => absurd z (by show ¬ 11 ≤ 0; decide)⟩, fun e he => absurd he (Nat.not_lt_zero e)⟩, fun e he => absurd he (Nat.not_lt_zero e), fun j hj => absurd hj (Nat.not_lt_zero j), fun j hj => absurd hj (Nat.not_lt_zero j), fun p hp => ?_⟩
    have h3 : p = 0 ∨ p = 1 ∨ p = 2 := by omega
    rcases h3 with rfl | rfl | rfl <;> exact ⟨by decide, by decide⟩
  · refine ⟨rfl, rfl, rfl, rfl, rfl, rfl, rfl, rfl, rfl, fun q hq => ⟨fun i hi => ⟨rfl, fun _ => ⟨rfl, rfl⟩, fun z => absurd z (by show ¬ 10 ≤ 0; decide), fun z => absurd z (by show ¬ 6 ≤ 0; decide), fun z => absurd z (by show ¬ 11 ≤ 0; decide)⟩, fun e he => absurd he (Nat.not_lt_zero e)⟩, fun e he => absurd he (Nat.not_lt_zero e), fun j hj => absurd hj (Nat.not_lt_zero j), fun j hj => absurd hj (Nat.not_lt_zero j), fun p hp => ?_⟩
    have h3 : p = 0 ∨ p = 1 ∨ p = 2 := by omega
    rcases h3 with rfl | rfl | rfl <;> decide
