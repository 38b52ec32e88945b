/-! Making expressions and statements, on both sides -/
theorem gx_takeE {post : Int32 → SX → Prop} {u : SX} {bk : Nat → Nat} {P : Nat → bf_L} {es ss h : Nat} {pc sc : Nat → Nat} {M g pl : Nat → Int32} {so oc : Int32} (X : bg_X bk P (es + 1) ss h pc sc M g pl so oc u) (he : es < 24)
    (H : ∀ u', bg_X bk P es ss h pc sc M g pl so oc u' → post (nI (24 * bk 3 + pc es)) u') : wpX_takeExpression post u := by
  obtain ⟨xph, xkh, xes, xem, xss, xsm, xdb, xfo, xco, xst, xen, xlo, xrg, xpn, xkr, xkp, xeK, xeX, xeY, xeR, xeV, xeS, xsK, xsA, xsB, xsX, xsY, xsS, xpB, xpS, xfS, xfT, xfB⟩ := u
  obtain ⟨rfl, rfl, rfl, rfl, rfl, rfl, rfl, rfl, rfl, rfl, x11, x12, x13, x14, x15⟩ := X
  refine nm_r (nI_pred es) ⟨vp_in_nI he (by decide), ?_⟩
  rw [nI_clamp (show es < 2 ^ 31 by omega), x13 es (Nat.lt_succ_self _)]
  exact H _ ⟨rfl, rfl, rfl, rfl, rfl, rfl, rfl, rfl, rfl, rfl, x11, x12, fun j hj => x13 j (Nat.lt_succ_of_lt hj), x14, x15⟩
theorem gx_takeS {post : Int32 → SX → Prop} {u : SX} {bk : Nat → Nat} {P : Nat → bf_L} {es ss h : Nat} {pc sc : Nat → Nat} {M g pl : Nat → Int32} {so oc : Int32} (X : bg_X bk P es (ss + 1) h pc sc M g pl so oc u) (he : ss < 16)
    (H : ∀ u', bg_X bk P es ss h pc sc M g pl so oc u' → post (nI (16 * bk 3 + sc ss)) u') : wpX_takeStatement post u := by
  obtain ⟨xph, xkh, xes, xem, xss, xsm, xdb, xfo, xco, xst, xen, xlo, xrg, xpn, xkr, xkp, xeK, xeX, xeY, xeR, xeV, xeS, xsK, xsA, xsB, xsX, xsY, xsS, xpB, xpS, xfS, xfT, xfB⟩ := u
  obtain ⟨rfl, rfl, rfl, rfl, rfl, rfl, rfl, rfl, rfl, rfl, x11, x12, x13, x14, x15⟩ := X
  refine nm_r (nI_pred ss) ⟨vp_in_nI he (by decide), ?_⟩
  rw [nI_clamp (show ss < 2 ^ 31 by omega), x14 ss (Nat.lt_succ_self _)]
  exact H _ ⟨rfl, rfl, rfl, rfl, rfl, rfl, rfl, rfl, rfl, rfl, x11, x12, x13, fun j hj => x14 j (Nat.lt_succ_of_lt hj), x15⟩
theorem gx_mkE {post : Int32 → SX → Prop} {u : SX} {bk : Nat → Nat} {P : Nat → bf_L} {es ss h : Nat} {pc sc : Nat → Nat} {M g pl : Nat → Int32} {so oc : Int32} (W1 : ∀ q, q < 4 → bk q < 4 ∧ bf_wL (P q)) (W2 : ∀ q q', q < 4 → q' < 4 → bk q = bk q' → q = q') (hc : bf_ct (P 3) < 24) (he : es ≤ bf_ct (P 3)) (X : bg_X bk P es ss h pc sc M g pl so oc u)
    {ε : bf_E} {a0 a1 a2 a3 : Int32} (n : bx_e1 (bk 3) ε a0 a1 a2)
    (H : ∀ u', bg_X bk (bg_put P 3 (bg_addE (P 3) ε)) (es + 1) ss h (bg_at pc es (bf_ct (P 3))) sc (upd M (bf_ct (P 3)) a3) g pl so oc u' → post (nI (es + 1)) u') :
    wpX_makeExpression post u a0 a1 a2 a3 := by
  obtain ⟨xph, xkh, xes, xem, xss, xsm, xdb, xfo, xco, xst, xen, xlo, xrg, xpn, xkr, xkp, xeK, xeX, xeY, xeR, xeV, xeS, xsK, xsA, xsB, xsX, xsY, xsS, xpB, xpS, xfS, xfT, xfB⟩ := u
  obtain ⟨rfl, rfl, rfl, rfl, rfl, rfl, rfl, rfl, rfl, rfl, x11, x12, x13, x14, x15⟩ := X
  have hb := (W1 3 (by decide)).1
  have ei : nI (bk 3) * 24 + nI (bf_ct (P 3)) = nI (24 * bk 3 + bf_ct (P 3)) := by
    show nI (bk 3) * nI 24 + nI (bf_ct (P 3)) = _
    rw [pk_mul, nI_add, Nat.mul_comm]
  have hin : vp_in (nI (24 * bk 3 + bf_ct (P 3))) 96 := vp_in_nI (by omega) (by decide)
  have hcl : (nI (24 * bk 3 + bf_ct (P 3))).toNatClampNeg = 24 * bk 3 + bf_ct (P 3) := nI_clamp (by omega)
  have hcs : (nI es).toNatClampNeg = es := nI_clamp (by omega)
  refine nm_r ei ⟨hin, nm_r (e' := upd xeK (24 * bk 3 + bf_ct (P 3)) a0) (by rw [hcl]) ⟨hin, nm_r (e' := upd xeX (24 * bk 3 + bf_ct (P 3)) a1) (by rw [hcl]) ⟨hin, nm_r (e' := upd xeY (24 * bk 3 + bf_ct (P 3)) a2) (by rw [hcl])
    ⟨hin, nm_r (e' := upd xeR (24 * bk 3 + bf_ct (P 3)) a3) (by rw [hcl]) (nm_r (nI_1 _) ⟨vp_in_nI (by omega) (by decide), nm_r (e' := upd xeS es (nI (24 * bk 3 + bf_ct (P 3)))) (by rw [hcs]) (nm_r (nI_1 es) (H _ ?_))⟩)⟩⟩⟩⟩
  refine ⟨rfl, rfl, by rw [bg_put_s]; rfl, rfl, by rw [bg_put_s]; rfl, rfl, rfl, rfl, rfl, rfl, fun q hq => ?_, fun e h1 => ?_, fun j hj => ?_, x14, fun p hp => ?_⟩
  · by_cases z : q = 3
    · subst z
      rw [bg_put_s]
      exact ⟨(x11 3 hq).1, bx_el_a (x11 3 hq).2 (fun e h1 => ⟨pk_un (by omega), pk_un (by omega), pk_un (by omega)⟩) (by rw [pk_us, pk_us, pk_us]; exact n)⟩
    · rw [bg_put_n z]
      have hne : bk q ≠ bk 3 := fun y => z (W2 q 3 hq (by decide) y)
      have h24 := (W1 q hq).2.2.1
      exact ⟨(x11 q hq).1, bx_el_c (x11 q hq).2 (fun e h1 => ⟨pk_un (by omega), pk_un (by omega), pk_un (by omega)⟩)⟩
  · rw [bg_put_s] at h1
    have h1 : e < bf_ct (P 3) + 1 := h1
    by_cases z : e = bf_ct (P 3)
    · rw [z, pk_us, pk_us]
    · rw [pk_un (by omega), pk_un z]; exact x12 e (by omega)
  · by_cases z : j = es
    · rw [z, pk_us, bg_at_s]
    · rw [pk_un z, bg_at_n z]; exact x13 j (by omega)
  · rw [bg_put_n (by omega)]; exact x15 p hp
theorem gx_mkS {post : Int32 → SX → Prop} {u : SX} {bk : Nat → Nat} {P : Nat → bf_L} {es ss h : Nat} {pc sc : Nat → Nat} {M g pl : Nat → Int32} {so oc : Int32} (W1 : ∀ q, q < 4 → bk q < 4 ∧ bf_wL (P q)) (W2 : ∀ q q', q < 4 → q' < 4 → bk q = bk q' → q = q') (hc : bf_sz (P 3) < 16) (he : ss ≤ bf_sz (P 3)) (X : bg_X bk P es ss h pc sc M g pl so oc u)
    {σ : bf_S} {a0 a1 a2 a3 a4 : Int32} (n : bx_s1 (bk 3) σ a0 a1 a2 a3 a4)
    (H : ∀ u', bg_X bk (bg_put P 3 (bg_addS (P 3) σ)) es (ss + 1) h pc (bg_at sc ss (bf_sz (P 3))) M g pl so oc u' → post (nI (ss + 1)) u') :
    wpX_makeStatement post u a0 a1 a2 a3 a4 := by
  obtain ⟨xph, xkh, xes, xem, xss, xsm, xdb, xfo, xco, xst, xen, xlo, xrg, xpn, xkr, xkp, xeK, xeX, xeY, xeR, xeV, xeS, xsK, xsA, xsB, xsX, xsY, xsS, xpB, xpS, xfS, xfT, xfB⟩ := u
  obtain ⟨rfl, rfl, rfl, rfl, rfl, rfl, rfl, rfl, rfl, rfl, x11, x12, x13, x14, x15⟩ := X
  have hb := (W1 3 (by decide)).1
  have ei : nI (bk 3) * 16 + nI (bf_sz (P 3)) = nI (16 * bk 3 + bf_sz (P 3)) := by
    show nI (bk 3) * nI 16 + nI (bf_sz (P 3)) = _
    rw [pk_mul, nI_add, Nat.mul_comm]
  have hin : vp_in (nI (16 * bk 3 + bf_sz (P 3))) 64 := vp_in_nI (by omega) (by decide)
  have hcl : (nI (16 * bk 3 + bf_sz (P 3))).toNatClampNeg = 16 * bk 3 + bf_sz (P 3) := nI_clamp (by omega)
  have hcs : (nI ss).toNatClampNeg = ss := nI_clamp (by omega)
  refine nm_r ei ⟨hin, nm_r (e' := upd xsK (16 * bk 3 + bf_sz (P 3)) a0) (by rw [hcl]) ⟨hin, nm_r (e' := upd xsA (16 * bk 3 + bf_sz (P 3)) a1) (by rw [hcl]) ⟨hin, nm_r (e' := upd xsB (16 * bk 3 + bf_sz (P 3)) a2) (by rw [hcl])
    ⟨hin, nm_r (e' := upd xsX (16 * bk 3 + bf_sz (P 3)) a3) (by rw [hcl]) ⟨hin, nm_r (e' := upd xsY (16 * bk 3 + bf_sz (P 3)) a4) (by rw [hcl]) (nm_r (nI_1 _) ⟨vp_in_nI (by omega) (by decide), nm_r (e' := upd xsS ss (nI (16 * bk 3 + bf_sz (P 3)))) (by rw [hcs]) (nm_r (nI_1 ss) (H _ ?_))⟩)⟩⟩⟩⟩⟩
  refine ⟨rfl, rfl, by rw [bg_put_s]; rfl, rfl, by rw [bg_put_s]; rfl, rfl, rfl, rfl, rfl, rfl, fun q hq => ?_, fun e h1 => ?_, x13, fun j hj => ?_, fun p hp => ?_⟩
  · by_cases z : q = 3
    · subst z
      rw [bg_put_s]
      exact ⟨bx_sl_a (x11 3 hq).1 (fun i h1 => ⟨pk_un (by omega), pk_un (by omega), pk_un (by omega), pk_un (by omega), pk_un (by omega)⟩) (by rw [pk_us, pk_us, pk_us, pk_us, pk_us]; exact n), (x11 3 hq).2⟩
    · rw [bg_put_n z]
      have hne : bk q ≠ bk 3 := fun y => z (W2 q 3 hq (by decide) y)
      have h16 := (W1 q hq).2.1
      exact ⟨bx_sl_c (x11 q hq).1 (fun i h1 => ⟨pk_un (by omega), pk_un (by omega), pk_un (by omega), pk_un (by omega), pk_un (by omega)⟩), (x11 q hq).2⟩
  · rw [bg_put_s] at h1; exact x12 e h1
  · by_cases z : j = ss
    · rw [z, pk_us, bg_at_s]
    · rw [pk_un z, bg_at_n z]; exact x14 j (by omega)
  · rw [bg_put_n (by omega)]; exact x15 p hp
/-! the reference -/
theorem gy_mkE {post : Int32 → SY → Prop} {v : SY} {P : Nat → bf_L} {es ss h : Nat} {pc sc : Nat → Nat} {M g pl : Nat → Int32} {so oc : Int32} (W1 : ∀ q, q < 4 → bf_wL (P q)) (hc : bf_ct (P 3) < 24) (he : es ≤ bf_ct (P 3)) (Y : bg_Y P es ss h pc sc M g pl so oc v)
    {ε : bf_E} {a0 a1 a2 a3 : Int32} (n : ry_e1 ε a0 a1 a2)
    (H : ∀ v', bg_Y (bg_put P 3 (bg_addE (P 3) ε)) (es + 1) ss h (bg_at pc es (bf_ct (P 3))) sc (upd M (bf_ct (P 3)) a3) g pl so oc v' → post (nI (es + 1)) v') :
    wpY_piece post v a0 a1 a2 a3 := by
  obtain ⟨ydp, ypd, yhi, yoh, yop, ynx, yba, yca, yed, ysp, ysK, ysR, ysN, ysA, ysB, ysX, ysY, ysz, yeK, yeL, yeR, yeM, yct, yeV, ytS, ytP, yrg, ypn, yog, yoq, yoN, yoT, yoB⟩ := v
  obtain ⟨rfl, rfl, rfl, y4, y5, rfl, rfl, rfl, rfl, y10, y11, y12, y13, y14⟩ := Y
  have ei : (72 : Int32) + nI (bf_ct (P 3)) = nI (24 * 3 + bf_ct (P 3)) := by
    show nI 72 + nI (bf_ct (P 3)) = _
    rw [nI_add]
  have hin : vp_in ((72 : Int32) + nI (bf_ct (P 3))) 96 := by rw [ei]; exact vp_in_nI (by omega) (by decide)
  have hcl : ((72 : Int32) + nI (bf_ct (P 3))).toNatClampNeg = 24 * 3 + bf_ct (P 3) := by rw [ei]; exact nI_clamp (by omega)
  have hcs : (nI es).toNatClampNeg = es := nI_clamp (by omega)
  refine nm_r y4 ⟨hin, nm_r (e' := upd yeK (24 * 3 + bf_ct (P 3)) a0) (by rw [hcl]) ⟨hin, nm_r (e' := upd yeL (24 * 3 + bf_ct (P 3)) a1) (by rw [hcl]) ⟨hin, nm_r (e' := upd yeR (24 * 3 + bf_ct (P 3)) a2) (by rw [hcl])
    ⟨hin, nm_r (e' := upd yeM (24 * 3 + bf_ct (P 3)) a3) (by rw [hcl]) ⟨vp_in_nI (by omega) (by decide), nm_r (e' := upd ytP es (nI (bf_ct (P 3)))) (by rw [hcs]) (nm_r (nI_1 es) (nm_r (e' := upd yct 3 (nI (bf_ct (P 3) + 1))) (by rw [y4, nI_1]) (H _ ?_)))⟩⟩⟩⟩⟩
  refine ⟨rfl, rfl, rfl, by rw [bg_put_s]; exact pk_us, by rw [bg_put_s]; exact y5, rfl, rfl, rfl, rfl, fun q hq => ?_, fun e h1 => ?_, fun j hj => ?_, y13, fun p hp => ?_⟩
  · by_cases z : q = 3
    · subst z
      rw [bg_put_s]
      exact ⟨(y10 3 hq).1, ry_el_a (y10 3 hq).2 (fun e h1 => ⟨pk_un (by omega), pk_un (by omega), pk_un (by omega)⟩) (by rw [pk_us, pk_us, pk_us]; exact n)⟩
    · rw [bg_put_n z]
      have h24 := (W1 q hq).2.1
      exact ⟨(y10 q hq).1, ry_el_c (y10 q hq).2 (fun e h1 => ⟨pk_un (by omega), pk_un (by omega), pk_un (by omega)⟩)⟩
  · rw [bg_put_s] at h1
    have h1 : e < bf_ct (P 3) + 1 := h1
    by_cases z : e = bf_ct (P 3)
    · rw [z, pk_us]; exact pk_us.symm
    · rw [pk_un z]; exact (pk_un (by omega)).trans (y11 e (by omega))
  · by_cases z : j = es
    · rw [z, pk_us, bg_at_s]
    · rw [pk_un z, bg_at_n z]; exact y12 j (by omega)
  · rw [bg_put_n (by omega)]; exact y14 p hp
section
variable {ydp ypd yhi yoh yop ynx yba yca yed ysp : Int32} {ysK ysR ysN ysA ysB ysX ysY ysz yeK yeL yeR yeM yct yeV ytS ytP yrg ypn yog yoq yoN yoT yoB : Nat → Int32}
/-- make, when first, second, test and exit (f1, s1, t1, e1) may have been written at the new place already -/
theorem gy_mkS {post : Int32 → SY → Prop} {P : Nat → bf_L} {es ss h : Nat} {pc sc : Nat → Nat} {M g pl : Nat → Int32} {so oc : Int32} (W1 : ∀ q, q < 4 → bf_wL (P q)) (hc : bf_sz (P 3) < 16) (he : ss ≤ bf_sz (P 3))
    (y4 : yct 3 = nI (bf_ct (P 3))) (y5 : ysz 3 = nI (bf_sz (P 3))) (y10 : ∀ q, q < 4 → ry_sl q (P q) ysK ysR ysN ysA ysB ysX ysY ∧ ry_el q (P q) yeK yeL yeR)
    (y11 : ∀ e, e < bf_ct (P 3) → yeM (72 + e) = M e) (y12 : ∀ j, j < es → ytP j = nI (pc j)) (y13 : ∀ j, j < ss → ytS j = nI (sc j)) (y14 : ∀ p, p < 3 → ysz p = nI (bf_sz (P p)))
    {f1 s1 t1 e1 : Nat → Int32} (hf : ∀ j, j ≠ 48 + bf_sz (P 3) → f1 j = ysA j) (hs : ∀ j, j ≠ 48 + bf_sz (P 3) → s1 j = ysB j) (ht : ∀ j, j ≠ 48 + bf_sz (P 3) → t1 j = ysX j) (hx : ∀ j, j ≠ 48 + bf_sz (P 3) → e1 j = ysY j)
    {σ : bf_S} {a0 a1 a2 : Int32} (n : ry_s1 σ a0 a1 a2 (f1 (48 + bf_sz (P 3))) (s1 (48 + bf_sz (P 3))) (t1 (48 + bf_sz (P 3))) (e1 (48 + bf_sz (P 3))))
    (H : ∀ v', bg_Y (bg_put P 3 (bg_addS (P 3) σ)) es (ss + 1) h pc (bg_at sc ss (bf_sz (P 3))) M g pl so oc v' → post (nI (ss + 1)) v') :
    wpY_make post (nI ss, nI es, nI h, yoh, yop, ynx, yba, yca, oc, so, ysK, ysR, ysN, f1, s1, t1, e1, ysz, yeK, yeL, yeR, yeM, yct, yeV, ytS, ytP, g, pl, yog, yoq, yoN, yoT, yoB) a0 a1 a2 := by
  have ei : (48 : Int32) + ysz 3 = nI (16 * 3 + bf_sz (P 3)) := by
    rw [y5]
    show nI 48 + nI (bf_sz (P 3)) = _
    rw [nI_add]
  have hin : vp_in (nI (16 * 3 + bf_sz (P 3))) 64 := vp_in_nI (by omega) (by decide)
  have hcl : (nI (16 * 3 + bf_sz (P 3))).toNatClampNeg = 16 * 3 + bf_sz (P 3) := nI_clamp (by omega)
  have hcs : (nI ss).toNatClampNeg = ss := nI_clamp (by omega)
  refine nm_r ei ⟨hin, nm_r (e' := upd ysK (16 * 3 + bf_sz (P 3)) a0) (by rw [hcl]) ⟨hin, nm_r (e' := upd ysR (16 * 3 + bf_sz (P 3)) a1) (by rw [hcl]) ⟨hin, nm_r (e' := upd ysN (16 * 3 + bf_sz (P 3)) a2) (by rw [hcl])
    ⟨vp_in_nI (by omega) (by decide), nm_r (e' := upd ytS ss (nI (bf_sz (P 3)))) (by rw [hcs, y5]) (nm_r (nI_1 ss) (nm_r (e' := upd ysz 3 (nI (bf_sz (P 3) + 1))) (by rw [y5, nI_1]) (H _ ?_)))⟩⟩⟩⟩
  refine ⟨rfl, rfl, rfl, by rw [bg_put_s]; exact y4, by rw [bg_put_s]; exact pk_us, rfl, rfl, rfl, rfl, fun q hq => ?_, fun e h1 => ?_, y12, fun j hj => ?_, fun p hp => ?_⟩
  · by_cases z : q = 3
    · subst z
      rw [bg_put_s]
      exact ⟨ry_sl_a (y10 3 hq).1 (fun i h1 => ⟨pk_un (by omega), pk_un (by omega), pk_un (by omega), hf _ (by omega), hs _ (by omega), ht _ (by omega), hx _ (by omega)⟩) (by rw [pk_us, pk_us, pk_us]; exact n), (y10 3 hq).2⟩
    · rw [bg_put_n z]
      have h16 := (W1 q hq).1
      exact ⟨ry_sl_c (y10 q hq).1 (fun i h1 => ⟨pk_un (by omega), pk_un (by omega), pk_un (by omega), hf _ (by omega), hs _ (by omega), ht _ (by omega), hx _ (by omega)⟩), (y10 q hq).2⟩
  · rw [bg_put_s] at h1; exact y11 e h1
  · by_cases z : j = ss
    · rw [z, pk_us, bg_at_s]
    · rw [pk_un z, bg_at_n z]; exact y13 j (by omega)
  · rw [bg_put_n (by omega)]; exact (pk_un (by omega)).trans (y14 p hp)
end
