/-! procedure -/
/-- j cells have been copied from S on to B on -/
def gc_cp (B S j : Nat) (A A' : Nat → Int32) : Prop := (∀ i, i < j → A' (B + i) = A (S + i)) ∧ (∀ x, x < B ∨ B + j ≤ x → A' x = A x)
theorem gc_0 {B S : Nat} {A : Nat → Int32} : gc_cp B S 0 A A := ⟨fun i hi => absurd hi (Nat.not_lt_zero i), fun _ _ => rfl⟩
theorem gc_1 {B S j : Nat} {A A' : Nat → Int32} (h : gc_cp B S j A A') (hS : B ≤ S) : gc_cp B S (j + 1) A (upd A' (B + j) (A' (S + j))) := by
  refine ⟨fun i hi => ?_, fun x hx => ?_⟩
  · by_cases e : i = j
    · rw [e, pk_us]; exact h.2 _ (by omega)
    · rw [pk_un (by omega)]; exact h.1 i (by omega)
  · rw [pk_un (by omega)]; exact h.2 x (by omega)
section
variable {ydp ypd yhi yoh yop ynx yba yca yed ysp : Int32} {ysK ysR ysN ysA ysB ysX ysY ysz yeK yeL yeR yeM yct yeV ytS ytP yrg ypn yog yoq yoN yoT yoB : Nat → Int32}
variable {post : Int32 → SY → Prop} {p : Nat}
theorem gc_loop3 (hp : p < 3) (H : ∀ a1 a2 a3, gc_cp (24 * p) 72 24 yeK a1 → gc_cp (24 * p) 72 24 yeL a2 → gc_cp (24 * p) 72 24 yeR a3 → post (ysz 3) (0, 0, yhi, yoh, yop, ynx, yba, yca, yed, ysp, ysK, ysR, ysN, ysA, ysB, ysX, ysY, upd (upd ysz p (ysz 3)) 3 0, a1, a2, a3, yeM, upd yct 3 0, yeV, ytS, ytP, yrg, ypn, yog, yoq, yoN, yoT, yoB)) :
    ∀ d j a1 a2 a3, j + d = 24 → gc_cp (24 * p) 72 j yeK a1 → gc_cp (24 * p) 72 j yeL a2 → gc_cp (24 * p) 72 j yeR a3 → wY_procedure_185 post (nI p) ydp ypd yhi yoh yop ynx yba yca yed ysp (d + 1) (nI j) ysK ysR ysN ysA ysB ysX ysY ysz a1 a2 a3 yeM yct yeV ytS ytP yrg ypn yog yoq yoN yoT yoB := by
  intro d
  have hip : vp_in (nI p) 4 := vp_in_nI (by omega) (by decide)
  have hcp : (nI p).toNatClampNeg = p := nI_clamp (by omega)
  induction d with
  | zero =>
    intro j a1 a2 a3 hj h1 h2 h3
    obtain rfl : j = 24 := by omega
    refine br_t (by decide) ⟨hip, nm_r (e' := upd ysz p (ysz 3)) (by rw [hcp]) (nm_e (nm_e ⟨hip, ?_⟩))⟩
    rw [hcp]
    have e : upd (upd ysz p (ysz 3)) 3 0 p = ysz 3 := (pk_un (by omega)).trans pk_us
    rw [e]
    exact H a1 a2 a3 h1 h2 h3
  | succ d ih =>
    intro j a1 a2 a3 hj h1 h2 h3
    have es : (72 : Int32) + nI j = nI (72 + j) := nI_add 72 j
    have eb : (24 : Int32) * nI p + nI j = nI (24 * p + j) := by
      show nI 24 * nI p + nI j = _
      rw [pk_mul, nI_add]
    have i1 : vp_in ((72 : Int32) + nI j) 96 := by rw [es]; exact vp_in_nI (by omega) (by decide)
    have i2 : vp_in ((24 : Int32) * nI p + nI j) 96 := by rw [eb]; exact vp_in_nI (by omega) (by decide)
    have c1 : ((72 : Int32) + nI j).toNatClampNeg = 72 + j := by rw [es]; exact nI_clamp (by omega)
    have c2 : ((24 : Int32) * nI p + nI j).toNatClampNeg = 24 * p + j := by rw [eb]; exact nI_clamp (by omega)
    refine br_f (nI_ge (b := 24) (by omega) (by decide)) ⟨i1, i2, nm_r (e' := upd a1 (24 * p + j) (a1 (72 + j))) (by rw [c1, c2]) ⟨i1, i2, nm_r (e' := upd a2 (24 * p + j) (a2 (72 + j))) (by rw [c1, c2]) ⟨i1, i2, nm_r (e' := upd a3 (24 * p + j) (a3 (72 + j))) (by rw [c1, c2]) (nm_r (nI_1 j) ?_)⟩⟩⟩
    exact ih (j + 1) _ _ _ (by omega) (gc_1 h1 (by omega)) (gc_1 h2 (by omega)) (gc_1 h3 (by omega))
theorem gc_loop7 (hp : p < 3) (H : ∀ b1 b2 b3 b4 b5 b6 b7 a1 a2 a3, gc_cp (16 * p) 48 16 ysK b1 → gc_cp (16 * p) 48 16 ysR b2 → gc_cp (16 * p) 48 16 ysN b3 → gc_cp (16 * p) 48 16 ysA b4 → gc_cp (16 * p) 48 16 ysB b5 → gc_cp (16 * p) 48 16 ysX b6 → gc_cp (16 * p) 48 16 ysY b7 → gc_cp (24 * p) 72 24 yeK a1 → gc_cp (24 * p) 72 24 yeL a2 → gc_cp (24 * p) 72 24 yeR a3 → post (ysz 3) (0, 0, yhi, yoh, yop, ynx, yba, yca, yed, ysp, b1, b2, b3, b4, b5, b6, b7, upd (upd ysz p (ysz 3)) 3 0, a1, a2, a3, yeM, upd yct 3 0, yeV, ytS, ytP, yrg, ypn, yog, yoq, yoN, yoT, yoB)) :
    ∀ d j b1 b2 b3 b4 b5 b6 b7, j + d = 16 → gc_cp (16 * p) 48 j ysK b1 → gc_cp (16 * p) 48 j ysR b2 → gc_cp (16 * p) 48 j ysN b3 → gc_cp (16 * p) 48 j ysA b4 → gc_cp (16 * p) 48 j ysB b5 → gc_cp (16 * p) 48 j ysX b6 → gc_cp (16 * p) 48 j ysY b7 → wY_procedure_31 post (nI p) ydp ypd yhi yoh yop ynx yba yca yed ysp (d + 1) (nI j) b1 b2 b3 b4 b5 b6 b7 ysz yeK yeL yeR yeM yct yeV ytS ytP yrg ypn yog yoq yoN yoT yoB := by
  intro d
  induction d with
  | zero =>
    intro j b1 b2 b3 b4 b5 b6 b7 hj h1 h2 h3 h4 h5 h6 h7
    obtain rfl : j = 16 := by omega
    exact br_t (by decide) ⟨25, gc_loop3 hp (fun a1 a2 a3 k1 k2 k3 => H b1 b2 b3 b4 b5 b6 b7 a1 a2 a3 h1 h2 h3 h4 h5 h6 h7 k1 k2 k3) 24 0 _ _ _ rfl gc_0 gc_0 gc_0⟩
  | succ d ih =>
    intro j b1 b2 b3 b4 b5 b6 b7 hj h1 h2 h3 h4 h5 h6 h7
    have es : (48 : Int32) + nI j = nI (48 + j) := nI_add 48 j
    have eb : (16 : Int32) * nI p + nI j = nI (16 * p + j) := by
      show nI 16 * nI p + nI j = _
      rw [pk_mul, nI_add]
    have i1 : vp_in ((48 : Int32) + nI j) 64 := by rw [es]; exact vp_in_nI (by omega) (by decide)
    have i2 : vp_in ((16 : Int32) * nI p + nI j) 64 := by rw [eb]; exact vp_in_nI (by omega) (by decide)
    have c1 : ((48 : Int32) + nI j).toNatClampNeg = 48 + j := by rw [es]; exact nI_clamp (by omega)
    have c2 : ((16 : Int32) * nI p + nI j).toNatClampNeg = 16 * p + j := by rw [eb]; exact nI_clamp (by omega)
    refine br_f (nI_ge (b := 16) (by omega) (by decide)) ⟨i1, i2, nm_r (e' := upd b1 (16 * p + j) (b1 (48 + j))) (by rw [c1, c2]) ⟨i1, i2, nm_r (e' := upd b2 (16 * p + j) (b2 (48 + j))) (by rw [c1, c2]) ⟨i1, i2, nm_r (e' := upd b3 (16 * p + j) (b3 (48 + j))) (by rw [c1, c2])
      ⟨i1, i2, nm_r (e' := upd b4 (16 * p + j) (b4 (48 + j))) (by rw [c1, c2]) ⟨i1, i2, nm_r (e' := upd b5 (16 * p + j) (b5 (48 + j))) (by rw [c1, c2]) ⟨i1, i2, nm_r (e' := upd b6 (16 * p + j) (b6 (48 + j))) (by rw [c1, c2]) ⟨i1, i2, nm_r (e' := upd b7 (16 * p + j) (b7 (48 + j))) (by rw [c1, c2]) (nm_r (nI_1 j) ?_)⟩⟩⟩⟩⟩⟩⟩
    exact ih (j + 1) _ _ _ _ _ _ _ (by omega) (gc_1 h1 (by omega)) (gc_1 h2 (by omega)) (gc_1 h3 (by omega)) (gc_1 h4 (by omega)) (gc_1 h5 (by omega)) (gc_1 h6 (by omega)) (gc_1 h7 (by omega))
end
/-- the banks stay apart -/
theorem gc_inj {bk : Nat → Nat} {p : Nat} (hp : p < 3) (W2 : ∀ q q', q < 4 → q' < 4 → bk q = bk q' → q = q') (q q' : Nat) (hq : q < 4) (hq' : q' < 4)
    (e : bg_at (bg_at bk p (bk 3)) 3 (bk p) q = bg_at (bg_at bk p (bk 3)) 3 (bk p) q') : q = q' := by
  have key : ∀ q, q < 4 → ∃ r, r < 4 ∧ bg_at (bg_at bk p (bk 3)) 3 (bk p) q = bk r ∧ (q = 3 → r = p) ∧ (q = p → r = 3) ∧ (q ≠ 3 → q ≠ p → r = q) := by
    intro q hq
    by_cases z : q = 3
    · exact ⟨p, by omega, by rw [z, bg_at_s], fun _ => rfl, fun y => by omega, fun a => absurd z a⟩
    by_cases y : q = p
    · exact ⟨3, by decide, by rw [bg_at_n z, y, bg_at_s], fun a => absurd a z, fun _ => rfl, fun _ b => absurd y b⟩
    exact ⟨q, hq, by rw [bg_at_n z, bg_at_n y], fun a => absurd a z, fun a => absurd a y, fun _ _ => rfl⟩
  obtain ⟨r, h1, h2, h3, h4, h5⟩ := key q hq
  obtain ⟨r', h1', h2', h3', h4', h5'⟩ := key q' hq'
  have er := W2 r r' h1 h1' (h2.symm.trans (e.trans h2'))
  omega
theorem i_vc_procedure {k : Nat} {u : SX} {v : SY} (I : i_Rel k u v) (hk : k + 4 ≤ 2048) (v1 : Int32) : wpX_procedure (fun r u' => wpY_procedure (fun r' v' => r' = r ∧ i_Rel (k + 4) u' v') v v1) u v1 := by
  have J : ∀ k', i_Rel k' u v := fun _ => I
  obtain ⟨bk, P, es, ss, h, pc, sc, M, g, pl, so, oc, W, X, Y⟩ := I
  obtain ⟨W1, W2, W3, W4, W5, W6, W7, W8, W9⟩ := W
  obtain ⟨xph, xkh, xes, xem, xss, xsm, xdb, xfo, xco, xst, xen, xlo, xrg, xpn, xkr, xkp, xeK, xeX, xeY, xeR, xeV, xeS, xsK, xsA, xsB, xsX, xsY, xsS, xpB, xpS, xfS, xfT, xfB⟩ := u
  obtain ⟨ydp, ypd, yhi, yoh, yop, ynx, yba, yca, yed, ysp, ysK, ysR, ysN, ysA, ysB, ysX, ysY, ysz, yeK, yeL, yeR, yeM, yct, yeV, ytS, ytP, yrg, ypn, yog, yoq, yoN, yoT, yoB⟩ := v
  obtain ⟨x1, x2, x3, x4, x5, x6, x7, x8, x9, x10, x11, x12, x13, x14, x15⟩ := X
  obtain ⟨y1, y2, y3, y4, y5, y6, y7, y8, y9, y10, y11, y12, y13, y14⟩ := Y
  have h16 := (W1 3 (by decide)).2.1
  have h24 := (W1 3 (by decide)).2.2.1
  unfold wpX_procedure
  rcases gr_cases v1 3 with o | ⟨p, hp, rfl⟩
  · refine gx_isP0 o (br_t rfl ?_)
    rcases o with o | o
    · exact br_t o ⟨rfl, J _⟩
    · exact br_f (gr_nneg o (by decide)) (br_f (Int32.not_le.mpr (Int32.lt_of_lt_of_le (show (2 : Int32) < nI 3 by decide) o)) ⟨rfl, J _⟩)
  refine gx_isP1 hp (br_f (by decide) ?_)
  have c1 : ¬ nI p < 0 := nI_pos (by omega)
  have c2 : nI p ≤ 2 := nI_le (b := 2) (by omega) (by decide)
  have hip : vp_in (nI p) 3 := vp_in_nI hp (by decide)
  have hcp : (nI p).toNatClampNeg = p := nI_clamp (by omega)
  by_cases s1 : ss = 1
  · by_cases e0 : es = 0
    · subst s1 e0
      have hz : 0 < bf_sz (P 3) := by omega
      have h0 : sc 0 = bf_sz (P 3) - 1 := (W8 hz).2
      have eb : xpB (nI p).toNatClampNeg = nI (bk p) := by rw [hcp]; exact (x15 p hp).1
      have et : xsS 0 = nI (16 * bk 3 + (bf_sz (P 3) - 1)) := by rw [x14 0 (by decide), h0]
      refine br_t x4 (br_t x2 ⟨hip, nm_r (e' := upd xpS p (nI (16 * bk 3 + (bf_sz (P 3) - 1)))) (by rw [hcp, et]) ⟨hip, nm_r eb ⟨hip, nm_r (e' := upd xpB p (nI (bk 3))) (by rw [hcp, x6]) ?_⟩⟩⟩)
      refine br_f c1 (br_t c2 (br_t y3 (br_t (by rw [y2]; decide) ⟨17, gc_loop7 hp (fun b1 b2 b3 b4 b5 b6 b7 a1 a2 a3 k1 k2 k3 k4 k5 k6 k7 l1 l2 l3 => ?_) 16 0 _ _ _ _ _ _ _ rfl gc_0 gc_0 gc_0 gc_0 gc_0 gc_0 gc_0⟩)))
      refine ⟨y5.trans x5.symm, bg_at (bg_at bk p (bk 3)) 3 (bk p), bg_put (bg_put P p (P 3)) 3 (bg_emp (P 3)), 0, 0, h, pc, sc, M, g, pl, so, oc, ?_, ?_, ?_⟩
      · refine ⟨fun q hq => ⟨?_, ?_⟩, fun q q' hq hq' => ?_, fun q hq => ?_, Nat.zero_le _, fun j hj => absurd hj (Nat.not_lt_zero j), Nat.zero_le _, fun j hj => absurd hj (Nat.not_lt_zero j), fun z => ?_, W9⟩
        · by_cases z : q = 3
          · rw [z, bg_at_s]; exact (W1 p (by omega)).1
          · rw [bg_at_n z]
            by_cases y : q = p
            · rw [y, bg_at_s]; exact (W1 3 (by decide)).1
            · rw [bg_at_n y]; exact (W1 q hq).1
        · by_cases z : q = 3
          · rw [z, bg_put_s]; exact bg_wemp _
          · rw [bg_put_n z]
            by_cases y : q = p
            · rw [y, bg_put_s]; exact (W1 3 (by decide)).2
            · rw [bg_put_n y]; exact (W1 q hq).2
        · exact gc_inj hp W2 q q' hq hq'
        · rw [bg_put_n (by omega)]
          by_cases y : q = p
          · rw [y, bg_put_s]; exact hz
          · rw [bg_put_n y]; exact W3 q hq
        · rw [bg_put_s] at z; exact absurd z (Nat.not_lt_zero 0)
      · refine ⟨x1, rfl, by rw [bg_put_s]; rfl, rfl, by rw [bg_put_s]; rfl, by rw [bg_at_s], x7, x8, x9, x10, fun q hq => ?_, fun e he => ?_, fun j hj => absurd hj (Nat.not_lt_zero j), fun j hj => absurd hj (Nat.not_lt_zero j), fun r hr => ?_⟩
        · by_cases z : q = 3
          · subst z
            rw [bg_put_s]
            exact ⟨fun i hi => absurd hi (Nat.not_lt_zero i), fun i hi => absurd hi (Nat.not_lt_zero i)⟩
          · rw [bg_put_n z, bg_at_n z]
            by_cases y : q = p
            · rw [y, bg_put_s, bg_at_s]; exact x11 3 (by decide)
            · rw [bg_put_n y, bg_at_n y]; exact x11 q hq
        · rw [bg_put_s] at he; exact absurd he (Nat.not_lt_zero e)
        · rw [bg_put_n (show r ≠ 3 by omega), bg_at_n (show r ≠ 3 by omega)]
          by_cases y : r = p
          · rw [y, bg_put_s, bg_at_s, pk_us, pk_us]; exact ⟨rfl, rfl⟩
          · rw [bg_put_n y, bg_at_n y, pk_un y, pk_un y]; exact x15 r hr
      · refine ⟨y1, rfl, rfl, by rw [bg_put_s]; exact pk_us, by rw [bg_put_s]; exact pk_us, y6, y7, y8, y9, fun q hq => ?_, fun e he => ?_, fun j hj => absurd hj (Nat.not_lt_zero j), fun j hj => absurd hj (Nat.not_lt_zero j), fun r hr => ?_⟩
        · by_cases z : q = 3
          · subst z
            rw [bg_put_s]
            exact ⟨fun i hi => absurd hi (Nat.not_lt_zero i), fun i hi => absurd hi (Nat.not_lt_zero i)⟩
          · rw [bg_put_n z]
            by_cases y : q = p
            · subst y
              rw [bg_put_s]
              refine ⟨fun i hi => ?_, fun e he => ?_⟩
              · have i16 : i < 16 := by omega
                rw [k1.1 i i16, k2.1 i i16, k3.1 i i16, k4.1 i i16, k5.1 i i16, k6.1 i i16, k7.1 i i16]
                exact (y10 3 (by decide)).1 i hi
              · have e24 : e < 24 := by omega
                rw [l1.1 e e24, l2.1 e e24, l3.1 e e24]
                exact (y10 3 (by decide)).2 e he
            · rw [bg_put_n y]
              have q16 := (W1 q hq).2.1
              have q24 := (W1 q hq).2.2.1
              refine ⟨ry_sl_c (y10 q hq).1 (fun i hi => ⟨k1.2 _ ?_, k2.2 _ ?_, k3.2 _ ?_, k4.2 _ ?_, k5.2 _ ?_, k6.2 _ ?_, k7.2 _ ?_⟩), ry_el_c (y10 q hq).2 (fun e he => ⟨l1.2 _ ?_, l2.2 _ ?_, l3.2 _ ?_⟩)⟩ <;> omega
        · rw [bg_put_s] at he; exact absurd he (Nat.not_lt_zero e)
        · rw [bg_put_n (show r ≠ 3 by omega), pk_un (show r ≠ 3 by omega)]
          by_cases y : r = p
          · rw [y, bg_put_s, pk_us]; exact y5
          · rw [bg_put_n y, pk_un y]; exact y14 r hr
    · have hes : es ≤ 24 := by omega
      exact br_t (by rw [x4, s1]; rfl) (br_f (by rw [x2]; exact bx_ne (b := 0) e0) (br_f c1 (br_t c2 (br_t (by rw [y3, s1]; rfl) (br_f (by rw [y2]; exact nI_nle (by omega) (by omega)) ⟨rfl, J _⟩)))))
  · exact br_f (by rw [x4]; exact bx_ne (b := 1) s1) (br_f c1 (br_t c2 (br_f (by rw [y3]; exact bx_ne (b := 1) s1) ⟨rfl, J _⟩)))
