/-! The relation; how drafts grow -/
def bg_addE (l : bf_L) (ε : bf_E) : bf_L := (l.1, fun e => if e = bf_ct l then ε else l.2.1 e, bf_sz l, bf_ct l + 1)
def bg_addS (l : bf_L) (σ : bf_S) : bf_L := (fun i => if i = bf_sz l then σ else l.1 i, l.2.1, bf_sz l + 1, bf_ct l)
def bg_emp (l : bf_L) : bf_L := (l.1, l.2.1, 0, 0)
def bg_put (P : Nat → bf_L) (q : Nat) (l : bf_L) : Nat → bf_L := fun j => if j = q then l else P j
def bg_at (f : Nat → Nat) (k x : Nat) : Nat → Nat := fun j => if j = k then x else f j
theorem bg_put_s {P : Nat → bf_L} {q : Nat} {l : bf_L} : bg_put P q l q = l := if_pos rfl
theorem bg_put_n {P : Nat → bf_L} {q j : Nat} {l : bf_L} (h : j ≠ q) : bg_put P q l j = P j := if_neg h
theorem bg_at_s {f : Nat → Nat} {k x : Nat} : bg_at f k x k = x := if_pos rfl
theorem bg_at_n {f : Nat → Nat} {k x j : Nat} (h : j ≠ k) : bg_at f k x j = f j := if_neg h
/-- the encodings, by values -/
def bx_s1 (b : Nat) (σ : bf_S) (vK vA vB vX vY : Int32) : Prop :=
  vK = nI σ.1 ∧ (σ.1 < 10 → vA = σ.2.1 ∧ vB = σ.2.2.1) ∧ (10 ≤ σ.1 → vA = nI (16 * b + σ.2.2.2.1) ∧ vB = nI (16 * b + σ.2.2.2.2.1)) ∧
    (6 ≤ σ.1 → σ.1 ≠ 10 → vX = nI (24 * b + σ.2.2.2.2.2.1)) ∧ (11 ≤ σ.1 → vY = nI (24 * b + σ.2.2.2.2.2.2))
def bx_e1 (b : Nat) (ε : bf_E) (vK vX vY : Int32) : Prop :=
  vK = nI ε.1 ∧ (ε.1 = 7 → vX = ε.2.1) ∧ (ε.1 = 8 → vX = nI ε.2.2.1) ∧ (ε.1 ≤ 6 → vX = nI (24 * b + ε.2.2.1) ∧ vY = nI (24 * b + ε.2.2.2))
def ry_s1 (σ : bf_S) (vK vR vN vA vB vX vY : Int32) : Prop :=
  vK = nI σ.1 ∧ (σ.1 < 10 → vR = σ.2.1 ∧ vN = σ.2.2.1) ∧ (10 ≤ σ.1 → vA = nI σ.2.2.2.1 ∧ vB = nI σ.2.2.2.2.1) ∧
    (6 ≤ σ.1 → σ.1 ≠ 10 → vX = nI σ.2.2.2.2.2.1) ∧ (11 ≤ σ.1 → vY = nI σ.2.2.2.2.2.2)
def ry_e1 (ε : bf_E) (vK vL vR : Int32) : Prop :=
  vK = nI ε.1 ∧ (ε.1 = 7 → vL = ε.2.1) ∧ (ε.1 = 8 → vL = nI ε.2.2.1) ∧ (ε.1 ≤ 6 → vL = nI ε.2.2.1 ∧ vR = nI ε.2.2.2)
theorem bx_el_i {b : Nat} {l : bf_L} {eK eX eY : Nat → Int32} : bx_el b l eK eX eY ↔ ∀ e, e < bf_ct l → bx_e1 b (l.2.1 e) (eK (24 * b + e)) (eX (24 * b + e)) (eY (24 * b + e)) := Iff.rfl
theorem bx_sl_i {b : Nat} {l : bf_L} {sK sA sB sX sY : Nat → Int32} : bx_sl b l sK sA sB sX sY ↔ ∀ i, i < bf_sz l → bx_s1 b (l.1 i) (sK (16 * b + i)) (sA (16 * b + i)) (sB (16 * b + i)) (sX (16 * b + i)) (sY (16 * b + i)) := Iff.rfl
theorem ry_el_i {q : Nat} {l : bf_L} {eK eL eR : Nat → Int32} : ry_el q l eK eL eR ↔ ∀ e, e < bf_ct l → ry_e1 (l.2.1 e) (eK (24 * q + e)) (eL (24 * q + e)) (eR (24 * q + e)) := Iff.rfl
theorem ry_sl_i {q : Nat} {l : bf_L} {sK sR sN sA sB sX sY : Nat → Int32} : ry_sl q l sK sR sN sA sB sX sY ↔ ∀ i, i < bf_sz l → ry_s1 (l.1 i) (sK (16 * q + i)) (sR (16 * q + i)) (sN (16 * q + i)) (sA (16 * q + i)) (sB (16 * q + i)) (sX (16 * q + i)) (sY (16 * q + i)) := Iff.rfl
/-- a slot grows by what was written behind it; another slot keeps -/
theorem bx_el_c {b : Nat} {l : bf_L} {eK eX eY eK' eX' eY' : Nat → Int32} (h : bx_el b l eK eX eY) (c : ∀ e, e < bf_ct l → eK' (24 * b + e) = eK (24 * b + e) ∧ eX' (24 * b + e) = eX (24 * b + e) ∧ eY' (24 * b + e) = eY (24 * b + e)) : bx_el b l eK' eX' eY' := by
  intro e he
  obtain ⟨c1, c2, c3⟩ := c e he
  rw [c1, c2, c3]
  exact h e he
theorem bx_el_a {b : Nat} {l : bf_L} {ε : bf_E} {eK eX eY eK' eX' eY' : Nat → Int32} (h : bx_el b l eK eX eY) (c : ∀ e, e < bf_ct l → eK' (24 * b + e) = eK (24 * b + e) ∧ eX' (24 * b + e) = eX (24 * b + e) ∧ eY' (24 * b + e) = eY (24 * b + e))
    (n : bx_e1 b ε (eK' (24 * b + bf_ct l)) (eX' (24 * b + bf_ct l)) (eY' (24 * b + bf_ct l))) : bx_el b (bg_addE l ε) eK' eX' eY' := by
  rw [bx_el_i]
  intro e he
  show bx_e1 b (if e = bf_ct l then ε else l.2.1 e) _ _ _
  by_cases z : e = bf_ct l
  · rw [if_pos z, z]; exact n
  · rw [if_neg z]
    have he' : e < bf_ct l := by have : e < bf_ct l + 1 := he; omega
    exact (bx_el_i.mp (bx_el_c h c)) e he'
theorem bx_sl_c {b : Nat} {l : bf_L} {sK sA sB sX sY sK' sA' sB' sX' sY' : Nat → Int32} (h : bx_sl b l sK sA sB sX sY)
    (c : ∀ i, i < bf_sz l → sK' (16 * b + i) = sK (16 * b + i) ∧ sA' (16 * b + i) = sA (16 * b + i) ∧ sB' (16 * b + i) = sB (16 * b + i) ∧ sX' (16 * b + i) = sX (16 * b + i) ∧ sY' (16 * b + i) = sY (16 * b + i)) : bx_sl b l sK' sA' sB' sX' sY' := by
  intro i hi
  obtain ⟨c1, c2, c3, c4, c5⟩ := c i hi
  rw [c1, c2, c3, c4, c5]
  exact h i hi
theorem bx_sl_a {b : Nat} {l : bf_L} {σ : bf_S} {sK sA sB sX sY sK' sA' sB' sX' sY' : Nat → Int32} (h : bx_sl b l sK sA sB sX sY)
    (c : ∀ i, i < bf_sz l → sK' (16 * b + i) = sK (16 * b + i) ∧ sA' (16 * b + i) = sA (16 * b + i) ∧ sB' (16 * b + i) = sB (16 * b + i) ∧ sX' (16 * b + i) = sX (16 * b + i) ∧ sY' (16 * b + i) = sY (16 * b + i))
    (n : bx_s1 b σ (sK' (16 * b + bf_sz l)) (sA' (16 * b + bf_sz l)) (sB' (16 * b + bf_sz l)) (sX' (16 * b + bf_sz l)) (sY' (16 * b + bf_sz l))) : bx_sl b (bg_addS l σ) sK' sA' sB' sX' sY' := by
  rw [bx_sl_i]
  intro i hi
  show bx_s1 b (if i = bf_sz l then σ else l.1 i) _ _ _ _ _
  by_cases z : i = bf_sz l
  · rw [if_pos z, z]; exact n
  · rw [if_neg z]
    have hi' : i < bf_sz l := by have : i < bf_sz l + 1 := hi; omega
    exact (bx_sl_i.mp (bx_sl_c h c)) i hi'
theorem ry_el_c {q : Nat} {l : bf_L} {eK eX eY eK' eX' eY' : Nat → Int32} (h : ry_el q l eK eX eY) (c : ∀ e, e < bf_ct l → eK' (24 * q + e) = eK (24 * q + e) ∧ eX' (24 * q + e) = eX (24 * q + e) ∧ eY' (24 * q + e) = eY (24 * q + e)) : ry_el q l eK' eX' eY' := by
  intro e he
  obtain ⟨c1, c2, c3⟩ := c e he
  rw [c1, c2, c3]
  exact h e he
theorem ry_el_a {q : Nat} {l : bf_L} {ε : bf_E} {eK eX eY eK' eX' eY' : Nat → Int32} (h : ry_el q l eK eX eY) (c : ∀ e, e < bf_ct l → eK' (24 * q + e) = eK (24 * q + e) ∧ eX' (24 * q + e) = eX (24 * q + e) ∧ eY' (24 * q + e) = eY (24 * q + e))
    (n : ry_e1 ε (eK' (24 * q + bf_ct l)) (eX' (24 * q + bf_ct l)) (eY' (24 * q + bf_ct l))) : ry_el q (bg_addE l ε) eK' eX' eY' := by
  rw [ry_el_i]
  intro e he
  show ry_e1 (if e = bf_ct l then ε else l.2.1 e) _ _ _
  by_cases z : e = bf_ct l
  · rw [if_pos z, z]; exact n
  · rw [if_neg z]
    have he' : e < bf_ct l := by have : e < bf_ct l + 1 := he; omega
    exact (ry_el_i.mp (ry_el_c h c)) e he'
theorem ry_sl_c {q : Nat} {l : bf_L} {sK sR sN sA sB sX sY sK' sR' sN' sA' sB' sX' sY' : Nat → Int32} (h : ry_sl q l sK sR sN sA sB sX sY) (c : ∀ i, i < bf_sz l → sK' (16 * q + i) = sK (16 * q + i) ∧ sR' (16 * q + i) = sR (16 * q + i) ∧ sN' (16 * q + i) = sN (16 * q + i) ∧ sA' (16 * q + i) = sA (16 * q + i) ∧ sB' (16 * q + i) = sB (16 * q + i) ∧ sX' (16 * q + i) = sX (16 * q + i) ∧ sY' (16 * q + i) = sY (16 * q + i)) : ry_sl q l sK' sR' sN' sA' sB' sX' sY' := by
  intro i hi
  obtain ⟨c1, c2, c3, c4, c5, c6, c7⟩ := c i hi
  rw [c1, c2, c3, c4, c5, c6, c7]
  exact h i hi
theorem ry_sl_a {q : Nat} {l : bf_L} {σ : bf_S} {sK sR sN sA sB sX sY sK' sR' sN' sA' sB' sX' sY' : Nat → Int32} (h : ry_sl q l sK sR sN sA sB sX sY) (c : ∀ i, i < bf_sz l → sK' (16 * q + i) = sK (16 * q + i) ∧ sR' (16 * q + i) = sR (16 * q + i) ∧ sN' (16 * q + i) = sN (16 * q + i) ∧ sA' (16 * q + i) = sA (16 * q + i) ∧ sB' (16 * q + i) = sB (16 * q + i) ∧ sX' (16 * q + i) = sX (16 * q + i) ∧ sY' (16 * q + i) = sY (16 * q + i))
    (n : ry_s1 σ (sK' (16 * q + bf_sz l)) (sR' (16 * q + bf_sz l)) (sN' (16 * q + bf_sz l)) (sA' (16 * q + bf_sz l)) (sB' (16 * q + bf_sz l)) (sX' (16 * q + bf_sz l)) (sY' (16 * q + bf_sz l))) : ry_sl q (bg_addS l σ) sK' sR' sN' sA' sB' sX' sY' := by
  rw [ry_sl_i]
  intro i hi
  show ry_s1 (if i = bf_sz l then σ else l.1 i) _ _ _ _ _ _ _
  by_cases z : i = bf_sz l
  · rw [if_pos z, z]; exact n
  · rw [if_neg z]
    have hi' : i < bf_sz l := by have : i < bf_sz l + 1 := hi; omega
    exact (ry_sl_i.mp (ry_sl_c h c)) i hi'
/-! well-formedness of the ghosts -/
def bg_W (bk : Nat → Nat) (P : Nat → bf_L) (es ss h : Nat) (pc sc : Nat → Nat) : Prop :=
  (∀ q, q < 4 → bk q < 4 ∧ bf_wL (P q)) ∧ (∀ q q', q < 4 → q' < 4 → bk q = bk q' → q = q') ∧ (∀ q, q < 3 → 0 < bf_sz (P q)) ∧
  es ≤ bf_ct (P 3) ∧ (∀ j, j < es → pc j < bf_ct (P 3)) ∧ ss ≤ bf_sz (P 3) ∧ (∀ j, j < ss → sc j < bf_sz (P 3)) ∧
  (0 < bf_sz (P 3) → 0 < ss ∧ sc (ss - 1) = bf_sz (P 3) - 1) ∧ h ≤ 12
def bg_X (bk : Nat → Nat) (P : Nat → bf_L) (es ss h : Nat) (pc sc : Nat → Nat) (M g pl : Nat → Int32) (so oc : Int32) (u : SX) : Prop := match u with
  | (xph, xkh, xes, xem, xss, xsm, xdb, xfo, xco, xst, xen, xlo, xrg, xpn, xkr, xkp, xeK, xeX, xeY, xeR, xeV, xeS, xsK, xsA, xsB, xsX, xsY, xsS, xpB, xpS, xfS, xfT, xfB) => xph = nI h ∧ xes = nI es ∧ xem = nI (bf_ct (P 3)) ∧ xss = nI ss ∧ xsm = nI (bf_sz (P 3)) ∧ xdb = nI (bk 3) ∧ xst = so ∧ xlo = oc ∧ xrg = g ∧ xpn = pl ∧
    (∀ q, q < 4 → bx_sl (bk q) (P q) xsK xsA xsB xsX xsY ∧ bx_el (bk q) (P q) xeK xeX xeY) ∧
    (∀ e, e < bf_ct (P 3) → xeR (24 * bk 3 + e) = M e) ∧ (∀ j, j < es → xeS j = nI (24 * bk 3 + pc j)) ∧ (∀ j, j < ss → xsS j = nI (16 * bk 3 + sc j)) ∧
    (∀ p, p < 3 → xpB p = nI (bk p) ∧ xpS p = nI (16 * bk p + (bf_sz (P p) - 1)))
def bg_Y (P : Nat → bf_L) (es ss h : Nat) (pc sc : Nat → Nat) (M g pl : Nat → Int32) (so oc : Int32) (v : SY) : Prop := match v with
  | (ydp, ypd, yhi, yoh, yop, ynx, yba, yca, yed, ysp, ysK, ysR, ysN, ysA, ysB, ysX, ysY, ysz, yeK, yeL, yeR, yeM, yct, yeV, ytS, ytP, yrg, ypn, yog, yoq, yoN, yoT, yoB) => yhi = nI h ∧ ypd = nI es ∧ ydp = nI ss ∧ yct 3 = nI (bf_ct (P 3)) ∧ ysz 3 = nI (bf_sz (P 3)) ∧ ysp = so ∧ yed = oc ∧ yrg = g ∧ ypn = pl ∧
    (∀ q, q < 4 → ry_sl q (P q) ysK ysR ysN ysA ysB ysX ysY ∧ ry_el q (P q) yeK yeL yeR) ∧
    (∀ e, e < bf_ct (P 3) → yeM (72 + e) = M e) ∧ (∀ j, j < es → ytP j = nI (pc j)) ∧ (∀ j, j < ss → ytS j = nI (sc j)) ∧
    (∀ p, p < 3 → ysz p = nI (bf_sz (P p)))
def i_Rel (_ : Nat) (u : SX) (v : SY) : Prop :=
  ∃ bk P es ss h pc sc M g pl so oc, bg_W bk P es ss h pc sc ∧ bg_X bk P es ss h pc sc M g pl so oc u ∧ bg_Y P es ss h pc sc M g pl so oc v
theorem i_up {k : Nat} {u : SX} {v : SY} (h : i_Rel k u v) : i_Rel (k + 4) u v := h
/-! a new expression on the stack of es, a new statement on the stack of ss -/
theorem bg_W_E {bk : Nat → Nat} {P : Nat → bf_L} {es ss h : Nat} {pc sc : Nat → Nat} {ε : bf_E} (W : bg_W bk P es ss h pc sc) (hc : bf_ct (P 3) < 24) (hε : bf_wE (bg_addE (P 3) ε) (bf_ct (P 3))) :
    bg_W bk (bg_put P 3 (bg_addE (P 3) ε)) (es + 1) ss h (bg_at pc es (bf_ct (P 3))) sc := by
  obtain ⟨w1, w2, w3, w4, w5, w6, w7, w8, w9⟩ := W
  refine ⟨fun q hq => ⟨(w1 q hq).1, ?_⟩, w2, fun q hq => ?_, ?_, ?_, ?_, ?_, ?_, w9⟩
  · by_cases z : q = 3
    · subst z
      rw [bg_put_s]
      obtain ⟨a1, a2, a3, a4⟩ := (w1 3 hq).2
      refine ⟨a1, hc, fun i hi => ?_, fun e he => ?_⟩
      · obtain ⟨s1, s2, s3, s4, s5, s6, s7⟩ := a3 i hi
        exact ⟨s1, s2, s3, s4, fun x y => Nat.lt_succ_of_lt (s5 x y), fun x => Nat.lt_succ_of_lt (s6 x), s7⟩
      · by_cases y : e = bf_ct (P 3)
        · rw [y]; exact hε
        · have he' : e < bf_ct (P 3) := by have : e < bf_ct (P 3) + 1 := he; omega
          have k := a4 e he'
          have ee : (bg_addE (P 3) ε).2.1 e = (P 3).2.1 e := if_neg y
          unfold bf_wE bf_eK bf_eA bf_eB at k ⊢
          rw [ee]
          exact k
    · rw [bg_put_n z]; exact (w1 q hq).2
  · rw [bg_put_n (by omega)]; exact w3 q hq
  · rw [bg_put_s]; show es + 1 ≤ bf_ct (P 3) + 1; omega
  · intro j hj
    rw [bg_put_s]
    show _ < bf_ct (P 3) + 1
    by_cases z : j = es
    · rw [z, bg_at_s]; omega
    · rw [bg_at_n z]; have := w5 j (by omega); omega
  · rw [bg_put_s]; exact w6
  · rw [bg_put_s]; exact w7
  · rw [bg_put_s]; exact w8
theorem bg_W_S {bk : Nat → Nat} {P : Nat → bf_L} {es ss h : Nat} {pc sc : Nat → Nat} {σ : bf_S} (W1 : ∀ q, q < 4 → bk q < 4 ∧ bf_wL (P q)) (W2 : ∀ q q', q < 4 → q' < 4 → bk q = bk q' → q = q') (W3 : ∀ q, q < 3 → 0 < bf_sz (P q))
    (W4 : es ≤ bf_ct (P 3)) (W5 : ∀ j, j < es → pc j < bf_ct (P 3)) (W6 : ss ≤ bf_sz (P 3)) (W7 : ∀ j, j < ss → sc j < bf_sz (P 3)) (W9 : h ≤ 12)
    (hc : bf_sz (P 3) < 16) (hσ : bf_wS (bg_addS (P 3) σ) (bf_sz (P 3))) : bg_W bk (bg_put P 3 (bg_addS (P 3) σ)) es (ss + 1) h pc (bg_at sc ss (bf_sz (P 3))) := by
  refine ⟨fun q hq => ⟨(W1 q hq).1, ?_⟩, W2, fun q hq => ?_, ?_, ?_, ?_, ?_, ?_, W9⟩
  · by_cases z : q = 3
    · subst z
      rw [bg_put_s]
      obtain ⟨a1, a2, a3, a4⟩ := (W1 3 hq).2
      refine ⟨hc, a2, fun i hi => ?_, a4⟩
      by_cases y : i = bf_sz (P 3)
      · rw [y]; exact hσ
      · have hi' : i < bf_sz (P 3) := by have : i < bf_sz (P 3) + 1 := hi; omega
        have k := a3 i hi'
        have ee : (bg_addS (P 3) σ).1 i = (P 3).1 i := if_neg y
        unfold bf_wS bf_K bf_R bf_N bf_X bf_Y bf_A bf_B at k ⊢
        rw [ee]
        exact k
    · rw [bg_put_n z]; exact (W1 q hq).2
  · rw [bg_put_n (by omega)]; exact W3 q hq
  · rw [bg_put_s]; exact W4
  · rw [bg_put_s]; exact W5
  · rw [bg_put_s]; show ss + 1 ≤ bf_sz (P 3) + 1; omega
  · intro j hj
    rw [bg_put_s]
    show _ < bf_sz (P 3) + 1
    by_cases z : j = ss
    · rw [z, bg_at_s]; omega
    · rw [bg_at_n z]; have := W7 j (by omega); omega
  · intro _
    rw [bg_put_s]
    exact ⟨Nat.succ_pos _, by rw [Nat.add_sub_cancel, bg_at_s]; rfl⟩
