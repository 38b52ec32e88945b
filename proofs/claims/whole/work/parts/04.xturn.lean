/-! One turn of the component is one turn of the machine -/
/-- the three procedures lie in the tables -/
def bx_P (bk : Nat → Nat) (P : Nat → bf_L) (eK eX eY sK sA sB sX sY pS : Nat → Int32) : Prop :=
  ∀ q, q < 3 → bk q < 4 ∧ bf_wL (P q) ∧ 0 < bf_sz (P q) ∧ bx_sl (bk q) (P q) sK sA sB sX sY ∧ bx_el (bk q) (P q) eK eX eY ∧ pS q = nI (16 * bk q + (bf_sz (P q) - 1))
theorem bx_PG {bk : Nat → Nat} {P : Nat → bf_L} {eK eX eY sK sA sB sX sY pS : Nat → Int32} (hP : bx_P bk P eK eX eY sK sA sB sX sY pS) : bf_G P := fun q hq => ⟨(hP q hq).2.1, (hP q hq).2.2.1⟩
section
variable {xph xkh xes xem xss xsm xdb xfo xco xst xen xlo : Int32} {xrg xpn xkr xkp xeK xeX xeY xeR xeV xeS xsK xsA xsB xsX xsY xsS xpB xpS xfS xfT xfB : Nat → Int32}
variable {post : SX → Prop} {bk : Nat → Nat} {P : Nat → bf_L} {g pl g0 p0 : Nat → Int32} {h q i t c n : Nat} {w : Bool} {fs : List bf_F}
/-- how deep the stack is -/
theorem bx_deep (hG : bf_G P) (o : bf_ok P ((q, i, t, w) :: fs)) (h6 : bf_cc P ((q, i, t, w) :: fs) ≤ 6) : fs.length < 112 ∧ (10 ≤ bf_K (P q) i → fs.length + 1 < 112) := by
  have h1 := o.2.1
  have h2 : bf_cc P fs ≤ bf_cc P ((q, i, t, w) :: fs) := Nat.le_add_left _ _
  dsimp only at h1
  refine ⟨by omega, fun hk => ?_⟩
  have ws := (hG q o.1.1).1.2.2.1 i o.1.2.1
  have := ws.2.2.2.2.2.2 hk
  omega
theorem bx_seq {k s : Nat} {a b : Int32} (ht : t ≤ 2) (hk : k + 1 < 112) (hs : s < 64) (eS : xfS k = nI s) (eT : xfT k = nI t) (eB : xfB k = bx_b w) (eA : xsA s = a) (eB2 : xsB s = b)
    (HC : (t = if w then 1 else 2) → post (xph, xkh, xes, xem, xss, xsm, xdb, nI k, xco, xst, xen, xlo, xrg, xpn, xkr, xkp, xeK, xeX, xeY, xeR, xeV, xeS, xsK, xsA, xsB, xsX, xsY, xsS, xpB, xpS, xfS, xfT, xfB))
    (HA : (t = if w then 2 else 0) → post (xph, xkh, xes, xem, xss, xsm, xdb, nI (k + 2), xco, xst, xen, xlo, xrg, xpn, xkr, xkp, xeK, xeX, xeY, xeR, xeV, xeS, xsK, xsA, xsB, xsX, xsY, xsS, xpB, xpS, upd xfS (k + 1) a, upd (upd xfT k 1) (k + 1) 0, upd xfB (k + 1) (bx_b w)))
    (HB : (t = if w then 0 else 1) → post (xph, xkh, xes, xem, xss, xsm, xdb, nI (k + 2), xco, xst, xen, xlo, xrg, xpn, xkr, xkp, xeK, xeX, xeY, xeR, xeV, xeS, xsK, xsA, xsB, xsX, xsY, xsS, xpB, xpS, upd xfS (k + 1) b, upd (upd xfT k 2) (k + 1) 0, upd xfB (k + 1) (bx_b w))) :
    wpX_advanceSeq post (xph, xkh, xes, xem, xss, xsm, xdb, nI (k + 1), xco, xst, xen, xlo, xrg, xpn, xkr, xkp, xeK, xeX, xeY, xeR, xeV, xeS, xsK, xsA, xsB, xsX, xsY, xsS, xpB, xpS, xfS, xfT, xfB) (nI k) := by
  have hin : vp_in (nI k) 112 := vp_in_nI (by omega) (by decide)
  have hc : (nI k).toNatClampNeg = k := nI_clamp (by omega)
  have e1 : xfT (nI k).toNatClampNeg = nI t := by rw [hc]; exact eT
  have e2 : xfB (nI k).toNatClampNeg = bx_b w := by rw [hc]; exact eB
  refine ⟨hin, nm_r e1 ⟨hin, nm_r e2 ?_⟩⟩
  have h3 : t = 0 ∨ t = 1 ∨ t = 2 := by omega
  cases w with
  | false =>
    refine br_t rfl ?_
    rcases h3 with rfl | rfl | rfl
    · exact br_f (by decide) (br_t rfl (br_t rfl (bx_openA hk hs eS eB eA (HA rfl))))
    · exact br_f (by decide) (br_t rfl (br_f (by decide) (bx_openB hk hs eS eB eB2 (HB rfl))))
    · exact br_t rfl (bx_close (HC rfl))
  | true =>
    refine br_f (by decide) ?_
    rcases h3 with rfl | rfl | rfl
    · exact br_f (by decide) (br_f (by decide) (br_f (by decide) (bx_openB hk hs eS eB eB2 (HB rfl))))
    · exact br_t rfl (bx_close (HC rfl))
    · exact br_f (by decide) (br_f (by decide) (br_t rfl (bx_openA hk hs eS eB eA (HA rfl))))
theorem bx_step (hn : n ≤ 300) {post : Int32 → SX → Prop} (HT : 300 ≤ n → post 0 (xph, xkh, xes, xem, xss, xsm, xdb, xfo, xco, nI n, 2, xlo, xrg, xpn, xkr, xkp, xeK, xeX, xeY, xeR, xeV, xeS, xsK, xsA, xsB, xsX, xsY, xsS, xpB, xpS, xfS, xfT, xfB)) (H : ¬ 300 ≤ n → post 1 (xph, xkh, xes, xem, xss, xsm, xdb, xfo, xco, nI (n + 1), xen, xlo, xrg, xpn, xkr, xkp, xeK, xeX, xeY, xeR, xeV, xeS, xsK, xsA, xsB, xsX, xsY, xsS, xpB, xpS, xfS, xfT, xfB)) : wpX_makeStep post (xph, xkh, xes, xem, xss, xsm, xdb, xfo, xco, nI n, xen, xlo, xrg, xpn, xkr, xkp, xeK, xeX, xeY, xeR, xeV, xeS, xsK, xsA, xsB, xsX, xsY, xsS, xpB, xpS, xfS, xfT, xfB) :=
  pk_lt n 300 (fun z => nm_r (nI_1 n) (H (by omega))) (fun z => HT z)
/-! effects -/
theorem bx_put {r : Nat} (hr : r < 6) (hh : h ≤ 12) (HF : 12 ≤ h → post (nI h, xkh, xes, xem, xss, xsm, xdb, xfo, xco, xst, 1, xlo, xrg, xpn, xkr, xkp, xeK, xeX, xeY, xeR, xeV, xeS, xsK, xsA, xsB, xsX, xsY, xsS, xpB, xpS, xfS, xfT, xfB)) (H : ¬ 12 ≤ h → post (nI (h + 1), xkh, xes, xem, xss, xsm, xdb, xfo, xco, xst, xen, xlo, upd xrg r 0, upd xpn h (xrg r), xkr, xkp, xeK, xeX, xeY, xeR, xeV, xeS, xsK, xsA, xsB, xsX, xsY, xsS, xpB, xpS, xfS, xfT, xfB)) :
    wpX_putOnPile post (nI h, xkh, xes, xem, xss, xsm, xdb, xfo, xco, xst, xen, xlo, xrg, xpn, xkr, xkp, xeK, xeX, xeY, xeR, xeV, xeS, xsK, xsA, xsB, xsX, xsY, xsS, xpB, xpS, xfS, xfT, xfB) (nI r) := by
  have hin : vp_in (nI r) 6 := vp_in_nI hr (by decide)
  have hc : (nI r).toNatClampNeg = r := nI_clamp (by omega)
  refine pk_lt h 12 (fun z => ?_) (fun z => HF z)
  have hc2 : (nI h).toNatClampNeg = h := nI_clamp (by omega)
  exact ⟨hin, vp_in_nI z (by decide), nm_r (e' := upd xpn h (xrg r)) (by rw [hc, hc2]) (nm_r (nI_1 h) ⟨hin, nm_r (e' := upd xrg r 0) (by rw [hc]) (H (by omega))⟩)⟩
theorem bx_take {r : Nat} (hr : r < 6) (hh : h ≤ 12) (HF : h = 0 ∨ xrg r ≠ 0 → post (nI h, xkh, xes, xem, xss, xsm, xdb, xfo, xco, xst, 1, xlo, xrg, xpn, xkr, xkp, xeK, xeX, xeY, xeR, xeV, xeS, xsK, xsA, xsB, xsX, xsY, xsS, xpB, xpS, xfS, xfT, xfB)) (H : ¬ (h = 0 ∨ xrg r ≠ 0) → post (nI (h - 1), xkh, xes, xem, xss, xsm, xdb, xfo, xco, xst, xen, xlo, upd xrg r (xpn (h - 1)), xpn, xkr, xkp, xeK, xeX, xeY, xeR, xeV, xeS, xsK, xsA, xsB, xsX, xsY, xsS, xpB, xpS, xfS, xfT, xfB)) :
    wpX_takeFromPile post (nI h, xkh, xes, xem, xss, xsm, xdb, xfo, xco, xst, xen, xlo, xrg, xpn, xkr, xkp, xeK, xeX, xeY, xeR, xeV, xeS, xsK, xsA, xsB, xsX, xsY, xsS, xpB, xpS, xfS, xfT, xfB) (nI r) := by
  have hin : vp_in (nI r) 6 := vp_in_nI hr (by decide)
  have hc : (nI r).toNatClampNeg = r := nI_clamp (by omega)
  refine pk_le h 0 (fun z => HF (Or.inl (by omega))) (fun z => ⟨hin, ?_⟩)
  rw [hc]
  refine br_c (fun z0 => ?_) (fun z0 => HF (Or.inr z0))
  obtain ⟨h', rfl⟩ : ∃ h', h = h' + 1 := ⟨h - 1, by omega⟩
  have hc2 : (nI h').toNatClampNeg = h' := nI_clamp (by omega)
  exact nm_r (nI_pred h') ⟨vp_in_nI (by omega) (by decide), hin, nm_r (e' := upd xrg r (xpn h')) (by rw [hc2]) (H (fun z1 => z1.elim (fun a => absurd a (Nat.succ_ne_zero _)) (fun b => b z0)))⟩
/-- the effect of a simple statement, all kinds but call and back; s its place -/
theorem bx_change {s b : Nat} {l : bf_L} (hs : s = 16 * b + i) (hb : b < 4) (hw : bf_wL l) (hi : i < bf_sz l) (hk : bf_K l i < 10) (h4 : ¬ (bf_K l i = 4 ∨ bf_K l i = 5)) (hh : h ≤ 12)
    (hsl : bx_sl b l xsK xsA xsB xsX xsY) (hel : bx_el b l xeK xeX xeY)
    (H : ∀ eV, post (nI (bf_eff l i w xrg xpn h).2.2.1, xkh, xes, xem, xss, xsm, xdb, xfo, xco, xst, nI (bf_eff l i w xrg xpn h).2.2.2, xlo, (bf_eff l i w xrg xpn h).1, (bf_eff l i w xrg xpn h).2.1, xkr, xkp, xeK, xeX, xeY, xeR, eV, xeS, xsK, xsA, xsB, xsX, xsY, xsS, xpB, xpS, xfS, xfT, xfB)) :
    wpX_change post (nI h, xkh, xes, xem, xss, xsm, xdb, xfo, xco, xst, 0, xlo, xrg, xpn, xkr, xkp, xeK, xeX, xeY, xeR, xeV, xeS, xsK, xsA, xsB, xsX, xsY, xsS, xpB, xpS, xfS, xfT, xfB) (nI s) (bx_b w) := by
  subst hs
  have h16 := hw.1
  have ws := hw.2.2.1 i hi
  have hin : vp_in (nI (16 * b + i)) 64 := vp_in_nI (by omega) (by decide)
  have hc : (nI (16 * b + i)).toNatClampNeg = 16 * b + i := nI_clamp (by omega)
  obtain ⟨rK, r10, -, rX, -⟩ := hsl i hi
  obtain ⟨rA, rB⟩ := r10 hk
  have eK : ∀ k : Nat, bf_K l i = k → xsK (nI (16 * b + i)).toNatClampNeg = nI k := fun k z => by rw [hc, rK, z]
  have eA : xsA (nI (16 * b + i)).toNatClampNeg = bf_R l i := by rw [hc]; exact rA
  have eB : xsB (nI (16 * b + i)).toNatClampNeg = bf_N l i := by rw [hc]; exact rB
  have hcs : bf_K l i = 0 ∨ bf_K l i = 1 ∨ bf_K l i = 2 ∨ bf_K l i = 3 ∨ bf_K l i = 6 ∨ bf_K l i = 7 ∨ bf_K l i = 8 ∨ bf_K l i = 9 := by omega
  have val : 6 ≤ bf_K l i → ∀ {ps : Int32 → SX → Prop}, (∀ eV, ps (bf_v l xrg (bf_X l i)) (nI h, xkh, xes, xem, xss, xsm, xdb, xfo, xco, xst, 0, xlo, xrg, xpn, xkr, xkp, xeK, xeX, xeY, xeR, eV, xeS, xsK, xsA, xsB, xsX, xsY, xsS, xpB, xpS, xfS, xfT, xfB)) → wpX_valueOf ps (nI h, xkh, xes, xem, xss, xsm, xdb, xfo, xco, xst, 0, xlo, xrg, xpn, xkr, xkp, xeK, xeX, xeY, xeR, xeV, xeS, xsK, xsA, xsB, xsX, xsY, xsS, xpB, xpS, xfS, xfT, xfB) (xsX (nI (16 * b + i)).toNatClampNeg) :=
    fun z ps hp => bx_val (by rw [hc]; exact rX z (by omega)) hel hw (ws.2.2.2.2.1 z (by omega)) hb hp
  rcases hcs with k | k | k | k | k | k | k | k
  · rw [be_0 k] at H
    exact ⟨hin, nm_r (eK 0 k) ⟨hin, nm_r eA (br_f (by decide) (br_f (by decide) (br_f (by decide) (br_t rfl (H _)))))⟩⟩
  · obtain ⟨r, hr, er, cr⟩ := bf_R6 ws (Or.inl k)
    obtain ⟨r2, hr2, er2, cr2⟩ := bf_N6 ws k
    rw [be_1 k, cr, cr2] at H
    have i1 : vp_in (bf_R l i) 6 := by rw [er]; exact vp_in_nI hr (by decide)
    have i2 : vp_in (bf_N l i) 6 := by rw [er2]; exact vp_in_nI hr2 (by decide)
    refine ⟨hin, nm_r (eK 1 k) ⟨hin, nm_r eA (br_t rfl ⟨hin, ?_⟩)⟩⟩
    rw [eB]
    exact ⟨i1, nm_r (e' := xrg r) (by rw [cr]) ⟨i2, i1, nm_r (e' := upd xrg r (xrg r2)) (by rw [cr, cr2]) ⟨i2, nm_r (e' := upd (upd xrg r (xrg r2)) r2 (xrg r)) (by rw [cr2]) (H _)⟩⟩⟩
  · obtain ⟨r, hr, er, cr⟩ := bf_R6 ws (by omega)
    rw [be_2 k, cr] at H
    refine ⟨hin, nm_r (eK 2 k) ⟨hin, nm_r (eA.trans er) (br_f (by decide) (br_t rfl (br_t rfl ?_)))⟩⟩
    cases w with
    | false => exact br_f (by decide) (bx_put hr hh (fun z => by have H := H xeV; unfold bf_push at H; rw [if_neg (by decide), if_pos z] at H; exact H) (fun z => by have H := H xeV; unfold bf_push at H; rw [if_neg (by decide), if_neg z] at H; exact H))
    | true => exact br_t rfl (bx_take hr hh (fun z => by have H := H xeV; unfold bf_pop at H; rw [if_pos rfl, if_pos z] at H; exact H) (fun z => by have H := H xeV; unfold bf_pop at H; rw [if_pos rfl, if_neg z] at H; exact H))
  · obtain ⟨r, hr, er, cr⟩ := bf_R6 ws (by omega)
    rw [be_3 k, cr] at H
    refine ⟨hin, nm_r (eK 3 k) ⟨hin, nm_r (eA.trans er) (br_f (by decide) (br_f (by decide) (br_t rfl (br_f (by decide) ?_))))⟩⟩
    cases w with
    | false => exact br_t rfl (bx_take hr hh (fun z => by have H := H xeV; unfold bf_pop at H; rw [if_neg (by decide), if_pos z] at H; exact H) (fun z => by have H := H xeV; unfold bf_pop at H; rw [if_neg (by decide), if_neg z] at H; exact H))
    | true => exact br_f (by decide) (bx_put hr hh (fun z => by have H := H xeV; unfold bf_push at H; rw [if_pos rfl, if_pos z] at H; exact H) (fun z => by have H := H xeV; unfold bf_push at H; rw [if_pos rfl, if_neg z] at H; exact H))
  · obtain ⟨r, hr, er, cr⟩ := bf_R6 ws (by omega)
    rw [be_6 k, cr] at H
    have i1 : vp_in (nI r) 6 := vp_in_nI hr (by decide)
    have hr2 : (nI r).toNatClampNeg = r := nI_clamp (by omega)
    refine ⟨hin, nm_r (eK 6 k) ⟨hin, nm_r (eA.trans er) (br_f (by decide) (br_f (by decide) (br_f (by decide) (br_f (by decide) ⟨hin, val (by omega) (fun eV => br_f (by decide) (br_f (by decide) (br_f (by decide) ?_)))⟩))))⟩⟩
    cases w with
    | false => exact br_t rfl ⟨i1, i1, nm_r (e' := upd xrg r (xrg r + bf_v l xrg (bf_X l i))) (by rw [hr2]) (H eV)⟩
    | true => exact br_f (by decide) ⟨i1, i1, nm_r (e' := upd xrg r (xrg r - bf_v l xrg (bf_X l i))) (by rw [hr2]) (H eV)⟩
  · obtain ⟨r, hr, er, cr⟩ := bf_R6 ws (by omega)
    rw [be_7 k, cr] at H
    have i1 : vp_in (nI r) 6 := vp_in_nI hr (by decide)
    have hr2 : (nI r).toNatClampNeg = r := nI_clamp (by omega)
    refine ⟨hin, nm_r (eK 7 k) ⟨hin, nm_r (eA.trans er) (br_f (by decide) (br_f (by decide) (br_f (by decide) (br_f (by decide) ⟨hin, val (by omega) (fun eV => br_f (by decide) (br_f (by decide) (br_t rfl ?_)))⟩))))⟩⟩
    cases w with
    | false => exact br_f (by decide) ⟨i1, i1, nm_r (e' := upd xrg r (xrg r - bf_v l xrg (bf_X l i))) (by rw [hr2]) (H eV)⟩
    | true => exact br_t rfl ⟨i1, i1, nm_r (e' := upd xrg r (xrg r + bf_v l xrg (bf_X l i))) (by rw [hr2]) (H eV)⟩
  · obtain ⟨r, hr, er, cr⟩ := bf_R6 ws (by omega)
    rw [be_8 k, cr] at H
    have i1 : vp_in (nI r) 6 := vp_in_nI hr (by decide)
    have hr2 : (nI r).toNatClampNeg = r := nI_clamp (by omega)
    exact ⟨hin, nm_r (eK 8 k) ⟨hin, nm_r (eA.trans er) (br_f (by decide) (br_f (by decide) (br_f (by decide) (br_f (by decide) ⟨hin, val (by omega) (fun eV => br_f (by decide) (br_t rfl ⟨i1, i1, nm_r (e' := upd xrg r (xrg r ^^^ bf_v l xrg (bf_X l i))) (by rw [hr2]) (H eV)⟩))⟩))))⟩⟩
  · rw [be_9 k] at H
    refine ⟨hin, nm_r (eK 9 k) ⟨hin, nm_r eA (br_f (by decide) (br_f (by decide) (br_f (by decide) (br_f (by decide) ⟨hin, val (by omega) (fun eV => br_t rfl (br_c (fun z => ?_) (fun z => ?_)))⟩))))⟩⟩
    · have H := H eV; rw [if_pos z] at H; exact H
    · have H := H eV; rw [if_neg z] at H; exact H
end
