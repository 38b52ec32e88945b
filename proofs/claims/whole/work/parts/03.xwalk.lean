/-! The component's walks over the pure machine -/
def bx_b (w : Bool) : Int32 := if w then 1 else 0
theorem bx_nar (w : Bool) : vp_nar .boolean (bx_b w) = bx_b w := by cases w <;> decide
/-- the slot l lies in bank b of the component's tables -/
def bx_sl (b : Nat) (l : bf_L) (sK sA sB sX sY : Nat → Int32) : Prop :=
  ∀ i, i < bf_sz l → sK (16 * b + i) = nI (bf_K l i) ∧ (bf_K l i < 10 → sA (16 * b + i) = bf_R l i ∧ sB (16 * b + i) = bf_N l i) ∧
    (10 ≤ bf_K l i → sA (16 * b + i) = nI (16 * b + bf_A l i) ∧ sB (16 * b + i) = nI (16 * b + bf_B l i)) ∧
    (6 ≤ bf_K l i → bf_K l i ≠ 10 → sX (16 * b + i) = nI (24 * b + bf_X l i)) ∧ (11 ≤ bf_K l i → sY (16 * b + i) = nI (24 * b + bf_Y l i))
def bx_el (b : Nat) (l : bf_L) (eK eX eY : Nat → Int32) : Prop :=
  ∀ e, e < bf_ct l → eK (24 * b + e) = nI (bf_eK l e) ∧ (bf_eK l e = 7 → eX (24 * b + e) = bf_eL l e) ∧ (bf_eK l e = 8 → eX (24 * b + e) = nI (bf_eA l e)) ∧
    (bf_eK l e ≤ 6 → eX (24 * b + e) = nI (24 * b + bf_eA l e) ∧ eY (24 * b + e) = nI (24 * b + bf_eB l e))
/-- the frames -/
def bx_f (bk : Nat → Nat) (S T B : Nat → Int32) : List bf_F → Prop
  | [] => True
  | f :: fs => (S fs.length = nI (16 * bk f.1 + f.2.1) ∧ T fs.length = nI f.2.2.1 ∧ B fs.length = bx_b f.2.2.2) ∧ bx_f bk S T B fs
theorem bx_f_c {bk : Nat → Nat} {S T B S' T' B' : Nat → Int32} : ∀ {fs : List bf_F}, (∀ j, j < fs.length → S' j = S j ∧ T' j = T j ∧ B' j = B j) → bx_f bk S T B fs → bx_f bk S' T' B' fs
  | [], _, _ => trivial
  | f :: fs, h, x => by
    have hj := h fs.length (Nat.lt_succ_self _)
    refine ⟨⟨hj.1.trans x.1.1, hj.2.1.trans x.1.2.1, hj.2.2.trans x.1.2.2⟩, bx_f_c (fun j z => h j (Nat.lt_succ_of_lt z)) x.2⟩
section
variable {bk : Nat → Nat} {S T B : Nat → Int32} {q i t : Nat} {w : Bool} {fs : List bf_F}
theorem bx_f_t {t' : Nat} (x : bx_f bk S T B ((q, i, t, w) :: fs)) : bx_f bk S (upd T fs.length (nI t')) B ((q, i, t', w) :: fs) :=
  ⟨⟨x.1.1, pk_us, x.1.2.2⟩, bx_f_c (fun j z => ⟨rfl, pk_un (by omega), rfl⟩) x.2⟩
theorem bx_f_put {p a : Nat} {w' : Bool} (x : bx_f bk S T B fs) : bx_f bk (upd S fs.length (nI (16 * bk p + a))) (upd T fs.length 0) (upd B fs.length (bx_b w')) ((p, a, 0, w') :: fs) :=
  ⟨⟨pk_us, pk_us, pk_us⟩, bx_f_c (fun j z => ⟨pk_un (by omega), pk_un (by omega), pk_un (by omega)⟩) x⟩
end
section
variable {xph xkh xes xem xss xsm xdb xfo xco xst xen xlo : Int32} {xrg xpn xkr xkp xeK xeX xeY xeR xeV xeS xsK xsA xsB xsX xsY xsS xpB xpS xfS xfT xfB : Nat → Int32}
variable {post : SX → Prop} {bk : Nat → Nat} {P : Nat → bf_L}
theorem bx_open {k : Nat} {a b : Int32} (hk : k < 112) (hb : vp_nar .boolean b = b)
    (H : post (xph, xkh, xes, xem, xss, xsm, xdb, nI (k + 1), xco, xst, xen, xlo, xrg, xpn, xkr, xkp, xeK, xeX, xeY, xeR, xeV, xeS, xsK, xsA, xsB, xsX, xsY, xsS, xpB, xpS, upd xfS k a, upd xfT k 0, upd xfB k b)) : wpX_open post (xph, xkh, xes, xem, xss, xsm, xdb, nI k, xco, xst, xen, xlo, xrg, xpn, xkr, xkp, xeK, xeX, xeY, xeR, xeV, xeS, xsK, xsA, xsB, xsX, xsY, xsS, xpB, xpS, xfS, xfT, xfB) a b := by
  have hi : vp_in (nI k) 112 := vp_in_nI hk (by decide)
  have hc : (nI k).toNatClampNeg = k := nI_clamp (by omega)
  exact ⟨hi, nm_r (by rw [hc]) ⟨hi, nm_r (by rw [hc]) ⟨hi, nm_r (by rw [hc, hb]) (nm_r (nI_1 k) H)⟩⟩⟩
theorem bx_close {k : Nat} (H : post (xph, xkh, xes, xem, xss, xsm, xdb, nI k, xco, xst, xen, xlo, xrg, xpn, xkr, xkp, xeK, xeX, xeY, xeR, xeV, xeS, xsK, xsA, xsB, xsX, xsY, xsS, xpB, xpS, xfS, xfT, xfB)) : wpX_close post (xph, xkh, xes, xem, xss, xsm, xdb, nI (k + 1), xco, xst, xen, xlo, xrg, xpn, xkr, xkp, xeK, xeX, xeY, xeR, xeV, xeS, xsK, xsA, xsB, xsX, xsY, xsS, xpB, xpS, xfS, xfT, xfB) := nm_r (nI_pred k) H
theorem bx_openA {k s : Nat} {w : Bool} {a : Int32} (hk : k + 1 < 112) (hs : s < 64) (eS : xfS k = nI s) (eB : xfB k = bx_b w) (eA : xsA s = a)
    (H : post (xph, xkh, xes, xem, xss, xsm, xdb, nI (k + 2), xco, xst, xen, xlo, xrg, xpn, xkr, xkp, xeK, xeX, xeY, xeR, xeV, xeS, xsK, xsA, xsB, xsX, xsY, xsS, xpB, xpS, upd xfS (k + 1) a, upd (upd xfT k 1) (k + 1) 0, upd xfB (k + 1) (bx_b w))) : wpX_openA post (xph, xkh, xes, xem, xss, xsm, xdb, nI (k + 1), xco, xst, xen, xlo, xrg, xpn, xkr, xkp, xeK, xeX, xeY, xeR, xeV, xeS, xsK, xsA, xsB, xsX, xsY, xsS, xpB, xpS, xfS, xfT, xfB) (nI k) := by
  have hi : vp_in (nI k) 112 := vp_in_nI (by omega) (by decide)
  have hc : (nI k).toNatClampNeg = k := nI_clamp (by omega)
  have e1 : xfS (nI k).toNatClampNeg = nI s := by rw [hc]; exact eS
  have e2 : xsA (xfS (nI k).toNatClampNeg).toNatClampNeg = a := by rw [e1, nI_clamp (by omega)]; exact eA
  have e3 : xfB (nI k).toNatClampNeg = bx_b w := by rw [hc]; exact eB
  refine ⟨hi, nm_r (e' := upd xfT k 1) (by rw [hc]) ⟨hi, ?_, hi, ?_⟩⟩
  · rw [e1]; exact vp_in_nI hs (by decide)
  · rw [e2, e3]; exact bx_open hk (bx_nar w) H
theorem bx_openB {k s : Nat} {w : Bool} {a : Int32} (hk : k + 1 < 112) (hs : s < 64) (eS : xfS k = nI s) (eB : xfB k = bx_b w) (eA : xsB s = a)
    (H : post (xph, xkh, xes, xem, xss, xsm, xdb, nI (k + 2), xco, xst, xen, xlo, xrg, xpn, xkr, xkp, xeK, xeX, xeY, xeR, xeV, xeS, xsK, xsA, xsB, xsX, xsY, xsS, xpB, xpS, upd xfS (k + 1) a, upd (upd xfT k 2) (k + 1) 0, upd xfB (k + 1) (bx_b w))) : wpX_openB post (xph, xkh, xes, xem, xss, xsm, xdb, nI (k + 1), xco, xst, xen, xlo, xrg, xpn, xkr, xkp, xeK, xeX, xeY, xeR, xeV, xeS, xsK, xsA, xsB, xsX, xsY, xsS, xpB, xpS, xfS, xfT, xfB) (nI k) := by
  have hi : vp_in (nI k) 112 := vp_in_nI (by omega) (by decide)
  have hc : (nI k).toNatClampNeg = k := nI_clamp (by omega)
  have e1 : xfS (nI k).toNatClampNeg = nI s := by rw [hc]; exact eS
  have e2 : xsB (xfS (nI k).toNatClampNeg).toNatClampNeg = a := by rw [e1, nI_clamp (by omega)]; exact eA
  have e3 : xfB (nI k).toNatClampNeg = bx_b w := by rw [hc]; exact eB
  refine ⟨hi, nm_r (e' := upd xfT k 2) (by rw [hc]) ⟨hi, ?_, hi, ?_⟩⟩
  · rw [e1]; exact vp_in_nI hs (by decide)
  · rw [e2, e3]; exact bx_open hk (bx_nar w) H
end
/-! values -/
theorem bx_comb {post : Int32 → Prop} {x y : Int32} : ∀ k, k ≤ 6 → post (bf_op k x y) → wpX_combined post (nI k) x y
  | 0, _, h => br_f (by decide) (br_f (by decide) (br_t (by decide) h))
  | 1, _, h => br_f (by decide) (br_f (by decide) (br_f (by decide) (br_t (by decide) h)))
  | 2, _, h => br_f (by decide) (br_f (by decide) (br_f (by decide) (br_f (by decide) (br_t (by decide) h))))
  | 3, _, h => br_f (by decide) (br_f (by decide) (br_f (by decide) (br_f (by decide) (br_f (by decide) (br_t (by decide) h)))))
  | 4, _, h => br_f (by decide) (br_f (by decide) (br_f (by decide) (br_f (by decide) (br_f (by decide) (br_f (by decide) (br_t (by decide) h))))))
  | 5, _, h => br_f (by decide) (br_f (by decide) (br_f (by decide) (br_f (by decide) (br_f (by decide) (br_f (by decide) (br_f (by decide) (br_t (by decide)
      (br_c (fun z => (by rw [bf_op5, if_neg (Int32.not_lt.mpr z)] at h; exact h)) (fun z => (by rw [bf_op5, if_pos (Int32.not_le.mp z)] at h; exact h))))))))))
  | 6, _, h => br_f (by decide) (br_t (by decide)
      (br_c (fun z => (by rw [bf_op6, if_pos z] at h; exact h)) (fun z => (by rw [bf_op6, if_neg z] at h; exact h))))
  | k + 7, hk, _ => by omega
/-- the table of values grows by one -/
theorem bx_tab {l : bf_L} {g v : Nat → Int32} {B j : Nat} {x : Int32} (w : bf_wE l j) (hv : ∀ i, i < j → v (B + i) = bf_v l g i) (hx : x = bf_e1 l g (fun i => v (B + i)) j) :
    ∀ i, i < j + 1 → upd v (B + j) x (B + i) = bf_v l g i := by
  intro i hi
  by_cases e : i = j
  · subst e
    rw [pk_us, hx]
    exact bf_e1_v w hv
  · rw [pk_un (by omega)]
    exact hv i (by omega)
section
variable {xph xkh xes xem xss xsm xdb xfo xco xst xen xlo : Int32} {xrg xpn xkr xkp xeK xeX xeY xeR xeV xeS xsK xsA xsB xsX xsY xsS xpB xpS xfS xfT xfB : Nat → Int32}
variable {l : bf_L} {b e : Nat}
theorem bx_val_loop {post : Int32 → SX → Prop} (hl : bx_el b l xeK xeX xeY) (hw : bf_wL l) (he : e < bf_ct l) (hb : b < 4)
    (H : ∀ eV, post (bf_v l xrg e) (xph, xkh, xes, xem, xss, xsm, xdb, xfo, xco, xst, xen, xlo, xrg, xpn, xkr, xkp, xeK, xeX, xeY, xeR, eV, xeS, xsK, xsA, xsB, xsX, xsY, xsS, xpB, xpS, xfS, xfT, xfB)) : ∀ d j eV, j + d = e + 1 → (∀ i, i < j → eV (24 * b + i) = bf_v l xrg i) →
    wX_valueOf_9 post (nI (24 * b + e)) xph xkh xes xem xss xsm xdb xfo xco xst xen xlo (d + 1) (nI (24 * b + j)) xrg xpn xkr xkp xeK xeX xeY xeR eV xeS xsK xsA xsB xsX xsY xsS xpB xpS xfS xfT xfB := by
  have h24 := hw.2.1
  intro d
  induction d with
  | zero =>
    intro j eV hj hv
    have hlt : nI (24 * b + e) < nI (24 * b + j) := nI_lt (by omega) (by omega)
    have ev : eV (nI (24 * b + e)).toNatClampNeg = bf_v l xrg e := by rw [nI_clamp (by omega)]; exact hv e (by omega)
    exact br_t hlt ⟨vp_in_nI (by omega) (by decide), by rw [ev]; exact H eV⟩
  | succ d ih =>
    intro j eV hj hv
    have hje : j < bf_ct l := by omega
    have hlt : ¬ nI (24 * b + e) < nI (24 * b + j) := nI_nlt (by omega) (by omega)
    have hi : vp_in (nI (24 * b + j)) 96 := vp_in_nI (by omega) (by decide)
    have hc : (nI (24 * b + j)).toNatClampNeg = 24 * b + j := nI_clamp (by omega)
    obtain ⟨rk, r7, r8, r6⟩ := hl j hje
    have wE := hw.2.2.2 j hje
    have kk : xeK (nI (24 * b + j)).toNatClampNeg = nI (bf_eK l j) := by rw [hc]; exact rk
    by_cases k7 : bf_eK l j = 7
    · have c7 : xeK (nI (24 * b + j)).toNatClampNeg = 7 := by rw [kk, k7]; rfl
      refine br_f hlt ⟨hi, nm_r (e' := bf_eL l j) (by rw [hc]; exact r7 k7) ⟨hi, br_t c7 ⟨hi, nm_r (e' := upd eV (24 * b + j) (bf_eL l j)) (by rw [hc]) (nm_r (nI_1 _) ?_)⟩⟩⟩
      exact ih (j + 1) _ (by omega) (bx_tab wE hv (by unfold bf_e1; rw [if_pos k7]))
    have c7 : ¬ xeK (nI (24 * b + j)).toNatClampNeg = 7 := by
      rw [kk]; exact fun z => k7 ((nI_eq (by have := wE.1; omega) (by decide)).mp (z.trans (show (7 : Int32) = nI 7 from rfl)))
    by_cases k8 : bf_eK l j = 8
    · have c8 : xeK (nI (24 * b + j)).toNatClampNeg = 8 := by rw [kk, k8]; rfl
      have h6 := wE.2.1 k8
      have hr : xrg (nI (bf_eA l j)).toNatClampNeg = xrg (bf_eA l j) := by rw [nI_clamp (by omega)]
      refine br_f hlt ⟨hi, nm_r (e' := nI (bf_eA l j)) (by rw [hc]; exact r8 k8) ⟨hi, br_f c7 ⟨hi, br_t c8 ⟨vp_in_nI h6 (by decide), hi, nm_r (e' := upd eV (24 * b + j) (xrg (bf_eA l j))) (by rw [hc, hr]) (nm_r (nI_1 _) ?_)⟩⟩⟩⟩
      exact ih (j + 1) _ (by omega) (bx_tab wE hv (by unfold bf_e1; rw [if_neg k7, if_pos k8]))
    have c8 : ¬ xeK (nI (24 * b + j)).toNatClampNeg = 8 := by
      rw [kk]; exact fun z => k8 ((nI_eq (by have := wE.1; omega) (by decide)).mp (z.trans (show (8 : Int32) = nI 8 from rfl)))
    have k6 : bf_eK l j ≤ 6 := by have := wE.1; omega
    have hab := wE.2.2 k6
    have ha : (nI (24 * b + bf_eA l j)).toNatClampNeg = 24 * b + bf_eA l j := nI_clamp (by omega)
    have hbb : (nI (24 * b + bf_eB l j)).toNatClampNeg = 24 * b + bf_eB l j := nI_clamp (by omega)
    refine br_f hlt ⟨hi, nm_r (e' := nI (24 * b + bf_eA l j)) (by rw [hc]; exact (r6 k6).1) ⟨hi, br_f c7 ⟨hi, br_f c8 ⟨hi, nm_r (e' := nI (24 * b + bf_eB l j)) (by rw [hc]; exact (r6 k6).2)
      ⟨hi, vp_in_nI (by omega) (by decide), vp_in_nI (by omega) (by decide), ?_⟩⟩⟩⟩⟩
    rw [kk, ha, hbb]
    refine bx_comb _ k6 ⟨hi, nm_r (e' := upd eV (24 * b + j) (bf_op (bf_eK l j) (eV (24 * b + bf_eA l j)) (eV (24 * b + bf_eB l j)))) (by rw [hc]) (nm_r (nI_1 _) ?_)⟩
    exact ih (j + 1) _ (by omega) (bx_tab wE hv (by unfold bf_e1; rw [if_neg k7, if_neg k8]))
theorem bx_val {post : Int32 → SX → Prop} {z : Int32} (hz : z = nI (24 * b + e)) (hl : bx_el b l xeK xeX xeY) (hw : bf_wL l) (he : e < bf_ct l) (hb : b < 4)
    (H : ∀ eV, post (bf_v l xrg e) (xph, xkh, xes, xem, xss, xsm, xdb, xfo, xco, xst, xen, xlo, xrg, xpn, xkr, xkp, xeK, xeX, xeY, xeR, eV, xeS, xsK, xsA, xsB, xsX, xsY, xsS, xpB, xpS, xfS, xfT, xfB)) : wpX_valueOf post (xph, xkh, xes, xem, xss, xsm, xdb, xfo, xco, xst, xen, xlo, xrg, xpn, xkr, xkp, xeK, xeX, xeY, xeR, xeV, xeS, xsK, xsA, xsB, xsX, xsY, xsS, xpB, xpS, xfS, xfT, xfB) z := by
  subst hz
  have h24 := hw.2.1
  have e1 : nI (24 * b + e) - (nI (24 * b + e) - nI (24 * b + e) / 24 * 24) = nI (24 * b + 0) := by
    have h := pk_rem (a := 24 * b + e) (d := 24) (by omega) (by decide) (by decide)
    show nI (24 * b + e) - (nI (24 * b + e) - nI (24 * b + e) / nI 24 * nI 24) = nI (24 * b + 0)
    rw [h, pk_sub (by omega)]
    exact congrArg nI (by omega)
  exact ⟨by decide, nm_r e1 ⟨e + 2, bx_val_loop hl hw he hb H (e + 1) 0 xeV (by omega) (fun i z => absurd z (Nat.not_lt_zero i))⟩⟩
/-- the entry and the exit test -/
theorem bx_entry {post : Int32 → SX → Prop} {k i : Nat} {w : Bool} (hk : k < 112) (hb : b < 4) (hw : bf_wL l) (hi : i < bf_sz l) (hK : 11 ≤ bf_K l i)
    (hs : bx_sl b l xsK xsA xsB xsX xsY) (hl : bx_el b l xeK xeX xeY) (eS : xfS k = nI (16 * b + i)) (eB : xfB k = bx_b w)
    (H0 : bf_tv l xrg i w true = false → ∀ eV, post 0 (xph, xkh, xes, xem, xss, xsm, xdb, xfo, xco, xst, xen, xlo, xrg, xpn, xkr, xkp, xeK, xeX, xeY, xeR, eV, xeS, xsK, xsA, xsB, xsX, xsY, xsS, xpB, xpS, xfS, xfT, xfB)) (H1 : bf_tv l xrg i w true = true → ∀ eV, post 1 (xph, xkh, xes, xem, xss, xsm, xdb, xfo, xco, xst, xen, xlo, xrg, xpn, xkr, xkp, xeK, xeX, xeY, xeR, eV, xeS, xsK, xsA, xsB, xsX, xsY, xsS, xpB, xpS, xfS, xfT, xfB)) : wpX_isEntryTrue post (xph, xkh, xes, xem, xss, xsm, xdb, xfo, xco, xst, xen, xlo, xrg, xpn, xkr, xkp, xeK, xeX, xeY, xeR, xeV, xeS, xsK, xsA, xsB, xsX, xsY, xsS, xpB, xpS, xfS, xfT, xfB) (nI k) := by
  have h16 := hw.1
  have hin : vp_in (nI k) 112 := vp_in_nI hk (by decide)
  have hc : (nI k).toNatClampNeg = k := nI_clamp (by omega)
  have h2 : vp_in (nI (16 * b + i)) 64 := vp_in_nI (by omega) (by decide)
  have hc2 : (nI (16 * b + i)).toNatClampNeg = 16 * b + i := nI_clamp (by omega)
  obtain ⟨-, -, -, rX, rY⟩ := hs i hi
  have ws := hw.2.2.1 i hi
  have hx := ws.2.2.2.2.1 (by omega) (by omega)
  have hy := ws.2.2.2.2.2.1 hK
  refine ⟨hin, nm_r (e' := nI (16 * b + i)) (by rw [hc]; exact eS) ⟨hin, ?_⟩⟩
  rw [show xfB (nI k).toNatClampNeg = bx_b w by rw [hc]; exact eB]
  cases w with
  | false =>
    refine br_t rfl ⟨h2, bx_val (e := bf_X l i) (by rw [hc2]; exact rX (by omega) (by omega)) hl hw hx hb (fun eV => ?_)⟩
    exact br_c (fun z => H0 (decide_eq_false (fun y => y z)) eV) (fun z => H1 (decide_eq_true z) eV)
  | true =>
    refine br_f (by decide) ⟨h2, bx_val (e := bf_Y l i) (by rw [hc2]; exact rY hK) hl hw hy hb (fun eV => ?_)⟩
    exact br_c (fun z => H0 (decide_eq_false (fun y => y z)) eV) (fun z => H1 (decide_eq_true z) eV)
theorem bx_exit {post : Int32 → SX → Prop} {k i : Nat} {w : Bool} (hk : k < 112) (hb : b < 4) (hw : bf_wL l) (hi : i < bf_sz l) (hK : 11 ≤ bf_K l i)
    (hs : bx_sl b l xsK xsA xsB xsX xsY) (hl : bx_el b l xeK xeX xeY) (eS : xfS k = nI (16 * b + i)) (eB : xfB k = bx_b w)
    (H0 : bf_tv l xrg i w false = false → ∀ eV, post 0 (xph, xkh, xes, xem, xss, xsm, xdb, xfo, xco, xst, xen, xlo, xrg, xpn, xkr, xkp, xeK, xeX, xeY, xeR, eV, xeS, xsK, xsA, xsB, xsX, xsY, xsS, xpB, xpS, xfS, xfT, xfB)) (H1 : bf_tv l xrg i w false = true → ∀ eV, post 1 (xph, xkh, xes, xem, xss, xsm, xdb, xfo, xco, xst, xen, xlo, xrg, xpn, xkr, xkp, xeK, xeX, xeY, xeR, eV, xeS, xsK, xsA, xsB, xsX, xsY, xsS, xpB, xpS, xfS, xfT, xfB)) : wpX_isExitTrue post (xph, xkh, xes, xem, xss, xsm, xdb, xfo, xco, xst, xen, xlo, xrg, xpn, xkr, xkp, xeK, xeX, xeY, xeR, xeV, xeS, xsK, xsA, xsB, xsX, xsY, xsS, xpB, xpS, xfS, xfT, xfB) (nI k) := by
  have h16 := hw.1
  have hin : vp_in (nI k) 112 := vp_in_nI hk (by decide)
  have hc : (nI k).toNatClampNeg = k := nI_clamp (by omega)
  have h2 : vp_in (nI (16 * b + i)) 64 := vp_in_nI (by omega) (by decide)
  have hc2 : (nI (16 * b + i)).toNatClampNeg = 16 * b + i := nI_clamp (by omega)
  obtain ⟨-, -, -, rX, rY⟩ := hs i hi
  have ws := hw.2.2.1 i hi
  have hx := ws.2.2.2.2.1 (by omega) (by omega)
  have hy := ws.2.2.2.2.2.1 hK
  refine ⟨hin, nm_r (e' := nI (16 * b + i)) (by rw [hc]; exact eS) ⟨hin, ?_⟩⟩
  rw [show xfB (nI k).toNatClampNeg = bx_b w by rw [hc]; exact eB]
  cases w with
  | false =>
    refine br_t rfl ⟨h2, bx_val (e := bf_Y l i) (by rw [hc2]; exact rY hK) hl hw hy hb (fun eV => ?_)⟩
    exact br_c (fun z => H0 (decide_eq_false (fun y => y z)) eV) (fun z => H1 (decide_eq_true z) eV)
  | true =>
    refine br_f (by decide) ⟨h2, bx_val (e := bf_X l i) (by rw [hc2]; exact rX (by omega) (by omega)) hl hw hx hb (fun eV => ?_)⟩
    exact br_c (fun z => H0 (decide_eq_false (fun y => y z)) eV) (fun z => H1 (decide_eq_true z) eV)
end
