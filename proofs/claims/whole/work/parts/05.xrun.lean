/-! The component's run is a run of the machine -/
theorem bx_ne {a b : Nat} (h : a ≠ b) (ha : a < 2 ^ 31 := by omega) (hb : b < 2 ^ 31 := by omega) : ¬ nI a = nI b := fun z => h ((nI_eq ha hb).mp z)
section
variable {xph xkh xes xem xss xsm xdb xfo xco xst xen xlo : Int32} {xrg xpn xkr xkp xeK xeX xeY xeR xeV xeS xsK xsA xsB xsX xsY xsS xpB xpS xfS xfT xfB : Nat → Int32}
variable {post : SX → Prop} {bk : Nat → Nat} {P : Nat → bf_L} {g pl g0 p0 : Nat → Int32} {h q i t c n : Nat} {w : Bool} {fs : List bf_F}
/-- a call begins -/
theorem bx_called {k s p a : Nat} {z : Bool} (hk : k + 1 < 112) (hs : s < 64) (hp : p < 3) (eB : xfB k = bx_b w) (eN : xsB s = nI p) (eP : xpS p = nI a)
    (H : post (xph, xkh, xes, xem, xss, xsm, xdb, nI (k + 2), nI (c + 1), xst, xen, xlo, xrg, xpn, xkr, xkp, xeK, xeX, xeY, xeR, xeV, xeS, xsK, xsA, xsB, xsX, xsY, xsS, xpB, xpS, upd xfS (k + 1) (nI a), upd (upd xfT k 1) (k + 1) 0, upd xfB (k + 1) (bx_b (w != z)))) :
    wX_openCalled_22 post (nI k) (nI s) (bx_b z) xph xkh xes xem xss xsm xdb (nI (k + 1)) (nI c) xst xen xlo xrg xpn xkr xkp xeK xeX xeY xeR xeV xeS xsK xsA xsB xsX xsY xsS xpB xpS xfS xfT xfB := by
  have hin : vp_in (nI k) 112 := vp_in_nI (by omega) (by decide)
  have hc : (nI k).toNatClampNeg = k := nI_clamp (by omega)
  have hc2 : (nI s).toNatClampNeg = s := nI_clamp (by omega)
  have e1 : xsB (nI s).toNatClampNeg = nI p := by rw [hc2]; exact eN
  have e2 : xpS (xsB (nI s).toNatClampNeg).toNatClampNeg = nI a := by rw [e1, nI_clamp (by omega)]; exact eP
  have e3 : xfB (nI k).toNatClampNeg = bx_b w := by rw [hc]; exact eB
  refine nm_r (nI_1 c) ⟨hin, nm_r (e' := upd xfT k 1) (by rw [hc]) ⟨vp_in_nI hs (by decide), ?_, hin, ?_⟩⟩
  · rw [e1]; exact vp_in_nI hp (by decide)
  · rw [e2, e3]
    cases w <;> cases z
    · exact br_t rfl (bx_open hk (bx_nar false) H)
    · exact br_f (by decide) (bx_open hk (bx_nar true) H)
    · exact br_f (by decide) (bx_open hk (bx_nar true) H)
    · exact br_t rfl (bx_open hk (bx_nar false) H)
theorem bx_turn (hP : bx_P bk P xeK xeX xeY xsK xsA xsB xsX xsY xpS) (W : bf_W P g0 p0 (g, pl, h, (q, i, t, w) :: fs, c, n, 0)) (x : bx_f bk xfS xfT xfB ((q, i, t, w) :: fs))
    (H : ∀ eV S T B, bx_f bk S T B (bf_stp P g pl h q i t w fs c n).2.2.2.1 → post (nI (bf_stp P g pl h q i t w fs c n).2.2.1, xkh, xes, xem, xss, xsm, xdb, nI (bf_stp P g pl h q i t w fs c n).2.2.2.1.length, nI (bf_stp P g pl h q i t w fs c n).2.2.2.2.1, nI (bf_stp P g pl h q i t w fs c n).2.2.2.2.2.1, nI (bf_stp P g pl h q i t w fs c n).2.2.2.2.2.2, xlo, (bf_stp P g pl h q i t w fs c n).1, (bf_stp P g pl h q i t w fs c n).2.1, xkr, xkp, xeK, xeX, xeY, xeR, eV, xeS, xsK, xsA, xsB, xsX, xsY, xsS, xpB, xpS, S, T, B)) : wpX_advance post (nI h, xkh, xes, xem, xss, xsm, xdb, nI (fs.length + 1), nI c, nI n, 0, xlo, g, pl, xkr, xkp, xeK, xeX, xeY, xeR, xeV, xeS, xsK, xsA, xsB, xsX, xsY, xsS, xpB, xpS, xfS, xfT, xfB) (nI fs.length) := by
  obtain ⟨o, hcc, h6, hn, hh, -, -, -⟩ := W
  dsimp only at o hcc h6 hn hh
  obtain ⟨hb, hw, hz, hsl, hel, -⟩ := hP q o.1.1
  have hi : i < bf_sz (P q) := o.1.2.1
  have ht : t ≤ 2 := o.1.2.2.1
  have h16 := hw.1
  obtain ⟨hd, hd2⟩ := bx_deep (bx_PG hP) o (hcc ▸ h6)
  have hs : 16 * bk q + i < 64 := by omega
  have ws := hw.2.2.1 i hi
  have eS : xfS fs.length = nI (16 * bk q + i) := x.1.1
  have eT : xfT fs.length = nI t := x.1.2.1
  have eB : xfB fs.length = bx_b w := x.1.2.2
  have xr : bx_f bk xfS xfT xfB fs := x.2
  have hin : vp_in (nI fs.length) 112 := vp_in_nI hd (by decide)
  have hc : (nI fs.length).toNatClampNeg = fs.length := nI_clamp (by omega)
  have e1 : xfS (nI fs.length).toNatClampNeg = nI (16 * bk q + i) := by rw [hc]; exact eS
  have e2 : xfT (nI fs.length).toNatClampNeg = nI t := by rw [hc]; exact eT
  have e3 : xfB (nI fs.length).toNatClampNeg = bx_b w := by rw [hc]; exact eB
  have hin2 : vp_in (xfS (nI fs.length).toNatClampNeg) 64 := by rw [e1]; exact vp_in_nI hs (by decide)
  have eK : ∀ k : Nat, bf_K (P q) i = k → xsK (xfS (nI fs.length).toNatClampNeg).toNatClampNeg = nI k := fun k z => by rw [e1, nI_clamp (by omega), (hsl i hi).1, z]
  rcases Nat.lt_or_ge (bf_K (P q) i) 10 with hk | hk
  · by_cases h4 : bf_K (P q) i = 4 ∨ bf_K (P q) i = 5
    · have call : wX_advance_64 post (nI fs.length) (nI h) xkh xes xem xss xsm xdb (nI (fs.length + 1)) (nI c) (nI n) 0 xlo g pl xkr xkp xeK xeX xeY xeR xeV xeS xsK xsA xsB xsX xsY xsS xpB xpS xfS xfT xfB := by
        refine ⟨hin, ?_⟩
        rw [e2]
        by_cases t0 : t = 0
        · subst t0
          refine br_t rfl (bx_step hn (fun n3 => br_t rfl ?_) (fun n3 => br_f (by decide) ?_))
          · rw [bs_callT h4 n3] at H; exact H _ _ _ _ x
          · refine pk_lt c 6 (fun c6 => ?_) (fun c6 => ?_)
            · rw [bs_call h4 n3 (by omega)] at H
              obtain ⟨p, hp3, ep, cp⟩ := bf_N3 ws h4
              obtain ⟨-, -, -, -, -, eP⟩ := hP p hp3
              rw [cp] at H
              have hd3 : fs.length + 1 < 112 := by
                have h1 := o.2.1
                rw [bf_cc_0] at hcc
                dsimp only at h1
                omega
              have x1 := bx_f_put (p := p) (a := bf_sz (P p) - 1) (w' := w != decide (bf_K (P q) i = 5)) (bx_f_t (t' := 1) x)
              refine ⟨hin, nm_r e1 ⟨vp_in_nI hs (by decide), ?_⟩⟩
              have eN : xsB (16 * bk q + i) = nI p := ((hsl i hi).2.1 hk).2.trans ep
              have ek : xsK (nI (16 * bk q + i)).toNatClampNeg = nI (bf_K (P q) i) := by rw [nI_clamp (by omega)]; exact (hsl i hi).1
              rw [ek]
              rcases h4 with k | k
              · rw [k] at H x1 ⊢
                exact br_f (by decide) (bx_called (z := false) hd3 hs hp3 eB eN eP (H _ _ _ _ x1))
              · rw [k] at H x1 ⊢
                exact br_t rfl (bx_called (z := true) hd3 hs hp3 eB eN eP (H _ _ _ _ x1))
            · rw [bs_callD h4 n3 c6] at H; exact H _ _ _ _ x
        · refine br_f (bx_ne (b := 0) t0) ?_
          rw [bs_ret h4 t0] at H
          have c1 : c = (c - 1) + 1 := by
            rw [bf_cc_1 hk t0] at hcc
            omega
          exact nm_r (e' := nI (c - 1)) (by rw [c1]; exact nI_pred _) (bx_close (H _ _ _ _ xr))
      rcases h4 with k | k
      · exact ⟨hin, hin2, nm_r (eK 4 k) (br_f (by decide) (br_f (by decide) (br_f (by decide) (br_t rfl call))))⟩
      · exact ⟨hin, hin2, nm_r (eK 5 k) (br_f (by decide) (br_f (by decide) (br_f (by decide) (br_f (by decide) (br_t rfl call)))))⟩
    · have t0 : t = 0 := by
        rcases Nat.eq_zero_or_pos t with z | z
        · exact z
        · exact absurd (o.1.2.2.2 hk (by show t ≠ 0; omega)).1 h4
      subst t0
      refine ⟨hin, hin2, nm_r (eK _ rfl) (br_f (bx_ne (b := 10) (by omega)) (br_f (bx_ne (b := 11) (by omega)) (br_f (bx_ne (b := 12) (by omega)) (br_f (bx_ne (b := 4) (by omega)) (br_f (bx_ne (b := 5) (by omega)) ?_)))))⟩
      refine bx_close (bx_step hn (fun n3 => br_t rfl ?_) (fun n3 => br_f (by decide) ⟨hin, hin, ?_⟩))
      · rw [bs_leafT hk h4 n3] at H; exact H _ _ _ _ xr
      · rw [bs_leaf hk h4 n3] at H
        rw [e1, e3]
        exact bx_change rfl hb hw hi hk h4 hh hsl hel (fun eV => H _ _ _ _ xr)
  · have hd3 := hd2 hk
    have hab := (hsl i hi).2.2.1 hk
    have hk3 : bf_K (P q) i = 10 ∨ bf_K (P q) i = 11 ∨ bf_K (P q) i = 12 := by have := ws.1; omega
    rcases hk3 with k | k | k
    · refine ⟨hin, hin2, nm_r (eK 10 k) (br_t rfl (bx_seq ht hd3 hs eS eT eB hab.1 hab.2 (fun z => ?_) (fun z => ?_) (fun z => ?_)))⟩
      · rw [bs_seqC k z] at H; exact H _ _ _ _ xr
      · rw [bs_seqA k z] at H; exact H _ _ _ _ (bx_f_put (p := q) (a := bf_A (P q) i) (w' := w) (bx_f_t (t' := 1) x))
      · rw [bs_seqB k z] at H; exact H _ _ _ _ (bx_f_put (p := q) (a := bf_B (P q) i) (w' := w) (bx_f_t (t' := 2) x))
    · refine ⟨hin, hin2, nm_r (eK 11 k) (br_f (by decide) (br_t rfl ⟨hin, nm_r e2 ?_⟩))⟩
      have h3 : t = 0 ∨ t = 1 ∨ t = 2 := by omega
      rcases h3 with rfl | rfl | rfl
      · rw [bs_if0 k] at H
        refine br_t rfl (bx_entry hd hb hw hi (by omega) hsl hel eS eB (fun v eV => br_t rfl ?_) (fun v eV => br_f (by decide) ?_))
        · rw [v, if_neg Bool.false_ne_true] at H; exact bx_openB hd3 hs eS eB hab.2 (H _ _ _ _ (bx_f_put (p := q) (a := bf_B (P q) i) (w' := w) (bx_f_t (t' := 2) x)))
        · rw [v, if_pos rfl] at H; exact bx_openA hd3 hs eS eB hab.1 (H _ _ _ _ (bx_f_put (p := q) (a := bf_A (P q) i) (w' := w) (bx_f_t (t' := 1) x)))
      · refine br_f (by decide) (bx_exit hd hb hw hi (by omega) hsl hel eS eB (fun v eV => br_t rfl (br_f (by decide) ?_)) (fun v eV => br_t rfl (br_t rfl (bx_close ?_))))
        · rw [bs_ifF k (by decide) (by rw [v]; decide)] at H; exact H _ _ _ _ x
        · rw [bs_ifC k (by decide) (by exact v.trans rfl)] at H; exact H _ _ _ _ xr
      · refine br_f (by decide) (bx_exit hd hb hw hi (by omega) hsl hel eS eB (fun v eV => br_f (by decide) (br_t rfl (bx_close ?_))) (fun v eV => br_f (by decide) (br_f (by decide) ?_)))
        · rw [bs_ifC k (by decide) (by exact v.trans rfl)] at H; exact H _ _ _ _ xr
        · rw [bs_ifF k (by decide) (by rw [v]; decide)] at H; exact H _ _ _ _ x
    · refine ⟨hin, hin2, nm_r (eK 12 k) (br_f (by decide) (br_f (by decide) (br_t rfl ⟨hin, nm_r e2 ?_⟩)))⟩
      have h3 : t = 0 ∨ t = 1 ∨ t = 2 := by omega
      rcases h3 with rfl | rfl | rfl
      · refine br_f (by decide) (bx_entry hd hb hw hi (by omega) hsl hel eS eB (fun v eV => br_t rfl (br_f (by decide) ?_)) (fun v eV => br_t rfl (br_t rfl ?_)))
        · rw [bs_lpF k (by decide) (by rw [v]; decide)] at H; exact H _ _ _ _ x
        · rw [bs_lpA k (by decide) (by exact v.trans rfl)] at H; exact bx_openA hd3 hs eS eB hab.1 (H _ _ _ _ (bx_f_put (p := q) (a := bf_A (P q) i) (w' := w) (bx_f_t (t' := 1) x)))
      · rw [bs_lp1 k] at H
        refine br_t rfl (bx_exit hd hb hw hi (by omega) hsl hel eS eB (fun v eV => br_t rfl ?_) (fun v eV => br_f (by decide) (bx_close ?_)))
        · rw [v, if_neg Bool.false_ne_true] at H; exact bx_openB hd3 hs eS eB hab.2 (H _ _ _ _ (bx_f_put (p := q) (a := bf_B (P q) i) (w' := w) (bx_f_t (t' := 2) x)))
        · rw [v, if_pos rfl] at H; exact H _ _ _ _ xr
      · refine br_f (by decide) (bx_entry hd hb hw hi (by omega) hsl hel eS eB (fun v eV => br_f (by decide) (br_t rfl ?_)) (fun v eV => br_f (by decide) (br_f (by decide) ?_)))
        · rw [bs_lpA k (by decide) (by exact v.trans rfl)] at H; exact bx_openA hd3 hs eS eB hab.1 (H _ _ _ _ (bx_f_put (p := q) (a := bf_A (P q) i) (w' := w) (bx_f_t (t' := 1) x)))
        · rw [bs_lpF k (by decide) (by rw [v]; decide)] at H; exact H _ _ _ _ x
theorem bx_len (hG : bf_G P) (o : bf_ok P fs) (h6 : bf_cc P fs ≤ 6) : fs.length ≤ 112 := by
  cases fs with
  | nil => exact Nat.zero_le _
  | cons f fs => exact (bx_deep (q := f.1) (i := f.2.1) (t := f.2.2.1) (w := f.2.2.2) hG o h6).1
theorem bx_loop {post : Int32 → SX → Prop} (hP : bx_P bk P xeK xeX xeY xsK xsA xsB xsX xsY xpS) {mf : bf_M} (H : ∀ eV S T B, wX_run_90 post (nI mf.2.2.1) xkh xes xem xss xsm xdb (nI mf.2.2.2.1.length) (nI mf.2.2.2.2.1) (nI mf.2.2.2.2.2.1) (nI mf.2.2.2.2.2.2) xlo mf.1 mf.2.1 xkr xkp xeK xeX xeY xeR eV xeS xsK xsA xsB xsX xsY xsS xpB xpS S T B) :
    ∀ (k : Nat) (m : bf_M), bf_to P k m mf → bf_W P g0 p0 m → ∀ (r N : Nat) (eV S T B : Nat → Int32), r + k < 1000000 → k < N → bx_f bk S T B m.2.2.2.1 → wX_run_54 post N (nI r) (nI m.2.2.1) xkh xes xem xss xsm xdb (nI m.2.2.2.1.length) (nI m.2.2.2.2.1) (nI m.2.2.2.2.2.1) (nI m.2.2.2.2.2.2) xlo m.1 m.2.1 xkr xkp xeK xeX xeY xeR eV xeS xsK xsA xsB xsX xsY xsS xpB xpS S T B := by
  intro k
  induction k with
  | zero =>
    intro m hto W r N eV S T B hr hN x
    obtain ⟨rfl, hh⟩ := hto
    obtain ⟨N, rfl⟩ : ∃ N', N = N' + 1 := ⟨N - 1, by omega⟩
    refine br_f (nI_ge (b := 1000000) (by omega) (by decide)) ?_
    by_cases hf : m.2.2.2.1 = []
    · refine br_t ?_ (H _ _ _ _)
      rw [hf]; decide
    · have hp : 0 < m.2.2.2.1.length := List.length_pos_iff.mpr hf
      have hz := hh.resolve_left hf
      have h3 := W.2.2.2.2.2.2.2
      have hl : m.2.2.2.1.length < 2 ^ 31 := by have := bx_len (bx_PG hP) W.1 (W.2.1 ▸ W.2.2.1); omega
      exact br_f (nI_nle hp hl) (br_f (bx_ne (b := 0) hz) (H _ _ _ _))
  | succ k ih =>
    intro m hto W r N eV S T B hr hN x
    obtain ⟨g, pl, h, q, i, t, w, fs, c, n, rfl, hto⟩ := hto
    obtain ⟨N, rfl⟩ : ∃ N', N = N' + 1 := ⟨N - 1, by omega⟩
    have hd := (bx_deep (bx_PG hP) W.1 (W.2.1 ▸ W.2.2.1)).1
    have W' := (bf_stp_W (bx_PG hP) W).1
    refine br_f (nI_ge (b := 1000000) (by omega) (by decide)) (br_f (nI_nle (Nat.succ_pos _) (by show fs.length + 1 < 2 ^ 31; omega)) (br_t rfl ?_))
    show wpX_advance _ _ (nI (fs.length + 1) - 1)
    rw [nI_pred]
    exact bx_turn hP W x (fun eV S T B xx => nm_r (nI_1 r) (ih _ hto W' (r + 1) N eV S T B (by omega) (by omega) xx))
end
/-! keeping and restoring -/
section
variable {xph xkh xes xem xss xsm xdb xfo xco xst xen xlo : Int32} {xrg xpn xkr xkp xeK xeX xeY xeR xeV xeS xsK xsA xsB xsX xsY xsS xpB xpS xfS xfT xfB : Nat → Int32}
theorem bx_keep2 {post : SX → Prop} (H : ∀ kp, (∀ i, i < 12 → kp i = xpn i) → post (xph, xph, xes, xem, xss, xsm, xdb, xfo, xco, xst, xen, xlo, xrg, xpn, xkr, kp, xeK, xeX, xeY, xeR, xeV, xeS, xsK, xsA, xsB, xsX, xsY, xsS, xpB, xpS, xfS, xfT, xfB)) :
    ∀ d j kp, j + d = 12 → (∀ i, i < j → kp i = xpn i) → wX_keepState_28 post xph xkh xes xem xss xsm xdb xfo xco xst xen xlo (d + 1) (nI j) xrg xpn xkr kp xeK xeX xeY xeR xeV xeS xsK xsA xsB xsX xsY xsS xpB xpS xfS xfT xfB := by
  intro d
  induction d with
  | zero => intro j kp hj hv; exact br_t (nI_le (a := 12) (by omega) (by omega)) (H kp (fun i hi => hv i (by omega)))
  | succ d ih =>
    intro j kp hj hv
    have hin : vp_in (nI j) 12 := vp_in_nI (by omega) (by decide)
    have hc : (nI j).toNatClampNeg = j := nI_clamp (by omega)
    refine br_f (nI_ge (b := 12) (by omega) (by decide)) ⟨hin, hin, nm_r (e' := upd kp j (xpn j)) (by rw [hc]) (nm_r (nI_1 j) (ih (j + 1) _ (by omega) (fun i hi => ?_)))⟩
    by_cases e : i = j
    · rw [e, pk_us]
    · rw [pk_un e]; exact hv i (by omega)
theorem bx_keep1 {post : SX → Prop} (H : ∀ kr kp, (∀ i, i < 6 → kr i = xrg i) → (∀ i, i < 12 → kp i = xpn i) → post (xph, xph, xes, xem, xss, xsm, xdb, xfo, xco, xst, xen, xlo, xrg, xpn, kr, kp, xeK, xeX, xeY, xeR, xeV, xeS, xsK, xsA, xsB, xsX, xsY, xsS, xpB, xpS, xfS, xfT, xfB)) :
    ∀ d j kr, j + d = 6 → (∀ i, i < j → kr i = xrg i) → wX_keepState_2 post xph xkh xes xem xss xsm xdb xfo xco xst xen xlo (d + 1) (nI j) xrg xpn kr xkp xeK xeX xeY xeR xeV xeS xsK xsA xsB xsX xsY xsS xpB xpS xfS xfT xfB := by
  intro d
  induction d with
  | zero => intro j kr hj hv; exact br_t (nI_le (a := 6) (by omega) (by omega)) ⟨13, bx_keep2 (fun kp h => H kr kp (fun i hi => hv i (by omega)) h) 12 0 xkp rfl (fun i z => absurd z (Nat.not_lt_zero i))⟩
  | succ d ih =>
    intro j kr hj hv
    have hin : vp_in (nI j) 6 := vp_in_nI (by omega) (by decide)
    have hc : (nI j).toNatClampNeg = j := nI_clamp (by omega)
    refine br_f (nI_ge (b := 6) (by omega) (by decide)) ⟨hin, hin, nm_r (e' := upd kr j (xrg j)) (by rw [hc]) (nm_r (nI_1 j) (ih (j + 1) _ (by omega) (fun i hi => ?_)))⟩
    by_cases e : i = j
    · rw [e, pk_us]
    · rw [pk_un e]; exact hv i (by omega)
theorem bx_keep {post : SX → Prop} (H : ∀ kr kp, (∀ i, i < 6 → kr i = xrg i) → (∀ i, i < 12 → kp i = xpn i) → post (xph, xph, xes, xem, xss, xsm, xdb, xfo, xco, xst, xen, xlo, xrg, xpn, kr, kp, xeK, xeX, xeY, xeR, xeV, xeS, xsK, xsA, xsB, xsX, xsY, xsS, xpB, xpS, xfS, xfT, xfB)) : wpX_keepState post (xph, xkh, xes, xem, xss, xsm, xdb, xfo, xco, xst, xen, xlo, xrg, xpn, xkr, xkp, xeK, xeX, xeY, xeR, xeV, xeS, xsK, xsA, xsB, xsX, xsY, xsS, xpB, xpS, xfS, xfT, xfB) :=
  ⟨7, bx_keep1 H 6 0 xkr rfl (fun i z => absurd z (Nat.not_lt_zero i))⟩
theorem bx_rest2 {post : SX → Prop} {p0 : Nat → Int32} (hk : ∀ i, i < 12 → xkp i = p0 i) (H : post (xkh, xkh, xes, xem, xss, xsm, xdb, xfo, xco, xst, xen, xlo, xrg, p0, xkr, xkp, xeK, xeX, xeY, xeR, xeV, xeS, xsK, xsA, xsB, xsX, xsY, xsS, xpB, xpS, xfS, xfT, xfB)) :
    ∀ d j pn, j + d = 12 → (∀ i, i < j ∨ 12 ≤ i → pn i = p0 i) → wX_restoreState_28 post xph xkh xes xem xss xsm xdb xfo xco xst xen xlo (d + 1) (nI j) xrg pn xkr xkp xeK xeX xeY xeR xeV xeS xsK xsA xsB xsX xsY xsS xpB xpS xfS xfT xfB := by
  intro d
  induction d with
  | zero =>
    intro j pn hj hv
    have e : pn = p0 := funext (fun i => hv i (by omega))
    rw [e]
    exact br_t (nI_le (a := 12) (by omega) (by omega)) H
  | succ d ih =>
    intro j pn hj hv
    have hin : vp_in (nI j) 12 := vp_in_nI (by omega) (by decide)
    have hc : (nI j).toNatClampNeg = j := nI_clamp (by omega)
    refine br_f (nI_ge (b := 12) (by omega) (by decide)) ⟨hin, hin, nm_r (e' := upd pn j (xkp j)) (by rw [hc]) (nm_r (nI_1 j) (ih (j + 1) _ (by omega) (fun i hi => ?_)))⟩
    by_cases e : i = j
    · rw [e, pk_us]; exact hk j (by omega)
    · rw [pk_un e]; exact hv i (by omega)
theorem bx_rest1 {post : SX → Prop} {g0 p0 : Nat → Int32} (hr : ∀ i, i < 6 → xkr i = g0 i) (hk : ∀ i, i < 12 → xkp i = p0 i) (hp : ∀ i, 12 ≤ i → xpn i = p0 i) (H : post (xkh, xkh, xes, xem, xss, xsm, xdb, xfo, xco, xst, xen, xlo, g0, p0, xkr, xkp, xeK, xeX, xeY, xeR, xeV, xeS, xsK, xsA, xsB, xsX, xsY, xsS, xpB, xpS, xfS, xfT, xfB)) :
    ∀ d j rg, j + d = 6 → (∀ i, i < j ∨ 6 ≤ i → rg i = g0 i) → wX_restoreState_2 post xph xkh xes xem xss xsm xdb xfo xco xst xen xlo (d + 1) (nI j) rg xpn xkr xkp xeK xeX xeY xeR xeV xeS xsK xsA xsB xsX xsY xsS xpB xpS xfS xfT xfB := by
  intro d
  induction d with
  | zero =>
    intro j rg hj hv
    have e : rg = g0 := funext (fun i => hv i (by omega))
    rw [e]
    exact br_t (nI_le (a := 6) (by omega) (by omega)) ⟨13, bx_rest2 hk H 12 0 xpn rfl (fun i z => hp i (by omega))⟩
  | succ d ih =>
    intro j rg hj hv
    have hin : vp_in (nI j) 6 := vp_in_nI (by omega) (by decide)
    have hc : (nI j).toNatClampNeg = j := nI_clamp (by omega)
    refine br_f (nI_ge (b := 6) (by omega) (by decide)) ⟨hin, hin, nm_r (e' := upd rg j (xkr j)) (by rw [hc]) (nm_r (nI_1 j) (ih (j + 1) _ (by omega) (fun i hi => ?_)))⟩
    by_cases e : i = j
    · rw [e, pk_us]; exact hr j (by omega)
    · rw [pk_un e]; exact hv i (by omega)
theorem bx_rest {post : SX → Prop} {g0 p0 : Nat → Int32} (hr : ∀ i, i < 6 → xkr i = g0 i) (hk : ∀ i, i < 12 → xkp i = p0 i) (hg : ∀ i, 6 ≤ i → xrg i = g0 i) (hp : ∀ i, 12 ≤ i → xpn i = p0 i)
    (H : post (xkh, xkh, xes, xem, xss, xsm, xdb, xfo, xco, xst, xen, xlo, g0, p0, xkr, xkp, xeK, xeX, xeY, xeR, xeV, xeS, xsK, xsA, xsB, xsX, xsY, xsS, xpB, xpS, xfS, xfT, xfB)) : wpX_restoreState post (xph, xkh, xes, xem, xss, xsm, xdb, xfo, xco, xst, xen, xlo, xrg, xpn, xkr, xkp, xeK, xeX, xeY, xeR, xeV, xeS, xsK, xsA, xsB, xsX, xsY, xsS, xpB, xpS, xfS, xfT, xfB) :=
  ⟨7, bx_rest1 hr hk hp H 6 0 xrg rfl (fun i z => hg i (by omega))⟩
end
