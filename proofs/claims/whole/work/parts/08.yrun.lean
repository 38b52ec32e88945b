/-! The reference's run is a run of the machine -/
section
variable {ydp ypd yhi yoh yop ynx yba yca yed ysp : Int32} {ysK ysR ysN ysA ysB ysX ysY ysz yeK yeL yeR yeM yct yeV ytS ytP yrg ypn yog yoq yoN yoT yoB : Nat → Int32}
variable {post : SY → Prop} {P : Nat → bf_L} {g pl g0 p0 : Nat → Int32} {h q i t c n : Nat} {w : Bool} {fs : List bf_F}
theorem ry_begin (hP : ry_P P ysK ysR ysN ysA ysB ysX ysY ysz yeK yeL yeR) (W : bf_W P g0 p0 (g, pl, h, (q, i, 0, w) :: fs, c, n, 0)) (x : ry_f P yoN yoT yoB fs)
    (H : ∀ op nx ba ed eV N T B, ry_R P (bf_stp P g pl h q i 0 w fs c n) op nx ba ed N T B → post (ydp, ypd, nI (bf_stp P g pl h q i 0 w fs c n).2.2.1, yoh, op, nx, ba, nI (bf_stp P g pl h q i 0 w fs c n).2.2.2.2.1, ed, nI (bf_stp P g pl h q i 0 w fs c n).2.2.2.2.2.1, ysK, ysR, ysN, ysA, ysB, ysX, ysY, ysz, yeK, yeL, yeR, yeM, yct, eV, ytS, ytP, (bf_stp P g pl h q i 0 w fs c n).1, (bf_stp P g pl h q i 0 w fs c n).2.1, yog, yoq, N, T, B)) :
    wpY_begin post (ydp, ypd, nI h, yoh, nI (ry_m P fs), nI (16 * q + i), bx_b w, nI c, (-1), nI n, ysK, ysR, ysN, ysA, ysB, ysX, ysY, ysz, yeK, yeL, yeR, yeM, yct, yeV, ytS, ytP, g, pl, yog, yoq, yoN, yoT, yoB) := by
  obtain ⟨o, hcc, h6, hn, hh, -, -, -⟩ := W
  dsimp only at o hcc h6 hn hh
  have hq := o.1.1
  obtain ⟨hw, hz, hsl, hel, -⟩ := hP q hq
  dsimp only at hq hw hz hsl hel
  have hi : i < bf_sz (P q) := o.1.2.1
  have h16 := hw.1
  have hd := (bx_deep (ry_PG hP) o (hcc ▸ h6)).1
  have hm : ry_m P fs < 140 := by have := ry_m_le (P := P) fs; omega
  have hs : 16 * q + i < 64 := by omega
  have ws := hw.2.2.1 i hi
  have nf : bf_nf fs := o.2.2.1
  have hin : vp_in (nI (16 * q + i)) 64 := vp_in_nI hs (by decide)
  have hc : (nI (16 * q + i)).toNatClampNeg = 16 * q + i := nI_clamp (by omega)
  have eK : ∀ k : Nat, bf_K (P q) i = k → ysK (nI (16 * q + i)).toNatClampNeg = nI k := fun k z => by rw [hc, (hsl i hi).1, z]
  refine ⟨hin, ?_⟩
  rcases Nat.lt_or_ge (bf_K (P q) i) 10 with hk | hk
  · rw [eK _ rfl]
    refine br_f (nI_ge (b := 10) hk (by decide)) ?_
    by_cases h4 : bf_K (P q) i = 4 ∨ bf_K (P q) i = 5
    · obtain ⟨p, hp3, ep, cp⟩ := bf_N3 ws h4
      obtain ⟨-, hzp, -, -, eZ⟩ := hP p hp3
      refine ry_call (P := P) hs hm h6 hn hp3 hzp h4 (hsl i hi).1 (((hsl i hi).2.1 hk).2.trans ep) eZ (fun n3 => ?_) (fun n3 c6 => ?_) (fun n3 c6 => ?_)
      · rw [bs_callT h4 n3] at H; exact H _ _ _ _ _ _ _ _ ⟨rfl, fun z => absurd z (by simp)⟩
      · rw [bs_callD h4 n3 c6] at H; exact H _ _ _ _ _ _ _ _ ⟨rfl, fun z => absurd z (by simp)⟩
      · rw [bs_call h4 n3 c6, cp] at H
        exact H _ _ _ _ _ _ _ _ ⟨rfl, fun _ => ry_S_put (ry_fin_k (by omega)) x (fun z => absurd z (by omega))⟩
    · refine ry_leaf (l := P q) (by omega) hw hi hk h4 hh hn hsl hel (fun n3 => ?_) (fun n3 eV => ?_)
      · rw [bs_leafT hk h4 n3] at H; exact H _ _ _ _ _ _ _ _ ⟨rfl, fun z => absurd z (by simp)⟩
      · rw [bs_leaf hk h4 n3] at H; exact H _ _ _ _ _ _ _ _ ⟨rfl, fun _ => ry_S_nf nf x⟩
  · have hab := (hsl i hi).2.2.1 hk
    have eA : ysA (nI (16 * q + i)).toNatClampNeg = nI (bf_A (P q) i) := by rw [hc]; exact hab.1
    have eB : ysB (nI (16 * q + i)).toNatClampNeg = nI (bf_B (P q) i) := by rw [hc]; exact hab.2
    have hk3 : bf_K (P q) i = 10 ∨ bf_K (P q) i = 11 ∨ bf_K (P q) i = 12 := by have := ws.1; omega
    rcases hk3 with k | k | k
    · rw [eK 10 k]
      refine br_t (by decide) ⟨hin, br_t (by decide) ⟨hin, br_t (eK 10 k) (ry_push hm ?_)⟩⟩
      cases w with
      | false =>
        rw [bs_seqA (t := 0) (w := false) k rfl] at H
        exact br_t rfl ⟨hin, ry_go (by omega) (by omega) eA (H _ _ _ _ _ _ _ _ ⟨rfl, fun _ => ry_S_put (by exact (ry_fin_10 k).trans rfl) x (fun z => absurd z (by omega))⟩)⟩
      | true =>
        rw [bs_seqB (t := 0) (w := true) k rfl] at H
        exact br_f (by decide) ⟨hin, ry_go (by omega) (by omega) eB (H _ _ _ _ _ _ _ _ ⟨rfl, fun _ => ry_S_put (by exact (ry_fin_10 k).trans rfl) x (fun z => absurd z (by omega))⟩)⟩
    · rw [eK 11 k]
      rw [bs_if0 k] at H
      refine br_t (by decide) ⟨hin, br_f (by decide) (ry_true (near := true) (by omega) hw hi (by omega) hsl hel (fun v eV => ?_) (fun v eV => ?_))⟩
      · rw [v, if_neg Bool.false_ne_true] at H
        exact br_t rfl ⟨hin, br_f (by rw [eK 11 k]; decide) ⟨hin, br_t (eK 11 k) (br_t rfl (ry_push hm (br_t rfl ⟨hin, ry_go (by omega) (by omega) eB (H _ _ _ _ _ _ _ _ ⟨rfl, fun _ => ry_S_put (ry_fin_k (by omega)) x (fun _ => rfl)⟩)⟩)))⟩⟩
      · rw [v, if_pos rfl] at H
        exact br_f (by decide) ⟨hin, br_f (by rw [eK 11 k]; decide) ⟨hin, br_t (eK 11 k) (br_f (by decide) (ry_push hm (br_f (by decide) ⟨hin, ry_go (by omega) (by omega) eA (H _ _ _ _ _ _ _ _ ⟨rfl, fun _ => ry_S_put (ry_fin_k (by omega)) x (fun _ => rfl)⟩)⟩)))⟩⟩
    · rw [eK 12 k]
      refine br_t (by decide) ⟨hin, br_f (by decide) (ry_true (near := true) (by omega) hw hi (by omega) hsl hel (fun v eV => ?_) (fun v eV => ?_))⟩
      · rw [bs_lpF k (by decide) (by rw [v]; decide)] at H
        exact br_t rfl ⟨hin, br_f (by rw [eK 12 k]; decide) ⟨hin, br_f (by rw [eK 12 k]; decide) (br_t rfl (H _ _ _ _ _ _ _ _ ⟨rfl, fun z => absurd z (by simp)⟩))⟩⟩
      · rw [bs_lpA k (by decide) (by exact v.trans rfl)] at H
        exact br_f (by decide) ⟨hin, br_f (by rw [eK 12 k]; decide) ⟨hin, br_f (by rw [eK 12 k]; decide) (br_f (by decide) (ry_push hm ⟨hin, ry_go (by omega) (by omega) eA (H _ _ _ _ _ _ _ _ ⟨rfl, fun _ => ry_S_put (ry_fin_k (by omega)) x (fun _ => rfl)⟩)⟩))⟩⟩
theorem ry_pass (hP : ry_P P ysK ysR ysN ysA ysB ysX ysY ysz yeK yeL yeR) (W : bf_W P g0 p0 (g, pl, h, (q, i, t, w) :: fs, c, n, 0)) (t0 : t ≠ 0) (nfin : ry_fin P (q, i, t, w) = false) (x : ry_f P yoN yoT yoB ((q, i, t, w) :: fs))
    (H : ∀ op nx ba ed eV N T B, ry_R P (bf_stp P g pl h q i t w fs c n) op nx ba ed N T B → post (ydp, ypd, nI (bf_stp P g pl h q i t w fs c n).2.2.1, yoh, op, nx, ba, nI (bf_stp P g pl h q i t w fs c n).2.2.2.2.1, ed, nI (bf_stp P g pl h q i t w fs c n).2.2.2.2.2.1, ysK, ysR, ysN, ysA, ysB, ysX, ysY, ysz, yeK, yeL, yeR, yeM, yct, eV, ytS, ytP, (bf_stp P g pl h q i t w fs c n).1, (bf_stp P g pl h q i t w fs c n).2.1, yog, yoq, N, T, B)) :
    wpY_passUp post (ydp, ypd, nI h, yoh, nI (ry_m P fs + 1), (-1), yba, nI c, (-1), nI n, ysK, ysR, ysN, ysA, ysB, ysX, ysY, ysz, yeK, yeL, yeR, yeM, yct, yeV, ytS, ytP, g, pl, yog, yoq, yoN, yoT, yoB) := by
  obtain ⟨o, hcc, h6, hn, hh, -, -, -⟩ := W
  dsimp only at o hcc h6 hn hh
  have hq := o.1.1
  obtain ⟨hw, hz, hsl, hel, -⟩ := hP q hq
  dsimp only at hq hw hz hsl hel
  have hi : i < bf_sz (P q) := o.1.2.1
  have ht : t ≤ 2 := o.1.2.2.1
  have h16 := hw.1
  have hd := (bx_deep (ry_PG hP) o (hcc ▸ h6)).1
  have hm : ry_m P fs < 140 := by have := ry_m_le (P := P) fs; omega
  have hs : 16 * q + i < 64 := by omega
  have ws := hw.2.2.1 i hi
  have nf : bf_nf fs := o.2.2.1
  obtain ⟨xN, xT, xB⟩ := x.1 nfin
  have xr : ry_f P yoN yoT yoB fs := x.2
  dsimp only at xN xT xB
  have hin : vp_in (nI (16 * q + i)) 64 := vp_in_nI hs (by decide)
  have hc : (nI (16 * q + i)).toNatClampNeg = 16 * q + i := nI_clamp (by omega)
  have hio : vp_in (nI (ry_m P fs)) 140 := vp_in_nI hm (by decide)
  have hco : (nI (ry_m P fs)).toNatClampNeg = ry_m P fs := nI_clamp (by omega)
  have eK : ∀ k : Nat, bf_K (P q) i = k → ysK (nI (16 * q + i)).toNatClampNeg = nI k := fun k z => by rw [hc, (hsl i hi).1, z]
  have nb : narrow .boolean (.int (bx_b w)) = .int (bx_b w) := by cases w <;> rfl
  have fb : fits .boolean (.int (bx_b w)) = true := by cases w <;> decide
  refine br_f (nI_ne0 (Nat.succ_pos _) (by omega)) (nm_r (nI_pred _) ⟨hio, nm_r (e' := nI (16 * q + i)) (by rw [hco]; exact xN) ⟨hio, nm_r (e' := yoT (ry_m P fs)) (by rw [hco]) ⟨hio, nm_r (e' := bx_b w) (by rw [hco]; exact xB) ⟨nb, fb, hin, ?_⟩⟩⟩⟩)
  rcases Nat.lt_or_ge (bf_K (P q) i) 10 with hk | hk
  · have h4 : bf_K (P q) i = 4 ∨ bf_K (P q) i = 5 := (o.1.2.2.2 hk t0).1
    rw [bs_ret h4 t0] at H
    refine br_f (by rw [eK _ rfl]; exact nI_ge (b := 10) hk (by decide)) ?_
    have c1 : c = (c - 1) + 1 := by
      rw [bf_cc_1 hk t0] at hcc
      omega
    exact nm_r (e' := nI (c - 1)) (by rw [c1]; exact nI_pred _) (H _ _ _ _ _ _ _ _ ⟨rfl, fun _ => ry_S_nf nf xr⟩)
  · have hab := (hsl i hi).2.2.1 hk
    have eA : ysA (nI (16 * q + i)).toNatClampNeg = nI (bf_A (P q) i) := by rw [hc]; exact hab.1
    have eB : ysB (nI (16 * q + i)).toNatClampNeg = nI (bf_B (P q) i) := by rw [hc]; exact hab.2
    have hk3 : bf_K (P q) i = 10 ∨ bf_K (P q) i = 11 ∨ bf_K (P q) i = 12 := by have := ws.1; omega
    refine br_t (by rw [eK _ rfl]; exact nI_le (a := 10) hk (by omega)) ⟨hin, ?_⟩
    have h3 : t = 1 ∨ t = 2 := by omega
    rcases hk3 with k | k | k
    · refine br_t (eK 10 k) ?_
      rw [ry_fin_10 k] at nfin
      cases w with
      | false =>
        have t1 : t = 1 := by
          rcases h3 with z | z
          · exact z
          · rw [z] at nfin; exact absurd nfin (by decide)
        rw [bs_seqB k (by rw [t1]; rfl)] at H
        exact br_t rfl ⟨hin, ry_go (by omega) (by omega) eB (H _ _ _ _ _ _ _ _ ⟨rfl, fun _ => ry_S_fin (by exact (ry_fin_10 k).trans rfl) xr⟩)⟩
      | true =>
        have t2 : t = 2 := by
          rcases h3 with z | z
          · rw [z] at nfin; exact absurd nfin (by decide)
          · exact z
        rw [bs_seqA k (by rw [t2]; rfl)] at H
        exact br_f (by decide) ⟨hin, ry_go (by omega) (by omega) eA (H _ _ _ _ _ _ _ _ ⟨rfl, fun _ => ry_S_fin (by exact (ry_fin_10 k).trans rfl) xr⟩)⟩
    · refine br_f (by rw [eK 11 k]; decide) ⟨hin, br_t (eK 11 k) ?_⟩
      rw [xT (by omega)]
      refine ry_true (near := false) (by omega) hw hi (by omega) hsl hel (fun v eV => ?_) (fun v eV => ?_)
      · rcases h3 with rfl | rfl
        · rw [bs_ifF k (by decide) (by rw [v]; decide)] at H
          exact br_t rfl (br_f (by decide) (H _ _ _ _ _ _ _ _ ⟨rfl, fun z => absurd z (by simp)⟩))
        · rw [bs_ifC k (by decide) (by exact v.trans rfl)] at H
          exact br_f (by decide) (br_t rfl (H _ _ _ _ _ _ _ _ ⟨rfl, fun _ => ry_S_nf nf xr⟩))
      · rcases h3 with rfl | rfl
        · rw [bs_ifC k (by decide) (by exact v.trans rfl)] at H
          exact br_t rfl (br_t rfl (H _ _ _ _ _ _ _ _ ⟨rfl, fun _ => ry_S_nf nf xr⟩))
        · rw [bs_ifF k (by decide) (by rw [v]; decide)] at H
          exact br_f (by decide) (br_f (by decide) (H _ _ _ _ _ _ _ _ ⟨rfl, fun z => absurd z (by simp)⟩))
    · refine br_f (by rw [eK 12 k]; decide) ⟨hin, br_f (by rw [eK 12 k]; decide) ?_⟩
      rw [xT (by omega)]
      rcases h3 with rfl | rfl
      · rw [bs_lp1 k] at H
        refine br_t rfl (ry_true (near := false) (by omega) hw hi (by omega) hsl hel (fun v eV => br_t rfl ?_) (fun v eV => br_f (by decide) ?_))
        · rw [v, if_neg Bool.false_ne_true] at H
          exact ry_push hm ⟨hin, ry_go (by omega) (by omega) eB (H _ _ _ _ _ _ _ _ ⟨rfl, fun _ => ry_S_put (ry_fin_k (by omega)) xr (fun _ => rfl)⟩)⟩
        · rw [v, if_pos rfl] at H
          exact H _ _ _ _ _ _ _ _ ⟨rfl, fun _ => ry_S_nf nf xr⟩
      · refine br_f (by decide) (ry_true (near := true) (by omega) hw hi (by omega) hsl hel (fun v eV => br_t rfl ?_) (fun v eV => br_f (by decide) ?_))
        · rw [bs_lpA k (by decide) (by exact v.trans rfl)] at H
          exact ry_push hm ⟨hin, ry_go (by omega) (by omega) eA (H _ _ _ _ _ _ _ _ ⟨rfl, fun _ => ry_S_put (ry_fin_k (by omega)) xr (fun _ => rfl)⟩)⟩
        · rw [bs_lpF k (by decide) (by rw [v]; decide)] at H
          exact H _ _ _ _ _ _ _ _ ⟨rfl, fun z => absurd z (by simp)⟩
/-- a seq that is through: the reference makes no turn -/
theorem ry_skip {N T B : Nat → Int32} {op nx ba ed : Int32} (W : bf_W P g0 p0 (g, pl, h, (q, i, t, w) :: fs, c, n, 0)) (fin : ry_fin P (q, i, t, w) = true)
    (x : ry_R P (g, pl, h, (q, i, t, w) :: fs, c, n, 0) op nx ba ed N T B) : bf_stp P g pl h q i t w fs c n = (g, pl, h, fs, c, n, 0) ∧ ry_R P (g, pl, h, fs, c, n, 0) op nx ba ed N T B := by
  have k : bf_K (P q) i = 10 := by
    rcases Decidable.em (bf_K (P q) i = 10) with z | z
    · exact z
    · rw [ry_fin_k z] at fin; exact absurd fin (by decide)
  rw [ry_fin_10 k] at fin
  have ht := of_decide_eq_true fin
  have t0 : t ≠ 0 := by rw [ht]; cases w <;> decide
  refine ⟨bs_seqC k ht, x.1, fun _ => ?_⟩
  obtain ⟨e1, e2, e3⟩ := (x.2 rfl).2 t0
  rw [ry_m_f (by rw [ry_fin_10 k]; exact fin)] at e2
  subst e1 e2
  exact ry_S_nf W.1.2.2.1 e3.2
end
/-! remember and undo -/
section
variable {ydp ypd yhi yoh yop ynx yba yca yed ysp : Int32} {ysK ysR ysN ysA ysB ysX ysY ysz yeK yeL yeR yeM yct yeV ytS ytP yrg ypn yog yoq yoN yoT yoB : Nat → Int32}
theorem ry_keep2 {post : SY → Prop} (H : ∀ kp, (∀ i, i < 12 → kp i = ypn i) → post (ydp, ypd, yhi, yhi, yop, ynx, yba, yca, yed, ysp, ysK, ysR, ysN, ysA, ysB, ysX, ysY, ysz, yeK, yeL, yeR, yeM, yct, yeV, ytS, ytP, yrg, ypn, yog, kp, yoN, yoT, yoB)) :
    ∀ d j kp, j + d = 12 → (∀ i, i < j → kp i = ypn i) → wY_remember_28 post ydp ypd yhi yoh yop ynx yba yca yed ysp (d + 1) (nI j) ysK ysR ysN ysA ysB ysX ysY ysz yeK yeL yeR yeM yct yeV ytS ytP yrg ypn yog kp yoN yoT yoB := by
  intro d
  induction d with
  | zero => intro j kp hj hv; exact br_t (nI_le (a := 12) (by omega) (by omega)) (H kp (fun i hi => hv i (by omega)))
  | succ d ih =>
    intro j kp hj hv
    have hin : vp_in (nI j) 12 := vp_in_nI (by omega) (by decide)
    have hc : (nI j).toNatClampNeg = j := nI_clamp (by omega)
    refine br_f (nI_ge (b := 12) (by omega) (by decide)) ⟨hin, hin, nm_r (e' := upd kp j (ypn j)) (by rw [hc]) (nm_r (nI_1 j) (ih (j + 1) _ (by omega) (fun i hi => ?_)))⟩
    by_cases e : i = j
    · rw [e, pk_us]
    · rw [pk_un e]; exact hv i (by omega)
theorem ry_keep1 {post : SY → Prop} (H : ∀ kr kp, (∀ i, i < 6 → kr i = yrg i) → (∀ i, i < 12 → kp i = ypn i) → post (ydp, ypd, yhi, yhi, yop, ynx, yba, yca, yed, ysp, ysK, ysR, ysN, ysA, ysB, ysX, ysY, ysz, yeK, yeL, yeR, yeM, yct, yeV, ytS, ytP, yrg, ypn, kr, kp, yoN, yoT, yoB)) :
    ∀ d j kr, j + d = 6 → (∀ i, i < j → kr i = yrg i) → wY_remember_2 post ydp ypd yhi yoh yop ynx yba yca yed ysp (d + 1) (nI j) ysK ysR ysN ysA ysB ysX ysY ysz yeK yeL yeR yeM yct yeV ytS ytP yrg ypn kr yoq yoN yoT yoB := by
  intro d
  induction d with
  | zero => intro j kr hj hv; exact br_t (nI_le (a := 6) (by omega) (by omega)) ⟨13, ry_keep2 (fun kp h => H kr kp (fun i hi => hv i (by omega)) h) 12 0 yoq rfl (fun i z => absurd z (Nat.not_lt_zero i))⟩
  | succ d ih =>
    intro j kr hj hv
    have hin : vp_in (nI j) 6 := vp_in_nI (by omega) (by decide)
    have hc : (nI j).toNatClampNeg = j := nI_clamp (by omega)
    refine br_f (nI_ge (b := 6) (by omega) (by decide)) ⟨hin, hin, nm_r (e' := upd kr j (yrg j)) (by rw [hc]) (nm_r (nI_1 j) (ih (j + 1) _ (by omega) (fun i hi => ?_)))⟩
    by_cases e : i = j
    · rw [e, pk_us]
    · rw [pk_un e]; exact hv i (by omega)
theorem ry_keep {post : SY → Prop} (H : ∀ kr kp, (∀ i, i < 6 → kr i = yrg i) → (∀ i, i < 12 → kp i = ypn i) → post (ydp, ypd, yhi, yhi, yop, ynx, yba, yca, yed, ysp, ysK, ysR, ysN, ysA, ysB, ysX, ysY, ysz, yeK, yeL, yeR, yeM, yct, yeV, ytS, ytP, yrg, ypn, kr, kp, yoN, yoT, yoB)) : wpY_remember post (ydp, ypd, yhi, yoh, yop, ynx, yba, yca, yed, ysp, ysK, ysR, ysN, ysA, ysB, ysX, ysY, ysz, yeK, yeL, yeR, yeM, yct, yeV, ytS, ytP, yrg, ypn, yog, yoq, yoN, yoT, yoB) :=
  ⟨7, ry_keep1 H 6 0 yog rfl (fun i z => absurd z (Nat.not_lt_zero i))⟩
theorem ry_rest2 {post : SY → Prop} {p0 : Nat → Int32} (hk : ∀ i, i < 12 → yoq i = p0 i) (H : post (ydp, ypd, yoh, yoh, yop, ynx, yba, yca, yed, ysp, ysK, ysR, ysN, ysA, ysB, ysX, ysY, ysz, yeK, yeL, yeR, yeM, yct, yeV, ytS, ytP, yrg, p0, yog, yoq, yoN, yoT, yoB)) :
    ∀ d j pn, j + d = 12 → (∀ i, i < j ∨ 12 ≤ i → pn i = p0 i) → wY_undo_28 post ydp ypd yhi yoh yop ynx yba yca yed ysp (d + 1) (nI j) ysK ysR ysN ysA ysB ysX ysY ysz yeK yeL yeR yeM yct yeV ytS ytP yrg pn yog yoq yoN yoT yoB := by
  intro d
  induction d with
  | zero =>
    intro j pn hj hv
    have e : pn = p0 := funext (fun i => hv i (by omega))
    rw [e]
    exact br_t (nI_le (a := 12) (by omega) (by omega)) H
  | succ d ih =>
    intro j pn hj hv
    have hin : vp_in (nI j) 12 := vp_in_nI (by omega) (by decide)
    have hc : (nI j).toNatClampNeg = j := nI_clamp (by omega)
    refine br_f (nI_ge (b := 12) (by omega) (by decide)) ⟨hin, hin, nm_r (e' := upd pn j (yoq j)) (by rw [hc]) (nm_r (nI_1 j) (ih (j + 1) _ (by omega) (fun i hi => ?_)))⟩
    by_cases e : i = j
    · rw [e, pk_us]; exact hk j (by omega)
    · rw [pk_un e]; exact hv i (by omega)
theorem ry_rest1 {post : SY → Prop} {g0 p0 : Nat → Int32} (hr : ∀ i, i < 6 → yog i = g0 i) (hk : ∀ i, i < 12 → yoq i = p0 i) (hp : ∀ i, 12 ≤ i → ypn i = p0 i) (H : post (ydp, ypd, yoh, yoh, yop, ynx, yba, yca, yed, ysp, ysK, ysR, ysN, ysA, ysB, ysX, ysY, ysz, yeK, yeL, yeR, yeM, yct, yeV, ytS, ytP, g0, p0, yog, yoq, yoN, yoT, yoB)) :
    ∀ d j rg, j + d = 6 → (∀ i, i < j ∨ 6 ≤ i → rg i = g0 i) → wY_undo_2 post ydp ypd yhi yoh yop ynx yba yca yed ysp (d + 1) (nI j) ysK ysR ysN ysA ysB ysX ysY ysz yeK yeL yeR yeM yct yeV ytS ytP rg ypn yog yoq yoN yoT yoB := by
  intro d
  induction d with
  | zero =>
    intro j rg hj hv
    have e : rg = g0 := funext (fun i => hv i (by omega))
    rw [e]
    exact br_t (nI_le (a := 6) (by omega) (by omega)) ⟨13, ry_rest2 hk H 12 0 ypn rfl (fun i z => hp i (by omega))⟩
  | succ d ih =>
    intro j rg hj hv
    have hin : vp_in (nI j) 6 := vp_in_nI (by omega) (by decide)
    have hc : (nI j).toNatClampNeg = j := nI_clamp (by omega)
    refine br_f (nI_ge (b := 6) (by omega) (by decide)) ⟨hin, hin, nm_r (e' := upd rg j (yog j)) (by rw [hc]) (nm_r (nI_1 j) (ih (j + 1) _ (by omega) (fun i hi => ?_)))⟩
    by_cases e : i = j
    · rw [e, pk_us]; exact hr j (by omega)
    · rw [pk_un e]; exact hv i (by omega)
theorem ry_rest {post : SY → Prop} {g0 p0 : Nat → Int32} (hr : ∀ i, i < 6 → yog i = g0 i) (hk : ∀ i, i < 12 → yoq i = p0 i) (hg : ∀ i, 6 ≤ i → yrg i = g0 i) (hp : ∀ i, 12 ≤ i → ypn i = p0 i)
    (H : post (ydp, ypd, yoh, yoh, yop, ynx, yba, yca, yed, ysp, ysK, ysR, ysN, ysA, ysB, ysX, ysY, ysz, yeK, yeL, yeR, yeM, yct, yeV, ytS, ytP, g0, p0, yog, yoq, yoN, yoT, yoB)) : wpY_undo post (ydp, ypd, yhi, yoh, yop, ynx, yba, yca, yed, ysp, ysK, ysR, ysN, ysA, ysB, ysX, ysY, ysz, yeK, yeL, yeR, yeM, yct, yeV, ytS, ytP, yrg, ypn, yog, yoq, yoN, yoT, yoB) :=
  ⟨7, ry_rest1 hr hk hp H 6 0 yrg rfl (fun i z => hg i (by omega))⟩
end
section
variable {ydp ypd yhi yoh yop ynx yba yca yed ysp : Int32} {ysK ysR ysN ysA ysB ysX ysY ysz yeK yeL yeR yeM yct yeV ytS ytP yrg ypn yog yoq yoN yoT yoB : Nat → Int32}
variable {P : Nat → bf_L} {g0 p0 : Nat → Int32}
/-- the loop; the remembered state is that of the beginning -/
theorem ry_loop {post : Int32 → SY → Prop} (hP : ry_P P ysK ysR ysN ysA ysB ysX ysY ysz yeK yeL yeR) {mf : bf_M} (hr : ∀ i, i < 6 → yog i = g0 i) (hk : ∀ i, i < 12 → yoq i = p0 i)
    (H0 : mf.2.2.2.2.2.2 = 0 → ∀ op nx ba eV N T B, post 0 (ydp, ypd, nI mf.2.2.1, yoh, op, nx, ba, nI mf.2.2.2.2.1, 0, nI mf.2.2.2.2.2.1, ysK, ysR, ysN, ysA, ysB, ysX, ysY, ysz, yeK, yeL, yeR, yeM, yct, eV, ytS, ytP, mf.1, mf.2.1, yog, yoq, N, T, B))
    (HF : mf.2.2.2.2.2.2 ≠ 0 → ∀ op nx ba eV N T B, post (nI mf.2.2.2.2.2.2) (ydp, ypd, yoh, yoh, op, nx, ba, nI mf.2.2.2.2.1, nI mf.2.2.2.2.2.2, nI mf.2.2.2.2.2.1, ysK, ysR, ysN, ysA, ysB, ysX, ysY, ysz, yeK, yeL, yeR, yeM, yct, eV, ytS, ytP, g0, p0, yog, yoq, N, T, B)) :
    ∀ (k : Nat) (m : bf_M), bf_to P k m mf → bf_W P g0 p0 m → ∀ (F : Nat) (op nx ba ed : Int32) (eV N T B : Nat → Int32), k + 1 < F → ry_R P m op nx ba ed N T B → wY_run_65 post F ydp ypd (nI m.2.2.1) yoh op nx ba (nI m.2.2.2.2.1) ed (nI m.2.2.2.2.2.1) ysK ysR ysN ysA ysB ysX ysY ysz yeK yeL yeR yeM yct eV ytS ytP m.1 m.2.1 yog yoq N T B := by
  intro k
  induction k with
  | zero =>
    intro m hto W F op nx ba ed eV N T B hF x
    obtain ⟨e, hh⟩ := hto
    subst e
    obtain ⟨F, rfl⟩ : ∃ F', F = F' + 2 := ⟨F - 2, by omega⟩
    obtain ⟨g, pl, h, fs, c, n, z⟩ := m
    have h3 : z ≤ 3 := W.2.2.2.2.2.2.2
    have e1 : ed = ry_e z := x.1
    subst e1
    by_cases hz : z = 0
    · subst hz
      have hf : fs = [] := hh.resolve_right (fun q => q rfl)
      subst hf
      obtain ⟨e2, e3⟩ := x.2 rfl
      subst e2 e3
      exact br_t rfl (br_t (by decide) (br_t rfl (br_f (by decide) (br_t rfl (H0 rfl _ _ _ _ _ _ _)))))
    · have e4 : ry_e z = nI z := if_neg hz
      rw [e4]
      have h1 : ¬ nI z = -1 := by
        have : z = 1 ∨ z = 2 ∨ z = 3 := by omega
        rcases this with rfl | rfl | rfl <;> decide
      exact br_f h1 (br_f (bx_ne (b := 0) hz) (ry_rest hr hk W.2.2.2.2.2.1 W.2.2.2.2.2.2.1 (HF hz _ _ _ _ _ _ _)))
  | succ k ih =>
    intro m hto W F op nx ba ed eV N T B hF x
    obtain ⟨g, pl, h, q, i, t, w, fs, c, n, rfl, hto⟩ := hto
    have W' := (bf_stp_W (ry_PG hP) W).1
    have e1 : ed = -1 := x.1
    subst e1
    obtain ⟨F, rfl⟩ : ∃ F', F = F' + 1 := ⟨F - 1, by omega⟩
    by_cases t0 : t = 0
    · subst t0
      obtain ⟨e2, e3, e4, x1⟩ := (x.2 rfl).1 rfl
      subst e2 e3 e4
      refine br_t rfl (br_f (nI_pos (by have := (hP q W.1.1.1).1.1; have := W.1.1.2.1; have := W.1.1.1; dsimp only at *; omega)) ?_)
      exact ry_begin hP W x1 (fun op nx ba ed eV N T B xx => ih _ hto W' F op nx ba ed eV N T B (by omega) xx)
    · cases fin : ry_fin P (q, i, t, w) with
      | true =>
        obtain ⟨es, xx⟩ := ry_skip W fin x
        rw [es] at hto W'
        exact ih _ hto W' (F + 1) op nx ba (-1) eV N T B (by omega) xx
      | false =>
        obtain ⟨e2, e3, x1⟩ := (x.2 rfl).2 t0
        rw [ry_m_n fin] at e3
        subst e2 e3
        refine br_t rfl (br_t (by decide) ?_)
        exact ry_pass hP W t0 fin x1 (fun op nx ba ed eV N T B xx => ih _ hto W' F op nx ba ed eV N T B (by omega) xx)
end
