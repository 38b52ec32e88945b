/-! One turn of the machine is at most one of the reference -/
def ry_e (z : Nat) : Int32 := if z = 0 then -1 else nI z
def ry_S (P : Nat → bf_L) (op nx ba : Int32) (N T B : Nat → Int32) : List bf_F → Prop
  | [] => nx = -1 ∧ op = 0
  | f :: fs => (f.2.2.1 = 0 → nx = nI (16 * f.1 + f.2.1) ∧ ba = bx_b f.2.2.2 ∧ op = nI (ry_m P fs) ∧ ry_f P N T B fs) ∧
      (f.2.2.1 ≠ 0 → nx = -1 ∧ op = nI (ry_m P (f :: fs)) ∧ ry_f P N T B (f :: fs))
def ry_R (P : Nat → bf_L) (m : bf_M) (op nx ba ed : Int32) (N T B : Nat → Int32) : Prop :=
  ed = ry_e m.2.2.2.2.2.2 ∧ (m.2.2.2.2.2.2 = 0 → ry_S P op nx ba N T B m.2.2.2.1)
section
variable {P : Nat → bf_L} {N T B : Nat → Int32} {q i t a : Nat} {w w' : Bool} {fs : List bf_F} {ba y : Int32}
theorem ry_S_nf (nf : bf_nf fs) (x : ry_f P N T B fs) : ry_S P (nI (ry_m P fs)) (-1) ba N T B fs := by
  cases fs with
  | nil => exact ⟨rfl, rfl⟩
  | cons f fs => exact ⟨fun z => absurd z nf, fun _ => ⟨rfl, rfl, x⟩⟩
theorem ry_S_put {p : Nat} (hf : ry_fin P (q, i, t, w) = false) (x : ry_f P N T B fs) (hy : 11 ≤ bf_K (P q) i → y = nI t) :
    ry_S P (nI (ry_m P fs + 1)) (nI (16 * p + a)) (bx_b w') (upd N (ry_m P fs) (nI (16 * q + i))) (upd T (ry_m P fs) y) (upd B (ry_m P fs) (bx_b w)) ((p, a, 0, w') :: (q, i, t, w) :: fs) :=
  ⟨fun _ => ⟨rfl, rfl, by rw [ry_m_n hf], ry_f_put x hy⟩, fun z => absurd rfl z⟩
theorem ry_S_fin {p : Nat} (hf : ry_fin P (q, i, t, w) = true) (x : ry_f P N T B fs) :
    ry_S P (nI (ry_m P fs)) (nI (16 * p + a)) (bx_b w') N T B ((p, a, 0, w') :: (q, i, t, w) :: fs) :=
  ⟨fun _ => ⟨rfl, rfl, by rw [ry_m_f hf], ⟨fun z => absurd (hf.symm.trans z) (by decide), x⟩⟩, fun z => absurd rfl z⟩
theorem ry_fin_k (hk : bf_K (P q) i ≠ 10) : ry_fin P (q, i, t, w) = false := by
  show (decide (bf_K (P q) i = 10) && _) = false
  rw [decide_eq_false hk]; rfl
theorem ry_fin_10 (hk : bf_K (P q) i = 10) : ry_fin P (q, i, t, w) = decide (t = if w then 1 else 2) := by
  show (decide (bf_K (P q) i = 10) && decide (t = if w then 1 else 2)) = _
  rw [decide_eq_true hk]; rfl
end
section
variable {ydp ypd yhi yoh yop ynx yba yca yed ysp : Int32} {ysK ysR ysN ysA ysB ysX ysY ysz yeK yeL yeR yeM yct yeV ytS ytP yrg ypn yog yoq yoN yoT yoB : Nat → Int32}
variable {post : SY → Prop} {P : Nat → bf_L} {g pl g0 p0 : Nat → Int32} {h q i t c n : Nat} {w : Bool} {fs : List bf_F}
theorem ry_onto {r : Nat} (hr : r < 6) (hh : h ≤ 12) (HF : 12 ≤ h → post (ydp, ypd, nI h, yoh, yop, ynx, yba, yca, 1, ysp, ysK, ysR, ysN, ysA, ysB, ysX, ysY, ysz, yeK, yeL, yeR, yeM, yct, yeV, ytS, ytP, yrg, ypn, yog, yoq, yoN, yoT, yoB)) (H : ¬ 12 ≤ h → post (ydp, ypd, nI (h + 1), yoh, yop, ynx, yba, yca, yed, ysp, ysK, ysR, ysN, ysA, ysB, ysX, ysY, ysz, yeK, yeL, yeR, yeM, yct, yeV, ytS, ytP, upd yrg r 0, upd ypn h (yrg r), yog, yoq, yoN, yoT, yoB)) :
    wpY_onto post (ydp, ypd, nI h, yoh, yop, ynx, yba, yca, yed, ysp, ysK, ysR, ysN, ysA, ysB, ysX, ysY, ysz, yeK, yeL, yeR, yeM, yct, yeV, ytS, ytP, yrg, ypn, yog, yoq, yoN, yoT, yoB) (nI r) := by
  have hin : vp_in (nI r) 6 := vp_in_nI hr (by decide)
  have hc : (nI r).toNatClampNeg = r := nI_clamp (by omega)
  refine pk_eq h 12 (fun z => HF (by omega)) (fun z => ?_)
  have hc2 : (nI h).toNatClampNeg = h := nI_clamp (by omega)
  exact ⟨hin, vp_in_nI (by omega) (by decide), nm_r (e' := upd ypn h (yrg r)) (by rw [hc, hc2]) (nm_r (nI_1 h) ⟨hin, nm_r (e' := upd yrg r 0) (by rw [hc]) (H (by omega))⟩)⟩
theorem ry_off {r : Nat} (hr : r < 6) (hh : h ≤ 12) (HF : h = 0 ∨ yrg r ≠ 0 → post (ydp, ypd, nI h, yoh, yop, ynx, yba, yca, 1, ysp, ysK, ysR, ysN, ysA, ysB, ysX, ysY, ysz, yeK, yeL, yeR, yeM, yct, yeV, ytS, ytP, yrg, ypn, yog, yoq, yoN, yoT, yoB)) (H : ¬ (h = 0 ∨ yrg r ≠ 0) → post (ydp, ypd, nI (h - 1), yoh, yop, ynx, yba, yca, yed, ysp, ysK, ysR, ysN, ysA, ysB, ysX, ysY, ysz, yeK, yeL, yeR, yeM, yct, yeV, ytS, ytP, upd yrg r (ypn (h - 1)), ypn, yog, yoq, yoN, yoT, yoB)) :
    wpY_off post (ydp, ypd, nI h, yoh, yop, ynx, yba, yca, yed, ysp, ysK, ysR, ysN, ysA, ysB, ysX, ysY, ysz, yeK, yeL, yeR, yeM, yct, yeV, ytS, ytP, yrg, ypn, yog, yoq, yoN, yoT, yoB) (nI r) := by
  have hin : vp_in (nI r) 6 := vp_in_nI hr (by decide)
  have hc : (nI r).toNatClampNeg = r := nI_clamp (by omega)
  refine pk_eq h 0 (fun z => HF (Or.inl z)) (fun z => ⟨hin, ?_⟩)
  rw [hc]
  refine br_c (fun z0 => ?_) (fun z0 => HF (Or.inr z0))
  obtain ⟨h', rfl⟩ : ∃ h', h = h' + 1 := ⟨h - 1, by omega⟩
  have hc2 : (nI h').toNatClampNeg = h' := nI_clamp (by omega)
  exact nm_r (nI_pred h') ⟨vp_in_nI (by omega) (by decide), hin, nm_r (e' := upd yrg r (ypn h')) (by rw [hc2]) (H (fun z1 => z1.elim (fun a => absurd a (Nat.succ_ne_zero _)) (fun b => b z0)))⟩
/-- a simple statement but call and back -/
theorem ry_leaf {l : bf_L} (hq : q < 4) (hw : bf_wL l) (hi : i < bf_sz l) (hk : bf_K l i < 10) (h4 : ¬ (bf_K l i = 4 ∨ bf_K l i = 5)) (hh : h ≤ 12) (hn : n ≤ 300)
    (hsl : ry_sl q l ysK ysR ysN ysA ysB ysX ysY) (hel : ry_el q l yeK yeL yeR)
    (HT : 300 ≤ n → post (ydp, ypd, nI h, yoh, yop, ynx, bx_b w, yca, 2, nI n, ysK, ysR, ysN, ysA, ysB, ysX, ysY, ysz, yeK, yeL, yeR, yeM, yct, yeV, ytS, ytP, yrg, ypn, yog, yoq, yoN, yoT, yoB))
    (H : ¬ 300 ≤ n → ∀ eV, post (ydp, ypd, nI (bf_eff l i w yrg ypn h).2.2.1, yoh, yop, ynx, bx_b w, yca, ry_e (bf_eff l i w yrg ypn h).2.2.2, nI (n + 1), ysK, ysR, ysN, ysA, ysB, ysX, ysY, ysz, yeK, yeL, yeR, yeM, yct, eV, ytS, ytP, (bf_eff l i w yrg ypn h).1, (bf_eff l i w yrg ypn h).2.1, yog, yoq, yoN, yoT, yoB)) :
    wpY_simply post (ydp, ypd, nI h, yoh, yop, ynx, bx_b w, yca, (-1), nI n, ysK, ysR, ysN, ysA, ysB, ysX, ysY, ysz, yeK, yeL, yeR, yeM, yct, yeV, ytS, ytP, yrg, ypn, yog, yoq, yoN, yoT, yoB) (nI (16 * q + i)) := by
  have h16 := hw.1
  have ws := hw.2.2.1 i hi
  have hin : vp_in (nI (16 * q + i)) 64 := vp_in_nI (by omega) (by decide)
  have hc : (nI (16 * q + i)).toNatClampNeg = 16 * q + i := nI_clamp (by omega)
  obtain ⟨rK, r10, -, rX, -⟩ := hsl i hi
  obtain ⟨rA, rB⟩ := r10 hk
  have eK : ∀ k : Nat, bf_K l i = k → ysK (nI (16 * q + i)).toNatClampNeg = nI k := fun k z => by rw [hc, rK, z]
  have eA : ysR (nI (16 * q + i)).toNatClampNeg = bf_R l i := by rw [hc]; exact rA
  have eB : ysN (nI (16 * q + i)).toNatClampNeg = bf_N l i := by rw [hc]; exact rB
  refine pk_eq n 300 (fun z => HT (by omega)) (fun z => nm_r (nI_1 n) ?_)
  have H := H (by omega)
  have hcs : bf_K l i = 0 ∨ bf_K l i = 1 ∨ bf_K l i = 2 ∨ bf_K l i = 3 ∨ bf_K l i = 6 ∨ bf_K l i = 7 ∨ bf_K l i = 8 ∨ bf_K l i = 9 := by omega
  have val : 6 ≤ bf_K l i → ∀ {ps : Int32 → SY → Prop}, (∀ eV, ps (bf_v l yrg (bf_X l i)) (ydp, ypd, nI h, yoh, yop, ynx, bx_b w, yca, (-1), nI (n + 1), ysK, ysR, ysN, ysA, ysB, ysX, ysY, ysz, yeK, yeL, yeR, yeM, yct, eV, ytS, ytP, yrg, ypn, yog, yoq, yoN, yoT, yoB)) → wpY_value ps (ydp, ypd, nI h, yoh, yop, ynx, bx_b w, yca, (-1), nI (n + 1), ysK, ysR, ysN, ysA, ysB, ysX, ysY, ysz, yeK, yeL, yeR, yeM, yct, yeV, ytS, ytP, yrg, ypn, yog, yoq, yoN, yoT, yoB) (nI (16 * q + i) / 16) (ysX (nI (16 * q + i)).toNatClampNeg) :=
    fun z ps hp => ry_val (by rw [hc]; exact rX z (by omega)) (ry_div hq (by omega)) hel hw (ws.2.2.2.2.1 z (by omega)) hq hp
  rcases hcs with k | k | k | k | k | k | k | k
  · rw [be_0 k] at H
    exact ⟨hin, nm_r (eK 0 k) ⟨hin, nm_r eA (br_f (by decide) (br_f (by decide) (br_f (by decide) (br_f (by decide) (br_f (by decide) (br_t (by decide) (H _)))))))⟩⟩
  · obtain ⟨r, hr, er, cr⟩ := bf_R6 ws (Or.inl k)
    obtain ⟨r2, hr2, er2, cr2⟩ := bf_N6 ws k
    rw [be_1 k, cr, cr2] at H
    have i1 : vp_in (bf_R l i) 6 := by rw [er]; exact vp_in_nI hr (by decide)
    have i2 : vp_in (bf_N l i) 6 := by rw [er2]; exact vp_in_nI hr2 (by decide)
    exact ⟨hin, nm_r (eK 1 k) ⟨hin, nm_r eA (br_t rfl ⟨hin, nm_r eB ⟨i1, nm_r (e' := yrg r) (by rw [cr]) ⟨i2, i1, nm_r (e' := upd yrg r (yrg r2)) (by rw [cr, cr2]) ⟨i2, nm_r (e' := upd (upd yrg r (yrg r2)) r2 (yrg r)) (by rw [cr2]) (H _)⟩⟩⟩⟩)⟩⟩
  · obtain ⟨r, hr, er, cr⟩ := bf_R6 ws (by omega)
    rw [be_2 k, cr] at H
    refine ⟨hin, nm_r (eK 2 k) ⟨hin, nm_r (eA.trans er) (br_f (by decide) (br_t rfl (br_t rfl ?_)))⟩⟩
    cases w with
    | false => exact br_f (by decide) (ry_onto hr hh (fun z => by have H := H yeV; unfold bf_push at H; rw [if_neg (by decide), if_pos z] at H; exact H) (fun z => by have H := H yeV; unfold bf_push at H; rw [if_neg (by decide), if_neg z] at H; exact H))
    | true => exact br_t rfl (ry_off hr hh (fun z => by have H := H yeV; unfold bf_pop at H; rw [if_pos rfl, if_pos z] at H; exact H) (fun z => by have H := H yeV; unfold bf_pop at H; rw [if_pos rfl, if_neg z] at H; exact H))
  · obtain ⟨r, hr, er, cr⟩ := bf_R6 ws (by omega)
    rw [be_3 k, cr] at H
    refine ⟨hin, nm_r (eK 3 k) ⟨hin, nm_r (eA.trans er) (br_f (by decide) (br_f (by decide) (br_t rfl (br_f (by decide) ?_))))⟩⟩
    cases w with
    | false => exact br_t rfl (ry_off hr hh (fun z => by have H := H yeV; unfold bf_pop at H; rw [if_neg (by decide), if_pos z] at H; exact H) (fun z => by have H := H yeV; unfold bf_pop at H; rw [if_neg (by decide), if_neg z] at H; exact H))
    | true => exact br_f (by decide) (ry_onto hr hh (fun z => by have H := H yeV; unfold bf_push at H; rw [if_pos rfl, if_pos z] at H; exact H) (fun z => by have H := H yeV; unfold bf_push at H; rw [if_pos rfl, if_neg z] at H; exact H))
  · obtain ⟨r, hr, er, cr⟩ := bf_R6 ws (by omega)
    rw [be_6 k, cr] at H
    have i1 : vp_in (nI r) 6 := vp_in_nI hr (by decide)
    have hr2 : (nI r).toNatClampNeg = r := nI_clamp (by omega)
    refine ⟨hin, nm_r (eK 6 k) ⟨hin, nm_r (eA.trans er) (br_f (by decide) (br_f (by decide) (br_f (by decide) (br_f (by decide) (br_f (by decide) (br_f (by decide) ⟨by decide, hin, val (by omega) (fun eV => br_f (by decide) (br_f (by decide) (br_t rfl ?_)))⟩))))))⟩⟩
    cases w with
    | false => exact br_f (by decide) ⟨i1, i1, nm_r (e' := upd yrg r (yrg r + bf_v l yrg (bf_X l i))) (by rw [hr2]) (H eV)⟩
    | true => exact br_t rfl ⟨i1, i1, nm_r (e' := upd yrg r (yrg r - bf_v l yrg (bf_X l i))) (by rw [hr2]) (H eV)⟩
  · obtain ⟨r, hr, er, cr⟩ := bf_R6 ws (by omega)
    rw [be_7 k, cr] at H
    have i1 : vp_in (nI r) 6 := vp_in_nI hr (by decide)
    have hr2 : (nI r).toNatClampNeg = r := nI_clamp (by omega)
    refine ⟨hin, nm_r (eK 7 k) ⟨hin, nm_r (eA.trans er) (br_f (by decide) (br_f (by decide) (br_f (by decide) (br_f (by decide) (br_f (by decide) (br_f (by decide) ⟨by decide, hin, val (by omega) (fun eV => br_f (by decide) (br_f (by decide) (br_f (by decide) ?_)))⟩))))))⟩⟩
    cases w with
    | false => exact br_t rfl ⟨i1, i1, nm_r (e' := upd yrg r (yrg r - bf_v l yrg (bf_X l i))) (by rw [hr2]) (H eV)⟩
    | true => exact br_f (by decide) ⟨i1, i1, nm_r (e' := upd yrg r (yrg r + bf_v l yrg (bf_X l i))) (by rw [hr2]) (H eV)⟩
  · obtain ⟨r, hr, er, cr⟩ := bf_R6 ws (by omega)
    rw [be_8 k, cr] at H
    have i1 : vp_in (nI r) 6 := vp_in_nI hr (by decide)
    have hr2 : (nI r).toNatClampNeg = r := nI_clamp (by omega)
    exact ⟨hin, nm_r (eK 8 k) ⟨hin, nm_r (eA.trans er) (br_f (by decide) (br_f (by decide) (br_f (by decide) (br_f (by decide) (br_f (by decide) (br_f (by decide) ⟨by decide, hin, val (by omega) (fun eV => br_f (by decide) (br_t rfl ⟨i1, i1, nm_r (e' := upd yrg r (yrg r ^^^ bf_v l yrg (bf_X l i))) (by rw [hr2]) (H eV)⟩))⟩))))))⟩⟩
  · rw [be_9 k] at H
    refine ⟨hin, nm_r (eK 9 k) ⟨hin, nm_r eA (br_f (by decide) (br_f (by decide) (br_f (by decide) (br_f (by decide) (br_f (by decide) (br_f (by decide) ⟨by decide, hin, val (by omega) (fun eV => br_t rfl (br_c (fun z => ?_) (fun z => ?_)))⟩))))))⟩⟩
    · have H := H eV; rw [if_pos z] at H; exact H
    · have H := H eV; rw [if_neg z] at H; exact H
/-- where a call goes on -/
theorem ry_enter57 {p z : Nat} (hs : 16 * q + i < 64) (hp : p < 3) (hz : 0 < z) (eN : ysN (16 * q + i) = nI p) (eZ : ysz p = nI z)
    (H : post (ydp, ypd, yhi, yoh, yop, nI (16 * p + (z - 1)), yba, yca, yed, ysp, ysK, ysR, ysN, ysA, ysB, ysX, ysY, ysz, yeK, yeL, yeR, yeM, yct, yeV, ytS, ytP, yrg, ypn, yog, yoq, yoN, yoT, yoB)) : wY_enter_57 post (nI (16 * q + i)) ydp ypd yhi yoh yop ynx yba yca yed ysp ysK ysR ysN ysA ysB ysX ysY ysz yeK yeL yeR yeM yct yeV ytS ytP yrg ypn yog yoq yoN yoT yoB := by
  have hc : (nI (16 * q + i)).toNatClampNeg = 16 * q + i := nI_clamp (by omega)
  refine ⟨vp_in_nI hs (by decide), nm_r (e' := nI p) (by rw [hc]; exact eN) ⟨vp_in_nI (by omega) (by decide), nm_r ?_ H⟩⟩
  rw [nI_clamp (show p < 2 ^ 31 by omega), eZ]
  obtain ⟨z', rfl⟩ : ∃ z', z = z' + 1 := ⟨z - 1, by omega⟩
  show nI 16 * nI p + nI (z' + 1) - 1 = nI (16 * p + (z' + 1 - 1))
  rw [pk_mul, nI_add]
  exact nI_pred (16 * p + z')
theorem ry_call {k p z : Nat} (hs : 16 * q + i < 64) (hk : k < 140) (hc6 : c ≤ 6) (hn : n ≤ 300) (hp : p < 3) (hz : 0 < z) (h4 : bf_K (P q) i = 4 ∨ bf_K (P q) i = 5) (eK : ysK (16 * q + i) = nI (bf_K (P q) i)) (eN : ysN (16 * q + i) = nI p) (eZ : ysz p = nI z)
    (HT : 300 ≤ n → post (ydp, ypd, yhi, yoh, nI k, ynx, bx_b w, nI c, 2, nI n, ysK, ysR, ysN, ysA, ysB, ysX, ysY, ysz, yeK, yeL, yeR, yeM, yct, yeV, ytS, ytP, yrg, ypn, yog, yoq, yoN, yoT, yoB))
    (HD : ¬ 300 ≤ n → 6 ≤ c → post (ydp, ypd, yhi, yoh, nI k, ynx, bx_b w, nI c, 3, nI (n + 1), ysK, ysR, ysN, ysA, ysB, ysX, ysY, ysz, yeK, yeL, yeR, yeM, yct, yeV, ytS, ytP, yrg, ypn, yog, yoq, yoN, yoT, yoB))
    (H : ¬ 300 ≤ n → ¬ 6 ≤ c → post (ydp, ypd, yhi, yoh, nI (k + 1), nI (16 * p + (z - 1)), bx_b (w != decide (bf_K (P q) i = 5)), nI (c + 1), yed, nI (n + 1), ysK, ysR, ysN, ysA, ysB, ysX, ysY, ysz, yeK, yeL, yeR, yeM, yct, yeV, ytS, ytP, yrg, ypn, yog, yoq, upd yoN k (nI (16 * q + i)), upd yoT k 1, upd yoB k (bx_b w))) :
    wpY_simply post (ydp, ypd, yhi, yoh, nI k, ynx, bx_b w, nI c, yed, nI n, ysK, ysR, ysN, ysA, ysB, ysX, ysY, ysz, yeK, yeL, yeR, yeM, yct, yeV, ytS, ytP, yrg, ypn, yog, yoq, yoN, yoT, yoB) (nI (16 * q + i)) := by
  have hin : vp_in (nI (16 * q + i)) 64 := vp_in_nI hs (by decide)
  have hc : (nI (16 * q + i)).toNatClampNeg = 16 * q + i := nI_clamp (by omega)
  have eK' : ysK (nI (16 * q + i)).toNatClampNeg = nI (bf_K (P q) i) := by rw [hc]; exact eK
  refine pk_eq n 300 (fun z => HT (by omega)) (fun n3 => nm_r (nI_1 n) ⟨hin, nm_r eK' ⟨hin, nm_e ?_⟩⟩)
  have ent : wY_simply_139 post (nI (16 * q + i)) ydp ypd yhi yoh (nI k) ynx (bx_b w) (nI c) yed (nI (n + 1)) ysK ysR ysN ysA ysB ysX ysY ysz yeK yeL yeR yeM yct yeV ytS ytP yrg ypn yog yoq yoN yoT yoB := by
    refine pk_eq c 6 (fun z => HD (by omega) (by omega)) (fun z => nm_r (nI_1 c) (ry_push hk ⟨hin, ?_⟩))
    have H := H (by omega) (by omega)
    rw [eK']
    rcases h4 with k4 | k4
    · rw [k4] at H ⊢
      refine br_f (by decide) (ry_enter57 hs hp hz eN eZ ?_)
      cases w <;> exact H
    · rw [k4] at H ⊢
      refine br_t rfl ?_
      cases w
      · exact br_t rfl ⟨rfl, by decide, ry_enter57 hs hp hz eN eZ H⟩
      · exact br_f (by decide) ⟨rfl, by decide, ry_enter57 hs hp hz eN eZ H⟩
  rcases h4 with k4 | k4
  · rw [k4]; exact br_f (by decide) (br_f (by decide) (br_f (by decide) (br_t rfl ent)))
  · rw [k4]; exact br_f (by decide) (br_f (by decide) (br_f (by decide) (br_f (by decide) (br_t rfl ent))))
end
