/-! The reference's walks over the pure machine -/
def ry_sl (q : Nat) (l : bf_L) (sK sR sN sA sB sX sY : Nat → Int32) : Prop :=
  ∀ i, i < bf_sz l → sK (16 * q + i) = nI (bf_K l i) ∧ (bf_K l i < 10 → sR (16 * q + i) = bf_R l i ∧ sN (16 * q + i) = bf_N l i) ∧
    (10 ≤ bf_K l i → sA (16 * q + i) = nI (bf_A l i) ∧ sB (16 * q + i) = nI (bf_B l i)) ∧
    (6 ≤ bf_K l i → bf_K l i ≠ 10 → sX (16 * q + i) = nI (bf_X l i)) ∧ (11 ≤ bf_K l i → sY (16 * q + i) = nI (bf_Y l i))
def ry_el (q : Nat) (l : bf_L) (eK eL eR : Nat → Int32) : Prop :=
  ∀ e, e < bf_ct l → eK (24 * q + e) = nI (bf_eK l e) ∧ (bf_eK l e = 7 → eL (24 * q + e) = bf_eL l e) ∧ (bf_eK l e = 8 → eL (24 * q + e) = nI (bf_eA l e)) ∧
    (bf_eK l e ≤ 6 → eL (24 * q + e) = nI (bf_eA l e) ∧ eR (24 * q + e) = nI (bf_eB l e))
def ry_P (P : Nat → bf_L) (sK sR sN sA sB sX sY sz eK eL eR : Nat → Int32) : Prop :=
  ∀ q, q < 3 → bf_wL (P q) ∧ 0 < bf_sz (P q) ∧ ry_sl q (P q) sK sR sN sA sB sX sY ∧ ry_el q (P q) eK eL eR ∧ sz q = nI (bf_sz (P q))
theorem ry_PG {P : Nat → bf_L} {sK sR sN sA sB sX sY sz eK eL eR : Nat → Int32} (hP : ry_P P sK sR sN sA sB sX sY sz eK eL eR) : bf_G P := fun q hq => ⟨(hP q hq).1, (hP q hq).2.1⟩
/-- a seq whose last part runs: the reference keeps no frame of it -/
def ry_fin (P : Nat → bf_L) (f : bf_F) : Bool := decide (bf_K (P f.1) f.2.1 = 10) && decide (f.2.2.1 = if f.2.2.2 then 1 else 2)
def ry_m (P : Nat → bf_L) : List bf_F → Nat
  | [] => 0
  | f :: fs => ry_m P fs + if ry_fin P f then 0 else 1
def ry_f (P : Nat → bf_L) (N T B : Nat → Int32) : List bf_F → Prop
  | [] => True
  | f :: fs => (ry_fin P f = false → N (ry_m P fs) = nI (16 * f.1 + f.2.1) ∧ (11 ≤ bf_K (P f.1) f.2.1 → T (ry_m P fs) = nI f.2.2.1) ∧ B (ry_m P fs) = bx_b f.2.2.2) ∧ ry_f P N T B fs
theorem ry_m_le {P : Nat → bf_L} : ∀ fs : List bf_F, ry_m P fs ≤ fs.length
  | [] => Nat.le_refl _
  | f :: fs => by
    have := ry_m_le (P := P) fs
    show ry_m P fs + (if ry_fin P f then 0 else 1) ≤ fs.length + 1
    split <;> omega
theorem ry_m_f {P : Nat → bf_L} {f : bf_F} {fs : List bf_F} (h : ry_fin P f = true) : ry_m P (f :: fs) = ry_m P fs := by
  show ry_m P fs + (if ry_fin P f then 0 else 1) = _
  rw [if_pos h]; rfl
theorem ry_m_n {P : Nat → bf_L} {f : bf_F} {fs : List bf_F} (h : ry_fin P f = false) : ry_m P (f :: fs) = ry_m P fs + 1 := by
  show ry_m P fs + (if ry_fin P f then 0 else 1) = _
  rw [h]; rfl
theorem ry_f_c {P : Nat → bf_L} {N T B N' T' B' : Nat → Int32} : ∀ {fs : List bf_F}, (∀ j, j < ry_m P fs → N' j = N j ∧ T' j = T j ∧ B' j = B j) → ry_f P N T B fs → ry_f P N' T' B' fs
  | [], _, _ => trivial
  | f :: fs, h, x => by
    refine ⟨fun z => ?_, ry_f_c (fun j hj => h j (by have : ry_m P fs ≤ ry_m P (f :: fs) := Nat.le_add_right _ _; omega)) x.2⟩
    have hj := h (ry_m P fs) (by rw [ry_m_n z]; omega)
    have x1 := x.1 z
    exact ⟨hj.1.trans x1.1, fun k => hj.2.1.trans (x1.2.1 k), hj.2.2.trans x1.2.2⟩
theorem ry_f_put {P : Nat → bf_L} {N T B : Nat → Int32} {q i t : Nat} {w : Bool} {fs : List bf_F} {y : Int32} (x : ry_f P N T B fs) (hy : 11 ≤ bf_K (P q) i → y = nI t) :
    ry_f P (upd N (ry_m P fs) (nI (16 * q + i))) (upd T (ry_m P fs) y) (upd B (ry_m P fs) (bx_b w)) ((q, i, t, w) :: fs) :=
  ⟨fun _ => ⟨pk_us, fun k => pk_us.trans (hy k), pk_us⟩, ry_f_c (fun j hj => ⟨pk_un (by omega), pk_un (by omega), pk_un (by omega)⟩) x⟩
section
variable {ydp ypd yhi yoh yop ynx yba yca yed ysp : Int32} {ysK ysR ysN ysA ysB ysX ysY ysz yeK yeL yeR yeM yct yeV ytS ytP yrg ypn yog yoq yoN yoT yoB : Nat → Int32}
variable {post : SY → Prop}
theorem ry_push {k : Nat} {s y : Int32} {w : Bool} (hk : k < 140) (H : post (ydp, ypd, yhi, yoh, nI (k + 1), ynx, bx_b w, yca, yed, ysp, ysK, ysR, ysN, ysA, ysB, ysX, ysY, ysz, yeK, yeL, yeR, yeM, yct, yeV, ytS, ytP, yrg, ypn, yog, yoq, upd yoN k s, upd yoT k y, upd yoB k (bx_b w))) :
    wpY_push post (ydp, ypd, yhi, yoh, nI k, ynx, bx_b w, yca, yed, ysp, ysK, ysR, ysN, ysA, ysB, ysX, ysY, ysz, yeK, yeL, yeR, yeM, yct, yeV, ytS, ytP, yrg, ypn, yog, yoq, yoN, yoT, yoB) s y := by
  have hi : vp_in (nI k) 140 := vp_in_nI hk (by decide)
  have hc : (nI k).toNatClampNeg = k := nI_clamp (by omega)
  exact ⟨hi, nm_r (by rw [hc]) ⟨hi, nm_r (by rw [hc]) ⟨hi, nm_r (by rw [hc, bx_nar]) (nm_r (nI_1 k) H)⟩⟩⟩
theorem ry_div {q i : Nat} (hq : q < 4) (hi : i < 16) : nI (16 * q + i) / 16 = nI q := by
  show nI (16 * q + i) / nI 16 = nI q
  rw [pk_div (by omega) (by decide) (by decide)]
  exact congrArg nI (by omega)
theorem ry_go {q i : Nat} {a : Nat} {z : Int32} (hq : q < 4) (hi : i < 16) (hz : z = nI a) (H : post (ydp, ypd, yhi, yoh, yop, nI (16 * q + a), yba, yca, yed, ysp, ysK, ysR, ysN, ysA, ysB, ysX, ysY, ysz, yeK, yeL, yeR, yeM, yct, yeV, ytS, ytP, yrg, ypn, yog, yoq, yoN, yoT, yoB)) : wpY_go post (ydp, ypd, yhi, yoh, yop, ynx, yba, yca, yed, ysp, ysK, ysR, ysN, ysA, ysB, ysX, ysY, ysz, yeK, yeL, yeR, yeM, yct, yeV, ytS, ytP, yrg, ypn, yog, yoq, yoN, yoT, yoB) (nI (16 * q + i)) z := by
  subst hz
  refine ⟨by decide, nm_r (e' := nI (16 * q + a)) ?_ H⟩
  rw [ry_div hq hi]
  show nI q * nI 16 + nI a = nI (16 * q + a)
  rw [pk_mul, nI_add]
  exact congrArg nI (by omega)
theorem ry_work {post : Int32 → Prop} {x y : Int32} : ∀ k, k ≤ 6 → post (bf_op k x y) → wpY_worked post (ydp, ypd, yhi, yoh, yop, ynx, yba, yca, yed, ysp, ysK, ysR, ysN, ysA, ysB, ysX, ysY, ysz, yeK, yeL, yeR, yeM, yct, yeV, ytS, ytP, yrg, ypn, yog, yoq, yoN, yoT, yoB) (nI k) x y
  | 0, _, h => br_t (by decide) h
  | 1, _, h => br_f (by decide) (br_t (by decide) h)
  | 2, _, h => br_f (by decide) (br_f (by decide) (br_t (by decide) h))
  | 3, _, h => br_f (by decide) (br_f (by decide) (br_f (by decide) (br_t (by decide) h)))
  | 4, _, h => br_f (by decide) (br_f (by decide) (br_f (by decide) (br_f (by decide) (br_t (by decide) h))))
  | 5, _, h => br_f (by decide) (br_f (by decide) (br_f (by decide) (br_f (by decide) (br_f (by decide) (br_t (by decide)
      (br_c (fun z => (by rw [bf_op5, if_neg (Int32.not_lt.mpr z)] at h; exact h)) (fun z => (by rw [bf_op5, if_pos (Int32.not_le.mp z)] at h; exact h))))))))
  | 6, _, h => br_f (by decide) (br_f (by decide) (br_f (by decide) (br_f (by decide) (br_f (by decide) (br_f (by decide)
      (br_c (fun z => (by rw [bf_op6, if_pos z] at h; exact h)) (fun z => (by rw [bf_op6, if_neg z] at h; exact h))))))))
  | k + 7, hk, _ => by omega
end
section
variable {ydp ypd yhi yoh yop ynx yba yca yed ysp : Int32} {ysK ysR ysN ysA ysB ysX ysY ysz yeK yeL yeR yeM yct yeV ytS ytP yrg ypn yog yoq yoN yoT yoB : Nat → Int32}
variable {l : bf_L} {q e : Nat}
theorem ry_val_loop {post : Int32 → SY → Prop} (hl : ry_el q l yeK yeL yeR) (hw : bf_wL l) (he : e < bf_ct l) (hq : q < 4)
    (H : ∀ eV, post (bf_v l yrg e) (ydp, ypd, yhi, yoh, yop, ynx, yba, yca, yed, ysp, ysK, ysR, ysN, ysA, ysB, ysX, ysY, ysz, yeK, yeL, yeR, yeM, yct, eV, ytS, ytP, yrg, ypn, yog, yoq, yoN, yoT, yoB)) : ∀ d j eV, j + d = e + 1 → (∀ i, i < j → eV (0 + i) = bf_v l yrg i) →
    wY_value_2 post (nI q) (nI e) ydp ypd yhi yoh yop ynx yba yca yed ysp (d + 1) (nI j) ysK ysR ysN ysA ysB ysX ysY ysz yeK yeL yeR yeM yct eV ytS ytP yrg ypn yog yoq yoN yoT yoB := by
  have h24 := hw.2.1
  intro d
  induction d with
  | zero =>
    intro j eV hj hv
    have ev : eV (nI e).toNatClampNeg = bf_v l yrg e := by rw [nI_clamp (by omega)]; have := hv e (by omega); rw [Nat.zero_add] at this; exact this
    exact br_t (nI_lt (by omega) (by omega)) ⟨vp_in_nI (by omega) (by decide), by rw [ev]; exact H eV⟩
  | succ d ih =>
    intro j eV hj hv
    have hje : j < bf_ct l := by omega
    have hlt : ¬ nI e < nI j := nI_nlt (by omega) (by omega)
    have ad : (24 : Int32) * nI q + nI j = nI (24 * q + j) := by
      show nI 24 * nI q + nI j = _
      rw [pk_mul, nI_add]
    have hi : vp_in ((24 : Int32) * nI q + nI j) 96 := by rw [ad]; exact vp_in_nI (by omega) (by decide)
    have hc : ((24 : Int32) * nI q + nI j).toNatClampNeg = 24 * q + j := by rw [ad]; exact nI_clamp (by omega)
    have hj3 : vp_in (nI j) 24 := vp_in_nI (by omega) (by decide)
    have hcj : (nI j).toNatClampNeg = 0 + j := by rw [Nat.zero_add]; exact nI_clamp (by omega)
    obtain ⟨rk, r7, r8, r6⟩ := hl j hje
    have wE := hw.2.2.2 j hje
    have kk : yeK ((24 : Int32) * nI q + nI j).toNatClampNeg = nI (bf_eK l j) := by rw [hc]; exact rk
    by_cases k7 : bf_eK l j = 7
    · refine br_f hlt ⟨hi, nm_r (e' := 7) (by rw [kk, k7]; rfl) ⟨hi, nm_r (e' := bf_eL l j) (by rw [hc]; exact r7 k7) ⟨hi, nm_e (br_t rfl ⟨hj3, nm_r (e' := upd eV (0 + j) (bf_eL l j)) (by rw [hcj]) (nm_r (nI_1 j) ?_)⟩)⟩⟩⟩
      exact ih (j + 1) _ (by omega) (bx_tab wE hv (by unfold bf_e1; rw [if_pos k7]))
    by_cases k8 : bf_eK l j = 8
    · have h6 := wE.2.1 k8
      have hr : yrg (nI (bf_eA l j)).toNatClampNeg = yrg (bf_eA l j) := by rw [nI_clamp (by omega)]
      refine br_f hlt ⟨hi, nm_r (e' := 8) (by rw [kk, k8]; rfl) ⟨hi, nm_r (e' := nI (bf_eA l j)) (by rw [hc]; exact r8 k8) ⟨hi, nm_e (br_f (by decide) (br_t rfl ⟨vp_in_nI h6 (by decide), hj3, nm_r (e' := upd eV (0 + j) (yrg (bf_eA l j))) (by rw [hcj, hr]) (nm_r (nI_1 j) ?_)⟩))⟩⟩⟩
      exact ih (j + 1) _ (by omega) (bx_tab wE hv (by unfold bf_e1; rw [if_neg k7, if_pos k8]))
    have k6 : bf_eK l j ≤ 6 := by have := wE.1; omega
    have hab := wE.2.2 k6
    have ha : (nI (bf_eA l j)).toNatClampNeg = 0 + bf_eA l j := by rw [Nat.zero_add]; exact nI_clamp (by omega)
    have hbb : (nI (bf_eB l j)).toNatClampNeg = 0 + bf_eB l j := by rw [Nat.zero_add]; exact nI_clamp (by omega)
    refine br_f hlt ⟨hi, nm_r kk ⟨hi, nm_r (e' := nI (bf_eA l j)) (by rw [hc]; exact (r6 k6).1) ⟨hi, nm_r (e' := nI (bf_eB l j)) (by rw [hc]; exact (r6 k6).2)
      (br_f (bx_ne (b := 7) (by omega)) (br_f (bx_ne (b := 8) (by omega)) ⟨vp_in_nI (by omega) (by decide), vp_in_nI (by omega) (by decide), ?_⟩))⟩⟩⟩
    rw [ha, hbb]
    refine ry_work _ k6 ⟨hj3, nm_r (e' := upd eV (0 + j) (bf_op (bf_eK l j) (eV (0 + bf_eA l j)) (eV (0 + bf_eB l j)))) (by rw [hcj]) (nm_r (nI_1 j) ?_)⟩
    exact ih (j + 1) _ (by omega) (bx_tab wE hv (by unfold bf_e1; rw [if_neg k7, if_neg k8]))
theorem ry_val {post : Int32 → SY → Prop} {z z' : Int32} (hz : z = nI e) (hz' : z' = nI q) (hl : ry_el q l yeK yeL yeR) (hw : bf_wL l) (he : e < bf_ct l) (hq : q < 4)
    (H : ∀ eV, post (bf_v l yrg e) (ydp, ypd, yhi, yoh, yop, ynx, yba, yca, yed, ysp, ysK, ysR, ysN, ysA, ysB, ysX, ysY, ysz, yeK, yeL, yeR, yeM, yct, eV, ytS, ytP, yrg, ypn, yog, yoq, yoN, yoT, yoB)) : wpY_value post (ydp, ypd, yhi, yoh, yop, ynx, yba, yca, yed, ysp, ysK, ysR, ysN, ysA, ysB, ysX, ysY, ysz, yeK, yeL, yeR, yeM, yct, yeV, ytS, ytP, yrg, ypn, yog, yoq, yoN, yoT, yoB) z' z := by
  subst hz hz'
  exact ⟨e + 2, ry_val_loop hl hw he hq H (e + 1) 0 yeV (by omega) (fun i z => absurd z (Nat.not_lt_zero i))⟩
theorem ry_true {post : Int32 → SY → Prop} {i : Nat} {w near : Bool} (hq : q < 4) (hw : bf_wL l) (hi : i < bf_sz l) (hK : 11 ≤ bf_K l i)
    (hs : ry_sl q l ysK ysR ysN ysA ysB ysX ysY) (hl : ry_el q l yeK yeL yeR)
    (H0 : bf_tv l yrg i w near = false → ∀ eV, post 0 (ydp, ypd, yhi, yoh, yop, ynx, bx_b w, yca, yed, ysp, ysK, ysR, ysN, ysA, ysB, ysX, ysY, ysz, yeK, yeL, yeR, yeM, yct, eV, ytS, ytP, yrg, ypn, yog, yoq, yoN, yoT, yoB)) (H1 : bf_tv l yrg i w near = true → ∀ eV, post 1 (ydp, ypd, yhi, yoh, yop, ynx, bx_b w, yca, yed, ysp, ysK, ysR, ysN, ysA, ysB, ysX, ysY, ysz, yeK, yeL, yeR, yeM, yct, eV, ytS, ytP, yrg, ypn, yog, yoq, yoN, yoT, yoB)) :
    wpY_isTrue post (ydp, ypd, yhi, yoh, yop, ynx, bx_b w, yca, yed, ysp, ysK, ysR, ysN, ysA, ysB, ysX, ysY, ysz, yeK, yeL, yeR, yeM, yct, yeV, ytS, ytP, yrg, ypn, yog, yoq, yoN, yoT, yoB) (nI (16 * q + i)) (bx_b near) := by
  have h16 := hw.1
  have hin : vp_in (nI (16 * q + i)) 64 := vp_in_nI (by omega) (by decide)
  have hc : (nI (16 * q + i)).toNatClampNeg = 16 * q + i := nI_clamp (by omega)
  obtain ⟨-, -, -, rX, rY⟩ := hs i hi
  have ws := hw.2.2.1 i hi
  have vX : ∀ {ps : Int32 → SY → Prop}, (∀ eV, ps (bf_v l yrg (bf_X l i)) (ydp, ypd, yhi, yoh, yop, ynx, bx_b w, yca, yed, ysp, ysK, ysR, ysN, ysA, ysB, ysX, ysY, ysz, yeK, yeL, yeR, yeM, yct, eV, ytS, ytP, yrg, ypn, yog, yoq, yoN, yoT, yoB)) → wpY_value ps (ydp, ypd, yhi, yoh, yop, ynx, bx_b w, yca, yed, ysp, ysK, ysR, ysN, ysA, ysB, ysX, ysY, ysz, yeK, yeL, yeR, yeM, yct, yeV, ytS, ytP, yrg, ypn, yog, yoq, yoN, yoT, yoB) (nI (16 * q + i) / 16) (ysX (nI (16 * q + i)).toNatClampNeg) :=
    fun hp => ry_val (by rw [hc]; exact rX (by omega) (by omega)) (ry_div hq (by omega)) hl hw (ws.2.2.2.2.1 (by omega) (by omega)) hq hp
  have vY : ∀ {ps : Int32 → SY → Prop}, (∀ eV, ps (bf_v l yrg (bf_Y l i)) (ydp, ypd, yhi, yoh, yop, ynx, bx_b w, yca, yed, ysp, ysK, ysR, ysN, ysA, ysB, ysX, ysY, ysz, yeK, yeL, yeR, yeM, yct, eV, ytS, ytP, yrg, ypn, yog, yoq, yoN, yoT, yoB)) → wpY_value ps (ydp, ypd, yhi, yoh, yop, ynx, bx_b w, yca, yed, ysp, ysK, ysR, ysN, ysA, ysB, ysX, ysY, ysz, yeK, yeL, yeR, yeM, yct, yeV, ytS, ytP, yrg, ypn, yog, yoq, yoN, yoT, yoB) (nI (16 * q + i) / 16) (ysY (nI (16 * q + i)).toNatClampNeg) :=
    fun hp => ry_val (by rw [hc]; exact rY hK) (ry_div hq (by omega)) hl hw (ws.2.2.2.2.2.1 hK) hq hp
  by_cases e : w = near
  · have tv : bf_tv l yrg i w near = decide (bf_v l yrg (bf_Y l i) ≠ 0) := by unfold bf_tv; rw [if_pos e]
    refine br_t (by rw [e]) ⟨hin, by decide, vY (fun eV => br_c (fun z => H0 ?_ eV) (fun z => H1 ?_ eV))⟩
    · rw [tv]; exact decide_eq_false (fun y => y z)
    · rw [tv]; exact decide_eq_true z
  · have tv : bf_tv l yrg i w near = decide (bf_v l yrg (bf_X l i) ≠ 0) := by unfold bf_tv; rw [if_neg e]
    refine br_f (by cases w <;> cases near <;> first | exact absurd rfl e | decide) ⟨hin, by decide, vX (fun eV => br_c (fun z => H0 ?_ eV) (fun z => H1 ?_ eV))⟩
    · rw [tv]; exact decide_eq_false (fun y => y z)
    · rw [tv]; exact decide_eq_true z
end
