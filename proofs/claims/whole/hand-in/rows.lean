section
theorem pk_us {f : Nat → Int32} {k : Nat} {x : Int32} : upd f k x k = x := if_pos rfl
theorem pk_un {f : Nat → Int32} {k j : Nat} {x : Int32} (h : j ≠ k) : upd f k x j = f j := if_neg h
theorem pk_sub {a b : Nat} (h : b ≤ a) : nI a - nI b = nI (a - b) := by
  obtain ⟨c, rfl⟩ : ∃ c, a = c + b := ⟨a - b, by omega⟩
  rw [← nI_add, Int32.add_sub_cancel, Nat.add_sub_cancel]
theorem pk_m1 (n : Nat) : nI (n + 1) + (-1) = nI n := by
  rw [← nI_1, Int32.add_assoc, show (1 : Int32) + (-1) = 0 from rfl, Int32.add_zero]
theorem pk_mul (a b : Nat) : nI a * nI b = nI (a * b) := (Int32.ofNat_mul a b).symm
theorem pk_div {a d : Nat} (ha : a < 2 ^ 31) (h0 : 0 < d) (hd : d < 2 ^ 31) : nI a / nI d = nI (a / d) := by
  apply Int32.toInt_inj.mp
  rw [lg_idiv_nonneg (by rw [nI_toInt ha]; omega) (by rw [nI_toInt hd]; omega), nI_toInt ha, nI_toInt hd, nI_toInt (Nat.lt_of_le_of_lt (Nat.div_le_self a d) ha)]
  first | rfl | exact (Int.natCast_ediv _ _).symm
theorem pk_rem {a d : Nat} (ha : a < 2 ^ 31) (h0 : 0 < d) (hd : d < 2 ^ 31) : nI a - nI a / nI d * nI d = nI (a % d) := by
  rw [pk_div ha h0 hd, pk_mul, pk_sub (Nat.div_mul_le_self a d)]
  exact congrArg nI (by have := Nat.div_add_mod' a d; omega)
theorem pk_ix (x : Int32) {n : Nat} (hn : n < 2 ^ 31) : x < 0 ∨ nI n ≤ x ∨ ∃ j : Nat, j < n ∧ x = nI j := by
  by_cases h : x < 0
  · exact Or.inl h
  · obtain ⟨j, hj, rfl⟩ := nI_of h
    by_cases h2 : j < n
    · exact Or.inr (Or.inr ⟨j, h2, rfl⟩)
    · exact Or.inr (Or.inl (nI_le (by omega) hj))
theorem pk_le {x y : Int32} {A B : Prop} (a b : Nat) (f : a ≤ b → A) (g : b < a → B) (hx : x = nI a := by rfl) (hy : y = nI b := by rfl) (ha : a < 2 ^ 31 := by omega) (hb : b < 2 ^ 31 := by omega) : (x ≤ y → A) ∧ (¬ x ≤ y → B) := by
  subst hx hy
  rw [nI_leI ha hb]
  exact ⟨f, fun z => g (by omega)⟩
theorem pk_lt {x y : Int32} {A B : Prop} (a b : Nat) (f : a < b → A) (g : b ≤ a → B) (hx : x = nI a := by rfl) (hy : y = nI b := by rfl) (ha : a < 2 ^ 31 := by omega) (hb : b < 2 ^ 31 := by omega) : (x < y → A) ∧ (¬ x < y → B) := by
  subst hx hy
  rw [nI_ltI ha hb]
  exact ⟨f, fun z => g (by omega)⟩
theorem pk_eq {x y : Int32} {A B : Prop} (a b : Nat) (f : a = b → A) (g : a ≠ b → B) (hx : x = nI a := by rfl) (hy : y = nI b := by rfl) (ha : a < 2 ^ 31 := by omega) (hb : b < 2 ^ 31 := by omega) : (x = y → A) ∧ (¬ x = y → B) := by
  subst hx hy
  rw [nI_eq ha hb]
  exact ⟨f, g⟩
theorem pk_in {x : Int32} (n N : Nat) (h : n < N) (hx : x = nI n := by rfl) (hN : N < 2 ^ 31 := by omega) : vp_in x N := by
  subst hx
  exact vp_in_nI h hN
theorem pk_cl {x : Int32} (n : Nat) (hx : x = nI n := by rfl) (h : n < 2 ^ 31 := by omega) : x.toNatClampNeg = n := by
  subst hx
  exact nI_clamp h
end
section
/-! The pure machine.
 A slot l = (statements, expressions, size, count). A statement (kind, r, n, a, b, x, y); an expression (kind, literal, a, b).
 A frame (slot, index, stage, backwards). The machine: registers g, pile pl, height h, frames fs, calls under way c, steps n, ending z -/
abbrev bf_S : Type := Nat × Int32 × Int32 × Nat × Nat × Nat × Nat
abbrev bf_E : Type := Nat × Int32 × Nat × Nat
abbrev bf_L : Type := (Nat → bf_S) × (Nat → bf_E) × Nat × Nat
abbrev bf_F : Type := Nat × Nat × Nat × Bool
abbrev bf_M : Type := (Nat → Int32) × (Nat → Int32) × Nat × List bf_F × Nat × Nat × Nat
def bf_K (l : bf_L) (i : Nat) : Nat := (l.1 i).1
def bf_R (l : bf_L) (i : Nat) : Int32 := (l.1 i).2.1
def bf_N (l : bf_L) (i : Nat) : Int32 := (l.1 i).2.2.1
def bf_A (l : bf_L) (i : Nat) : Nat := (l.1 i).2.2.2.1
def bf_B (l : bf_L) (i : Nat) : Nat := (l.1 i).2.2.2.2.1
def bf_X (l : bf_L) (i : Nat) : Nat := (l.1 i).2.2.2.2.2.1
def bf_Y (l : bf_L) (i : Nat) : Nat := (l.1 i).2.2.2.2.2.2
def bf_eK (l : bf_L) (e : Nat) : Nat := (l.2.1 e).1
def bf_eL (l : bf_L) (e : Nat) : Int32 := (l.2.1 e).2.1
def bf_eA (l : bf_L) (e : Nat) : Nat := (l.2.1 e).2.2.1
def bf_eB (l : bf_L) (e : Nat) : Nat := (l.2.1 e).2.2.2
def bf_sz (l : bf_L) : Nat := l.2.2.1
def bf_ct (l : bf_L) : Nat := l.2.2.2
def bf_wS (l : bf_L) (i : Nat) : Prop :=
  bf_K l i ≤ 12 ∧
  (bf_K l i = 1 ∨ bf_K l i = 2 ∨ bf_K l i = 3 ∨ bf_K l i = 6 ∨ bf_K l i = 7 ∨ bf_K l i = 8 → ∃ r, r < 6 ∧ bf_R l i = nI r) ∧
  (bf_K l i = 1 → ∃ r, r < 6 ∧ bf_N l i = nI r) ∧
  (bf_K l i = 4 ∨ bf_K l i = 5 → ∃ p, p < 3 ∧ bf_N l i = nI p) ∧
  (6 ≤ bf_K l i → bf_K l i ≠ 10 → bf_X l i < bf_ct l) ∧
  (11 ≤ bf_K l i → bf_Y l i < bf_ct l) ∧
  (10 ≤ bf_K l i → bf_A l i < i ∧ bf_B l i < i)
def bf_wE (l : bf_L) (e : Nat) : Prop :=
  bf_eK l e ≤ 8 ∧ (bf_eK l e = 8 → bf_eA l e < 6) ∧ (bf_eK l e ≤ 6 → bf_eA l e < e ∧ bf_eB l e < e)
def bf_wL (l : bf_L) : Prop := bf_sz l ≤ 16 ∧ bf_ct l ≤ 24 ∧ (∀ i, i < bf_sz l → bf_wS l i) ∧ ∀ e, e < bf_ct l → bf_wE l e
def bf_op (k : Nat) (x y : Int32) : Int32 :=
  if k = 0 then x + y else if k = 1 then x - y else if k = 2 then x * y else if k = 3 then x ^^^ y
  else if k = 4 then x &&& y else if k = 5 then (if x < y then 1 else 0) else (if x = y then 1 else 0)
theorem bf_op5 (x y : Int32) : bf_op 5 x y = if x < y then 1 else 0 := by simp [bf_op]
theorem bf_op6 (x y : Int32) : bf_op 6 x y = if x = y then 1 else 0 := by simp [bf_op]
/-- what the expression e is worth, from the values of those before it -/
def bf_e1 (l : bf_L) (g t : Nat → Int32) (e : Nat) : Int32 :=
  if bf_eK l e = 7 then bf_eL l e else if bf_eK l e = 8 then g (bf_eA l e) else bf_op (bf_eK l e) (t (bf_eA l e)) (t (bf_eB l e))
def bf_tb (l : bf_L) (g : Nat → Int32) : Nat → Nat → Int32
  | 0 => fun _ => 0
  | n + 1 => upd (bf_tb l g n) n (bf_e1 l g (bf_tb l g n) n)
def bf_v (l : bf_L) (g : Nat → Int32) (e : Nat) : Int32 := bf_tb l g (e + 1) e
theorem bf_tb_lt (l : bf_L) (g : Nat → Int32) {j : Nat} : ∀ {n : Nat}, j < n → bf_tb l g n j = bf_v l g j
  | 0, h => absurd h (Nat.not_lt_zero j)
  | n + 1, h => by
    by_cases e : j = n
    · subst e; rfl
    · have h2 : j < n := by omega
      have : bf_tb l g (n + 1) j = bf_tb l g n j := pk_un e
      rw [this]
      exact bf_tb_lt l g h2
theorem bf_v_eq (l : bf_L) (g : Nat → Int32) (e : Nat) : bf_v l g e = bf_e1 l g (bf_tb l g e) e := pk_us
/-- a table that holds the values below e gives e's value -/
theorem bf_e1_v {l : bf_L} {g t : Nat → Int32} {e : Nat} (w : bf_wE l e) (h : ∀ j, j < e → t j = bf_v l g j) : bf_e1 l g t e = bf_v l g e := by
  rw [bf_v_eq]
  unfold bf_e1
  by_cases h7 : bf_eK l e = 7
  · rw [if_pos h7, if_pos h7]
  by_cases h8 : bf_eK l e = 8
  · rw [if_neg h7, if_neg h7, if_pos h8, if_pos h8]
  have hb := w.2.2 (by have := w.1; omega)
  rw [if_neg h7, if_neg h7, if_neg h8, if_neg h8, h _ hb.1, h _ hb.2, bf_tb_lt l g hb.1, bf_tb_lt l g hb.2]
/-- values depend on registers 0 to 5 alone -/
theorem bf_v_reg {l : bf_L} {g g' : Nat → Int32} (hg : ∀ j, j < 6 → g j = g' j) : ∀ e, (∀ j, j ≤ e → bf_wE l j) → bf_v l g e = bf_v l g' e := by
  intro e
  induction e using Nat.strongRecOn with
  | _ e ih =>
    intro hw
    have w := hw e (Nat.le_refl e)
    have key : bf_e1 l g (bf_v l g') e = bf_v l g e := bf_e1_v w (fun j hj => (ih j hj (fun i hi => hw i (by omega))).symm)
    rw [← key, ← bf_e1_v (g := g') (t := bf_v l g') w (fun _ _ => rfl)]
    unfold bf_e1
    by_cases h7 : bf_eK l e = 7
    · rw [if_pos h7, if_pos h7]
    by_cases h8 : bf_eK l e = 8
    · rw [if_neg h7, if_neg h7, if_pos h8, if_pos h8, hg _ (w.2.1 h8)]
    rw [if_neg h7, if_neg h7, if_neg h8, if_neg h8]
/-- is the entry (near) or the exit test true -/
def bf_tv (l : bf_L) (g : Nat → Int32) (i : Nat) (w near : Bool) : Bool :=
  decide (bf_v l g (if w = near then bf_Y l i else bf_X l i) ≠ 0)
def bf_opA (l : bf_L) (q i : Nat) (w : Bool) (fs : List bf_F) : List bf_F := (q, bf_A l i, 0, w) :: (q, i, 1, w) :: fs
def bf_opB (l : bf_L) (q i : Nat) (w : Bool) (fs : List bf_F) : List bf_F := (q, bf_B l i, 0, w) :: (q, i, 2, w) :: fs
def bf_push (r : Nat) (g pl : Nat → Int32) (h : Nat) : (Nat → Int32) × (Nat → Int32) × Nat × Nat :=
  if 12 ≤ h then (g, pl, h, 1) else (upd g r 0, upd pl h (g r), h + 1, 0)
def bf_pop (r : Nat) (g pl : Nat → Int32) (h : Nat) : (Nat → Int32) × (Nat → Int32) × Nat × Nat :=
  if h = 0 ∨ g r ≠ 0 then (g, pl, h, 1) else (upd g r (pl (h - 1)), pl, h - 1, 0)
def bf_eff (l : bf_L) (i : Nat) (w : Bool) (g pl : Nat → Int32) (h : Nat) : (Nat → Int32) × (Nat → Int32) × Nat × Nat :=
  let r := (bf_R l i).toNatClampNeg
  let s := (bf_N l i).toNatClampNeg
  let v := bf_v l g (bf_X l i)
  if bf_K l i = 0 then (g, pl, h, 0)
  else if bf_K l i = 1 then (upd (upd g r (g s)) s (g r), pl, h, 0)
  else if bf_K l i = 2 then (if w then bf_pop r g pl h else bf_push r g pl h)
  else if bf_K l i = 3 then (if w then bf_push r g pl h else bf_pop r g pl h)
  else if bf_K l i = 6 then (upd g r (if w then g r - v else g r + v), pl, h, 0)
  else if bf_K l i = 7 then (upd g r (if w then g r + v else g r - v), pl, h, 0)
  else if bf_K l i = 8 then (upd g r (g r ^^^ v), pl, h, 0)
  else (g, pl, h, if v = 0 then 1 else 0)
/-- one turn of the machine at its top frame (q, i, t, w) over fs -/
def bf_stp (P : Nat → bf_L) (g pl : Nat → Int32) (h q i t : Nat) (w : Bool) (fs : List bf_F) (c n : Nat) : bf_M :=
  if bf_K (P q) i < 10 then
    if bf_K (P q) i = 4 ∨ bf_K (P q) i = 5 then
      if t = 0 then
        if 300 ≤ n then (g, pl, h, (q, i, t, w) :: fs, c, n, 2)
        else if 6 ≤ c then (g, pl, h, (q, i, t, w) :: fs, c, n + 1, 3)
        else (g, pl, h, ((bf_N (P q) i).toNatClampNeg, bf_sz (P (bf_N (P q) i).toNatClampNeg) - 1, 0, w != decide (bf_K (P q) i = 5)) :: (q, i, 1, w) :: fs, c + 1, n + 1, 0)
      else (g, pl, h, fs, c - 1, n, 0)
    else if 300 ≤ n then (g, pl, h, fs, c, n, 2)
    else ((bf_eff (P q) i w g pl h).1, (bf_eff (P q) i w g pl h).2.1, (bf_eff (P q) i w g pl h).2.2.1, fs, c, n + 1, (bf_eff (P q) i w g pl h).2.2.2)
  else if bf_K (P q) i = 10 then
    if t = (if w then 1 else 2) then (g, pl, h, fs, c, n, 0)
    else if t = (if w then 2 else 0) then (g, pl, h, bf_opA (P q) q i w fs, c, n, 0)
    else (g, pl, h, bf_opB (P q) q i w fs, c, n, 0)
  else if bf_K (P q) i = 11 then
    if t = 0 then (g, pl, h, (if bf_tv (P q) g i w true then bf_opA (P q) q i w fs else bf_opB (P q) q i w fs), c, n, 0)
    else if bf_tv (P q) g i w false = decide (t = 1) then (g, pl, h, fs, c, n, 0)
    else (g, pl, h, (q, i, t, w) :: fs, c, n, 1)
  else
    if t = 1 then (g, pl, h, (if bf_tv (P q) g i w false then fs else bf_opB (P q) q i w fs), c, n, 0)
    else if bf_tv (P q) g i w true = decide (t = 0) then (g, pl, h, bf_opA (P q) q i w fs, c, n, 0)
    else (g, pl, h, (q, i, t, w) :: fs, c, n, 1)
/-- calls that have begun and not ended -/
def bf_cc (P : Nat → bf_L) : List bf_F → Nat
  | [] => 0
  | f :: fs => (if bf_K (P f.1) f.2.1 < 10 ∧ f.2.2.1 ≠ 0 then 1 else 0) + bf_cc P fs
def bf_nf : List bf_F → Prop
  | [] => True
  | f :: _ => f.2.2.1 ≠ 0
def bf_ok (P : Nat → bf_L) : List bf_F → Prop
  | [] => True
  | f :: fs => (f.1 < 3 ∧ f.2.1 < bf_sz (P f.1) ∧ f.2.2.1 ≤ 2 ∧ (bf_K (P f.1) f.2.1 < 10 → f.2.2.1 ≠ 0 → (bf_K (P f.1) f.2.1 = 4 ∨ bf_K (P f.1) f.2.1 = 5) ∧ f.2.2.1 = 1)) ∧
    fs.length + f.2.1 < 16 * (bf_cc P fs + 1) ∧ bf_nf fs ∧ bf_ok P fs
def bf_pot : List bf_F → Nat
  | [] => 0
  | f :: fs => if f.2.2.1 = 0 then f.2.1 + 1 else 20 + fs.length
def bf_mu (n : Nat) (fs : List bf_F) : Nat := (300 - n) * 200 + bf_pot fs
/-- well formed; g0, p0: the registers and the pile when the run began (beyond their ends nothing is ever written) -/
def bf_W (P : Nat → bf_L) (g0 p0 : Nat → Int32) (m : bf_M) : Prop :=
  bf_ok P m.2.2.2.1 ∧ m.2.2.2.2.1 = bf_cc P m.2.2.2.1 ∧ m.2.2.2.2.1 ≤ 6 ∧ m.2.2.2.2.2.1 ≤ 300 ∧ m.2.2.1 ≤ 12 ∧
  (∀ j, 6 ≤ j → m.1 j = g0 j) ∧ (∀ j, 12 ≤ j → m.2.1 j = p0 j) ∧ m.2.2.2.2.2.2 ≤ 3
def bf_G (P : Nat → bf_L) : Prop := ∀ q, q < 3 → bf_wL (P q) ∧ 0 < bf_sz (P q)
section
variable {P : Nat → bf_L} {g pl g0 p0 : Nat → Int32} {h q i t c n : Nat} {w : Bool} {fs : List bf_F}
/-! the turns, case by case -/
theorem bs_leafT (hk : bf_K (P q) i < 10) (h4 : ¬ (bf_K (P q) i = 4 ∨ bf_K (P q) i = 5)) (hn : 300 ≤ n) :
    bf_stp P g pl h q i t w fs c n = (g, pl, h, fs, c, n, 2) := by
  unfold bf_stp; rw [if_pos hk, if_neg h4, if_pos hn]
theorem bs_leaf (hk : bf_K (P q) i < 10) (h4 : ¬ (bf_K (P q) i = 4 ∨ bf_K (P q) i = 5)) (hn : ¬ 300 ≤ n) :
    bf_stp P g pl h q i t w fs c n = ((bf_eff (P q) i w g pl h).1, (bf_eff (P q) i w g pl h).2.1, (bf_eff (P q) i w g pl h).2.2.1, fs, c, n + 1, (bf_eff (P q) i w g pl h).2.2.2) := by
  unfold bf_stp; rw [if_pos hk, if_neg h4, if_neg hn]
theorem bs_callT (h4 : bf_K (P q) i = 4 ∨ bf_K (P q) i = 5) (hn : 300 ≤ n) :
    bf_stp P g pl h q i 0 w fs c n = (g, pl, h, (q, i, 0, w) :: fs, c, n, 2) := by
  unfold bf_stp; rw [if_pos (show bf_K (P q) i < 10 by omega), if_pos h4, if_pos rfl, if_pos hn]
theorem bs_callD (h4 : bf_K (P q) i = 4 ∨ bf_K (P q) i = 5) (hn : ¬ 300 ≤ n) (hc : 6 ≤ c) :
    bf_stp P g pl h q i 0 w fs c n = (g, pl, h, (q, i, 0, w) :: fs, c, n + 1, 3) := by
  unfold bf_stp; rw [if_pos (show bf_K (P q) i < 10 by omega), if_pos h4, if_pos rfl, if_neg hn, if_pos hc]
theorem bs_call (h4 : bf_K (P q) i = 4 ∨ bf_K (P q) i = 5) (hn : ¬ 300 ≤ n) (hc : ¬ 6 ≤ c) :
    bf_stp P g pl h q i 0 w fs c n = (g, pl, h, ((bf_N (P q) i).toNatClampNeg, bf_sz (P (bf_N (P q) i).toNatClampNeg) - 1, 0, w != decide (bf_K (P q) i = 5)) :: (q, i, 1, w) :: fs, c + 1, n + 1, 0) := by
  unfold bf_stp; rw [if_pos (show bf_K (P q) i < 10 by omega), if_pos h4, if_pos rfl, if_neg hn, if_neg hc]
theorem bs_ret (h4 : bf_K (P q) i = 4 ∨ bf_K (P q) i = 5) (ht : t ≠ 0) :
    bf_stp P g pl h q i t w fs c n = (g, pl, h, fs, c - 1, n, 0) := by
  unfold bf_stp; rw [if_pos (show bf_K (P q) i < 10 by omega), if_pos h4, if_neg ht]
theorem bs_seqC (hk : bf_K (P q) i = 10) (ht : t = if w then 1 else 2) :
    bf_stp P g pl h q i t w fs c n = (g, pl, h, fs, c, n, 0) := by
  unfold bf_stp; rw [if_neg (show ¬ bf_K (P q) i < 10 by omega), if_pos hk, if_pos ht]
theorem bs_seqA (hk : bf_K (P q) i = 10) (ht : t = if w then 2 else 0) :
    bf_stp P g pl h q i t w fs c n = (g, pl, h, bf_opA (P q) q i w fs, c, n, 0) := by
  unfold bf_stp; rw [if_neg (show ¬ bf_K (P q) i < 10 by omega), if_pos hk, if_neg (show ¬ t = if w then 1 else 2 by cases w <;> simp_all), if_pos ht]
theorem bs_seqB (hk : bf_K (P q) i = 10) (ht : t = if w then 0 else 1) :
    bf_stp P g pl h q i t w fs c n = (g, pl, h, bf_opB (P q) q i w fs, c, n, 0) := by
  unfold bf_stp; rw [if_neg (show ¬ bf_K (P q) i < 10 by omega), if_pos hk, if_neg (show ¬ t = if w then 1 else 2 by cases w <;> simp_all), if_neg (show ¬ t = if w then 2 else 0 by cases w <;> simp_all)]
theorem bs_if0 (hk : bf_K (P q) i = 11) :
    bf_stp P g pl h q i 0 w fs c n = (g, pl, h, (if bf_tv (P q) g i w true then bf_opA (P q) q i w fs else bf_opB (P q) q i w fs), c, n, 0) := by
  unfold bf_stp; rw [if_neg (show ¬ bf_K (P q) i < 10 by omega), if_neg (show ¬ bf_K (P q) i = 10 by omega), if_pos hk, if_pos rfl]
theorem bs_ifC (hk : bf_K (P q) i = 11) (ht : t ≠ 0) (hv : bf_tv (P q) g i w false = decide (t = 1)) :
    bf_stp P g pl h q i t w fs c n = (g, pl, h, fs, c, n, 0) := by
  unfold bf_stp; rw [if_neg (show ¬ bf_K (P q) i < 10 by omega), if_neg (show ¬ bf_K (P q) i = 10 by omega), if_pos hk, if_neg ht, if_pos hv]
theorem bs_ifF (hk : bf_K (P q) i = 11) (ht : t ≠ 0) (hv : ¬ bf_tv (P q) g i w false = decide (t = 1)) :
    bf_stp P g pl h q i t w fs c n = (g, pl, h, (q, i, t, w) :: fs, c, n, 1) := by
  unfold bf_stp; rw [if_neg (show ¬ bf_K (P q) i < 10 by omega), if_neg (show ¬ bf_K (P q) i = 10 by omega), if_pos hk, if_neg ht, if_neg hv]
theorem bs_lp1 (hk : bf_K (P q) i = 12) :
    bf_stp P g pl h q i 1 w fs c n = (g, pl, h, (if bf_tv (P q) g i w false then fs else bf_opB (P q) q i w fs), c, n, 0) := by
  unfold bf_stp; rw [if_neg (show ¬ bf_K (P q) i < 10 by omega), if_neg (show ¬ bf_K (P q) i = 10 by omega), if_neg (show ¬ bf_K (P q) i = 11 by omega), if_pos rfl]
theorem bs_lpA (hk : bf_K (P q) i = 12) (ht : t ≠ 1) (hv : bf_tv (P q) g i w true = decide (t = 0)) :
    bf_stp P g pl h q i t w fs c n = (g, pl, h, bf_opA (P q) q i w fs, c, n, 0) := by
  unfold bf_stp; rw [if_neg (show ¬ bf_K (P q) i < 10 by omega), if_neg (show ¬ bf_K (P q) i = 10 by omega), if_neg (show ¬ bf_K (P q) i = 11 by omega), if_neg ht, if_pos hv]
theorem bs_lpF (hk : bf_K (P q) i = 12) (ht : t ≠ 1) (hv : ¬ bf_tv (P q) g i w true = decide (t = 0)) :
    bf_stp P g pl h q i t w fs c n = (g, pl, h, (q, i, t, w) :: fs, c, n, 1) := by
  unfold bf_stp; rw [if_neg (show ¬ bf_K (P q) i < 10 by omega), if_neg (show ¬ bf_K (P q) i = 10 by omega), if_neg (show ¬ bf_K (P q) i = 11 by omega), if_neg ht, if_neg hv]
/-! what the effects keep -/
def bf_kept (g pl : Nat → Int32) (e : (Nat → Int32) × (Nat → Int32) × Nat × Nat) : Prop :=
  e.2.2.1 ≤ 12 ∧ (∀ j, 6 ≤ j → e.1 j = g j) ∧ (∀ j, 12 ≤ j → e.2.1 j = pl j) ∧ e.2.2.2 ≤ 1
theorem bf_un6 {r : Nat} {x : Int32} (hr : r < 6) (j : Nat) (hj : 6 ≤ j) : upd g r x j = g j := pk_un (by omega)
theorem bf_push_k {r : Nat} (hr : r < 6) (hh : h ≤ 12) : bf_kept g pl (bf_push r g pl h) := by
  unfold bf_push
  by_cases e : 12 ≤ h
  · rw [if_pos e]; exact ⟨hh, fun _ _ => rfl, fun _ _ => rfl, Nat.le_refl _⟩
  · rw [if_neg e]; exact ⟨(by omega : h + 1 ≤ 12), bf_un6 hr, fun j hj => pk_un (by omega), Nat.zero_le _⟩
theorem bf_pop_k {r : Nat} (hr : r < 6) (hh : h ≤ 12) : bf_kept g pl (bf_pop r g pl h) := by
  unfold bf_pop
  by_cases e : h = 0 ∨ g r ≠ 0
  · rw [if_pos e]; exact ⟨hh, fun _ _ => rfl, fun _ _ => rfl, Nat.le_refl _⟩
  · rw [if_neg e]; exact ⟨(by omega : h - 1 ≤ 12), bf_un6 hr, fun _ _ => rfl, Nat.zero_le _⟩
theorem bf_same_k (hh : h ≤ 12) : bf_kept g pl (g, pl, h, 0) := ⟨hh, fun _ _ => rfl, fun _ _ => rfl, Nat.zero_le _⟩
theorem bf_upd_k {r : Nat} {x : Int32} (hr : r < 6) (hh : h ≤ 12) : bf_kept g pl (upd g r x, pl, h, 0) := ⟨hh, bf_un6 hr, fun _ _ => rfl, Nat.zero_le _⟩
theorem bf_R6 {l : bf_L} (ws : bf_wS l i) (hk : bf_K l i = 1 ∨ bf_K l i = 2 ∨ bf_K l i = 3 ∨ bf_K l i = 6 ∨ bf_K l i = 7 ∨ bf_K l i = 8) :
    ∃ r, r < 6 ∧ bf_R l i = nI r ∧ (bf_R l i).toNatClampNeg = r := by
  obtain ⟨r, hr, e⟩ := ws.2.1 hk
  exact ⟨r, hr, e, by rw [e]; exact nI_clamp (by omega)⟩
theorem bf_N6 {l : bf_L} (ws : bf_wS l i) (hk : bf_K l i = 1) : ∃ r, r < 6 ∧ bf_N l i = nI r ∧ (bf_N l i).toNatClampNeg = r := by
  obtain ⟨r, hr, e⟩ := ws.2.2.1 hk
  exact ⟨r, hr, e, by rw [e]; exact nI_clamp (by omega)⟩
theorem bf_N3 {l : bf_L} (ws : bf_wS l i) (hk : bf_K l i = 4 ∨ bf_K l i = 5) : ∃ p, p < 3 ∧ bf_N l i = nI p ∧ (bf_N l i).toNatClampNeg = p := by
  obtain ⟨r, hr, e⟩ := ws.2.2.2.1 hk
  exact ⟨r, hr, e, by rw [e]; exact nI_clamp (by omega)⟩
/-! the effect of each kind -/
section
variable {l : bf_L}
theorem be_0 (hk : bf_K l i = 0) : bf_eff l i w g pl h = (g, pl, h, 0) := by unfold bf_eff; simp only [hk, if_pos]
theorem be_1 (hk : bf_K l i = 1) : bf_eff l i w g pl h = (upd (upd g (bf_R l i).toNatClampNeg (g (bf_N l i).toNatClampNeg)) (bf_N l i).toNatClampNeg (g (bf_R l i).toNatClampNeg), pl, h, 0) := by
  unfold bf_eff; simp [hk]
theorem be_2 (hk : bf_K l i = 2) : bf_eff l i w g pl h = if w then bf_pop (bf_R l i).toNatClampNeg g pl h else bf_push (bf_R l i).toNatClampNeg g pl h := by
  unfold bf_eff; simp [hk]
theorem be_3 (hk : bf_K l i = 3) : bf_eff l i w g pl h = if w then bf_push (bf_R l i).toNatClampNeg g pl h else bf_pop (bf_R l i).toNatClampNeg g pl h := by
  unfold bf_eff; simp [hk]
theorem be_6 (hk : bf_K l i = 6) : bf_eff l i w g pl h = (upd g (bf_R l i).toNatClampNeg (if w then g (bf_R l i).toNatClampNeg - bf_v l g (bf_X l i) else g (bf_R l i).toNatClampNeg + bf_v l g (bf_X l i)), pl, h, 0) := by
  unfold bf_eff; simp [hk]
theorem be_7 (hk : bf_K l i = 7) : bf_eff l i w g pl h = (upd g (bf_R l i).toNatClampNeg (if w then g (bf_R l i).toNatClampNeg + bf_v l g (bf_X l i) else g (bf_R l i).toNatClampNeg - bf_v l g (bf_X l i)), pl, h, 0) := by
  unfold bf_eff; simp [hk]
theorem be_8 (hk : bf_K l i = 8) : bf_eff l i w g pl h = (upd g (bf_R l i).toNatClampNeg (g (bf_R l i).toNatClampNeg ^^^ bf_v l g (bf_X l i)), pl, h, 0) := by
  unfold bf_eff; simp [hk]
theorem be_9 (hk : bf_K l i = 9) : bf_eff l i w g pl h = (g, pl, h, if bf_v l g (bf_X l i) = 0 then 1 else 0) := by
  unfold bf_eff; simp [hk]
theorem bf_eff_k (ws : bf_wS l i) (hk : bf_K l i < 10) (h4 : ¬ (bf_K l i = 4 ∨ bf_K l i = 5)) (hh : h ≤ 12) : bf_kept g pl (bf_eff l i w g pl h) := by
  have hc : bf_K l i = 0 ∨ bf_K l i = 1 ∨ bf_K l i = 2 ∨ bf_K l i = 3 ∨ bf_K l i = 6 ∨ bf_K l i = 7 ∨ bf_K l i = 8 ∨ bf_K l i = 9 := by omega
  rcases hc with k | k | k | k | k | k | k | k
  · rw [be_0 k]; exact bf_same_k hh
  · obtain ⟨r, hr, -, er⟩ := bf_R6 ws (Or.inl k)
    obtain ⟨s, hs, -, es⟩ := bf_N6 ws k
    rw [be_1 k, er, es]
    exact ⟨hh, fun j hj => (pk_un (by omega)).trans (pk_un (by omega)), fun _ _ => rfl, Nat.zero_le _⟩
  · obtain ⟨r, hr, -, er⟩ := bf_R6 ws (by omega)
    rw [be_2 k, er]; cases w
    · exact bf_push_k hr hh
    · exact bf_pop_k hr hh
  · obtain ⟨r, hr, -, er⟩ := bf_R6 ws (by omega)
    rw [be_3 k, er]; cases w
    · exact bf_pop_k hr hh
    · exact bf_push_k hr hh
  · obtain ⟨r, hr, -, er⟩ := bf_R6 ws (by omega)
    rw [be_6 k, er]; exact bf_upd_k hr hh
  · obtain ⟨r, hr, -, er⟩ := bf_R6 ws (by omega)
    rw [be_7 k, er]; exact bf_upd_k hr hh
  · obtain ⟨r, hr, -, er⟩ := bf_R6 ws (by omega)
    rw [be_8 k, er]; exact bf_upd_k hr hh
  · rw [be_9 k]; exact ⟨hh, fun _ _ => rfl, fun _ _ => rfl, by dsimp only; split <;> omega⟩
end
/-! frames -/
theorem bf_cc_ge (hk : 10 ≤ bf_K (P q) i) : bf_cc P ((q, i, t, w) :: fs) = bf_cc P fs := by
  show (if bf_K (P q) i < 10 ∧ t ≠ 0 then 1 else 0) + bf_cc P fs = bf_cc P fs
  rw [if_neg (by omega), Nat.zero_add]
theorem bf_cc_0 : bf_cc P ((q, i, 0, w) :: fs) = bf_cc P fs := by
  show (if bf_K (P q) i < 10 ∧ 0 ≠ 0 then 1 else 0) + bf_cc P fs = bf_cc P fs
  rw [if_neg (by omega), Nat.zero_add]
theorem bf_cc_1 (hk : bf_K (P q) i < 10) (ht : t ≠ 0) : bf_cc P ((q, i, t, w) :: fs) = bf_cc P fs + 1 := by
  show (if bf_K (P q) i < 10 ∧ t ≠ 0 then 1 else 0) + bf_cc P fs = bf_cc P fs + 1
  rw [if_pos ⟨hk, ht⟩, Nat.add_comm]
/-- a composite frame may change its stage, and begin a part of its own -/
theorem bf_ok_t {t' : Nat} (o : bf_ok P ((q, i, t, w) :: fs)) (hk : 10 ≤ bf_K (P q) i) (ht : t' ≤ 2) : bf_ok P ((q, i, t', w) :: fs) :=
  ⟨⟨o.1.1, o.1.2.1, ht, fun z => absurd z (by show ¬ bf_K (P q) i < 10; omega)⟩, o.2.1, o.2.2.1, o.2.2.2⟩
theorem bf_ok_c {t' a : Nat} (o : bf_ok P ((q, i, t, w) :: fs)) (hk : 10 ≤ bf_K (P q) i) (ht : t' ≤ 2) (h0 : t' ≠ 0) (ha : a < i) : bf_ok P ((q, a, 0, w) :: (q, i, t', w) :: fs) := by
  refine ⟨⟨o.1.1, Nat.lt_trans ha o.1.2.1, Nat.zero_le _, fun _ z => absurd rfl z⟩, ?_, h0, bf_ok_t o hk ht⟩
  rw [bf_cc_ge hk]
  have := o.2.1
  show fs.length + 1 + a < _
  dsimp only at this
  omega
/-- what a turn does to the frames: the outcome is well formed, and the measure falls -/
theorem bf_mu_pop (o : bf_ok P ((q, i, t, w) :: fs)) (ht : t ≠ 0) : bf_mu n fs < bf_mu n ((q, i, t, w) :: fs) := by
  have e : bf_pot ((q, i, t, w) :: fs) = 20 + fs.length := if_neg ht
  have z : bf_pot fs < 20 + fs.length := by
    have nf := o.2.2.1
    cases fs with
    | nil => show 0 < _; omega
    | cons f fs =>
      have : bf_pot (f :: fs) = 20 + fs.length := if_neg nf
      rw [this]
      show 20 + fs.length < 20 + (fs.length + 1)
      omega
  unfold bf_mu
  omega
theorem bf_mu_child {t' a : Nat} (ha : a < i) (hi : i ≤ 16) : bf_mu n ((q, a, 0, w) :: (q, i, t', w) :: fs) < bf_mu n ((q, i, t, w) :: fs) := by
  have e1 : bf_pot ((q, a, 0, w) :: (q, i, t', w) :: fs) = a + 1 := rfl
  have e2 : i + 1 ≤ bf_pot ((q, i, t, w) :: fs) := by
    show i + 1 ≤ if t = 0 then i + 1 else 20 + fs.length
    split <;> omega
  unfold bf_mu
  omega
theorem bf_pot_le (o : bf_ok P fs) (hG : bf_G P) (hc : bf_cc P fs ≤ 6) : bf_pot fs ≤ 140 := by
  cases fs with
  | nil => exact Nat.zero_le _
  | cons f fs =>
    obtain ⟨q, i, t, w⟩ := f
    have h1 := o.2.1
    have h2 := o.1.2.1
    have h3 := (hG q o.1.1).1.1
    dsimp only at h1 h2
    have h4 : bf_cc P fs ≤ bf_cc P ((q, i, t, w) :: fs) := Nat.le_add_left _ _
    show (if t = 0 then i + 1 else 20 + fs.length) ≤ 140
    split <;> omega
theorem bf_mu_step {fs' : List bf_F} (hn : ¬ 300 ≤ n) (o : bf_ok P fs') (hG : bf_G P) (hc : bf_cc P fs' ≤ 6) : bf_mu (n + 1) fs' < bf_mu n fs := by
  have := bf_pot_le o hG hc
  unfold bf_mu
  omega
/-- one turn keeps the machine well formed; if it goes on the measure has fallen -/
theorem bf_stp_W (hG : bf_G P) (W : bf_W P g0 p0 (g, pl, h, (q, i, t, w) :: fs, c, n, 0)) :
    bf_W P g0 p0 (bf_stp P g pl h q i t w fs c n) ∧ ((bf_stp P g pl h q i t w fs c n).2.2.2.2.2.2 = 0 → bf_mu (bf_stp P g pl h q i t w fs c n).2.2.2.2.2.1 (bf_stp P g pl h q i t w fs c n).2.2.2.1 < bf_mu n ((q, i, t, w) :: fs)) := by
  obtain ⟨o, hc, h6, hn, hh, hg, hp, -⟩ := W
  dsimp only at o hc h6 hn hh hg hp
  have hL := hG q o.1.1
  have hi := o.1.2.1
  have ht := o.1.2.2.1
  have hcl := o.1.2.2.2
  dsimp only at hi ht hcl
  have ws := hL.1.2.2.1 i hi
  have h16 := hL.1.1
  have ofs : bf_ok P fs := o.2.2.2
  rcases Nat.lt_or_ge (bf_K (P q) i) 10 with hk | hk
  · by_cases h4 : bf_K (P q) i = 4 ∨ bf_K (P q) i = 5
    · by_cases t0 : t = 0
      · subst t0
        rw [bf_cc_0] at hc
        by_cases n3 : 300 ≤ n
        · rw [bs_callT h4 n3]; exact ⟨⟨o, by rw [bf_cc_0]; exact hc, h6, hn, hh, hg, hp, (by decide : (2 : Nat) ≤ 3)⟩, fun z => absurd z (by decide : ¬ (2 : Nat) = 0)⟩
        · by_cases c6 : 6 ≤ c
          · rw [bs_callD h4 n3 c6]; exact ⟨⟨o, by rw [bf_cc_0]; exact hc, h6, (by omega : n + 1 ≤ 300), hh, hg, hp, (by decide : (3 : Nat) ≤ 3)⟩, fun z => absurd z (by decide : ¬ (3 : Nat) = 0)⟩
          · rw [bs_call h4 n3 c6]
            obtain ⟨p, hp3, -, ep⟩ := bf_N3 ws h4
            rw [ep]
            have hLp := hG p hp3
            have hcc : bf_cc P ((q, i, 1, w) :: fs) = bf_cc P fs + 1 := bf_cc_1 hk (by decide)
            have o1 : bf_ok P ((q, i, 1, w) :: fs) := ⟨⟨o.1.1, o.1.2.1, (by decide : 1 ≤ 2), fun _ _ => ⟨h4, rfl⟩⟩, o.2.1, o.2.2.1, ofs⟩
            have o2 : bf_ok P ((p, bf_sz (P p) - 1, 0, w != decide (bf_K (P q) i = 5)) :: (q, i, 1, w) :: fs) := by
              refine ⟨⟨hp3, (by have := hLp.2; omega : bf_sz (P p) - 1 < bf_sz (P p)), Nat.zero_le _, fun _ z => absurd rfl z⟩, ?_, (by decide : 1 ≠ 0), o1⟩
              rw [hcc]
              have := o.2.1
              have := hLp.1.1
              show fs.length + 1 + (bf_sz (P p) - 1) < _
              dsimp only at *
              omega
            have hc2 : c + 1 = bf_cc P ((p, bf_sz (P p) - 1, 0, w != decide (bf_K (P q) i = 5)) :: (q, i, 1, w) :: fs) := by rw [bf_cc_0, hcc, hc]
            have hc3 : bf_cc P ((p, bf_sz (P p) - 1, 0, w != decide (bf_K (P q) i = 5)) :: (q, i, 1, w) :: fs) ≤ 6 := by omega
            exact ⟨⟨o2, hc2, (by omega : c + 1 ≤ 6), (by omega : n + 1 ≤ 300), hh, hg, hp, Nat.zero_le _⟩, fun _ => bf_mu_step n3 o2 hG hc3⟩
      · rw [bs_ret h4 t0]
        rw [bf_cc_1 hk t0] at hc
        exact ⟨⟨ofs, (by omega : c - 1 = bf_cc P fs), (by omega : c - 1 ≤ 6), hn, hh, hg, hp, Nat.zero_le _⟩, fun _ => bf_mu_pop o t0⟩
    · have t0 : t = 0 := by
        rcases Nat.eq_zero_or_pos t with z | z
        · exact z
        · exact absurd (hcl hk (by omega)).1 h4
      subst t0
      rw [bf_cc_0] at hc
      by_cases n3 : 300 ≤ n
      · rw [bs_leafT hk h4 n3]; exact ⟨⟨ofs, hc, h6, hn, hh, hg, hp, (by decide : (2 : Nat) ≤ 3)⟩, fun z => absurd z (by decide : ¬ (2 : Nat) = 0)⟩
      · rw [bs_leaf hk h4 n3]
        obtain ⟨e1, e2, e3, e4⟩ := bf_eff_k (w := w) (g := g) (pl := pl) ws hk h4 hh
        have hc3 : bf_cc P fs ≤ 6 := by omega
        exact ⟨⟨ofs, hc, h6, (by omega : n + 1 ≤ 300), e1, fun j hj => (e2 j hj).trans (hg j hj), fun j hj => (e3 j hj).trans (hp j hj), Nat.le_trans e4 (by decide)⟩, fun _ => bf_mu_step n3 ofs hG hc3⟩
  · have hcf : c = bf_cc P fs := by rw [hc, bf_cc_ge hk]
    have hab := ws.2.2.2.2.2.2 hk
    have pop : t ≠ 0 → bf_W P g0 p0 (g, pl, h, fs, c, n, 0) ∧ ((0 : Nat) = 0 → bf_mu n fs < bf_mu n ((q, i, t, w) :: fs)) := fun z => ⟨⟨ofs, hcf, h6, hn, hh, hg, hp, Nat.zero_le _⟩, fun _ => bf_mu_pop o z⟩
    have opA : bf_W P g0 p0 (g, pl, h, bf_opA (P q) q i w fs, c, n, 0) ∧ ((0 : Nat) = 0 → bf_mu n (bf_opA (P q) q i w fs) < bf_mu n ((q, i, t, w) :: fs)) :=
      ⟨⟨bf_ok_c o hk (by decide) (by decide) hab.1, by show c = bf_cc P ((q, bf_A (P q) i, 0, w) :: (q, i, 1, w) :: fs); rw [bf_cc_0, bf_cc_ge hk]; exact hcf, h6, hn, hh, hg, hp, Nat.zero_le _⟩, fun _ => bf_mu_child hab.1 (by omega)⟩
    have opB : bf_W P g0 p0 (g, pl, h, bf_opB (P q) q i w fs, c, n, 0) ∧ ((0 : Nat) = 0 → bf_mu n (bf_opB (P q) q i w fs) < bf_mu n ((q, i, t, w) :: fs)) :=
      ⟨⟨bf_ok_c o hk (by decide) (by decide) hab.2, by show c = bf_cc P ((q, bf_B (P q) i, 0, w) :: (q, i, 2, w) :: fs); rw [bf_cc_0, bf_cc_ge hk]; exact hcf, h6, hn, hh, hg, hp, Nat.zero_le _⟩, fun _ => bf_mu_child hab.2 (by omega)⟩
    have stay : bf_W P g0 p0 (g, pl, h, (q, i, t, w) :: fs, c, n, 1) ∧ ((1 : Nat) = 0 → bf_mu n ((q, i, t, w) :: fs) < bf_mu n ((q, i, t, w) :: fs)) := ⟨⟨o, hc, h6, hn, hh, hg, hp, (by decide : (1 : Nat) ≤ 3)⟩, fun z => absurd z (by decide)⟩
    have hk3 : bf_K (P q) i = 10 ∨ bf_K (P q) i = 11 ∨ bf_K (P q) i = 12 := by have := ws.1; omega
    rcases hk3 with k | k | k
    · have h3 : (t = if w then 1 else 2) ∨ (t = if w then 2 else 0) ∨ (t = if w then 0 else 1) := by
        cases w <;> simp <;> omega
      rcases h3 with z | z | z
      · rw [bs_seqC k z]; exact pop (by rw [z]; cases w <;> decide)
      · rw [bs_seqA k z]; exact opA
      · rw [bs_seqB k z]; exact opB
    · by_cases t0 : t = 0
      · subst t0
        rw [bs_if0 k]
        cases bf_tv (P q) g i w true
        · exact opB
        · exact opA
      · by_cases hv : bf_tv (P q) g i w false = decide (t = 1)
        · rw [bs_ifC k t0 hv]; exact pop t0
        · rw [bs_ifF k t0 hv]; exact stay
    · by_cases t1 : t = 1
      · subst t1
        rw [bs_lp1 k]
        cases bf_tv (P q) g i w false
        · exact opB
        · exact pop (by decide)
      · by_cases hv : bf_tv (P q) g i w true = decide (t = 0)
        · rw [bs_lpA k t1 hv]; exact opA
        · rw [bs_lpF k t1 hv]; exact stay
end
/-! runs: k turns from m to mf -/
def bf_to (P : Nat → bf_L) : Nat → bf_M → bf_M → Prop
  | 0, m, mf => m = mf ∧ (m.2.2.2.1 = [] ∨ m.2.2.2.2.2.2 ≠ 0)
  | k + 1, m, mf => ∃ g pl h q i t w fs c n, m = (g, pl, h, (q, i, t, w) :: fs, c, n, 0) ∧ bf_to P k (bf_stp P g pl h q i t w fs c n) mf
theorem bf_ends {P : Nat → bf_L} {g0 p0 : Nat → Int32} (hG : bf_G P) : ∀ (N : Nat) (m : bf_M), bf_W P g0 p0 m → bf_mu m.2.2.2.2.2.1 m.2.2.2.1 < N → ∃ k mf, k < N ∧ bf_to P k m mf ∧ bf_W P g0 p0 mf := by
  intro N
  induction N with
  | zero => intro m _ h; omega
  | succ N ih =>
    intro m W hm
    obtain ⟨g, pl, h, fs, c, n, z⟩ := m
    cases fs with
    | nil => exact ⟨0, _, by omega, ⟨rfl, Or.inl rfl⟩, W⟩
    | cons f fs =>
      obtain ⟨q, i, t, w⟩ := f
      by_cases hz : z = 0
      · subst hz
        obtain ⟨W', hmu⟩ := bf_stp_W hG W
        by_cases hz' : (bf_stp P g pl h q i t w fs c n).2.2.2.2.2.2 = 0
        · obtain ⟨k, mf, hk, ht, Wf⟩ := ih _ W' (by have := hmu hz'; dsimp only at hm; omega)
          exact ⟨k + 1, mf, by omega, ⟨g, pl, h, q, i, t, w, fs, c, n, rfl, ht⟩, Wf⟩
        · refine ⟨1, _, ?_, ⟨g, pl, h, q, i, t, w, fs, c, n, rfl, rfl, Or.inr hz'⟩, W'⟩
          have z : 0 < bf_pot ((q, i, t, w) :: fs) := by
            show 0 < if t = 0 then i + 1 else 20 + fs.length
            split <;> omega
          unfold bf_mu at hm
          dsimp only at hm
          omega
      · exact ⟨0, _, by omega, ⟨rfl, Or.inr hz⟩, W⟩
end
section
/-! The component's walks over the pure machine -/
def bx_b (w : Bool) : Int32 := if w then 1 else 0
theorem bx_nar (w : Bool) : vp_nar .boolean (bx_b w) = bx_b w := by cases w <;> decide
/-- the slot l lies in bank b of the component's tables -/
def bx_sl (b : Nat) (l : bf_L) (sK sA sB sX sY : Nat → Int32) : Prop :=
  ∀ i, i < bf_sz l → sK (16 * b + i) = nI (bf_K l i) ∧ (bf_K l i < 10 → sA (16 * b + i) = bf_R l i ∧ sB (16 * b + i) = bf_N l i) ∧
    (10 ≤ bf_K l i → sA (16 * b + i) = nI (16 * b + bf_A l i) ∧ sB (16 * b + i) = nI (16 * b + bf_B l i)) ∧
    (6 ≤ bf_K l i → bf_K l i ≠ 10 → sX (16 * b + i) = nI (24 * b + bf_X l i)) ∧ (11 ≤ bf_K l i → sY (16 * b + i) = nI (24 * b + bf_Y l i))
def bx_el (b : Nat) (l : bf_L) (eK eX eY : Nat → Int32) : Prop :=
  ∀ e, e < bf_ct l → eK (24 * b + e) = nI (bf_eK l e) ∧ (bf_eK l e = 7 → eX (24 * b + e) = bf_eL l e) ∧ (bf_eK l e = 8 → eX (24 * b + e) = nI (bf_eA l e)) ∧
    (bf_eK l e ≤ 6 → eX (24 * b + e) = nI (24 * b + bf_eA l e) ∧ eY (24 * b + e) = nI (24 * b + bf_eB l e))
/-- the frames -/
def bx_f (bk : Nat → Nat) (S T B : Nat → Int32) : List bf_F → Prop
  | [] => True
  | f :: fs => (S fs.length = nI (16 * bk f.1 + f.2.1) ∧ T fs.length = nI f.2.2.1 ∧ B fs.length = bx_b f.2.2.2) ∧ bx_f bk S T B fs
theorem bx_f_c {bk : Nat → Nat} {S T B S' T' B' : Nat → Int32} : ∀ {fs : List bf_F}, (∀ j, j < fs.length → S' j = S j ∧ T' j = T j ∧ B' j = B j) → bx_f bk S T B fs → bx_f bk S' T' B' fs
  | [], _, _ => trivial
  | f :: fs, h, x => by
    have hj := h fs.length (Nat.lt_succ_self _)
    refine ⟨⟨hj.1.trans x.1.1, hj.2.1.trans x.1.2.1, hj.2.2.trans x.1.2.2⟩, bx_f_c (fun j z => h j (Nat.lt_succ_of_lt z)) x.2⟩
section
variable {bk : Nat → Nat} {S T B : Nat → Int32} {q i t : Nat} {w : Bool} {fs : List bf_F}
theorem bx_f_t {t' : Nat} (x : bx_f bk S T B ((q, i, t, w) :: fs)) : bx_f bk S (upd T fs.length (nI t')) B ((q, i, t', w) :: fs) :=
  ⟨⟨x.1.1, pk_us, x.1.2.2⟩, bx_f_c (fun j z => ⟨rfl, pk_un (by omega), rfl⟩) x.2⟩
theorem bx_f_put {p a : Nat} {w' : Bool} (x : bx_f bk S T B fs) : bx_f bk (upd S fs.length (nI (16 * bk p + a))) (upd T fs.length 0) (upd B fs.length (bx_b w')) ((p, a, 0, w') :: fs) :=
  ⟨⟨pk_us, pk_us, pk_us⟩, bx_f_c (fun j z => ⟨pk_un (by omega), pk_un (by omega), pk_un (by omega)⟩) x⟩
end
section
variable {xph xkh xes xem xss xsm xdb xfo xco xst xen xlo : Int32} {xrg xpn xkr xkp xeK xeX xeY xeR xeV xeS xsK xsA xsB xsX xsY xsS xpB xpS xfS xfT xfB : Nat → Int32}
variable {post : SX → Prop} {bk : Nat → Nat} {P : Nat → bf_L}
theorem bx_open {k : Nat} {a b : Int32} (hk : k < 112) (hb : vp_nar .boolean b = b)
    (H : post (xph, xkh, xes, xem, xss, xsm, xdb, nI (k + 1), xco, xst, xen, xlo, xrg, xpn, xkr, xkp, xeK, xeX, xeY, xeR, xeV, xeS, xsK, xsA, xsB, xsX, xsY, xsS, xpB, xpS, upd xfS k a, upd xfT k 0, upd xfB k b)) : wpX_open post (xph, xkh, xes, xem, xss, xsm, xdb, nI k, xco, xst, xen, xlo, xrg, xpn, xkr, xkp, xeK, xeX, xeY, xeR, xeV, xeS, xsK, xsA, xsB, xsX, xsY, xsS, xpB, xpS, xfS, xfT, xfB) a b := by
  have hi : vp_in (nI k) 112 := vp_in_nI hk (by decide)
  have hc : (nI k).toNatClampNeg = k := nI_clamp (by omega)
  exact ⟨hi, nm_r (by rw [hc]) ⟨hi, nm_r (by rw [hc]) ⟨hi, nm_r (by rw [hc, hb]) (nm_r (nI_1 k) H)⟩⟩⟩
theorem bx_close {k : Nat} (H : post (xph, xkh, xes, xem, xss, xsm, xdb, nI k, xco, xst, xen, xlo, xrg, xpn, xkr, xkp, xeK, xeX, xeY, xeR, xeV, xeS, xsK, xsA, xsB, xsX, xsY, xsS, xpB, xpS, xfS, xfT, xfB)) : wpX_close post (xph, xkh, xes, xem, xss, xsm, xdb, nI (k + 1), xco, xst, xen, xlo, xrg, xpn, xkr, xkp, xeK, xeX, xeY, xeR, xeV, xeS, xsK, xsA, xsB, xsX, xsY, xsS, xpB, xpS, xfS, xfT, xfB) := nm_r (nI_pred k) H
theorem bx_openA {k s : Nat} {w : Bool} {a : Int32} (hk : k + 1 < 112) (hs : s < 64) (eS : xfS k = nI s) (eB : xfB k = bx_b w) (eA : xsA s = a)
    (H : post (xph, xkh, xes, xem, xss, xsm, xdb, nI (k + 2), xco, xst, xen, xlo, xrg, xpn, xkr, xkp, xeK, xeX, xeY, xeR, xeV, xeS, xsK, xsA, xsB, xsX, xsY, xsS, xpB, xpS, upd xfS (k + 1) a, upd (upd xfT k 1) (k + 1) 0, upd xfB (k + 1) (bx_b w))) : wpX_openA post (xph, xkh, xes, xem, xss, xsm, xdb, nI (k + 1), xco, xst, xen, xlo, xrg, xpn, xkr, xkp, xeK, xeX, xeY, xeR, xeV, xeS, xsK, xsA, xsB, xsX, xsY, xsS, xpB, xpS, xfS, xfT, xfB) (nI k) := by
  have hi : vp_in (nI k) 112 := vp_in_nI (by omega) (by decide)
  have hc : (nI k).toNatClampNeg = k := nI_clamp (by omega)
  have e1 : xfS (nI k).toNatClampNeg = nI s := by rw [hc]; exact eS
  have e2 : xsA (xfS (nI k).toNatClampNeg).toNatClampNeg = a := by rw [e1, nI_clamp (by omega)]; exact eA
  have e3 : xfB (nI k).toNatClampNeg = bx_b w := by rw [hc]; exact eB
  refine ⟨hi, nm_r (e' := upd xfT k 1) (by rw [hc]) ⟨hi, ?_, hi, ?_⟩⟩
  · rw [e1]; exact vp_in_nI hs (by decide)
  · rw [e2, e3]; exact bx_open hk (bx_nar w) H
theorem bx_openB {k s : Nat} {w : Bool} {a : Int32} (hk : k + 1 < 112) (hs : s < 64) (eS : xfS k = nI s) (eB : xfB k = bx_b w) (eA : xsB s = a)
    (H : post (xph, xkh, xes, xem, xss, xsm, xdb, nI (k + 2), xco, xst, xen, xlo, xrg, xpn, xkr, xkp, xeK, xeX, xeY, xeR, xeV, xeS, xsK, xsA, xsB, xsX, xsY, xsS, xpB, xpS, upd xfS (k + 1) a, upd (upd xfT k 2) (k + 1) 0, upd xfB (k + 1) (bx_b w))) : wpX_openB post (xph, xkh, xes, xem, xss, xsm, xdb, nI (k + 1), xco, xst, xen, xlo, xrg, xpn, xkr, xkp, xeK, xeX, xeY, xeR, xeV, xeS, xsK, xsA, xsB, xsX, xsY, xsS, xpB, xpS, xfS, xfT, xfB) (nI k) := by
  have hi : vp_in (nI k) 112 := vp_in_nI (by omega) (by decide)
  have hc : (nI k).toNatClampNeg = k := nI_clamp (by omega)
  have e1 : xfS (nI k).toNatClampNeg = nI s := by rw [hc]; exact eS
  have e2 : xsB (xfS (nI k).toNatClampNeg).toNatClampNeg = a := by rw [e1, nI_clamp (by omega)]; exact eA
  have e3 : xfB (nI k).toNatClampNeg = bx_b w := by rw [hc]; exact eB
  refine ⟨hi, nm_r (e' := upd xfT k 2) (by rw [hc]) ⟨hi, ?_, hi, ?_⟩⟩
  · rw [e1]; exact vp_in_nI hs (by decide)
  · rw [e2, e3]; exact bx_open hk (bx_nar w) H
end
/-! values -/
theorem bx_comb {post : Int32 → Prop} {x y : Int32} : ∀ k, k ≤ 6 → post (bf_op k x y) → wpX_combined post (nI k) x y
  | 0, _, h => br_f (by decide) (br_f (by decide) (br_t (by decide) h))
  | 1, _, h => br_f (by decide) (br_f (by decide) (br_f (by decide) (br_t (by decide) h)))
  | 2, _, h => br_f (by decide) (br_f (by decide) (br_f (by decide) (br_f (by decide) (br_t (by decide) h))))
  | 3, _, h => br_f (by decide) (br_f (by decide) (br_f (by decide) (br_f (by decide) (br_f (by decide) (br_t (by decide) h)))))
  | 4, _, h => br_f (by decide) (br_f (by decide) (br_f (by decide) (br_f (by decide) (br_f (by decide) (br_f (by decide) (br_t (by decide) h))))))
  | 5, _, h => br_f (by decide) (br_f (by decide) (br_f (by decide) (br_f (by decide) (br_f (by decide) (br_f (by decide) (br_f (by decide) (br_t (by decide)
      (br_c (fun z => (by rw [bf_op5, if_neg (Int32.not_lt.mpr z)] at h; exact h)) (fun z => (by rw [bf_op5, if_pos (Int32.not_le.mp z)] at h; exact h))))))))))
  | 6, _, h => br_f (by decide) (br_t (by decide)
      (br_c (fun z => (by rw [bf_op6, if_pos z] at h; exact h)) (fun z => (by rw [bf_op6, if_neg z] at h; exact h))))
  | k + 7, hk, _ => by omega
/-- the table of values grows by one -/
theorem bx_tab {l : bf_L} {g v : Nat → Int32} {B j : Nat} {x : Int32} (w : bf_wE l j) (hv : ∀ i, i < j → v (B + i) = bf_v l g i) (hx : x = bf_e1 l g (fun i => v (B + i)) j) :
    ∀ i, i < j + 1 → upd v (B + j) x (B + i) = bf_v l g i := by
  intro i hi
  by_cases e : i = j
  · subst e
    rw [pk_us, hx]
    exact bf_e1_v w hv
  · rw [pk_un (by omega)]
    exact hv i (by omega)
section
variable {xph xkh xes xem xss xsm xdb xfo xco xst xen xlo : Int32} {xrg xpn xkr xkp xeK xeX xeY xeR xeV xeS xsK xsA xsB xsX xsY xsS xpB xpS xfS xfT xfB : Nat → Int32}
variable {l : bf_L} {b e : Nat}
theorem bx_val_loop {post : Int32 → SX → Prop} (hl : bx_el b l xeK xeX xeY) (hw : bf_wL l) (he : e < bf_ct l) (hb : b < 4)
    (H : ∀ eV, post (bf_v l xrg e) (xph, xkh, xes, xem, xss, xsm, xdb, xfo, xco, xst, xen, xlo, xrg, xpn, xkr, xkp, xeK, xeX, xeY, xeR, eV, xeS, xsK, xsA, xsB, xsX, xsY, xsS, xpB, xpS, xfS, xfT, xfB)) : ∀ d j eV, j + d = e + 1 → (∀ i, i < j → eV (24 * b + i) = bf_v l xrg i) →
    wX_valueOf_9 post (nI (24 * b + e)) xph xkh xes xem xss xsm xdb xfo xco xst xen xlo (d + 1) (nI (24 * b + j)) xrg xpn xkr xkp xeK xeX xeY xeR eV xeS xsK xsA xsB xsX xsY xsS xpB xpS xfS xfT xfB := by
  have h24 := hw.2.1
  intro d
  induction d with
  | zero =>
    intro j eV hj hv
    have hlt : nI (24 * b + e) < nI (24 * b + j) := nI_lt (by omega) (by omega)
    have ev : eV (nI (24 * b + e)).toNatClampNeg = bf_v l xrg e := by rw [nI_clamp (by omega)]; exact hv e (by omega)
    exact br_t hlt ⟨vp_in_nI (by omega) (by decide), by rw [ev]; exact H eV⟩
  | succ d ih =>
    intro j eV hj hv
    have hje : j < bf_ct l := by omega
    have hlt : ¬ nI (24 * b + e) < nI (24 * b + j) := nI_nlt (by omega) (by omega)
    have hi : vp_in (nI (24 * b + j)) 96 := vp_in_nI (by omega) (by decide)
    have hc : (nI (24 * b + j)).toNatClampNeg = 24 * b + j := nI_clamp (by omega)
    obtain ⟨rk, r7, r8, r6⟩ := hl j hje
    have wE := hw.2.2.2 j hje
    have kk : xeK (nI (24 * b + j)).toNatClampNeg = nI (bf_eK l j) := by rw [hc]; exact rk
    by_cases k7 : bf_eK l j = 7
    · have c7 : xeK (nI (24 * b + j)).toNatClampNeg = 7 := by rw [kk, k7]; rfl
      refine br_f hlt ⟨hi, nm_r (e' := bf_eL l j) (by rw [hc]; exact r7 k7) ⟨hi, br_t c7 ⟨hi, nm_r (e' := upd eV (24 * b + j) (bf_eL l j)) (by rw [hc]) (nm_r (nI_1 _) ?_)⟩⟩⟩
      exact ih (j + 1) _ (by omega) (bx_tab wE hv (by unfold bf_e1; rw [if_pos k7]))
    have c7 : ¬ xeK (nI (24 * b + j)).toNatClampNeg = 7 := by
      rw [kk]; exact fun z => k7 ((nI_eq (by have := wE.1; omega) (by decide)).mp (z.trans (show (7 : Int32) = nI 7 from rfl)))
    by_cases k8 : bf_eK l j = 8
    · have c8 : xeK (nI (24 * b + j)).toNatClampNeg = 8 := by rw [kk, k8]; rfl
      have h6 := wE.2.1 k8
      have hr : xrg (nI (bf_eA l j)).toNatClampNeg = xrg (bf_eA l j) := by rw [nI_clamp (by omega)]
      refine br_f hlt ⟨hi, nm_r (e' := nI (bf_eA l j)) (by rw [hc]; exact r8 k8) ⟨hi, br_f c7 ⟨hi, br_t c8 ⟨vp_in_nI h6 (by decide), hi, nm_r (e' := upd eV (24 * b + j) (xrg (bf_eA l j))) (by rw [hc, hr]) (nm_r (nI_1 _) ?_)⟩⟩⟩⟩
      exact ih (j + 1) _ (by omega) (bx_tab wE hv (by unfold bf_e1; rw [if_neg k7, if_pos k8]))
    have c8 : ¬ xeK (nI (24 * b + j)).toNatClampNeg = 8 := by
      rw [kk]; exact fun z => k8 ((nI_eq (by have := wE.1; omega) (by decide)).mp (z.trans (show (8 : Int32) = nI 8 from rfl)))
    have k6 : bf_eK l j ≤ 6 := by have := wE.1; omega
    have hab := wE.2.2 k6
    have ha : (nI (24 * b + bf_eA l j)).toNatClampNeg = 24 * b + bf_eA l j := nI_clamp (by omega)
    have hbb : (nI (24 * b + bf_eB l j)).toNatClampNeg = 24 * b + bf_eB l j := nI_clamp (by omega)
    refine br_f hlt ⟨hi, nm_r (e' := nI (24 * b + bf_eA l j)) (by rw [hc]; exact (r6 k6).1) ⟨hi, br_f c7 ⟨hi, br_f c8 ⟨hi, nm_r (e' := nI (24 * b + bf_eB l j)) (by rw [hc]; exact (r6 k6).2)
      ⟨hi, vp_in_nI (by omega) (by decide), vp_in_nI (by omega) (by decide), ?_⟩⟩⟩⟩⟩
    rw [kk, ha, hbb]
    refine bx_comb _ k6 ⟨hi, nm_r (e' := upd eV (24 * b + j) (bf_op (bf_eK l j) (eV (24 * b + bf_eA l j)) (eV (24 * b + bf_eB l j)))) (by rw [hc]) (nm_r (nI_1 _) ?_)⟩
    exact ih (j + 1) _ (by omega) (bx_tab wE hv (by unfold bf_e1; rw [if_neg k7, if_neg k8]))
theorem bx_val {post : Int32 → SX → Prop} {z : Int32} (hz : z = nI (24 * b + e)) (hl : bx_el b l xeK xeX xeY) (hw : bf_wL l) (he : e < bf_ct l) (hb : b < 4)
    (H : ∀ eV, post (bf_v l xrg e) (xph, xkh, xes, xem, xss, xsm, xdb, xfo, xco, xst, xen, xlo, xrg, xpn, xkr, xkp, xeK, xeX, xeY, xeR, eV, xeS, xsK, xsA, xsB, xsX, xsY, xsS, xpB, xpS, xfS, xfT, xfB)) : wpX_valueOf post (xph, xkh, xes, xem, xss, xsm, xdb, xfo, xco, xst, xen, xlo, xrg, xpn, xkr, xkp, xeK, xeX, xeY, xeR, xeV, xeS, xsK, xsA, xsB, xsX, xsY, xsS, xpB, xpS, xfS, xfT, xfB) z := by
  subst hz
  have h24 := hw.2.1
  have e1 : nI (24 * b + e) - (nI (24 * b + e) - nI (24 * b + e) / 24 * 24) = nI (24 * b + 0) := by
    have h := pk_rem (a := 24 * b + e) (d := 24) (by omega) (by decide) (by decide)
    show nI (24 * b + e) - (nI (24 * b + e) - nI (24 * b + e) / nI 24 * nI 24) = nI (24 * b + 0)
    rw [h, pk_sub (by omega)]
    exact congrArg nI (by omega)
  exact ⟨by decide, nm_r e1 ⟨e + 2, bx_val_loop hl hw he hb H (e + 1) 0 xeV (by omega) (fun i z => absurd z (Nat.not_lt_zero i))⟩⟩
/-- the entry and the exit test -/
theorem bx_entry {post : Int32 → SX → Prop} {k i : Nat} {w : Bool} (hk : k < 112) (hb : b < 4) (hw : bf_wL l) (hi : i < bf_sz l) (hK : 11 ≤ bf_K l i)
    (hs : bx_sl b l xsK xsA xsB xsX xsY) (hl : bx_el b l xeK xeX xeY) (eS : xfS k = nI (16 * b + i)) (eB : xfB k = bx_b w)
    (H0 : bf_tv l xrg i w true = false → ∀ eV, post 0 (xph, xkh, xes, xem, xss, xsm, xdb, xfo, xco, xst, xen, xlo, xrg, xpn, xkr, xkp, xeK, xeX, xeY, xeR, eV, xeS, xsK, xsA, xsB, xsX, xsY, xsS, xpB, xpS, xfS, xfT, xfB)) (H1 : bf_tv l xrg i w true = true → ∀ eV, post 1 (xph, xkh, xes, xem, xss, xsm, xdb, xfo, xco, xst, xen, xlo, xrg, xpn, xkr, xkp, xeK, xeX, xeY, xeR, eV, xeS, xsK, xsA, xsB, xsX, xsY, xsS, xpB, xpS, xfS, xfT, xfB)) : wpX_isEntryTrue post (xph, xkh, xes, xem, xss, xsm, xdb, xfo, xco, xst, xen, xlo, xrg, xpn, xkr, xkp, xeK, xeX, xeY, xeR, xeV, xeS, xsK, xsA, xsB, xsX, xsY, xsS, xpB, xpS, xfS, xfT, xfB) (nI k) := by
  have h16 := hw.1
  have hin : vp_in (nI k) 112 := vp_in_nI hk (by decide)
  have hc : (nI k).toNatClampNeg = k := nI_clamp (by omega)
  have h2 : vp_in (nI (16 * b + i)) 64 := vp_in_nI (by omega) (by decide)
  have hc2 : (nI (16 * b + i)).toNatClampNeg = 16 * b + i := nI_clamp (by omega)
  obtain ⟨-, -, -, rX, rY⟩ := hs i hi
  have ws := hw.2.2.1 i hi
  have hx := ws.2.2.2.2.1 (by omega) (by omega)
  have hy := ws.2.2.2.2.2.1 hK
  refine ⟨hin, nm_r (e' := nI (16 * b + i)) (by rw [hc]; exact eS) ⟨hin, ?_⟩⟩
  rw [show xfB (nI k).toNatClampNeg = bx_b w by rw [hc]; exact eB]
  cases w with
  | false =>
    refine br_t rfl ⟨h2, bx_val (e := bf_X l i) (by rw [hc2]; exact rX (by omega) (by omega)) hl hw hx hb (fun eV => ?_)⟩
    exact br_c (fun z => H0 (decide_eq_false (fun y => y z)) eV) (fun z => H1 (decide_eq_true z) eV)
  | true =>
    refine br_f (by decide) ⟨h2, bx_val (e := bf_Y l i) (by rw [hc2]; exact rY hK) hl hw hy hb (fun eV => ?_)⟩
    exact br_c (fun z => H0 (decide_eq_false (fun y => y z)) eV) (fun z => H1 (decide_eq_true z) eV)
theorem bx_exit {post : Int32 → SX → Prop} {k i : Nat} {w : Bool} (hk : k < 112) (hb : b < 4) (hw : bf_wL l) (hi : i < bf_sz l) (hK : 11 ≤ bf_K l i)
    (hs : bx_sl b l xsK xsA xsB xsX xsY) (hl : bx_el b l xeK xeX xeY) (eS : xfS k = nI (16 * b + i)) (eB : xfB k = bx_b w)
    (H0 : bf_tv l xrg i w false = false → ∀ eV, post 0 (xph, xkh, xes, xem, xss, xsm, xdb, xfo, xco, xst, xen, xlo, xrg, xpn, xkr, xkp, xeK, xeX, xeY, xeR, eV, xeS, xsK, xsA, xsB, xsX, xsY, xsS, xpB, xpS, xfS, xfT, xfB)) (H1 : bf_tv l xrg i w false = true → ∀ eV, post 1 (xph, xkh, xes, xem, xss, xsm, xdb, xfo, xco, xst, xen, xlo, xrg, xpn, xkr, xkp, xeK, xeX, xeY, xeR, eV, xeS, xsK, xsA, xsB, xsX, xsY, xsS, xpB, xpS, xfS, xfT, xfB)) : wpX_isExitTrue post (xph, xkh, xes, xem, xss, xsm, xdb, xfo, xco, xst, xen, xlo, xrg, xpn, xkr, xkp, xeK, xeX, xeY, xeR, xeV, xeS, xsK, xsA, xsB, xsX, xsY, xsS, xpB, xpS, xfS, xfT, xfB) (nI k) := by
  have h16 := hw.1
  have hin : vp_in (nI k) 112 := vp_in_nI hk (by decide)
  have hc : (nI k).toNatClampNeg = k := nI_clamp (by omega)
  have h2 : vp_in (nI (16 * b + i)) 64 := vp_in_nI (by omega) (by decide)
  have hc2 : (nI (16 * b + i)).toNatClampNeg = 16 * b + i := nI_clamp (by omega)
  obtain ⟨-, -, -, rX, rY⟩ := hs i hi
  have ws := hw.2.2.1 i hi
  have hx := ws.2.2.2.2.1 (by omega) (by omega)
  have hy := ws.2.2.2.2.2.1 hK
  refine ⟨hin, nm_r (e' := nI (16 * b + i)) (by rw [hc]; exact eS) ⟨hin, ?_⟩⟩
  rw [show xfB (nI k).toNatClampNeg = bx_b w by rw [hc]; exact eB]
  cases w with
  | false =>
    refine br_t rfl ⟨h2, bx_val (e := bf_Y l i) (by rw [hc2]; exact rY hK) hl hw hy hb (fun eV => ?_)⟩
    exact br_c (fun z => H0 (decide_eq_false (fun y => y z)) eV) (fun z => H1 (decide_eq_true z) eV)
  | true =>
    refine br_f (by decide) ⟨h2, bx_val (e := bf_X l i) (by rw [hc2]; exact rX (by omega) (by omega)) hl hw hx hb (fun eV => ?_)⟩
    exact br_c (fun z => H0 (decide_eq_false (fun y => y z)) eV) (fun z => H1 (decide_eq_true z) eV)
end
end
section
/-! One turn of the component is one turn of the machine -/
/-- the three procedures lie in the tables -/
def bx_P (bk : Nat → Nat) (P : Nat → bf_L) (eK eX eY sK sA sB sX sY pS : Nat → Int32) : Prop :=
  ∀ q, q < 3 → bk q < 4 ∧ bf_wL (P q) ∧ 0 < bf_sz (P q) ∧ bx_sl (bk q) (P q) sK sA sB sX sY ∧ bx_el (bk q) (P q) eK eX eY ∧ pS q = nI (16 * bk q + (bf_sz (P q) - 1))
theorem bx_PG {bk : Nat → Nat} {P : Nat → bf_L} {eK eX eY sK sA sB sX sY pS : Nat → Int32} (hP : bx_P bk P eK eX eY sK sA sB sX sY pS) : bf_G P := fun q hq => ⟨(hP q hq).2.1, (hP q hq).2.2.1⟩
section
variable {xph xkh xes xem xss xsm xdb xfo xco xst xen xlo : Int32} {xrg xpn xkr xkp xeK xeX xeY xeR xeV xeS xsK xsA xsB xsX xsY xsS xpB xpS xfS xfT xfB : Nat → Int32}
variable {post : SX → Prop} {bk : Nat → Nat} {P : Nat → bf_L} {g pl g0 p0 : Nat → Int32} {h q i t c n : Nat} {w : Bool} {fs : List bf_F}
/-- how deep the stack is -/
theorem bx_deep (hG : bf_G P) (o : bf_ok P ((q, i, t, w) :: fs)) (h6 : bf_cc P ((q, i, t, w) :: fs) ≤ 6) : fs.length < 112 ∧ (10 ≤ bf_K (P q) i → fs.length + 1 < 112) := by
  have h1 := o.2.1
  have h2 : bf_cc P fs ≤ bf_cc P ((q, i, t, w) :: fs) := Nat.le_add_left _ _
  dsimp only at h1
  refine ⟨by omega, fun hk => ?_⟩
  have ws := (hG q o.1.1).1.2.2.1 i o.1.2.1
  have := ws.2.2.2.2.2.2 hk
  omega
theorem bx_seq {k s : Nat} {a b : Int32} (ht : t ≤ 2) (hk : k + 1 < 112) (hs : s < 64) (eS : xfS k = nI s) (eT : xfT k = nI t) (eB : xfB k = bx_b w) (eA : xsA s = a) (eB2 : xsB s = b)
    (HC : (t = if w then 1 else 2) → post (xph, xkh, xes, xem, xss, xsm, xdb, nI k, xco, xst, xen, xlo, xrg, xpn, xkr, xkp, xeK, xeX, xeY, xeR, xeV, xeS, xsK, xsA, xsB, xsX, xsY, xsS, xpB, xpS, xfS, xfT, xfB))
    (HA : (t = if w then 2 else 0) → post (xph, xkh, xes, xem, xss, xsm, xdb, nI (k + 2), xco, xst, xen, xlo, xrg, xpn, xkr, xkp, xeK, xeX, xeY, xeR, xeV, xeS, xsK, xsA, xsB, xsX, xsY, xsS, xpB, xpS, upd xfS (k + 1) a, upd (upd xfT k 1) (k + 1) 0, upd xfB (k + 1) (bx_b w)))
    (HB : (t = if w then 0 else 1) → post (xph, xkh, xes, xem, xss, xsm, xdb, nI (k + 2), xco, xst, xen, xlo, xrg, xpn, xkr, xkp, xeK, xeX, xeY, xeR, xeV, xeS, xsK, xsA, xsB, xsX, xsY, xsS, xpB, xpS, upd xfS (k + 1) b, upd (upd xfT k 2) (k + 1) 0, upd xfB (k + 1) (bx_b w))) :
    wpX_advanceSeq post (xph, xkh, xes, xem, xss, xsm, xdb, nI (k + 1), xco, xst, xen, xlo, xrg, xpn, xkr, xkp, xeK, xeX, xeY, xeR, xeV, xeS, xsK, xsA, xsB, xsX, xsY, xsS, xpB, xpS, xfS, xfT, xfB) (nI k) := by
  have hin : vp_in (nI k) 112 := vp_in_nI (by omega) (by decide)
  have hc : (nI k).toNatClampNeg = k := nI_clamp (by omega)
  have e1 : xfT (nI k).toNatClampNeg = nI t := by rw [hc]; exact eT
  have e2 : xfB (nI k).toNatClampNeg = bx_b w := by rw [hc]; exact eB
  refine ⟨hin, nm_r e1 ⟨hin, nm_r e2 ?_⟩⟩
  have h3 : t = 0 ∨ t = 1 ∨ t = 2 := by omega
  cases w with
  | false =>
    refine br_t rfl ?_
    rcases h3 with rfl | rfl | rfl
    · exact br_f (by decide) (br_t rfl (br_t rfl (bx_openA hk hs eS eB eA (HA rfl))))
    · exact br_f (by decide) (br_t rfl (br_f (by decide) (bx_openB hk hs eS eB eB2 (HB rfl))))
    · exact br_t rfl (bx_close (HC rfl))
  | true =>
    refine br_f (by decide) ?_
    rcases h3 with rfl | rfl | rfl
    · exact br_f (by decide) (br_f (by decide) (br_f (by decide) (bx_openB hk hs eS eB eB2 (HB rfl))))
    · exact br_t rfl (bx_close (HC rfl))
    · exact br_f (by decide) (br_f (by decide) (br_t rfl (bx_openA hk hs eS eB eA (HA rfl))))
theorem bx_step (hn : n ≤ 300) {post : Int32 → SX → Prop} (HT : 300 ≤ n → post 0 (xph, xkh, xes, xem, xss, xsm, xdb, xfo, xco, nI n, 2, xlo, xrg, xpn, xkr, xkp, xeK, xeX, xeY, xeR, xeV, xeS, xsK, xsA, xsB, xsX, xsY, xsS, xpB, xpS, xfS, xfT, xfB)) (H : ¬ 300 ≤ n → post 1 (xph, xkh, xes, xem, xss, xsm, xdb, xfo, xco, nI (n + 1), xen, xlo, xrg, xpn, xkr, xkp, xeK, xeX, xeY, xeR, xeV, xeS, xsK, xsA, xsB, xsX, xsY, xsS, xpB, xpS, xfS, xfT, xfB)) : wpX_makeStep post (xph, xkh, xes, xem, xss, xsm, xdb, xfo, xco, nI n, xen, xlo, xrg, xpn, xkr, xkp, xeK, xeX, xeY, xeR, xeV, xeS, xsK, xsA, xsB, xsX, xsY, xsS, xpB, xpS, xfS, xfT, xfB) :=
  pk_lt n 300 (fun z => nm_r (nI_1 n) (H (by omega))) (fun z => HT z)
/-! effects -/
theorem bx_put {r : Nat} (hr : r < 6) (hh : h ≤ 12) (HF : 12 ≤ h → post (nI h, xkh, xes, xem, xss, xsm, xdb, xfo, xco, xst, 1, xlo, xrg, xpn, xkr, xkp, xeK, xeX, xeY, xeR, xeV, xeS, xsK, xsA, xsB, xsX, xsY, xsS, xpB, xpS, xfS, xfT, xfB)) (H : ¬ 12 ≤ h → post (nI (h + 1), xkh, xes, xem, xss, xsm, xdb, xfo, xco, xst, xen, xlo, upd xrg r 0, upd xpn h (xrg r), xkr, xkp, xeK, xeX, xeY, xeR, xeV, xeS, xsK, xsA, xsB, xsX, xsY, xsS, xpB, xpS, xfS, xfT, xfB)) :
    wpX_putOnPile post (nI h, xkh, xes, xem, xss, xsm, xdb, xfo, xco, xst, xen, xlo, xrg, xpn, xkr, xkp, xeK, xeX, xeY, xeR, xeV, xeS, xsK, xsA, xsB, xsX, xsY, xsS, xpB, xpS, xfS, xfT, xfB) (nI r) := by
  have hin : vp_in (nI r) 6 := vp_in_nI hr (by decide)
  have hc : (nI r).toNatClampNeg = r := nI_clamp (by omega)
  refine pk_lt h 12 (fun z => ?_) (fun z => HF z)
  have hc2 : (nI h).toNatClampNeg = h := nI_clamp (by omega)
  exact ⟨hin, vp_in_nI z (by decide), nm_r (e' := upd xpn h (xrg r)) (by rw [hc, hc2]) (nm_r (nI_1 h) ⟨hin, nm_r (e' := upd xrg r 0) (by rw [hc]) (H (by omega))⟩)⟩
theorem bx_take {r : Nat} (hr : r < 6) (hh : h ≤ 12) (HF : h = 0 ∨ xrg r ≠ 0 → post (nI h, xkh, xes, xem, xss, xsm, xdb, xfo, xco, xst, 1, xlo, xrg, xpn, xkr, xkp, xeK, xeX, xeY, xeR, xeV, xeS, xsK, xsA, xsB, xsX, xsY, xsS, xpB, xpS, xfS, xfT, xfB)) (H : ¬ (h = 0 ∨ xrg r ≠ 0) → post (nI (h - 1), xkh, xes, xem, xss, xsm, xdb, xfo, xco, xst, xen, xlo, upd xrg r (xpn (h - 1)), xpn, xkr, xkp, xeK, xeX, xeY, xeR, xeV, xeS, xsK, xsA, xsB, xsX, xsY, xsS, xpB, xpS, xfS, xfT, xfB)) :
    wpX_takeFromPile post (nI h, xkh, xes, xem, xss, xsm, xdb, xfo, xco, xst, xen, xlo, xrg, xpn, xkr, xkp, xeK, xeX, xeY, xeR, xeV, xeS, xsK, xsA, xsB, xsX, xsY, xsS, xpB, xpS, xfS, xfT, xfB) (nI r) := by
  have hin : vp_in (nI r) 6 := vp_in_nI hr (by decide)
  have hc : (nI r).toNatClampNeg = r := nI_clamp (by omega)
  refine pk_le h 0 (fun z => HF (Or.inl (by omega))) (fun z => ⟨hin, ?_⟩)
  rw [hc]
  refine br_c (fun z0 => ?_) (fun z0 => HF (Or.inr z0))
  obtain ⟨h', rfl⟩ : ∃ h', h = h' + 1 := ⟨h - 1, by omega⟩
  have hc2 : (nI h').toNatClampNeg = h' := nI_clamp (by omega)
  exact nm_r (nI_pred h') ⟨vp_in_nI (by omega) (by decide), hin, nm_r (e' := upd xrg r (xpn h')) (by rw [hc2]) (H (fun z1 => z1.elim (fun a => absurd a (Nat.succ_ne_zero _)) (fun b => b z0)))⟩
/-- the effect of a simple statement, all kinds but call and back; s its place -/
theorem bx_change {s b : Nat} {l : bf_L} (hs : s = 16 * b + i) (hb : b < 4) (hw : bf_wL l) (hi : i < bf_sz l) (hk : bf_K l i < 10) (h4 : ¬ (bf_K l i = 4 ∨ bf_K l i = 5)) (hh : h ≤ 12)
    (hsl : bx_sl b l xsK xsA xsB xsX xsY) (hel : bx_el b l xeK xeX xeY)
    (H : ∀ eV, post (nI (bf_eff l i w xrg xpn h).2.2.1, xkh, xes, xem, xss, xsm, xdb, xfo, xco, xst, nI (bf_eff l i w xrg xpn h).2.2.2, xlo, (bf_eff l i w xrg xpn h).1, (bf_eff l i w xrg xpn h).2.1, xkr, xkp, xeK, xeX, xeY, xeR, eV, xeS, xsK, xsA, xsB, xsX, xsY, xsS, xpB, xpS, xfS, xfT, xfB)) :
    wpX_change post (nI h, xkh, xes, xem, xss, xsm, xdb, xfo, xco, xst, 0, xlo, xrg, xpn, xkr, xkp, xeK, xeX, xeY, xeR, xeV, xeS, xsK, xsA, xsB, xsX, xsY, xsS, xpB, xpS, xfS, xfT, xfB) (nI s) (bx_b w) := by
  subst hs
  have h16 := hw.1
  have ws := hw.2.2.1 i hi
  have hin : vp_in (nI (16 * b + i)) 64 := vp_in_nI (by omega) (by decide)
  have hc : (nI (16 * b + i)).toNatClampNeg = 16 * b + i := nI_clamp (by omega)
  obtain ⟨rK, r10, -, rX, -⟩ := hsl i hi
  obtain ⟨rA, rB⟩ := r10 hk
  have eK : ∀ k : Nat, bf_K l i = k → xsK (nI (16 * b + i)).toNatClampNeg = nI k := fun k z => by rw [hc, rK, z]
  have eA : xsA (nI (16 * b + i)).toNatClampNeg = bf_R l i := by rw [hc]; exact rA
  have eB : xsB (nI (16 * b + i)).toNatClampNeg = bf_N l i := by rw [hc]; exact rB
  have hcs : bf_K l i = 0 ∨ bf_K l i = 1 ∨ bf_K l i = 2 ∨ bf_K l i = 3 ∨ bf_K l i = 6 ∨ bf_K l i = 7 ∨ bf_K l i = 8 ∨ bf_K l i = 9 := by omega
  have val : 6 ≤ bf_K l i → ∀ {ps : Int32 → SX → Prop}, (∀ eV, ps (bf_v l xrg (bf_X l i)) (nI h, xkh, xes, xem, xss, xsm, xdb, xfo, xco, xst, 0, xlo, xrg, xpn, xkr, xkp, xeK, xeX, xeY, xeR, eV, xeS, xsK, xsA, xsB, xsX, xsY, xsS, xpB, xpS, xfS, xfT, xfB)) → wpX_valueOf ps (nI h, xkh, xes, xem, xss, xsm, xdb, xfo, xco, xst, 0, xlo, xrg, xpn, xkr, xkp, xeK, xeX, xeY, xeR, xeV, xeS, xsK, xsA, xsB, xsX, xsY, xsS, xpB, xpS, xfS, xfT, xfB) (xsX (nI (16 * b + i)).toNatClampNeg) :=
    fun z ps hp => bx_val (by rw [hc]; exact rX z (by omega)) hel hw (ws.2.2.2.2.1 z (by omega)) hb hp
  rcases hcs with k | k | k | k | k | k | k | k
  · rw [be_0 k] at H
    exact ⟨hin, nm_r (eK 0 k) ⟨hin, nm_r eA (br_f (by decide) (br_f (by decide) (br_f (by decide) (br_t rfl (H _)))))⟩⟩
  · obtain ⟨r, hr, er, cr⟩ := bf_R6 ws (Or.inl k)
    obtain ⟨r2, hr2, er2, cr2⟩ := bf_N6 ws k
    rw [be_1 k, cr, cr2] at H
    have i1 : vp_in (bf_R l i) 6 := by rw [er]; exact vp_in_nI hr (by decide)
    have i2 : vp_in (bf_N l i) 6 := by rw [er2]; exact vp_in_nI hr2 (by decide)
    refine ⟨hin, nm_r (eK 1 k) ⟨hin, nm_r eA (br_t rfl ⟨hin, ?_⟩)⟩⟩
    rw [eB]
    exact ⟨i1, nm_r (e' := xrg r) (by rw [cr]) ⟨i2, i1, nm_r (e' := upd xrg r (xrg r2)) (by rw [cr, cr2]) ⟨i2, nm_r (e' := upd (upd xrg r (xrg r2)) r2 (xrg r)) (by rw [cr2]) (H _)⟩⟩⟩
  · obtain ⟨r, hr, er, cr⟩ := bf_R6 ws (by omega)
    rw [be_2 k, cr] at H
    refine ⟨hin, nm_r (eK 2 k) ⟨hin, nm_r (eA.trans er) (br_f (by decide) (br_t rfl (br_t rfl ?_)))⟩⟩
    cases w with
    | false => exact br_f (by decide) (bx_put hr hh (fun z => by have H := H xeV; unfold bf_push at H; rw [if_neg (by decide), if_pos z] at H; exact H) (fun z => by have H := H xeV; unfold bf_push at H; rw [if_neg (by decide), if_neg z] at H; exact H))
    | true => exact br_t rfl (bx_take hr hh (fun z => by have H := H xeV; unfold bf_pop at H; rw [if_pos rfl, if_pos z] at H; exact H) (fun z => by have H := H xeV; unfold bf_pop at H; rw [if_pos rfl, if_neg z] at H; exact H))
  · obtain ⟨r, hr, er, cr⟩ := bf_R6 ws (by omega)
    rw [be_3 k, cr] at H
    refine ⟨hin, nm_r (eK 3 k) ⟨hin, nm_r (eA.trans er) (br_f (by decide) (br_f (by decide) (br_t rfl (br_f (by decide) ?_))))⟩⟩
    cases w with
    | false => exact br_t rfl (bx_take hr hh (fun z => by have H := H xeV; unfold bf_pop at H; rw [if_neg (by decide), if_pos z] at H; exact H) (fun z => by have H := H xeV; unfold bf_pop at H; rw [if_neg (by decide), if_neg z] at H; exact H))
    | true => exact br_f (by decide) (bx_put hr hh (fun z => by have H := H xeV; unfold bf_push at H; rw [if_pos rfl, if_pos z] at H; exact H) (fun z => by have H := H xeV; unfold bf_push at H; rw [if_pos rfl, if_neg z] at H; exact H))
  · obtain ⟨r, hr, er, cr⟩ := bf_R6 ws (by omega)
    rw [be_6 k, cr] at H
    have i1 : vp_in (nI r) 6 := vp_in_nI hr (by decide)
    have hr2 : (nI r).toNatClampNeg = r := nI_clamp (by omega)
    refine ⟨hin, nm_r (eK 6 k) ⟨hin, nm_r (eA.trans er) (br_f (by decide) (br_f (by decide) (br_f (by decide) (br_f (by decide) ⟨hin, val (by omega) (fun eV => br_f (by decide) (br_f (by decide) (br_f (by decide) ?_)))⟩))))⟩⟩
    cases w with
    | false => exact br_t rfl ⟨i1, i1, nm_r (e' := upd xrg r (xrg r + bf_v l xrg (bf_X l i))) (by rw [hr2]) (H eV)⟩
    | true => exact br_f (by decide) ⟨i1, i1, nm_r (e' := upd xrg r (xrg r - bf_v l xrg (bf_X l i))) (by rw [hr2]) (H eV)⟩
  · obtain ⟨r, hr, er, cr⟩ := bf_R6 ws (by omega)
    rw [be_7 k, cr] at H
    have i1 : vp_in (nI r) 6 := vp_in_nI hr (by decide)
    have hr2 : (nI r).toNatClampNeg = r := nI_clamp (by omega)
    refine ⟨hin, nm_r (eK 7 k) ⟨hin, nm_r (eA.trans er) (br_f (by decide) (br_f (by decide) (br_f (by decide) (br_f (by decide) ⟨hin, val (by omega) (fun eV => br_f (by decide) (br_f (by decide) (br_t rfl ?_)))⟩))))⟩⟩
    cases w with
    | false => exact br_f (by decide) ⟨i1, i1, nm_r (e' := upd xrg r (xrg r - bf_v l xrg (bf_X l i))) (by rw [hr2]) (H eV)⟩
    | true => exact br_t rfl ⟨i1, i1, nm_r (e' := upd xrg r (xrg r + bf_v l xrg (bf_X l i))) (by rw [hr2]) (H eV)⟩
  · obtain ⟨r, hr, er, cr⟩ := bf_R6 ws (by omega)
    rw [be_8 k, cr] at H
    have i1 : vp_in (nI r) 6 := vp_in_nI hr (by decide)
    have hr2 : (nI r).toNatClampNeg = r := nI_clamp (by omega)
    exact ⟨hin, nm_r (eK 8 k) ⟨hin, nm_r (eA.trans er) (br_f (by decide) (br_f (by decide) (br_f (by decide) (br_f (by decide) ⟨hin, val (by omega) (fun eV => br_f (by decide) (br_t rfl ⟨i1, i1, nm_r (e' := upd xrg r (xrg r ^^^ bf_v l xrg (bf_X l i))) (by rw [hr2]) (H eV)⟩))⟩))))⟩⟩
  · rw [be_9 k] at H
    refine ⟨hin, nm_r (eK 9 k) ⟨hin, nm_r eA (br_f (by decide) (br_f (by decide) (br_f (by decide) (br_f (by decide) ⟨hin, val (by omega) (fun eV => br_t rfl (br_c (fun z => ?_) (fun z => ?_)))⟩))))⟩⟩
    · have H := H eV; rw [if_pos z] at H; exact H
    · have H := H eV; rw [if_neg z] at H; exact H
end
end
section
/-! The component's run is a run of the machine -/
theorem bx_ne {a b : Nat} (h : a ≠ b) (ha : a < 2 ^ 31 := by omega) (hb : b < 2 ^ 31 := by omega) : ¬ nI a = nI b := fun z => h ((nI_eq ha hb).mp z)
section
variable {xph xkh xes xem xss xsm xdb xfo xco xst xen xlo : Int32} {xrg xpn xkr xkp xeK xeX xeY xeR xeV xeS xsK xsA xsB xsX xsY xsS xpB xpS xfS xfT xfB : Nat → Int32}
variable {post : SX → Prop} {bk : Nat → Nat} {P : Nat → bf_L} {g pl g0 p0 : Nat → Int32} {h q i t c n : Nat} {w : Bool} {fs : List bf_F}
/-- a call begins -/
theorem bx_called {k s p a : Nat} {z : Bool} (hk : k + 1 < 112) (hs : s < 64) (hp : p < 3) (eB : xfB k = bx_b w) (eN : xsB s = nI p) (eP : xpS p = nI a)
    (H : post (xph, xkh, xes, xem, xss, xsm, xdb, nI (k + 2), nI (c + 1), xst, xen, xlo, xrg, xpn, xkr, xkp, xeK, xeX, xeY, xeR, xeV, xeS, xsK, xsA, xsB, xsX, xsY, xsS, xpB, xpS, upd xfS (k + 1) (nI a), upd (upd xfT k 1) (k + 1) 0, upd xfB (k + 1) (bx_b (w != z)))) :
    wX_openCalled_22 post (nI k) (nI s) (bx_b z) xph xkh xes xem xss xsm xdb (nI (k + 1)) (nI c) xst xen xlo xrg xpn xkr xkp xeK xeX xeY xeR xeV xeS xsK xsA xsB xsX xsY xsS xpB xpS xfS xfT xfB := by
  have hin : vp_in (nI k) 112 := vp_in_nI (by omega) (by decide)
  have hc : (nI k).toNatClampNeg = k := nI_clamp (by omega)
  have hc2 : (nI s).toNatClampNeg = s := nI_clamp (by omega)
  have e1 : xsB (nI s).toNatClampNeg = nI p := by rw [hc2]; exact eN
  have e2 : xpS (xsB (nI s).toNatClampNeg).toNatClampNeg = nI a := by rw [e1, nI_clamp (by omega)]; exact eP
  have e3 : xfB (nI k).toNatClampNeg = bx_b w := by rw [hc]; exact eB
  refine nm_r (nI_1 c) ⟨hin, nm_r (e' := upd xfT k 1) (by rw [hc]) ⟨vp_in_nI hs (by decide), ?_, hin, ?_⟩⟩
  · rw [e1]; exact vp_in_nI hp (by decide)
  · rw [e2, e3]
    cases w <;> cases z
    · exact br_t rfl (bx_open hk (bx_nar false) H)
    · exact br_f (by decide) (bx_open hk (bx_nar true) H)
    · exact br_f (by decide) (bx_open hk (bx_nar true) H)
    · exact br_t rfl (bx_open hk (bx_nar false) H)
theorem bx_turn (hP : bx_P bk P xeK xeX xeY xsK xsA xsB xsX xsY xpS) (W : bf_W P g0 p0 (g, pl, h, (q, i, t, w) :: fs, c, n, 0)) (x : bx_f bk xfS xfT xfB ((q, i, t, w) :: fs))
    (H : ∀ eV S T B, bx_f bk S T B (bf_stp P g pl h q i t w fs c n).2.2.2.1 → post (nI (bf_stp P g pl h q i t w fs c n).2.2.1, xkh, xes, xem, xss, xsm, xdb, nI (bf_stp P g pl h q i t w fs c n).2.2.2.1.length, nI (bf_stp P g pl h q i t w fs c n).2.2.2.2.1, nI (bf_stp P g pl h q i t w fs c n).2.2.2.2.2.1, nI (bf_stp P g pl h q i t w fs c n).2.2.2.2.2.2, xlo, (bf_stp P g pl h q i t w fs c n).1, (bf_stp P g pl h q i t w fs c n).2.1, xkr, xkp, xeK, xeX, xeY, xeR, eV, xeS, xsK, xsA, xsB, xsX, xsY, xsS, xpB, xpS, S, T, B)) : wpX_advance post (nI h, xkh, xes, xem, xss, xsm, xdb, nI (fs.length + 1), nI c, nI n, 0, xlo, g, pl, xkr, xkp, xeK, xeX, xeY, xeR, xeV, xeS, xsK, xsA, xsB, xsX, xsY, xsS, xpB, xpS, xfS, xfT, xfB) (nI fs.length) := by
  obtain ⟨o, hcc, h6, hn, hh, -, -, -⟩ := W
  dsimp only at o hcc h6 hn hh
  obtain ⟨hb, hw, hz, hsl, hel, -⟩ := hP q o.1.1
  have hi : i < bf_sz (P q) := o.1.2.1
  have ht : t ≤ 2 := o.1.2.2.1
  have h16 := hw.1
  obtain ⟨hd, hd2⟩ := bx_deep (bx_PG hP) o (hcc ▸ h6)
  have hs : 16 * bk q + i < 64 := by omega
  have ws := hw.2.2.1 i hi
  have eS : xfS fs.length = nI (16 * bk q + i) := x.1.1
  have eT : xfT fs.length = nI t := x.1.2.1
  have eB : xfB fs.length = bx_b w := x.1.2.2
  have xr : bx_f bk xfS xfT xfB fs := x.2
  have hin : vp_in (nI fs.length) 112 := vp_in_nI hd (by decide)
  have hc : (nI fs.length).toNatClampNeg = fs.length := nI_clamp (by omega)
  have e1 : xfS (nI fs.length).toNatClampNeg = nI (16 * bk q + i) := by rw [hc]; exact eS
  have e2 : xfT (nI fs.length).toNatClampNeg = nI t := by rw [hc]; exact eT
  have e3 : xfB (nI fs.length).toNatClampNeg = bx_b w := by rw [hc]; exact eB
  have hin2 : vp_in (xfS (nI fs.length).toNatClampNeg) 64 := by rw [e1]; exact vp_in_nI hs (by decide)
  have eK : ∀ k : Nat, bf_K (P q) i = k → xsK (xfS (nI fs.length).toNatClampNeg).toNatClampNeg = nI k := fun k z => by rw [e1, nI_clamp (by omega), (hsl i hi).1, z]
  rcases Nat.lt_or_ge (bf_K (P q) i) 10 with hk | hk
  · by_cases h4 : bf_K (P q) i = 4 ∨ bf_K (P q) i = 5
    · have call : wX_advance_64 post (nI fs.length) (nI h) xkh xes xem xss xsm xdb (nI (fs.length + 1)) (nI c) (nI n) 0 xlo g pl xkr xkp xeK xeX xeY xeR xeV xeS xsK xsA xsB xsX xsY xsS xpB xpS xfS xfT xfB := by
        refine ⟨hin, ?_⟩
        rw [e2]
        by_cases t0 : t = 0
        · subst t0
          refine br_t rfl (bx_step hn (fun n3 => br_t rfl ?_) (fun n3 => br_f (by decide) ?_))
          · rw [bs_callT h4 n3] at H; exact H _ _ _ _ x
          · refine pk_lt c 6 (fun c6 => ?_) (fun c6 => ?_)
            · rw [bs_call h4 n3 (by omega)] at H
              obtain ⟨p, hp3, ep, cp⟩ := bf_N3 ws h4
              obtain ⟨-, -, -, -, -, eP⟩ := hP p hp3
              rw [cp] at H
              have hd3 : fs.length + 1 < 112 := by
                have h1 := o.2.1
                rw [bf_cc_0] at hcc
                dsimp only at h1
                omega
              have x1 := bx_f_put (p := p) (a := bf_sz (P p) - 1) (w' := w != decide (bf_K (P q) i = 5)) (bx_f_t (t' := 1) x)
              refine ⟨hin, nm_r e1 ⟨vp_in_nI hs (by decide), ?_⟩⟩
              have eN : xsB (16 * bk q + i) = nI p := ((hsl i hi).2.1 hk).2.trans ep
              have ek : xsK (nI (16 * bk q + i)).toNatClampNeg = nI (bf_K (P q) i) := by rw [nI_clamp (by omega)]; exact (hsl i hi).1
              rw [ek]
              rcases h4 with k | k
              · rw [k] at H x1 ⊢
                exact br_f (by decide) (bx_called (z := false) hd3 hs hp3 eB eN eP (H _ _ _ _ x1))
              · rw [k] at H x1 ⊢
                exact br_t rfl (bx_called (z := true) hd3 hs hp3 eB eN eP (H _ _ _ _ x1))
            · rw [bs_callD h4 n3 c6] at H; exact H _ _ _ _ x
        · refine br_f (bx_ne (b := 0) t0) ?_
          rw [bs_ret h4 t0] at H
          have c1 : c = (c - 1) + 1 := by
            rw [bf_cc_1 hk t0] at hcc
            omega
          exact nm_r (e' := nI (c - 1)) (by rw [c1]; exact nI_pred _) (bx_close (H _ _ _ _ xr))
      rcases h4 with k | k
      · exact ⟨hin, hin2, nm_r (eK 4 k) (br_f (by decide) (br_f (by decide) (br_f (by decide) (br_t rfl call))))⟩
      · exact ⟨hin, hin2, nm_r (eK 5 k) (br_f (by decide) (br_f (by decide) (br_f (by decide) (br_f (by decide) (br_t rfl call)))))⟩
    · have t0 : t = 0 := by
        rcases Nat.eq_zero_or_pos t with z | z
        · exact z
        · exact absurd (o.1.2.2.2 hk (by show t ≠ 0; omega)).1 h4
      subst t0
      refine ⟨hin, hin2, nm_r (eK _ rfl) (br_f (bx_ne (b := 10) (by omega)) (br_f (bx_ne (b := 11) (by omega)) (br_f (bx_ne (b := 12) (by omega)) (br_f (bx_ne (b := 4) (by omega)) (br_f (bx_ne (b := 5) (by omega)) ?_)))))⟩
      refine bx_close (bx_step hn (fun n3 => br_t rfl ?_) (fun n3 => br_f (by decide) ⟨hin, hin, ?_⟩))
      · rw [bs_leafT hk h4 n3] at H; exact H _ _ _ _ xr
      · rw [bs_leaf hk h4 n3] at H
        rw [e1, e3]
        exact bx_change rfl hb hw hi hk h4 hh hsl hel (fun eV => H _ _ _ _ xr)
  · have hd3 := hd2 hk
    have hab := (hsl i hi).2.2.1 hk
    have hk3 : bf_K (P q) i = 10 ∨ bf_K (P q) i = 11 ∨ bf_K (P q) i = 12 := by have := ws.1; omega
    rcases hk3 with k | k | k
    · refine ⟨hin, hin2, nm_r (eK 10 k) (br_t rfl (bx_seq ht hd3 hs eS eT eB hab.1 hab.2 (fun z => ?_) (fun z => ?_) (fun z => ?_)))⟩
      · rw [bs_seqC k z] at H; exact H _ _ _ _ xr
      · rw [bs_seqA k z] at H; exact H _ _ _ _ (bx_f_put (p := q) (a := bf_A (P q) i) (w' := w) (bx_f_t (t' := 1) x))
      · rw [bs_seqB k z] at H; exact H _ _ _ _ (bx_f_put (p := q) (a := bf_B (P q) i) (w' := w) (bx_f_t (t' := 2) x))
    · refine ⟨hin, hin2, nm_r (eK 11 k) (br_f (by decide) (br_t rfl ⟨hin, nm_r e2 ?_⟩))⟩
      have h3 : t = 0 ∨ t = 1 ∨ t = 2 := by omega
      rcases h3 with rfl | rfl | rfl
      · rw [bs_if0 k] at H
        refine br_t rfl (bx_entry hd hb hw hi (by omega) hsl hel eS eB (fun v eV => br_t rfl ?_) (fun v eV => br_f (by decide) ?_))
        · rw [v, if_neg Bool.false_ne_true] at H; exact bx_openB hd3 hs eS eB hab.2 (H _ _ _ _ (bx_f_put (p := q) (a := bf_B (P q) i) (w' := w) (bx_f_t (t' := 2) x)))
        · rw [v, if_pos rfl] at H; exact bx_openA hd3 hs eS eB hab.1 (H _ _ _ _ (bx_f_put (p := q) (a := bf_A (P q) i) (w' := w) (bx_f_t (t' := 1) x)))
      · refine br_f (by decide) (bx_exit hd hb hw hi (by omega) hsl hel eS eB (fun v eV => br_t rfl (br_f (by decide) ?_)) (fun v eV => br_t rfl (br_t rfl (bx_close ?_))))
        · rw [bs_ifF k (by decide) (by rw [v]; decide)] at H; exact H _ _ _ _ x
        · rw [bs_ifC k (by decide) (by exact v.trans rfl)] at H; exact H _ _ _ _ xr
      · refine br_f (by decide) (bx_exit hd hb hw hi (by omega) hsl hel eS eB (fun v eV => br_f (by decide) (br_t rfl (bx_close ?_))) (fun v eV => br_f (by decide) (br_f (by decide) ?_)))
        · rw [bs_ifC k (by decide) (by exact v.trans rfl)] at H; exact H _ _ _ _ xr
        · rw [bs_ifF k (by decide) (by rw [v]; decide)] at H; exact H _ _ _ _ x
    · refine ⟨hin, hin2, nm_r (eK 12 k) (br_f (by decide) (br_f (by decide) (br_t rfl ⟨hin, nm_r e2 ?_⟩)))⟩
      have h3 : t = 0 ∨ t = 1 ∨ t = 2 := by omega
      rcases h3 with rfl | rfl | rfl
      · refine br_f (by decide) (bx_entry hd hb hw hi (by omega) hsl hel eS eB (fun v eV => br_t rfl (br_f (by decide) ?_)) (fun v eV => br_t rfl (br_t rfl ?_)))
        · rw [bs_lpF k (by decide) (by rw [v]; decide)] at H; exact H _ _ _ _ x
        · rw [bs_lpA k (by decide) (by exact v.trans rfl)] at H; exact bx_openA hd3 hs eS eB hab.1 (H _ _ _ _ (bx_f_put (p := q) (a := bf_A (P q) i) (w' := w) (bx_f_t (t' := 1) x)))
      · rw [bs_lp1 k] at H
        refine br_t rfl (bx_exit hd hb hw hi (by omega) hsl hel eS eB (fun v eV => br_t rfl ?_) (fun v eV => br_f (by decide) (bx_close ?_)))
        · rw [v, if_neg Bool.false_ne_true] at H; exact bx_openB hd3 hs eS eB hab.2 (H _ _ _ _ (bx_f_put (p := q) (a := bf_B (P q) i) (w' := w) (bx_f_t (t' := 2) x)))
        · rw [v, if_pos rfl] at H; exact H _ _ _ _ xr
      · refine br_f (by decide) (bx_entry hd hb hw hi (by omega) hsl hel eS eB (fun v eV => br_f (by decide) (br_t rfl ?_)) (fun v eV => br_f (by decide) (br_f (by decide) ?_)))
        · rw [bs_lpA k (by decide) (by exact v.trans rfl)] at H; exact bx_openA hd3 hs eS eB hab.1 (H _ _ _ _ (bx_f_put (p := q) (a := bf_A (P q) i) (w' := w) (bx_f_t (t' := 1) x)))
        · rw [bs_lpF k (by decide) (by rw [v]; decide)] at H; exact H _ _ _ _ x
theorem bx_len (hG : bf_G P) (o : bf_ok P fs) (h6 : bf_cc P fs ≤ 6) : fs.length ≤ 112 := by
  cases fs with
  | nil => exact Nat.zero_le _
  | cons f fs => exact (bx_deep (q := f.1) (i := f.2.1) (t := f.2.2.1) (w := f.2.2.2) hG o h6).1
theorem bx_loop {post : Int32 → SX → Prop} (hP : bx_P bk P xeK xeX xeY xsK xsA xsB xsX xsY xpS) {mf : bf_M} (H : ∀ eV S T B, wX_run_90 post (nI mf.2.2.1) xkh xes xem xss xsm xdb (nI mf.2.2.2.1.length) (nI mf.2.2.2.2.1) (nI mf.2.2.2.2.2.1) (nI mf.2.2.2.2.2.2) xlo mf.1 mf.2.1 xkr xkp xeK xeX xeY xeR eV xeS xsK xsA xsB xsX xsY xsS xpB xpS S T B) :
    ∀ (k : Nat) (m : bf_M), bf_to P k m mf → bf_W P g0 p0 m → ∀ (r N : Nat) (eV S T B : Nat → Int32), r + k < 1000000 → k < N → bx_f bk S T B m.2.2.2.1 → wX_run_54 post N (nI r) (nI m.2.2.1) xkh xes xem xss xsm xdb (nI m.2.2.2.1.length) (nI m.2.2.2.2.1) (nI m.2.2.2.2.2.1) (nI m.2.2.2.2.2.2) xlo m.1 m.2.1 xkr xkp xeK xeX xeY xeR eV xeS xsK xsA xsB xsX xsY xsS xpB xpS S T B := by
  intro k
  induction k with
  | zero =>
    intro m hto W r N eV S T B hr hN x
    obtain ⟨rfl, hh⟩ := hto
    obtain ⟨N, rfl⟩ : ∃ N', N = N' + 1 := ⟨N - 1, by omega⟩
    refine br_f (nI_ge (b := 1000000) (by omega) (by decide)) ?_
    by_cases hf : m.2.2.2.1 = []
    · refine br_t ?_ (H _ _ _ _)
      rw [hf]; decide
    · have hp : 0 < m.2.2.2.1.length := List.length_pos_iff.mpr hf
      have hz := hh.resolve_left hf
      have h3 := W.2.2.2.2.2.2.2
      have hl : m.2.2.2.1.length < 2 ^ 31 := by have := bx_len (bx_PG hP) W.1 (W.2.1 ▸ W.2.2.1); omega
      exact br_f (nI_nle hp hl) (br_f (bx_ne (b := 0) hz) (H _ _ _ _))
  | succ k ih =>
    intro m hto W r N eV S T B hr hN x
    obtain ⟨g, pl, h, q, i, t, w, fs, c, n, rfl, hto⟩ := hto
    obtain ⟨N, rfl⟩ : ∃ N', N = N' + 1 := ⟨N - 1, by omega⟩
    have hd := (bx_deep (bx_PG hP) W.1 (W.2.1 ▸ W.2.2.1)).1
    have W' := (bf_stp_W (bx_PG hP) W).1
    refine br_f (nI_ge (b := 1000000) (by omega) (by decide)) (br_f (nI_nle (Nat.succ_pos _) (by show fs.length + 1 < 2 ^ 31; omega)) (br_t rfl ?_))
    show wpX_advance _ _ (nI (fs.length + 1) - 1)
    rw [nI_pred]
    exact bx_turn hP W x (fun eV S T B xx => nm_r (nI_1 r) (ih _ hto W' (r + 1) N eV S T B (by omega) (by omega) xx))
end
/-! keeping and restoring -/
section
variable {xph xkh xes xem xss xsm xdb xfo xco xst xen xlo : Int32} {xrg xpn xkr xkp xeK xeX xeY xeR xeV xeS xsK xsA xsB xsX xsY xsS xpB xpS xfS xfT xfB : Nat → Int32}
theorem bx_keep2 {post : SX → Prop} (H : ∀ kp, (∀ i, i < 12 → kp i = xpn i) → post (xph, xph, xes, xem, xss, xsm, xdb, xfo, xco, xst, xen, xlo, xrg, xpn, xkr, kp, xeK, xeX, xeY, xeR, xeV, xeS, xsK, xsA, xsB, xsX, xsY, xsS, xpB, xpS, xfS, xfT, xfB)) :
    ∀ d j kp, j + d = 12 → (∀ i, i < j → kp i = xpn i) → wX_keepState_28 post xph xkh xes xem xss xsm xdb xfo xco xst xen xlo (d + 1) (nI j) xrg xpn xkr kp xeK xeX xeY xeR xeV xeS xsK xsA xsB xsX xsY xsS xpB xpS xfS xfT xfB := by
  intro d
  induction d with
  | zero => intro j kp hj hv; exact br_t (nI_le (a := 12) (by omega) (by omega)) (H kp (fun i hi => hv i (by omega)))
  | succ d ih =>
    intro j kp hj hv
    have hin : vp_in (nI j) 12 := vp_in_nI (by omega) (by decide)
    have hc : (nI j).toNatClampNeg = j := nI_clamp (by omega)
    refine br_f (nI_ge (b := 12) (by omega) (by decide)) ⟨hin, hin, nm_r (e' := upd kp j (xpn j)) (by rw [hc]) (nm_r (nI_1 j) (ih (j + 1) _ (by omega) (fun i hi => ?_)))⟩
    by_cases e : i = j
    · rw [e, pk_us]
    · rw [pk_un e]; exact hv i (by omega)
theorem bx_keep1 {post : SX → Prop} (H : ∀ kr kp, (∀ i, i < 6 → kr i = xrg i) → (∀ i, i < 12 → kp i = xpn i) → post (xph, xph, xes, xem, xss, xsm, xdb, xfo, xco, xst, xen, xlo, xrg, xpn, kr, kp, xeK, xeX, xeY, xeR, xeV, xeS, xsK, xsA, xsB, xsX, xsY, xsS, xpB, xpS, xfS, xfT, xfB)) :
    ∀ d j kr, j + d = 6 → (∀ i, i < j → kr i = xrg i) → wX_keepState_2 post xph xkh xes xem xss xsm xdb xfo xco xst xen xlo (d + 1) (nI j) xrg xpn kr xkp xeK xeX xeY xeR xeV xeS xsK xsA xsB xsX xsY xsS xpB xpS xfS xfT xfB := by
  intro d
  induction d with
  | zero => intro j kr hj hv; exact br_t (nI_le (a := 6) (by omega) (by omega)) ⟨13, bx_keep2 (fun kp h => H kr kp (fun i hi => hv i (by omega)) h) 12 0 xkp rfl (fun i z => absurd z (Nat.not_lt_zero i))⟩
  | succ d ih =>
    intro j kr hj hv
    have hin : vp_in (nI j) 6 := vp_in_nI (by omega) (by decide)
    have hc : (nI j).toNatClampNeg = j := nI_clamp (by omega)
    refine br_f (nI_ge (b := 6) (by omega) (by decide)) ⟨hin, hin, nm_r (e' := upd kr j (xrg j)) (by rw [hc]) (nm_r (nI_1 j) (ih (j + 1) _ (by omega) (fun i hi => ?_)))⟩
    by_cases e : i = j
    · rw [e, pk_us]
    · rw [pk_un e]; exact hv i (by omega)
theorem bx_keep {post : SX → Prop} (H : ∀ kr kp, (∀ i, i < 6 → kr i = xrg i) → (∀ i, i < 12 → kp i = xpn i) → post (xph, xph, xes, xem, xss, xsm, xdb, xfo, xco, xst, xen, xlo, xrg, xpn, kr, kp, xeK, xeX, xeY, xeR, xeV, xeS, xsK, xsA, xsB, xsX, xsY, xsS, xpB, xpS, xfS, xfT, xfB)) : wpX_keepState post (xph, xkh, xes, xem, xss, xsm, xdb, xfo, xco, xst, xen, xlo, xrg, xpn, xkr, xkp, xeK, xeX, xeY, xeR, xeV, xeS, xsK, xsA, xsB, xsX, xsY, xsS, xpB, xpS, xfS, xfT, xfB) :=
  ⟨7, bx_keep1 H 6 0 xkr rfl (fun i z => absurd z (Nat.not_lt_zero i))⟩
theorem bx_rest2 {post : SX → Prop} {p0 : Nat → Int32} (hk : ∀ i, i < 12 → xkp i = p0 i) (H : post (xkh, xkh, xes, xem, xss, xsm, xdb, xfo, xco, xst, xen, xlo, xrg, p0, xkr, xkp, xeK, xeX, xeY, xeR, xeV, xeS, xsK, xsA, xsB, xsX, xsY, xsS, xpB, xpS, xfS, xfT, xfB)) :
    ∀ d j pn, j + d = 12 → (∀ i, i < j ∨ 12 ≤ i → pn i = p0 i) → wX_restoreState_28 post xph xkh xes xem xss xsm xdb xfo xco xst xen xlo (d + 1) (nI j) xrg pn xkr xkp xeK xeX xeY xeR xeV xeS xsK xsA xsB xsX xsY xsS xpB xpS xfS xfT xfB := by
  intro d
  induction d with
  | zero =>
    intro j pn hj hv
    have e : pn = p0 := funext (fun i => hv i (by omega))
    rw [e]
    exact br_t (nI_le (a := 12) (by omega) (by omega)) H
  | succ d ih =>
    intro j pn hj hv
    have hin : vp_in (nI j) 12 := vp_in_nI (by omega) (by decide)
    have hc : (nI j).toNatClampNeg = j := nI_clamp (by omega)
    refine br_f (nI_ge (b := 12) (by omega) (by decide)) ⟨hin, hin, nm_r (e' := upd pn j (xkp j)) (by rw [hc]) (nm_r (nI_1 j) (ih (j + 1) _ (by omega) (fun i hi => ?_)))⟩
    by_cases e : i = j
    · rw [e, pk_us]; exact hk j (by omega)
    · rw [pk_un e]; exact hv i (by omega)
theorem bx_rest1 {post : SX → Prop} {g0 p0 : Nat → Int32} (hr : ∀ i, i < 6 → xkr i = g0 i) (hk : ∀ i, i < 12 → xkp i = p0 i) (hp : ∀ i, 12 ≤ i → xpn i = p0 i) (H : post (xkh, xkh, xes, xem, xss, xsm, xdb, xfo, xco, xst, xen, xlo, g0, p0, xkr, xkp, xeK, xeX, xeY, xeR, xeV, xeS, xsK, xsA, xsB, xsX, xsY, xsS, xpB, xpS, xfS, xfT, xfB)) :
    ∀ d j rg, j + d = 6 → (∀ i, i < j ∨ 6 ≤ i → rg i = g0 i) → wX_restoreState_2 post xph xkh xes xem xss xsm xdb xfo xco xst xen xlo (d + 1) (nI j) rg xpn xkr xkp xeK xeX xeY xeR xeV xeS xsK xsA xsB xsX xsY xsS xpB xpS xfS xfT xfB := by
  intro d
  induction d with
  | zero =>
    intro j rg hj hv
    have e : rg = g0 := funext (fun i => hv i (by omega))
    rw [e]
    exact br_t (nI_le (a := 6) (by omega) (by omega)) ⟨13, bx_rest2 hk H 12 0 xpn rfl (fun i z => hp i (by omega))⟩
  | succ d ih =>
    intro j rg hj hv
    have hin : vp_in (nI j) 6 := vp_in_nI (by omega) (by decide)
    have hc : (nI j).toNatClampNeg = j := nI_clamp (by omega)
    refine br_f (nI_ge (b := 6) (by omega) (by decide)) ⟨hin, hin, nm_r (e' := upd rg j (xkr j)) (by rw [hc]) (nm_r (nI_1 j) (ih (j + 1) _ (by omega) (fun i hi => ?_)))⟩
    by_cases e : i = j
    · rw [e, pk_us]; exact hr j (by omega)
    · rw [pk_un e]; exact hv i (by omega)
theorem bx_rest {post : SX → Prop} {g0 p0 : Nat → Int32} (hr : ∀ i, i < 6 → xkr i = g0 i) (hk : ∀ i, i < 12 → xkp i = p0 i) (hg : ∀ i, 6 ≤ i → xrg i = g0 i) (hp : ∀ i, 12 ≤ i → xpn i = p0 i)
    (H : post (xkh, xkh, xes, xem, xss, xsm, xdb, xfo, xco, xst, xen, xlo, g0, p0, xkr, xkp, xeK, xeX, xeY, xeR, xeV, xeS, xsK, xsA, xsB, xsX, xsY, xsS, xpB, xpS, xfS, xfT, xfB)) : wpX_restoreState post (xph, xkh, xes, xem, xss, xsm, xdb, xfo, xco, xst, xen, xlo, xrg, xpn, xkr, xkp, xeK, xeX, xeY, xeR, xeV, xeS, xsK, xsA, xsB, xsX, xsY, xsS, xpB, xpS, xfS, xfT, xfB) :=
  ⟨7, bx_rest1 hr hk hp H 6 0 xrg rfl (fun i z => hg i (by omega))⟩
end
end
section
/-! The reference's walks over the pure machine -/
def ry_sl (q : Nat) (l : bf_L) (sK sR sN sA sB sX sY : Nat → Int32) : Prop :=
  ∀ i, i < bf_sz l → sK (16 * q + i) = nI (bf_K l i) ∧ (bf_K l i < 10 → sR (16 * q + i) = bf_R l i ∧ sN (16 * q + i) = bf_N l i) ∧
    (10 ≤ bf_K l i → sA (16 * q + i) = nI (bf_A l i) ∧ sB (16 * q + i) = nI (bf_B l i)) ∧
    (6 ≤ bf_K l i → bf_K l i ≠ 10 → sX (16 * q + i) = nI (bf_X l i)) ∧ (11 ≤ bf_K l i → sY (16 * q + i) = nI (bf_Y l i))
def ry_el (q : Nat) (l : bf_L) (eK eL eR : Nat → Int32) : Prop :=
  ∀ e, e < bf_ct l → eK (24 * q + e) = nI (bf_eK l e) ∧ (bf_eK l e = 7 → eL (24 * q + e) = bf_eL l e) ∧ (bf_eK l e = 8 → eL (24 * q + e) = nI (bf_eA l e)) ∧
    (bf_eK l e ≤ 6 → eL (24 * q + e) = nI (bf_eA l e) ∧ eR (24 * q + e) = nI (bf_eB l e))
def ry_P (P : Nat → bf_L) (sK sR sN sA sB sX sY sz eK eL eR : Nat → Int32) : Prop :=
  ∀ q, q < 3 → bf_wL (P q) ∧ 0 < bf_sz (P q) ∧ ry_sl q (P q) sK sR sN sA sB sX sY ∧ ry_el q (P q) eK eL eR ∧ sz q = nI (bf_sz (P q))
theorem ry_PG {P : Nat → bf_L} {sK sR sN sA sB sX sY sz eK eL eR : Nat → Int32} (hP : ry_P P sK sR sN sA sB sX sY sz eK eL eR) : bf_G P := fun q hq => ⟨(hP q hq).1, (hP q hq).2.1⟩
/-- a seq whose last part runs: the reference keeps no frame of it -/
def ry_fin (P : Nat → bf_L) (f : bf_F) : Bool := decide (bf_K (P f.1) f.2.1 = 10) && decide (f.2.2.1 = if f.2.2.2 then 1 else 2)
def ry_m (P : Nat → bf_L) : List bf_F → Nat
  | [] => 0
  | f :: fs => ry_m P fs + if ry_fin P f then 0 else 1
def ry_f (P : Nat → bf_L) (N T B : Nat → Int32) : List bf_F → Prop
  | [] => True
  | f :: fs => (ry_fin P f = false → N (ry_m P fs) = nI (16 * f.1 + f.2.1) ∧ (11 ≤ bf_K (P f.1) f.2.1 → T (ry_m P fs) = nI f.2.2.1) ∧ B (ry_m P fs) = bx_b f.2.2.2) ∧ ry_f P N T B fs
theorem ry_m_le {P : Nat → bf_L} : ∀ fs : List bf_F, ry_m P fs ≤ fs.length
  | [] => Nat.le_refl _
  | f :: fs => by
    have := ry_m_le (P := P) fs
    show ry_m P fs + (if ry_fin P f then 0 else 1) ≤ fs.length + 1
    split <;> omega
theorem ry_m_f {P : Nat → bf_L} {f : bf_F} {fs : List bf_F} (h : ry_fin P f = true) : ry_m P (f :: fs) = ry_m P fs := by
  show ry_m P fs + (if ry_fin P f then 0 else 1) = _
  rw [if_pos h]; rfl
theorem ry_m_n {P : Nat → bf_L} {f : bf_F} {fs : List bf_F} (h : ry_fin P f = false) : ry_m P (f :: fs) = ry_m P fs + 1 := by
  show ry_m P fs + (if ry_fin P f then 0 else 1) = _
  rw [h]; rfl
theorem ry_f_c {P : Nat → bf_L} {N T B N' T' B' : Nat → Int32} : ∀ {fs : List bf_F}, (∀ j, j < ry_m P fs → N' j = N j ∧ T' j = T j ∧ B' j = B j) → ry_f P N T B fs → ry_f P N' T' B' fs
  | [], _, _ => trivial
  | f :: fs, h, x => by
    refine ⟨fun z => ?_, ry_f_c (fun j hj => h j (by have : ry_m P fs ≤ ry_m P (f :: fs) := Nat.le_add_right _ _; omega)) x.2⟩
    have hj := h (ry_m P fs) (by rw [ry_m_n z]; omega)
    have x1 := x.1 z
    exact ⟨hj.1.trans x1.1, fun k => hj.2.1.trans (x1.2.1 k), hj.2.2.trans x1.2.2⟩
theorem ry_f_put {P : Nat → bf_L} {N T B : Nat → Int32} {q i t : Nat} {w : Bool} {fs : List bf_F} {y : Int32} (x : ry_f P N T B fs) (hy : 11 ≤ bf_K (P q) i → y = nI t) :
    ry_f P (upd N (ry_m P fs) (nI (16 * q + i))) (upd T (ry_m P fs) y) (upd B (ry_m P fs) (bx_b w)) ((q, i, t, w) :: fs) :=
  ⟨fun _ => ⟨pk_us, fun k => pk_us.trans (hy k), pk_us⟩, ry_f_c (fun j hj => ⟨pk_un (by omega), pk_un (by omega), pk_un (by omega)⟩) x⟩
section
variable {ydp ypd yhi yoh yop ynx yba yca yed ysp : Int32} {ysK ysR ysN ysA ysB ysX ysY ysz yeK yeL yeR yeM yct yeV ytS ytP yrg ypn yog yoq yoN yoT yoB : Nat → Int32}
variable {post : SY → Prop}
theorem ry_push {k : Nat} {s y : Int32} {w : Bool} (hk : k < 140) (H : post (ydp, ypd, yhi, yoh, nI (k + 1), ynx, bx_b w, yca, yed, ysp, ysK, ysR, ysN, ysA, ysB, ysX, ysY, ysz, yeK, yeL, yeR, yeM, yct, yeV, ytS, ytP, yrg, ypn, yog, yoq, upd yoN k s, upd yoT k y, upd yoB k (bx_b w))) :
    wpY_push post (ydp, ypd, yhi, yoh, nI k, ynx, bx_b w, yca, yed, ysp, ysK, ysR, ysN, ysA, ysB, ysX, ysY, ysz, yeK, yeL, yeR, yeM, yct, yeV, ytS, ytP, yrg, ypn, yog, yoq, yoN, yoT, yoB) s y := by
  have hi : vp_in (nI k) 140 := vp_in_nI hk (by decide)
  have hc : (nI k).toNatClampNeg = k := nI_clamp (by omega)
  exact ⟨hi, nm_r (by rw [hc]) ⟨hi, nm_r (by rw [hc]) ⟨hi, nm_r (by rw [hc, bx_nar]) (nm_r (nI_1 k) H)⟩⟩⟩
theorem ry_div {q i : Nat} (hq : q < 4) (hi : i < 16) : nI (16 * q + i) / 16 = nI q := by
  show nI (16 * q + i) / nI 16 = nI q
  rw [pk_div (by omega) (by decide) (by decide)]
  exact congrArg nI (by omega)
theorem ry_go {q i : Nat} {a : Nat} {z : Int32} (hq : q < 4) (hi : i < 16) (hz : z = nI a) (H : post (ydp, ypd, yhi, yoh, yop, nI (16 * q + a), yba, yca, yed, ysp, ysK, ysR, ysN, ysA, ysB, ysX, ysY, ysz, yeK, yeL, yeR, yeM, yct, yeV, ytS, ytP, yrg, ypn, yog, yoq, yoN, yoT, yoB)) : wpY_go post (ydp, ypd, yhi, yoh, yop, ynx, yba, yca, yed, ysp, ysK, ysR, ysN, ysA, ysB, ysX, ysY, ysz, yeK, yeL, yeR, yeM, yct, yeV, ytS, ytP, yrg, ypn, yog, yoq, yoN, yoT, yoB) (nI (16 * q + i)) z := by
  subst hz
  refine ⟨by decide, nm_r (e' := nI (16 * q + a)) ?_ H⟩
  rw [ry_div hq hi]
  show nI q * nI 16 + nI a = nI (16 * q + a)
  rw [pk_mul, nI_add]
  exact congrArg nI (by omega)
theorem ry_work {post : Int32 → Prop} {x y : Int32} : ∀ k, k ≤ 6 → post (bf_op k x y) → wpY_worked post (ydp, ypd, yhi, yoh, yop, ynx, yba, yca, yed, ysp, ysK, ysR, ysN, ysA, ysB, ysX, ysY, ysz, yeK, yeL, yeR, yeM, yct, yeV, ytS, ytP, yrg, ypn, yog, yoq, yoN, yoT, yoB) (nI k) x y
  | 0, _, h => br_t (by decide) h
  | 1, _, h => br_f (by decide) (br_t (by decide) h)
  | 2, _, h => br_f (by decide) (br_f (by decide) (br_t (by decide) h))
  | 3, _, h => br_f (by decide) (br_f (by decide) (br_f (by decide) (br_t (by decide) h)))
  | 4, _, h => br_f (by decide) (br_f (by decide) (br_f (by decide) (br_f (by decide) (br_t (by decide) h))))
  | 5, _, h => br_f (by decide) (br_f (by decide) (br_f (by decide) (br_f (by decide) (br_f (by decide) (br_t (by decide)
      (br_c (fun z => (by rw [bf_op5, if_neg (Int32.not_lt.mpr z)] at h; exact h)) (fun z => (by rw [bf_op5, if_pos (Int32.not_le.mp z)] at h; exact h))))))))
  | 6, _, h => br_f (by decide) (br_f (by decide) (br_f (by decide) (br_f (by decide) (br_f (by decide) (br_f (by decide)
      (br_c (fun z => (by rw [bf_op6, if_pos z] at h; exact h)) (fun z => (by rw [bf_op6, if_neg z] at h; exact h))))))))
  | k + 7, hk, _ => by omega
end
section
variable {ydp ypd yhi yoh yop ynx yba yca yed ysp : Int32} {ysK ysR ysN ysA ysB ysX ysY ysz yeK yeL yeR yeM yct yeV ytS ytP yrg ypn yog yoq yoN yoT yoB : Nat → Int32}
variable {l : bf_L} {q e : Nat}
theorem ry_val_loop {post : Int32 → SY → Prop} (hl : ry_el q l yeK yeL yeR) (hw : bf_wL l) (he : e < bf_ct l) (hq : q < 4)
    (H : ∀ eV, post (bf_v l yrg e) (ydp, ypd, yhi, yoh, yop, ynx, yba, yca, yed, ysp, ysK, ysR, ysN, ysA, ysB, ysX, ysY, ysz, yeK, yeL, yeR, yeM, yct, eV, ytS, ytP, yrg, ypn, yog, yoq, yoN, yoT, yoB)) : ∀ d j eV, j + d = e + 1 → (∀ i, i < j → eV (0 + i) = bf_v l yrg i) →
    wY_value_2 post (nI q) (nI e) ydp ypd yhi yoh yop ynx yba yca yed ysp (d + 1) (nI j) ysK ysR ysN ysA ysB ysX ysY ysz yeK yeL yeR yeM yct eV ytS ytP yrg ypn yog yoq yoN yoT yoB := by
  have h24 := hw.2.1
  intro d
  induction d with
  | zero =>
    intro j eV hj hv
    have ev : eV (nI e).toNatClampNeg = bf_v l yrg e := by rw [nI_clamp (by omega)]; have := hv e (by omega); rw [Nat.zero_add] at this; exact this
    exact br_t (nI_lt (by omega) (by omega)) ⟨vp_in_nI (by omega) (by decide), by rw [ev]; exact H eV⟩
  | succ d ih =>
    intro j eV hj hv
    have hje : j < bf_ct l := by omega
    have hlt : ¬ nI e < nI j := nI_nlt (by omega) (by omega)
    have ad : (24 : Int32) * nI q + nI j = nI (24 * q + j) := by
      show nI 24 * nI q + nI j = _
      rw [pk_mul, nI_add]
    have hi : vp_in ((24 : Int32) * nI q + nI j) 96 := by rw [ad]; exact vp_in_nI (by omega) (by decide)
    have hc : ((24 : Int32) * nI q + nI j).toNatClampNeg = 24 * q + j := by rw [ad]; exact nI_clamp (by omega)
    have hj3 : vp_in (nI j) 24 := vp_in_nI (by omega) (by decide)
    have hcj : (nI j).toNatClampNeg = 0 + j := by rw [Nat.zero_add]; exact nI_clamp (by omega)
    obtain ⟨rk, r7, r8, r6⟩ := hl j hje
    have wE := hw.2.2.2 j hje
    have kk : yeK ((24 : Int32) * nI q + nI j).toNatClampNeg = nI (bf_eK l j) := by rw [hc]; exact rk
    by_cases k7 : bf_eK l j = 7
    · refine br_f hlt ⟨hi, nm_r (e' := 7) (by rw [kk, k7]; rfl) ⟨hi, nm_r (e' := bf_eL l j) (by rw [hc]; exact r7 k7) ⟨hi, nm_e (br_t rfl ⟨hj3, nm_r (e' := upd eV (0 + j) (bf_eL l j)) (by rw [hcj]) (nm_r (nI_1 j) ?_)⟩)⟩⟩⟩
      exact ih (j + 1) _ (by omega) (bx_tab wE hv (by unfold bf_e1; rw [if_pos k7]))
    by_cases k8 : bf_eK l j = 8
    · have h6 := wE.2.1 k8
      have hr : yrg (nI (bf_eA l j)).toNatClampNeg = yrg (bf_eA l j) := by rw [nI_clamp (by omega)]
      refine br_f hlt ⟨hi, nm_r (e' := 8) (by rw [kk, k8]; rfl) ⟨hi, nm_r (e' := nI (bf_eA l j)) (by rw [hc]; exact r8 k8) ⟨hi, nm_e (br_f (by decide) (br_t rfl ⟨vp_in_nI h6 (by decide), hj3, nm_r (e' := upd eV (0 + j) (yrg (bf_eA l j))) (by rw [hcj, hr]) (nm_r (nI_1 j) ?_)⟩))⟩⟩⟩
      exact ih (j + 1) _ (by omega) (bx_tab wE hv (by unfold bf_e1; rw [if_neg k7, if_pos k8]))
    have k6 : bf_eK l j ≤ 6 := by have := wE.1; omega
    have hab := wE.2.2 k6
    have ha : (nI (bf_eA l j)).toNatClampNeg = 0 + bf_eA l j := by rw [Nat.zero_add]; exact nI_clamp (by omega)
    have hbb : (nI (bf_eB l j)).toNatClampNeg = 0 + bf_eB l j := by rw [Nat.zero_add]; exact nI_clamp (by omega)
    refine br_f hlt ⟨hi, nm_r kk ⟨hi, nm_r (e' := nI (bf_eA l j)) (by rw [hc]; exact (r6 k6).1) ⟨hi, nm_r (e' := nI (bf_eB l j)) (by rw [hc]; exact (r6 k6).2)
      (br_f (bx_ne (b := 7) (by omega)) (br_f (bx_ne (b := 8) (by omega)) ⟨vp_in_nI (by omega) (by decide), vp_in_nI (by omega) (by decide), ?_⟩))⟩⟩⟩
    rw [ha, hbb]
    refine ry_work _ k6 ⟨hj3, nm_r (e' := upd eV (0 + j) (bf_op (bf_eK l j) (eV (0 + bf_eA l j)) (eV (0 + bf_eB l j)))) (by rw [hcj]) (nm_r (nI_1 j) ?_)⟩
    exact ih (j + 1) _ (by omega) (bx_tab wE hv (by unfold bf_e1; rw [if_neg k7, if_neg k8]))
theorem ry_val {post : Int32 → SY → Prop} {z z' : Int32} (hz : z = nI e) (hz' : z' = nI q) (hl : ry_el q l yeK yeL yeR) (hw : bf_wL l) (he : e < bf_ct l) (hq : q < 4)
    (H : ∀ eV, post (bf_v l yrg e) (ydp, ypd, yhi, yoh, yop, ynx, yba, yca, yed, ysp, ysK, ysR, ysN, ysA, ysB, ysX, ysY, ysz, yeK, yeL, yeR, yeM, yct, eV, ytS, ytP, yrg, ypn, yog, yoq, yoN, yoT, yoB)) : wpY_value post (ydp, ypd, yhi, yoh, yop, ynx, yba, yca, yed, ysp, ysK, ysR, ysN, ysA, ysB, ysX, ysY, ysz, yeK, yeL, yeR, yeM, yct, yeV, ytS, ytP, yrg, ypn, yog, yoq, yoN, yoT, yoB) z' z := by
  subst hz hz'
  exact ⟨e + 2, ry_val_loop hl hw he hq H (e + 1) 0 yeV (by omega) (fun i z => absurd z (Nat.not_lt_zero i))⟩
theorem ry_true {post : Int32 → SY → Prop} {i : Nat} {w near : Bool} (hq : q < 4) (hw : bf_wL l) (hi : i < bf_sz l) (hK : 11 ≤ bf_K l i)
    (hs : ry_sl q l ysK ysR ysN ysA ysB ysX ysY) (hl : ry_el q l yeK yeL yeR)
    (H0 : bf_tv l yrg i w near = false → ∀ eV, post 0 (ydp, ypd, yhi, yoh, yop, ynx, bx_b w, yca, yed, ysp, ysK, ysR, ysN, ysA, ysB, ysX, ysY, ysz, yeK, yeL, yeR, yeM, yct, eV, ytS, ytP, yrg, ypn, yog, yoq, yoN, yoT, yoB)) (H1 : bf_tv l yrg i w near = true → ∀ eV, post 1 (ydp, ypd, yhi, yoh, yop, ynx, bx_b w, yca, yed, ysp, ysK, ysR, ysN, ysA, ysB, ysX, ysY, ysz, yeK, yeL, yeR, yeM, yct, eV, ytS, ytP, yrg, ypn, yog, yoq, yoN, yoT, yoB)) :
    wpY_isTrue post (ydp, ypd, yhi, yoh, yop, ynx, bx_b w, yca, yed, ysp, ysK, ysR, ysN, ysA, ysB, ysX, ysY, ysz, yeK, yeL, yeR, yeM, yct, yeV, ytS, ytP, yrg, ypn, yog, yoq, yoN, yoT, yoB) (nI (16 * q + i)) (bx_b near) := by
  have h16 := hw.1
  have hin : vp_in (nI (16 * q + i)) 64 := vp_in_nI (by omega) (by decide)
  have hc : (nI (16 * q + i)).toNatClampNeg = 16 * q + i := nI_clamp (by omega)
  obtain ⟨-, -, -, rX, rY⟩ := hs i hi
  have ws := hw.2.2.1 i hi
  have vX : ∀ {ps : Int32 → SY → Prop}, (∀ eV, ps (bf_v l yrg (bf_X l i)) (ydp, ypd, yhi, yoh, yop, ynx, bx_b w, yca, yed, ysp, ysK, ysR, ysN, ysA, ysB, ysX, ysY, ysz, yeK, yeL, yeR, yeM, yct, eV, ytS, ytP, yrg, ypn, yog, yoq, yoN, yoT, yoB)) → wpY_value ps (ydp, ypd, yhi, yoh, yop, ynx, bx_b w, yca, yed, ysp, ysK, ysR, ysN, ysA, ysB, ysX, ysY, ysz, yeK, yeL, yeR, yeM, yct, yeV, ytS, ytP, yrg, ypn, yog, yoq, yoN, yoT, yoB) (nI (16 * q + i) / 16) (ysX (nI (16 * q + i)).toNatClampNeg) :=
    fun hp => ry_val (by rw [hc]; exact rX (by omega) (by omega)) (ry_div hq (by omega)) hl hw (ws.2.2.2.2.1 (by omega) (by omega)) hq hp
  have vY : ∀ {ps : Int32 → SY → Prop}, (∀ eV, ps (bf_v l yrg (bf_Y l i)) (ydp, ypd, yhi, yoh, yop, ynx, bx_b w, yca, yed, ysp, ysK, ysR, ysN, ysA, ysB, ysX, ysY, ysz, yeK, yeL, yeR, yeM, yct, eV, ytS, ytP, yrg, ypn, yog, yoq, yoN, yoT, yoB)) → wpY_value ps (ydp, ypd, yhi, yoh, yop, ynx, bx_b w, yca, yed, ysp, ysK, ysR, ysN, ysA, ysB, ysX, ysY, ysz, yeK, yeL, yeR, yeM, yct, yeV, ytS, ytP, yrg, ypn, yog, yoq, yoN, yoT, yoB) (nI (16 * q + i) / 16) (ysY (nI (16 * q + i)).toNatClampNeg) :=
    fun hp => ry_val (by rw [hc]; exact rY hK) (ry_div hq (by omega)) hl hw (ws.2.2.2.2.2.1 hK) hq hp
  by_cases e : w = near
  · have tv : bf_tv l yrg i w near = decide (bf_v l yrg (bf_Y l i) ≠ 0) := by unfold bf_tv; rw [if_pos e]
    refine br_t (by rw [e]) ⟨hin, by decide, vY (fun eV => br_c (fun z => H0 ?_ eV) (fun z => H1 ?_ eV))⟩
    · rw [tv]; exact decide_eq_false (fun y => y z)
    · rw [tv]; exact decide_eq_true z
  · have tv : bf_tv l yrg i w near = decide (bf_v l yrg (bf_X l i) ≠ 0) := by unfold bf_tv; rw [if_neg e]
    refine br_f (by cases w <;> cases near <;> first | exact absurd rfl e | decide) ⟨hin, by decide, vX (fun eV => br_c (fun z => H0 ?_ eV) (fun z => H1 ?_ eV))⟩
    · rw [tv]; exact decide_eq_false (fun y => y z)
    · rw [tv]; exact decide_eq_true z
end
end
section
/-! One turn of the machine is at most one of the reference -/
def ry_e (z : Nat) : Int32 := if z = 0 then -1 else nI z
def ry_S (P : Nat → bf_L) (op nx ba : Int32) (N T B : Nat → Int32) : List bf_F → Prop
  | [] => nx = -1 ∧ op = 0
  | f :: fs => (f.2.2.1 = 0 → nx = nI (16 * f.1 + f.2.1) ∧ ba = bx_b f.2.2.2 ∧ op = nI (ry_m P fs) ∧ ry_f P N T B fs) ∧
      (f.2.2.1 ≠ 0 → nx = -1 ∧ op = nI (ry_m P (f :: fs)) ∧ ry_f P N T B (f :: fs))
def ry_R (P : Nat → bf_L) (m : bf_M) (op nx ba ed : Int32) (N T B : Nat → Int32) : Prop :=
  ed = ry_e m.2.2.2.2.2.2 ∧ (m.2.2.2.2.2.2 = 0 → ry_S P op nx ba N T B m.2.2.2.1)
section
variable {P : Nat → bf_L} {N T B : Nat → Int32} {q i t a : Nat} {w w' : Bool} {fs : List bf_F} {ba y : Int32}
theorem ry_S_nf (nf : bf_nf fs) (x : ry_f P N T B fs) : ry_S P (nI (ry_m P fs)) (-1) ba N T B fs := by
  cases fs with
  | nil => exact ⟨rfl, rfl⟩
  | cons f fs => exact ⟨fun z => absurd z nf, fun _ => ⟨rfl, rfl, x⟩⟩
theorem ry_S_put {p : Nat} (hf : ry_fin P (q, i, t, w) = false) (x : ry_f P N T B fs) (hy : 11 ≤ bf_K (P q) i → y = nI t) :
    ry_S P (nI (ry_m P fs + 1)) (nI (16 * p + a)) (bx_b w') (upd N (ry_m P fs) (nI (16 * q + i))) (upd T (ry_m P fs) y) (upd B (ry_m P fs) (bx_b w)) ((p, a, 0, w') :: (q, i, t, w) :: fs) :=
  ⟨fun _ => ⟨rfl, rfl, by rw [ry_m_n hf], ry_f_put x hy⟩, fun z => absurd rfl z⟩
theorem ry_S_fin {p : Nat} (hf : ry_fin P (q, i, t, w) = true) (x : ry_f P N T B fs) :
    ry_S P (nI (ry_m P fs)) (nI (16 * p + a)) (bx_b w') N T B ((p, a, 0, w') :: (q, i, t, w) :: fs) :=
  ⟨fun _ => ⟨rfl, rfl, by rw [ry_m_f hf], ⟨fun z => absurd (hf.symm.trans z) (by decide), x⟩⟩, fun z => absurd rfl z⟩
theorem ry_fin_k (hk : bf_K (P q) i ≠ 10) : ry_fin P (q, i, t, w) = false := by
  show (decide (bf_K (P q) i = 10) && _) = false
  rw [decide_eq_false hk]; rfl
theorem ry_fin_10 (hk : bf_K (P q) i = 10) : ry_fin P (q, i, t, w) = decide (t = if w then 1 else 2) := by
  show (decide (bf_K (P q) i = 10) && decide (t = if w then 1 else 2)) = _
  rw [decide_eq_true hk]; rfl
end
section
variable {ydp ypd yhi yoh yop ynx yba yca yed ysp : Int32} {ysK ysR ysN ysA ysB ysX ysY ysz yeK yeL yeR yeM yct yeV ytS ytP yrg ypn yog yoq yoN yoT yoB : Nat → Int32}
variable {post : SY → Prop} {P : Nat → bf_L} {g pl g0 p0 : Nat → Int32} {h q i t c n : Nat} {w : Bool} {fs : List bf_F}
theorem ry_onto {r : Nat} (hr : r < 6) (hh : h ≤ 12) (HF : 12 ≤ h → post (ydp, ypd, nI h, yoh, yop, ynx, yba, yca, 1, ysp, ysK, ysR, ysN, ysA, ysB, ysX, ysY, ysz, yeK, yeL, yeR, yeM, yct, yeV, ytS, ytP, yrg, ypn, yog, yoq, yoN, yoT, yoB)) (H : ¬ 12 ≤ h → post (ydp, ypd, nI (h + 1), yoh, yop, ynx, yba, yca, yed, ysp, ysK, ysR, ysN, ysA, ysB, ysX, ysY, ysz, yeK, yeL, yeR, yeM, yct, yeV, ytS, ytP, upd yrg r 0, upd ypn h (yrg r), yog, yoq, yoN, yoT, yoB)) :
    wpY_onto post (ydp, ypd, nI h, yoh, yop, ynx, yba, yca, yed, ysp, ysK, ysR, ysN, ysA, ysB, ysX, ysY, ysz, yeK, yeL, yeR, yeM, yct, yeV, ytS, ytP, yrg, ypn, yog, yoq, yoN, yoT, yoB) (nI r) := by
  have hin : vp_in (nI r) 6 := vp_in_nI hr (by decide)
  have hc : (nI r).toNatClampNeg = r := nI_clamp (by omega)
  refine pk_eq h 12 (fun z => HF (by omega)) (fun z => ?_)
  have hc2 : (nI h).toNatClampNeg = h := nI_clamp (by omega)
  exact ⟨hin, vp_in_nI (by omega) (by decide), nm_r (e' := upd ypn h (yrg r)) (by rw [hc, hc2]) (nm_r (nI_1 h) ⟨hin, nm_r (e' := upd yrg r 0) (by rw [hc]) (H (by omega))⟩)⟩
theorem ry_off {r : Nat} (hr : r < 6) (hh : h ≤ 12) (HF : h = 0 ∨ yrg r ≠ 0 → post (ydp, ypd, nI h, yoh, yop, ynx, yba, yca, 1, ysp, ysK, ysR, ysN, ysA, ysB, ysX, ysY, ysz, yeK, yeL, yeR, yeM, yct, yeV, ytS, ytP, yrg, ypn, yog, yoq, yoN, yoT, yoB)) (H : ¬ (h = 0 ∨ yrg r ≠ 0) → post (ydp, ypd, nI (h - 1), yoh, yop, ynx, yba, yca, yed, ysp, ysK, ysR, ysN, ysA, ysB, ysX, ysY, ysz, yeK, yeL, yeR, yeM, yct, yeV, ytS, ytP, upd yrg r (ypn (h - 1)), ypn, yog, yoq, yoN, yoT, yoB)) :
    wpY_off post (ydp, ypd, nI h, yoh, yop, ynx, yba, yca, yed, ysp, ysK, ysR, ysN, ysA, ysB, ysX, ysY, ysz, yeK, yeL, yeR, yeM, yct, yeV, ytS, ytP, yrg, ypn, yog, yoq, yoN, yoT, yoB) (nI r) := by
  have hin : vp_in (nI r) 6 := vp_in_nI hr (by decide)
  have hc : (nI r).toNatClampNeg = r := nI_clamp (by omega)
  refine pk_eq h 0 (fun z => HF (Or.inl z)) (fun z => ⟨hin, ?_⟩)
  rw [hc]
  refine br_c (fun z0 => ?_) (fun z0 => HF (Or.inr z0))
  obtain ⟨h', rfl⟩ : ∃ h', h = h' + 1 := ⟨h - 1, by omega⟩
  have hc2 : (nI h').toNatClampNeg = h' := nI_clamp (by omega)
  exact nm_r (nI_pred h') ⟨vp_in_nI (by omega) (by decide), hin, nm_r (e' := upd yrg r (ypn h')) (by rw [hc2]) (H (fun z1 => z1.elim (fun a => absurd a (Nat.succ_ne_zero _)) (fun b => b z0)))⟩
/-- a simple statement but call and back -/
theorem ry_leaf {l : bf_L} (hq : q < 4) (hw : bf_wL l) (hi : i < bf_sz l) (hk : bf_K l i < 10) (h4 : ¬ (bf_K l i = 4 ∨ bf_K l i = 5)) (hh : h ≤ 12) (hn : n ≤ 300)
    (hsl : ry_sl q l ysK ysR ysN ysA ysB ysX ysY) (hel : ry_el q l yeK yeL yeR)
    (HT : 300 ≤ n → post (ydp, ypd, nI h, yoh, yop, ynx, bx_b w, yca, 2, nI n, ysK, ysR, ysN, ysA, ysB, ysX, ysY, ysz, yeK, yeL, yeR, yeM, yct, yeV, ytS, ytP, yrg, ypn, yog, yoq, yoN, yoT, yoB))
    (H : ¬ 300 ≤ n → ∀ eV, post (ydp, ypd, nI (bf_eff l i w yrg ypn h).2.2.1, yoh, yop, ynx, bx_b w, yca, ry_e (bf_eff l i w yrg ypn h).2.2.2, nI (n + 1), ysK, ysR, ysN, ysA, ysB, ysX, ysY, ysz, yeK, yeL, yeR, yeM, yct, eV, ytS, ytP, (bf_eff l i w yrg ypn h).1, (bf_eff l i w yrg ypn h).2.1, yog, yoq, yoN, yoT, yoB)) :
    wpY_simply post (ydp, ypd, nI h, yoh, yop, ynx, bx_b w, yca, (-1), nI n, ysK, ysR, ysN, ysA, ysB, ysX, ysY, ysz, yeK, yeL, yeR, yeM, yct, yeV, ytS, ytP, yrg, ypn, yog, yoq, yoN, yoT, yoB) (nI (16 * q + i)) := by
  have h16 := hw.1
  have ws := hw.2.2.1 i hi
  have hin : vp_in (nI (16 * q + i)) 64 := vp_in_nI (by omega) (by decide)
  have hc : (nI (16 * q + i)).toNatClampNeg = 16 * q + i := nI_clamp (by omega)
  obtain ⟨rK, r10, -, rX, -⟩ := hsl i hi
  obtain ⟨rA, rB⟩ := r10 hk
  have eK : ∀ k : Nat, bf_K l i = k → ysK (nI (16 * q + i)).toNatClampNeg = nI k := fun k z => by rw [hc, rK, z]
  have eA : ysR (nI (16 * q + i)).toNatClampNeg = bf_R l i := by rw [hc]; exact rA
  have eB : ysN (nI (16 * q + i)).toNatClampNeg = bf_N l i := by rw [hc]; exact rB
  refine pk_eq n 300 (fun z => HT (by omega)) (fun z => nm_r (nI_1 n) ?_)
  have H := H (by omega)
  have hcs : bf_K l i = 0 ∨ bf_K l i = 1 ∨ bf_K l i = 2 ∨ bf_K l i = 3 ∨ bf_K l i = 6 ∨ bf_K l i = 7 ∨ bf_K l i = 8 ∨ bf_K l i = 9 := by omega
  have val : 6 ≤ bf_K l i → ∀ {ps : Int32 → SY → Prop}, (∀ eV, ps (bf_v l yrg (bf_X l i)) (ydp, ypd, nI h, yoh, yop, ynx, bx_b w, yca, (-1), nI (n + 1), ysK, ysR, ysN, ysA, ysB, ysX, ysY, ysz, yeK, yeL, yeR, yeM, yct, eV, ytS, ytP, yrg, ypn, yog, yoq, yoN, yoT, yoB)) → wpY_value ps (ydp, ypd, nI h, yoh, yop, ynx, bx_b w, yca, (-1), nI (n + 1), ysK, ysR, ysN, ysA, ysB, ysX, ysY, ysz, yeK, yeL, yeR, yeM, yct, yeV, ytS, ytP, yrg, ypn, yog, yoq, yoN, yoT, yoB) (nI (16 * q + i) / 16) (ysX (nI (16 * q + i)).toNatClampNeg) :=
    fun z ps hp => ry_val (by rw [hc]; exact rX z (by omega)) (ry_div hq (by omega)) hel hw (ws.2.2.2.2.1 z (by omega)) hq hp
  rcases hcs with k | k | k | k | k | k | k | k
  · rw [be_0 k] at H
    exact ⟨hin, nm_r (eK 0 k) ⟨hin, nm_r eA (br_f (by decide) (br_f (by decide) (br_f (by decide) (br_f (by decide) (br_f (by decide) (br_t (by decide) (H _)))))))⟩⟩
  · obtain ⟨r, hr, er, cr⟩ := bf_R6 ws (Or.inl k)
    obtain ⟨r2, hr2, er2, cr2⟩ := bf_N6 ws k
    rw [be_1 k, cr, cr2] at H
    have i1 : vp_in (bf_R l i) 6 := by rw [er]; exact vp_in_nI hr (by decide)
    have i2 : vp_in (bf_N l i) 6 := by rw [er2]; exact vp_in_nI hr2 (by decide)
    exact ⟨hin, nm_r (eK 1 k) ⟨hin, nm_r eA (br_t rfl ⟨hin, nm_r eB ⟨i1, nm_r (e' := yrg r) (by rw [cr]) ⟨i2, i1, nm_r (e' := upd yrg r (yrg r2)) (by rw [cr, cr2]) ⟨i2, nm_r (e' := upd (upd yrg r (yrg r2)) r2 (yrg r)) (by rw [cr2]) (H _)⟩⟩⟩⟩)⟩⟩
  · obtain ⟨r, hr, er, cr⟩ := bf_R6 ws (by omega)
    rw [be_2 k, cr] at H
    refine ⟨hin, nm_r (eK 2 k) ⟨hin, nm_r (eA.trans er) (br_f (by decide) (br_t rfl (br_t rfl ?_)))⟩⟩
    cases w with
    | false => exact br_f (by decide) (ry_onto hr hh (fun z => by have H := H yeV; unfold bf_push at H; rw [if_neg (by decide), if_pos z] at H; exact H) (fun z => by have H := H yeV; unfold bf_push at H; rw [if_neg (by decide), if_neg z] at H; exact H))
    | true => exact br_t rfl (ry_off hr hh (fun z => by have H := H yeV; unfold bf_pop at H; rw [if_pos rfl, if_pos z] at H; exact H) (fun z => by have H := H yeV; unfold bf_pop at H; rw [if_pos rfl, if_neg z] at H; exact H))
  · obtain ⟨r, hr, er, cr⟩ := bf_R6 ws (by omega)
    rw [be_3 k, cr] at H
    refine ⟨hin, nm_r (eK 3 k) ⟨hin, nm_r (eA.trans er) (br_f (by decide) (br_f (by decide) (br_t rfl (br_f (by decide) ?_))))⟩⟩
    cases w with
    | false => exact br_t rfl (ry_off hr hh (fun z => by have H := H yeV; unfold bf_pop at H; rw [if_neg (by decide), if_pos z] at H; exact H) (fun z => by have H := H yeV; unfold bf_pop at H; rw [if_neg (by decide), if_neg z] at H; exact H))
    | true => exact br_f (by decide) (ry_onto hr hh (fun z => by have H := H yeV; unfold bf_push at H; rw [if_pos rfl, if_pos z] at H; exact H) (fun z => by have H := H yeV; unfold bf_push at H; rw [if_pos rfl, if_neg z] at H; exact H))
  · obtain ⟨r, hr, er, cr⟩ := bf_R6 ws (by omega)
    rw [be_6 k, cr] at H
    have i1 : vp_in (nI r) 6 := vp_in_nI hr (by decide)
    have hr2 : (nI r).toNatClampNeg = r := nI_clamp (by omega)
    refine ⟨hin, nm_r (eK 6 k) ⟨hin, nm_r (eA.trans er) (br_f (by decide) (br_f (by decide) (br_f (by decide) (br_f (by decide) (br_f (by decide) (br_f (by decide) ⟨by decide, hin, val (by omega) (fun eV => br_f (by decide) (br_f (by decide) (br_t rfl ?_)))⟩))))))⟩⟩
    cases w with
    | false => exact br_f (by decide) ⟨i1, i1, nm_r (e' := upd yrg r (yrg r + bf_v l yrg (bf_X l i))) (by rw [hr2]) (H eV)⟩
    | true => exact br_t rfl ⟨i1, i1, nm_r (e' := upd yrg r (yrg r - bf_v l yrg (bf_X l i))) (by rw [hr2]) (H eV)⟩
  · obtain ⟨r, hr, er, cr⟩ := bf_R6 ws (by omega)
    rw [be_7 k, cr] at H
    have i1 : vp_in (nI r) 6 := vp_in_nI hr (by decide)
    have hr2 : (nI r).toNatClampNeg = r := nI_clamp (by omega)
    refine ⟨hin, nm_r (eK 7 k) ⟨hin, nm_r (eA.trans er) (br_f (by decide) (br_f (by decide) (br_f (by decide) (br_f (by decide) (br_f (by decide) (br_f (by decide) ⟨by decide, hin, val (by omega) (fun eV => br_f (by decide) (br_f (by decide) (br_f (by decide) ?_)))⟩))))))⟩⟩
    cases w with
    | false => exact br_t rfl ⟨i1, i1, nm_r (e' := upd yrg r (yrg r - bf_v l yrg (bf_X l i))) (by rw [hr2]) (H eV)⟩
    | true => exact br_f (by decide) ⟨i1, i1, nm_r (e' := upd yrg r (yrg r + bf_v l yrg (bf_X l i))) (by rw [hr2]) (H eV)⟩
  · obtain ⟨r, hr, er, cr⟩ := bf_R6 ws (by omega)
    rw [be_8 k, cr] at H
    have i1 : vp_in (nI r) 6 := vp_in_nI hr (by decide)
    have hr2 : (nI r).toNatClampNeg = r := nI_clamp (by omega)
    exact ⟨hin, nm_r (eK 8 k) ⟨hin, nm_r (eA.trans er) (br_f (by decide) (br_f (by decide) (br_f (by decide) (br_f (by decide) (br_f (by decide) (br_f (by decide) ⟨by decide, hin, val (by omega) (fun eV => br_f (by decide) (br_t rfl ⟨i1, i1, nm_r (e' := upd yrg r (yrg r ^^^ bf_v l yrg (bf_X l i))) (by rw [hr2]) (H eV)⟩))⟩))))))⟩⟩
  · rw [be_9 k] at H
    refine ⟨hin, nm_r (eK 9 k) ⟨hin, nm_r eA (br_f (by decide) (br_f (by decide) (br_f (by decide) (br_f (by decide) (br_f (by decide) (br_f (by decide) ⟨by decide, hin, val (by omega) (fun eV => br_t rfl (br_c (fun z => ?_) (fun z => ?_)))⟩))))))⟩⟩
    · have H := H eV; rw [if_pos z] at H; exact H
    · have H := H eV; rw [if_neg z] at H; exact H
/-- where a call goes on -/
theorem ry_enter57 {p z : Nat} (hs : 16 * q + i < 64) (hp : p < 3) (hz : 0 < z) (eN : ysN (16 * q + i) = nI p) (eZ : ysz p = nI z)
    (H : post (ydp, ypd, yhi, yoh, yop, nI (16 * p + (z - 1)), yba, yca, yed, ysp, ysK, ysR, ysN, ysA, ysB, ysX, ysY, ysz, yeK, yeL, yeR, yeM, yct, yeV, ytS, ytP, yrg, ypn, yog, yoq, yoN, yoT, yoB)) : wY_enter_57 post (nI (16 * q + i)) ydp ypd yhi yoh yop ynx yba yca yed ysp ysK ysR ysN ysA ysB ysX ysY ysz yeK yeL yeR yeM yct yeV ytS ytP yrg ypn yog yoq yoN yoT yoB := by
  have hc : (nI (16 * q + i)).toNatClampNeg = 16 * q + i := nI_clamp (by omega)
  refine ⟨vp_in_nI hs (by decide), nm_r (e' := nI p) (by rw [hc]; exact eN) ⟨vp_in_nI (by omega) (by decide), nm_r ?_ H⟩⟩
  rw [nI_clamp (show p < 2 ^ 31 by omega), eZ]
  obtain ⟨z', rfl⟩ : ∃ z', z = z' + 1 := ⟨z - 1, by omega⟩
  show nI 16 * nI p + nI (z' + 1) - 1 = nI (16 * p + (z' + 1 - 1))
  rw [pk_mul, nI_add]
  exact nI_pred (16 * p + z')
theorem ry_call {k p z : Nat} (hs : 16 * q + i < 64) (hk : k < 140) (hc6 : c ≤ 6) (hn : n ≤ 300) (hp : p < 3) (hz : 0 < z) (h4 : bf_K (P q) i = 4 ∨ bf_K (P q) i = 5) (eK : ysK (16 * q + i) = nI (bf_K (P q) i)) (eN : ysN (16 * q + i) = nI p) (eZ : ysz p = nI z)
    (HT : 300 ≤ n → post (ydp, ypd, yhi, yoh, nI k, ynx, bx_b w, nI c, 2, nI n, ysK, ysR, ysN, ysA, ysB, ysX, ysY, ysz, yeK, yeL, yeR, yeM, yct, yeV, ytS, ytP, yrg, ypn, yog, yoq, yoN, yoT, yoB))
    (HD : ¬ 300 ≤ n → 6 ≤ c → post (ydp, ypd, yhi, yoh, nI k, ynx, bx_b w, nI c, 3, nI (n + 1), ysK, ysR, ysN, ysA, ysB, ysX, ysY, ysz, yeK, yeL, yeR, yeM, yct, yeV, ytS, ytP, yrg, ypn, yog, yoq, yoN, yoT, yoB))
    (H : ¬ 300 ≤ n → ¬ 6 ≤ c → post (ydp, ypd, yhi, yoh, nI (k + 1), nI (16 * p + (z - 1)), bx_b (w != decide (bf_K (P q) i = 5)), nI (c + 1), yed, nI (n + 1), ysK, ysR, ysN, ysA, ysB, ysX, ysY, ysz, yeK, yeL, yeR, yeM, yct, yeV, ytS, ytP, yrg, ypn, yog, yoq, upd yoN k (nI (16 * q + i)), upd yoT k 1, upd yoB k (bx_b w))) :
    wpY_simply post (ydp, ypd, yhi, yoh, nI k, ynx, bx_b w, nI c, yed, nI n, ysK, ysR, ysN, ysA, ysB, ysX, ysY, ysz, yeK, yeL, yeR, yeM, yct, yeV, ytS, ytP, yrg, ypn, yog, yoq, yoN, yoT, yoB) (nI (16 * q + i)) := by
  have hin : vp_in (nI (16 * q + i)) 64 := vp_in_nI hs (by decide)
  have hc : (nI (16 * q + i)).toNatClampNeg = 16 * q + i := nI_clamp (by omega)
  have eK' : ysK (nI (16 * q + i)).toNatClampNeg = nI (bf_K (P q) i) := by rw [hc]; exact eK
  refine pk_eq n 300 (fun z => HT (by omega)) (fun n3 => nm_r (nI_1 n) ⟨hin, nm_r eK' ⟨hin, nm_e ?_⟩⟩)
  have ent : wY_simply_139 post (nI (16 * q + i)) ydp ypd yhi yoh (nI k) ynx (bx_b w) (nI c) yed (nI (n + 1)) ysK ysR ysN ysA ysB ysX ysY ysz yeK yeL yeR yeM yct yeV ytS ytP yrg ypn yog yoq yoN yoT yoB := by
    refine pk_eq c 6 (fun z => HD (by omega) (by omega)) (fun z => nm_r (nI_1 c) (ry_push hk ⟨hin, ?_⟩))
    have H := H (by omega) (by omega)
    rw [eK']
    rcases h4 with k4 | k4
    · rw [k4] at H ⊢
      refine br_f (by decide) (ry_enter57 hs hp hz eN eZ ?_)
      cases w <;> exact H
    · rw [k4] at H ⊢
      refine br_t rfl ?_
      cases w
      · exact br_t rfl ⟨rfl, by decide, ry_enter57 hs hp hz eN eZ H⟩
      · exact br_f (by decide) ⟨rfl, by decide, ry_enter57 hs hp hz eN eZ H⟩
  rcases h4 with k4 | k4
  · rw [k4]; exact br_f (by decide) (br_f (by decide) (br_f (by decide) (br_t rfl ent)))
  · rw [k4]; exact br_f (by decide) (br_f (by decide) (br_f (by decide) (br_f (by decide) (br_t rfl ent))))
end
end
section
/-! The reference's run is a run of the machine -/
section
variable {ydp ypd yhi yoh yop ynx yba yca yed ysp : Int32} {ysK ysR ysN ysA ysB ysX ysY ysz yeK yeL yeR yeM yct yeV ytS ytP yrg ypn yog yoq yoN yoT yoB : Nat → Int32}
variable {post : SY → Prop} {P : Nat → bf_L} {g pl g0 p0 : Nat → Int32} {h q i t c n : Nat} {w : Bool} {fs : List bf_F}
theorem ry_begin (hP : ry_P P ysK ysR ysN ysA ysB ysX ysY ysz yeK yeL yeR) (W : bf_W P g0 p0 (g, pl, h, (q, i, 0, w) :: fs, c, n, 0)) (x : ry_f P yoN yoT yoB fs)
    (H : ∀ op nx ba ed eV N T B, ry_R P (bf_stp P g pl h q i 0 w fs c n) op nx ba ed N T B → post (ydp, ypd, nI (bf_stp P g pl h q i 0 w fs c n).2.2.1, yoh, op, nx, ba, nI (bf_stp P g pl h q i 0 w fs c n).2.2.2.2.1, ed, nI (bf_stp P g pl h q i 0 w fs c n).2.2.2.2.2.1, ysK, ysR, ysN, ysA, ysB, ysX, ysY, ysz, yeK, yeL, yeR, yeM, yct, eV, ytS, ytP, (bf_stp P g pl h q i 0 w fs c n).1, (bf_stp P g pl h q i 0 w fs c n).2.1, yog, yoq, N, T, B)) :
    wpY_begin post (ydp, ypd, nI h, yoh, nI (ry_m P fs), nI (16 * q + i), bx_b w, nI c, (-1), nI n, ysK, ysR, ysN, ysA, ysB, ysX, ysY, ysz, yeK, yeL, yeR, yeM, yct, yeV, ytS, ytP, g, pl, yog, yoq, yoN, yoT, yoB) := by
  obtain ⟨o, hcc, h6, hn, hh, -, -, -⟩ := W
  dsimp only at o hcc h6 hn hh
  have hq := o.1.1
  obtain ⟨hw, hz, hsl, hel, -⟩ := hP q hq
  dsimp only at hq hw hz hsl hel
  have hi : i < bf_sz (P q) := o.1.2.1
  have h16 := hw.1
  have hd := (bx_deep (ry_PG hP) o (hcc ▸ h6)).1
  have hm : ry_m P fs < 140 := by have := ry_m_le (P := P) fs; omega
  have hs : 16 * q + i < 64 := by omega
  have ws := hw.2.2.1 i hi
  have nf : bf_nf fs := o.2.2.1
  have hin : vp_in (nI (16 * q + i)) 64 := vp_in_nI hs (by decide)
  have hc : (nI (16 * q + i)).toNatClampNeg = 16 * q + i := nI_clamp (by omega)
  have eK : ∀ k : Nat, bf_K (P q) i = k → ysK (nI (16 * q + i)).toNatClampNeg = nI k := fun k z => by rw [hc, (hsl i hi).1, z]
  refine ⟨hin, ?_⟩
  rcases Nat.lt_or_ge (bf_K (P q) i) 10 with hk | hk
  · rw [eK _ rfl]
    refine br_f (nI_ge (b := 10) hk (by decide)) ?_
    by_cases h4 : bf_K (P q) i = 4 ∨ bf_K (P q) i = 5
    · obtain ⟨p, hp3, ep, cp⟩ := bf_N3 ws h4
      obtain ⟨-, hzp, -, -, eZ⟩ := hP p hp3
      refine ry_call (P := P) hs hm h6 hn hp3 hzp h4 (hsl i hi).1 (((hsl i hi).2.1 hk).2.trans ep) eZ (fun n3 => ?_) (fun n3 c6 => ?_) (fun n3 c6 => ?_)
      · rw [bs_callT h4 n3] at H; exact H _ _ _ _ _ _ _ _ ⟨rfl, fun z => absurd z (by simp)⟩
      · rw [bs_callD h4 n3 c6] at H; exact H _ _ _ _ _ _ _ _ ⟨rfl, fun z => absurd z (by simp)⟩
      · rw [bs_call h4 n3 c6, cp] at H
        exact H _ _ _ _ _ _ _ _ ⟨rfl, fun _ => ry_S_put (ry_fin_k (by omega)) x (fun z => absurd z (by omega))⟩
    · refine ry_leaf (l := P q) (by omega) hw hi hk h4 hh hn hsl hel (fun n3 => ?_) (fun n3 eV => ?_)
      · rw [bs_leafT hk h4 n3] at H; exact H _ _ _ _ _ _ _ _ ⟨rfl, fun z => absurd z (by simp)⟩
      · rw [bs_leaf hk h4 n3] at H; exact H _ _ _ _ _ _ _ _ ⟨rfl, fun _ => ry_S_nf nf x⟩
  · have hab := (hsl i hi).2.2.1 hk
    have eA : ysA (nI (16 * q + i)).toNatClampNeg = nI (bf_A (P q) i) := by rw [hc]; exact hab.1
    have eB : ysB (nI (16 * q + i)).toNatClampNeg = nI (bf_B (P q) i) := by rw [hc]; exact hab.2
    have hk3 : bf_K (P q) i = 10 ∨ bf_K (P q) i = 11 ∨ bf_K (P q) i = 12 := by have := ws.1; omega
    rcases hk3 with k | k | k
    · rw [eK 10 k]
      refine br_t (by decide) ⟨hin, br_t (by decide) ⟨hin, br_t (eK 10 k) (ry_push hm ?_)⟩⟩
      cases w with
      | false =>
        rw [bs_seqA (t := 0) (w := false) k rfl] at H
        exact br_t rfl ⟨hin, ry_go (by omega) (by omega) eA (H _ _ _ _ _ _ _ _ ⟨rfl, fun _ => ry_S_put (by exact (ry_fin_10 k).trans rfl) x (fun z => absurd z (by omega))⟩)⟩
      | true =>
        rw [bs_seqB (t := 0) (w := true) k rfl] at H
        exact br_f (by decide) ⟨hin, ry_go (by omega) (by omega) eB (H _ _ _ _ _ _ _ _ ⟨rfl, fun _ => ry_S_put (by exact (ry_fin_10 k).trans rfl) x (fun z => absurd z (by omega))⟩)⟩
    · rw [eK 11 k]
      rw [bs_if0 k] at H
      refine br_t (by decide) ⟨hin, br_f (by decide) (ry_true (near := true) (by omega) hw hi (by omega) hsl hel (fun v eV => ?_) (fun v eV => ?_))⟩
      · rw [v, if_neg Bool.false_ne_true] at H
        exact br_t rfl ⟨hin, br_f (by rw [eK 11 k]; decide) ⟨hin, br_t (eK 11 k) (br_t rfl (ry_push hm (br_t rfl ⟨hin, ry_go (by omega) (by omega) eB (H _ _ _ _ _ _ _ _ ⟨rfl, fun _ => ry_S_put (ry_fin_k (by omega)) x (fun _ => rfl)⟩)⟩)))⟩⟩
      · rw [v, if_pos rfl] at H
        exact br_f (by decide) ⟨hin, br_f (by rw [eK 11 k]; decide) ⟨hin, br_t (eK 11 k) (br_f (by decide) (ry_push hm (br_f (by decide) ⟨hin, ry_go (by omega) (by omega) eA (H _ _ _ _ _ _ _ _ ⟨rfl, fun _ => ry_S_put (ry_fin_k (by omega)) x (fun _ => rfl)⟩)⟩)))⟩⟩
    · rw [eK 12 k]
      refine br_t (by decide) ⟨hin, br_f (by decide) (ry_true (near := true) (by omega) hw hi (by omega) hsl hel (fun v eV => ?_) (fun v eV => ?_))⟩
      · rw [bs_lpF k (by decide) (by rw [v]; decide)] at H
        exact br_t rfl ⟨hin, br_f (by rw [eK 12 k]; decide) ⟨hin, br_f (by rw [eK 12 k]; decide) (br_t rfl (H _ _ _ _ _ _ _ _ ⟨rfl, fun z => absurd z (by simp)⟩))⟩⟩
      · rw [bs_lpA k (by decide) (by exact v.trans rfl)] at H
        exact br_f (by decide) ⟨hin, br_f (by rw [eK 12 k]; decide) ⟨hin, br_f (by rw [eK 12 k]; decide) (br_f (by decide) (ry_push hm ⟨hin, ry_go (by omega) (by omega) eA (H _ _ _ _ _ _ _ _ ⟨rfl, fun _ => ry_S_put (ry_fin_k (by omega)) x (fun _ => rfl)⟩)⟩))⟩⟩
theorem ry_pass (hP : ry_P P ysK ysR ysN ysA ysB ysX ysY ysz yeK yeL yeR) (W : bf_W P g0 p0 (g, pl, h, (q, i, t, w) :: fs, c, n, 0)) (t0 : t ≠ 0) (nfin : ry_fin P (q, i, t, w) = false) (x : ry_f P yoN yoT yoB ((q, i, t, w) :: fs))
    (H : ∀ op nx ba ed eV N T B, ry_R P (bf_stp P g pl h q i t w fs c n) op nx ba ed N T B → post (ydp, ypd, nI (bf_stp P g pl h q i t w fs c n).2.2.1, yoh, op, nx, ba, nI (bf_stp P g pl h q i t w fs c n).2.2.2.2.1, ed, nI (bf_stp P g pl h q i t w fs c n).2.2.2.2.2.1, ysK, ysR, ysN, ysA, ysB, ysX, ysY, ysz, yeK, yeL, yeR, yeM, yct, eV, ytS, ytP, (bf_stp P g pl h q i t w fs c n).1, (bf_stp P g pl h q i t w fs c n).2.1, yog, yoq, N, T, B)) :
    wpY_passUp post (ydp, ypd, nI h, yoh, nI (ry_m P fs + 1), (-1), yba, nI c, (-1), nI n, ysK, ysR, ysN, ysA, ysB, ysX, ysY, ysz, yeK, yeL, yeR, yeM, yct, yeV, ytS, ytP, g, pl, yog, yoq, yoN, yoT, yoB) := by
  obtain ⟨o, hcc, h6, hn, hh, -, -, -⟩ := W
  dsimp only at o hcc h6 hn hh
  have hq := o.1.1
  obtain ⟨hw, hz, hsl, hel, -⟩ := hP q hq
  dsimp only at hq hw hz hsl hel
  have hi : i < bf_sz (P q) := o.1.2.1
  have ht : t ≤ 2 := o.1.2.2.1
  have h16 := hw.1
  have hd := (bx_deep (ry_PG hP) o (hcc ▸ h6)).1
  have hm : ry_m P fs < 140 := by have := ry_m_le (P := P) fs; omega
  have hs : 16 * q + i < 64 := by omega
  have ws := hw.2.2.1 i hi
  have nf : bf_nf fs := o.2.2.1
  obtain ⟨xN, xT, xB⟩ := x.1 nfin
  have xr : ry_f P yoN yoT yoB fs := x.2
  dsimp only at xN xT xB
  have hin : vp_in (nI (16 * q + i)) 64 := vp_in_nI hs (by decide)
  have hc : (nI (16 * q + i)).toNatClampNeg = 16 * q + i := nI_clamp (by omega)
  have hio : vp_in (nI (ry_m P fs)) 140 := vp_in_nI hm (by decide)
  have hco : (nI (ry_m P fs)).toNatClampNeg = ry_m P fs := nI_clamp (by omega)
  have eK : ∀ k : Nat, bf_K (P q) i = k → ysK (nI (16 * q + i)).toNatClampNeg = nI k := fun k z => by rw [hc, (hsl i hi).1, z]
  have nb : narrow .boolean (.int (bx_b w)) = .int (bx_b w) := by cases w <;> rfl
  have fb : fits .boolean (.int (bx_b w)) = true := by cases w <;> decide
  refine br_f (nI_ne0 (Nat.succ_pos _) (by omega)) (nm_r (nI_pred _) ⟨hio, nm_r (e' := nI (16 * q + i)) (by rw [hco]; exact xN) ⟨hio, nm_r (e' := yoT (ry_m P fs)) (by rw [hco]) ⟨hio, nm_r (e' := bx_b w) (by rw [hco]; exact xB) ⟨nb, fb, hin, ?_⟩⟩⟩⟩)
  rcases Nat.lt_or_ge (bf_K (P q) i) 10 with hk | hk
  · have h4 : bf_K (P q) i = 4 ∨ bf_K (P q) i = 5 := (o.1.2.2.2 hk t0).1
    rw [bs_ret h4 t0] at H
    refine br_f (by rw [eK _ rfl]; exact nI_ge (b := 10) hk (by decide)) ?_
    have c1 : c = (c - 1) + 1 := by
      rw [bf_cc_1 hk t0] at hcc
      omega
    exact nm_r (e' := nI (c - 1)) (by rw [c1]; exact nI_pred _) (H _ _ _ _ _ _ _ _ ⟨rfl, fun _ => ry_S_nf nf xr⟩)
  · have hab := (hsl i hi).2.2.1 hk
    have eA : ysA (nI (16 * q + i)).toNatClampNeg = nI (bf_A (P q) i) := by rw [hc]; exact hab.1
    have eB : ysB (nI (16 * q + i)).toNatClampNeg = nI (bf_B (P q) i) := by rw [hc]; exact hab.2
    have hk3 : bf_K (P q) i = 10 ∨ bf_K (P q) i = 11 ∨ bf_K (P q) i = 12 := by have := ws.1; omega
    refine br_t (by rw [eK _ rfl]; exact nI_le (a := 10) hk (by omega)) ⟨hin, ?_⟩
    have h3 : t = 1 ∨ t = 2 := by omega
    rcases hk3 with k | k | k
    · refine br_t (eK 10 k) ?_
      rw [ry_fin_10 k] at nfin
      cases w with
      | false =>
        have t1 : t = 1 := by
          rcases h3 with z | z
          · exact z
          · rw [z] at nfin; exact absurd nfin (by decide)
        rw [bs_seqB k (by rw [t1]; rfl)] at H
        exact br_t rfl ⟨hin, ry_go (by omega) (by omega) eB (H _ _ _ _ _ _ _ _ ⟨rfl, fun _ => ry_S_fin (by exact (ry_fin_10 k).trans rfl) xr⟩)⟩
      | true =>
        have t2 : t = 2 := by
          rcases h3 with z | z
          · rw [z] at nfin; exact absurd nfin (by decide)
          · exact z
        rw [bs_seqA k (by rw [t2]; rfl)] at H
        exact br_f (by decide) ⟨hin, ry_go (by omega) (by omega) eA (H _ _ _ _ _ _ _ _ ⟨rfl, fun _ => ry_S_fin (by exact (ry_fin_10 k).trans rfl) xr⟩)⟩
    · refine br_f (by rw [eK 11 k]; decide) ⟨hin, br_t (eK 11 k) ?_⟩
      rw [xT (by omega)]
      refine ry_true (near := false) (by omega) hw hi (by omega) hsl hel (fun v eV => ?_) (fun v eV => ?_)
      · rcases h3 with rfl | rfl
        · rw [bs_ifF k (by decide) (by rw [v]; decide)] at H
          exact br_t rfl (br_f (by decide) (H _ _ _ _ _ _ _ _ ⟨rfl, fun z => absurd z (by simp)⟩))
        · rw [bs_ifC k (by decide) (by exact v.trans rfl)] at H
          exact br_f (by decide) (br_t rfl (H _ _ _ _ _ _ _ _ ⟨rfl, fun _ => ry_S_nf nf xr⟩))
      · rcases h3 with rfl | rfl
        · rw [bs_ifC k (by decide) (by exact v.trans rfl)] at H
          exact br_t rfl (br_t rfl (H _ _ _ _ _ _ _ _ ⟨rfl, fun _ => ry_S_nf nf xr⟩))
        · rw [bs_ifF k (by decide) (by rw [v]; decide)] at H
          exact br_f (by decide) (br_f (by decide) (H _ _ _ _ _ _ _ _ ⟨rfl, fun z => absurd z (by simp)⟩))
    · refine br_f (by rw [eK 12 k]; decide) ⟨hin, br_f (by rw [eK 12 k]; decide) ?_⟩
      rw [xT (by omega)]
      rcases h3 with rfl | rfl
      · rw [bs_lp1 k] at H
        refine br_t rfl (ry_true (near := false) (by omega) hw hi (by omega) hsl hel (fun v eV => br_t rfl ?_) (fun v eV => br_f (by decide) ?_))
        · rw [v, if_neg Bool.false_ne_true] at H
          exact ry_push hm ⟨hin, ry_go (by omega) (by omega) eB (H _ _ _ _ _ _ _ _ ⟨rfl, fun _ => ry_S_put (ry_fin_k (by omega)) xr (fun _ => rfl)⟩)⟩
        · rw [v, if_pos rfl] at H
          exact H _ _ _ _ _ _ _ _ ⟨rfl, fun _ => ry_S_nf nf xr⟩
      · refine br_f (by decide) (ry_true (near := true) (by omega) hw hi (by omega) hsl hel (fun v eV => br_t rfl ?_) (fun v eV => br_f (by decide) ?_))
        · rw [bs_lpA k (by decide) (by exact v.trans rfl)] at H
          exact ry_push hm ⟨hin, ry_go (by omega) (by omega) eA (H _ _ _ _ _ _ _ _ ⟨rfl, fun _ => ry_S_put (ry_fin_k (by omega)) xr (fun _ => rfl)⟩)⟩
        · rw [bs_lpF k (by decide) (by rw [v]; decide)] at H
          exact H _ _ _ _ _ _ _ _ ⟨rfl, fun z => absurd z (by simp)⟩
/-- a seq that is through: the reference makes no turn -/
theorem ry_skip {N T B : Nat → Int32} {op nx ba ed : Int32} (W : bf_W P g0 p0 (g, pl, h, (q, i, t, w) :: fs, c, n, 0)) (fin : ry_fin P (q, i, t, w) = true)
    (x : ry_R P (g, pl, h, (q, i, t, w) :: fs, c, n, 0) op nx ba ed N T B) : bf_stp P g pl h q i t w fs c n = (g, pl, h, fs, c, n, 0) ∧ ry_R P (g, pl, h, fs, c, n, 0) op nx ba ed N T B := by
  have k : bf_K (P q) i = 10 := by
    rcases Decidable.em (bf_K (P q) i = 10) with z | z
    · exact z
    · rw [ry_fin_k z] at fin; exact absurd fin (by decide)
  rw [ry_fin_10 k] at fin
  have ht := of_decide_eq_true fin
  have t0 : t ≠ 0 := by rw [ht]; cases w <;> decide
  refine ⟨bs_seqC k ht, x.1, fun _ => ?_⟩
  obtain ⟨e1, e2, e3⟩ := (x.2 rfl).2 t0
  rw [ry_m_f (by rw [ry_fin_10 k]; exact fin)] at e2
  subst e1 e2
  exact ry_S_nf W.1.2.2.1 e3.2
end
/-! remember and undo -/
section
variable {ydp ypd yhi yoh yop ynx yba yca yed ysp : Int32} {ysK ysR ysN ysA ysB ysX ysY ysz yeK yeL yeR yeM yct yeV ytS ytP yrg ypn yog yoq yoN yoT yoB : Nat → Int32}
theorem ry_keep2 {post : SY → Prop} (H : ∀ kp, (∀ i, i < 12 → kp i = ypn i) → post (ydp, ypd, yhi, yhi, yop, ynx, yba, yca, yed, ysp, ysK, ysR, ysN, ysA, ysB, ysX, ysY, ysz, yeK, yeL, yeR, yeM, yct, yeV, ytS, ytP, yrg, ypn, yog, kp, yoN, yoT, yoB)) :
    ∀ d j kp, j + d = 12 → (∀ i, i < j → kp i = ypn i) → wY_remember_28 post ydp ypd yhi yoh yop ynx yba yca yed ysp (d + 1) (nI j) ysK ysR ysN ysA ysB ysX ysY ysz yeK yeL yeR yeM yct yeV ytS ytP yrg ypn yog kp yoN yoT yoB := by
  intro d
  induction d with
  | zero => intro j kp hj hv; exact br_t (nI_le (a := 12) (by omega) (by omega)) (H kp (fun i hi => hv i (by omega)))
  | succ d ih =>
    intro j kp hj hv
    have hin : vp_in (nI j) 12 := vp_in_nI (by omega) (by decide)
    have hc : (nI j).toNatClampNeg = j := nI_clamp (by omega)
    refine br_f (nI_ge (b := 12) (by omega) (by decide)) ⟨hin, hin, nm_r (e' := upd kp j (ypn j)) (by rw [hc]) (nm_r (nI_1 j) (ih (j + 1) _ (by omega) (fun i hi => ?_)))⟩
    by_cases e : i = j
    · rw [e, pk_us]
    · rw [pk_un e]; exact hv i (by omega)
theorem ry_keep1 {post : SY → Prop} (H : ∀ kr kp, (∀ i, i < 6 → kr i = yrg i) → (∀ i, i < 12 → kp i = ypn i) → post (ydp, ypd, yhi, yhi, yop, ynx, yba, yca, yed, ysp, ysK, ysR, ysN, ysA, ysB, ysX, ysY, ysz, yeK, yeL, yeR, yeM, yct, yeV, ytS, ytP, yrg, ypn, kr, kp, yoN, yoT, yoB)) :
    ∀ d j kr, j + d = 6 → (∀ i, i < j → kr i = yrg i) → wY_remember_2 post ydp ypd yhi yoh yop ynx yba yca yed ysp (d + 1) (nI j) ysK ysR ysN ysA ysB ysX ysY ysz yeK yeL yeR yeM yct yeV ytS ytP yrg ypn kr yoq yoN yoT yoB := by
  intro d
  induction d with
  | zero => intro j kr hj hv; exact br_t (nI_le (a := 6) (by omega) (by omega)) ⟨13, ry_keep2 (fun kp h => H kr kp (fun i hi => hv i (by omega)) h) 12 0 yoq rfl (fun i z => absurd z (Nat.not_lt_zero i))⟩
  | succ d ih =>
    intro j kr hj hv
    have hin : vp_in (nI j) 6 := vp_in_nI (by omega) (by decide)
    have hc : (nI j).toNatClampNeg = j := nI_clamp (by omega)
    refine br_f (nI_ge (b := 6) (by omega) (by decide)) ⟨hin, hin, nm_r (e' := upd kr j (yrg j)) (by rw [hc]) (nm_r (nI_1 j) (ih (j + 1) _ (by omega) (fun i hi => ?_)))⟩
    by_cases e : i = j
    · rw [e, pk_us]
    · rw [pk_un e]; exact hv i (by omega)
theorem ry_keep {post : SY → Prop} (H : ∀ kr kp, (∀ i, i < 6 → kr i = yrg i) → (∀ i, i < 12 → kp i = ypn i) → post (ydp, ypd, yhi, yhi, yop, ynx, yba, yca, yed, ysp, ysK, ysR, ysN, ysA, ysB, ysX, ysY, ysz, yeK, yeL, yeR, yeM, yct, yeV, ytS, ytP, yrg, ypn, kr, kp, yoN, yoT, yoB)) : wpY_remember post (ydp, ypd, yhi, yoh, yop, ynx, yba, yca, yed, ysp, ysK, ysR, ysN, ysA, ysB, ysX, ysY, ysz, yeK, yeL, yeR, yeM, yct, yeV, ytS, ytP, yrg, ypn, yog, yoq, yoN, yoT, yoB) :=
  ⟨7, ry_keep1 H 6 0 yog rfl (fun i z => absurd z (Nat.not_lt_zero i))⟩
theorem ry_rest2 {post : SY → Prop} {p0 : Nat → Int32} (hk : ∀ i, i < 12 → yoq i = p0 i) (H : post (ydp, ypd, yoh, yoh, yop, ynx, yba, yca, yed, ysp, ysK, ysR, ysN, ysA, ysB, ysX, ysY, ysz, yeK, yeL, yeR, yeM, yct, yeV, ytS, ytP, yrg, p0, yog, yoq, yoN, yoT, yoB)) :
    ∀ d j pn, j + d = 12 → (∀ i, i < j ∨ 12 ≤ i → pn i = p0 i) → wY_undo_28 post ydp ypd yhi yoh yop ynx yba yca yed ysp (d + 1) (nI j) ysK ysR ysN ysA ysB ysX ysY ysz yeK yeL yeR yeM yct yeV ytS ytP yrg pn yog yoq yoN yoT yoB := by
  intro d
  induction d with
  | zero =>
    intro j pn hj hv
    have e : pn = p0 := funext (fun i => hv i (by omega))
    rw [e]
    exact br_t (nI_le (a := 12) (by omega) (by omega)) H
  | succ d ih =>
    intro j pn hj hv
    have hin : vp_in (nI j) 12 := vp_in_nI (by omega) (by decide)
    have hc : (nI j).toNatClampNeg = j := nI_clamp (by omega)
    refine br_f (nI_ge (b := 12) (by omega) (by decide)) ⟨hin, hin, nm_r (e' := upd pn j (yoq j)) (by rw [hc]) (nm_r (nI_1 j) (ih (j + 1) _ (by omega) (fun i hi => ?_)))⟩
    by_cases e : i = j
    · rw [e, pk_us]; exact hk j (by omega)
    · rw [pk_un e]; exact hv i (by omega)
theorem ry_rest1 {post : SY → Prop} {g0 p0 : Nat → Int32} (hr : ∀ i, i < 6 → yog i = g0 i) (hk : ∀ i, i < 12 → yoq i = p0 i) (hp : ∀ i, 12 ≤ i → ypn i = p0 i) (H : post (ydp, ypd, yoh, yoh, yop, ynx, yba, yca, yed, ysp, ysK, ysR, ysN, ysA, ysB, ysX, ysY, ysz, yeK, yeL, yeR, yeM, yct, yeV, ytS, ytP, g0, p0, yog, yoq, yoN, yoT, yoB)) :
    ∀ d j rg, j + d = 6 → (∀ i, i < j ∨ 6 ≤ i → rg i = g0 i) → wY_undo_2 post ydp ypd yhi yoh yop ynx yba yca yed ysp (d + 1) (nI j) ysK ysR ysN ysA ysB ysX ysY ysz yeK yeL yeR yeM yct yeV ytS ytP rg ypn yog yoq yoN yoT yoB := by
  intro d
  induction d with
  | zero =>
    intro j rg hj hv
    have e : rg = g0 := funext (fun i => hv i (by omega))
    rw [e]
    exact br_t (nI_le (a := 6) (by omega) (by omega)) ⟨13, ry_rest2 hk H 12 0 ypn rfl (fun i z => hp i (by omega))⟩
  | succ d ih =>
    intro j rg hj hv
    have hin : vp_in (nI j) 6 := vp_in_nI (by omega) (by decide)
    have hc : (nI j).toNatClampNeg = j := nI_clamp (by omega)
    refine br_f (nI_ge (b := 6) (by omega) (by decide)) ⟨hin, hin, nm_r (e' := upd rg j (yog j)) (by rw [hc]) (nm_r (nI_1 j) (ih (j + 1) _ (by omega) (fun i hi => ?_)))⟩
    by_cases e : i = j
    · rw [e, pk_us]; exact hr j (by omega)
    · rw [pk_un e]; exact hv i (by omega)
theorem ry_rest {post : SY → Prop} {g0 p0 : Nat → Int32} (hr : ∀ i, i < 6 → yog i = g0 i) (hk : ∀ i, i < 12 → yoq i = p0 i) (hg : ∀ i, 6 ≤ i → yrg i = g0 i) (hp : ∀ i, 12 ≤ i → ypn i = p0 i)
    (H : post (ydp, ypd, yoh, yoh, yop, ynx, yba, yca, yed, ysp, ysK, ysR, ysN, ysA, ysB, ysX, ysY, ysz, yeK, yeL, yeR, yeM, yct, yeV, ytS, ytP, g0, p0, yog, yoq, yoN, yoT, yoB)) : wpY_undo post (ydp, ypd, yhi, yoh, yop, ynx, yba, yca, yed, ysp, ysK, ysR, ysN, ysA, ysB, ysX, ysY, ysz, yeK, yeL, yeR, yeM, yct, yeV, ytS, ytP, yrg, ypn, yog, yoq, yoN, yoT, yoB) :=
  ⟨7, ry_rest1 hr hk hp H 6 0 yrg rfl (fun i z => hg i (by omega))⟩
end
section
variable {ydp ypd yhi yoh yop ynx yba yca yed ysp : Int32} {ysK ysR ysN ysA ysB ysX ysY ysz yeK yeL yeR yeM yct yeV ytS ytP yrg ypn yog yoq yoN yoT yoB : Nat → Int32}
variable {P : Nat → bf_L} {g0 p0 : Nat → Int32}
/-- the loop; the remembered state is that of the beginning -/
theorem ry_loop {post : Int32 → SY → Prop} (hP : ry_P P ysK ysR ysN ysA ysB ysX ysY ysz yeK yeL yeR) {mf : bf_M} (hr : ∀ i, i < 6 → yog i = g0 i) (hk : ∀ i, i < 12 → yoq i = p0 i)
    (H0 : mf.2.2.2.2.2.2 = 0 → ∀ op nx ba eV N T B, post 0 (ydp, ypd, nI mf.2.2.1, yoh, op, nx, ba, nI mf.2.2.2.2.1, 0, nI mf.2.2.2.2.2.1, ysK, ysR, ysN, ysA, ysB, ysX, ysY, ysz, yeK, yeL, yeR, yeM, yct, eV, ytS, ytP, mf.1, mf.2.1, yog, yoq, N, T, B))
    (HF : mf.2.2.2.2.2.2 ≠ 0 → ∀ op nx ba eV N T B, post (nI mf.2.2.2.2.2.2) (ydp, ypd, yoh, yoh, op, nx, ba, nI mf.2.2.2.2.1, nI mf.2.2.2.2.2.2, nI mf.2.2.2.2.2.1, ysK, ysR, ysN, ysA, ysB, ysX, ysY, ysz, yeK, yeL, yeR, yeM, yct, eV, ytS, ytP, g0, p0, yog, yoq, N, T, B)) :
    ∀ (k : Nat) (m : bf_M), bf_to P k m mf → bf_W P g0 p0 m → ∀ (F : Nat) (op nx ba ed : Int32) (eV N T B : Nat → Int32), k + 1 < F → ry_R P m op nx ba ed N T B → wY_run_65 post F ydp ypd (nI m.2.2.1) yoh op nx ba (nI m.2.2.2.2.1) ed (nI m.2.2.2.2.2.1) ysK ysR ysN ysA ysB ysX ysY ysz yeK yeL yeR yeM yct eV ytS ytP m.1 m.2.1 yog yoq N T B := by
  intro k
  induction k with
  | zero =>
    intro m hto W F op nx ba ed eV N T B hF x
    obtain ⟨e, hh⟩ := hto
    subst e
    obtain ⟨F, rfl⟩ : ∃ F', F = F' + 2 := ⟨F - 2, by omega⟩
    obtain ⟨g, pl, h, fs, c, n, z⟩ := m
    have h3 : z ≤ 3 := W.2.2.2.2.2.2.2
    have e1 : ed = ry_e z := x.1
    subst e1
    by_cases hz : z = 0
    · subst hz
      have hf : fs = [] := hh.resolve_right (fun q => q rfl)
      subst hf
      obtain ⟨e2, e3⟩ := x.2 rfl
      subst e2 e3
      exact br_t rfl (br_t (by decide) (br_t rfl (br_f (by decide) (br_t rfl (H0 rfl _ _ _ _ _ _ _)))))
    · have e4 : ry_e z = nI z := if_neg hz
      rw [e4]
      have h1 : ¬ nI z = -1 := by
        have : z = 1 ∨ z = 2 ∨ z = 3 := by omega
        rcases this with rfl | rfl | rfl <;> decide
      exact br_f h1 (br_f (bx_ne (b := 0) hz) (ry_rest hr hk W.2.2.2.2.2.1 W.2.2.2.2.2.2.1 (HF hz _ _ _ _ _ _ _)))
  | succ k ih =>
    intro m hto W F op nx ba ed eV N T B hF x
    obtain ⟨g, pl, h, q, i, t, w, fs, c, n, rfl, hto⟩ := hto
    have W' := (bf_stp_W (ry_PG hP) W).1
    have e1 : ed = -1 := x.1
    subst e1
    obtain ⟨F, rfl⟩ : ∃ F', F = F' + 1 := ⟨F - 1, by omega⟩
    by_cases t0 : t = 0
    · subst t0
      obtain ⟨e2, e3, e4, x1⟩ := (x.2 rfl).1 rfl
      subst e2 e3 e4
      refine br_t rfl (br_f (nI_pos (by have := (hP q W.1.1.1).1.1; have := W.1.1.2.1; have := W.1.1.1; dsimp only at *; omega)) ?_)
      exact ry_begin hP W x1 (fun op nx ba ed eV N T B xx => ih _ hto W' F op nx ba ed eV N T B (by omega) xx)
    · cases fin : ry_fin P (q, i, t, w) with
      | true =>
        obtain ⟨es, xx⟩ := ry_skip W fin x
        rw [es] at hto W'
        exact ih _ hto W' (F + 1) op nx ba (-1) eV N T B (by omega) xx
      | false =>
        obtain ⟨e2, e3, x1⟩ := (x.2 rfl).2 t0
        rw [ry_m_n fin] at e3
        subst e2 e3
        refine br_t rfl (br_t (by decide) ?_)
        exact ry_pass hP W t0 fin x1 (fun op nx ba ed eV N T B xx => ih _ hto W' F op nx ba ed eV N T B (by omega) xx)
end
end
section
/-! The relation; how drafts grow -/
def bg_addE (l : bf_L) (ε : bf_E) : bf_L := (l.1, fun e => if e = bf_ct l then ε else l.2.1 e, bf_sz l, bf_ct l + 1)
def bg_addS (l : bf_L) (σ : bf_S) : bf_L := (fun i => if i = bf_sz l then σ else l.1 i, l.2.1, bf_sz l + 1, bf_ct l)
def bg_emp (l : bf_L) : bf_L := (l.1, l.2.1, 0, 0)
def bg_put (P : Nat → bf_L) (q : Nat) (l : bf_L) : Nat → bf_L := fun j => if j = q then l else P j
def bg_at (f : Nat → Nat) (k x : Nat) : Nat → Nat := fun j => if j = k then x else f j
theorem bg_put_s {P : Nat → bf_L} {q : Nat} {l : bf_L} : bg_put P q l q = l := if_pos rfl
theorem bg_put_n {P : Nat → bf_L} {q j : Nat} {l : bf_L} (h : j ≠ q) : bg_put P q l j = P j := if_neg h
theorem bg_at_s {f : Nat → Nat} {k x : Nat} : bg_at f k x k = x := if_pos rfl
theorem bg_at_n {f : Nat → Nat} {k x j : Nat} (h : j ≠ k) : bg_at f k x j = f j := if_neg h
/-- the encodings, by values -/
def bx_s1 (b : Nat) (σ : bf_S) (vK vA vB vX vY : Int32) : Prop :=
  vK = nI σ.1 ∧ (σ.1 < 10 → vA = σ.2.1 ∧ vB = σ.2.2.1) ∧ (10 ≤ σ.1 → vA = nI (16 * b + σ.2.2.2.1) ∧ vB = nI (16 * b + σ.2.2.2.2.1)) ∧
    (6 ≤ σ.1 → σ.1 ≠ 10 → vX = nI (24 * b + σ.2.2.2.2.2.1)) ∧ (11 ≤ σ.1 → vY = nI (24 * b + σ.2.2.2.2.2.2))
def bx_e1 (b : Nat) (ε : bf_E) (vK vX vY : Int32) : Prop :=
  vK = nI ε.1 ∧ (ε.1 = 7 → vX = ε.2.1) ∧ (ε.1 = 8 → vX = nI ε.2.2.1) ∧ (ε.1 ≤ 6 → vX = nI (24 * b + ε.2.2.1) ∧ vY = nI (24 * b + ε.2.2.2))
def ry_s1 (σ : bf_S) (vK vR vN vA vB vX vY : Int32) : Prop :=
  vK = nI σ.1 ∧ (σ.1 < 10 → vR = σ.2.1 ∧ vN = σ.2.2.1) ∧ (10 ≤ σ.1 → vA = nI σ.2.2.2.1 ∧ vB = nI σ.2.2.2.2.1) ∧
    (6 ≤ σ.1 → σ.1 ≠ 10 → vX = nI σ.2.2.2.2.2.1) ∧ (11 ≤ σ.1 → vY = nI σ.2.2.2.2.2.2)
def ry_e1 (ε : bf_E) (vK vL vR : Int32) : Prop :=
  vK = nI ε.1 ∧ (ε.1 = 7 → vL = ε.2.1) ∧ (ε.1 = 8 → vL = nI ε.2.2.1) ∧ (ε.1 ≤ 6 → vL = nI ε.2.2.1 ∧ vR = nI ε.2.2.2)
theorem bx_el_i {b : Nat} {l : bf_L} {eK eX eY : Nat → Int32} : bx_el b l eK eX eY ↔ ∀ e, e < bf_ct l → bx_e1 b (l.2.1 e) (eK (24 * b + e)) (eX (24 * b + e)) (eY (24 * b + e)) := Iff.rfl
theorem bx_sl_i {b : Nat} {l : bf_L} {sK sA sB sX sY : Nat → Int32} : bx_sl b l sK sA sB sX sY ↔ ∀ i, i < bf_sz l → bx_s1 b (l.1 i) (sK (16 * b + i)) (sA (16 * b + i)) (sB (16 * b + i)) (sX (16 * b + i)) (sY (16 * b + i)) := Iff.rfl
theorem ry_el_i {q : Nat} {l : bf_L} {eK eL eR : Nat → Int32} : ry_el q l eK eL eR ↔ ∀ e, e < bf_ct l → ry_e1 (l.2.1 e) (eK (24 * q + e)) (eL (24 * q + e)) (eR (24 * q + e)) := Iff.rfl
theorem ry_sl_i {q : Nat} {l : bf_L} {sK sR sN sA sB sX sY : Nat → Int32} : ry_sl q l sK sR sN sA sB sX sY ↔ ∀ i, i < bf_sz l → ry_s1 (l.1 i) (sK (16 * q + i)) (sR (16 * q + i)) (sN (16 * q + i)) (sA (16 * q + i)) (sB (16 * q + i)) (sX (16 * q + i)) (sY (16 * q + i)) := Iff.rfl
/-- a slot grows by what was written behind it; another slot keeps -/
theorem bx_el_c {b : Nat} {l : bf_L} {eK eX eY eK' eX' eY' : Nat → Int32} (h : bx_el b l eK eX eY) (c : ∀ e, e < bf_ct l → eK' (24 * b + e) = eK (24 * b + e) ∧ eX' (24 * b + e) = eX (24 * b + e) ∧ eY' (24 * b + e) = eY (24 * b + e)) : bx_el b l eK' eX' eY' := by
  intro e he
  obtain ⟨c1, c2, c3⟩ := c e he
  rw [c1, c2, c3]
  exact h e he
theorem bx_el_a {b : Nat} {l : bf_L} {ε : bf_E} {eK eX eY eK' eX' eY' : Nat → Int32} (h : bx_el b l eK eX eY) (c : ∀ e, e < bf_ct l → eK' (24 * b + e) = eK (24 * b + e) ∧ eX' (24 * b + e) = eX (24 * b + e) ∧ eY' (24 * b + e) = eY (24 * b + e))
    (n : bx_e1 b ε (eK' (24 * b + bf_ct l)) (eX' (24 * b + bf_ct l)) (eY' (24 * b + bf_ct l))) : bx_el b (bg_addE l ε) eK' eX' eY' := by
  rw [bx_el_i]
  intro e he
  show bx_e1 b (if e = bf_ct l then ε else l.2.1 e) _ _ _
  by_cases z : e = bf_ct l
  · rw [if_pos z, z]; exact n
  · rw [if_neg z]
    have he' : e < bf_ct l := by have : e < bf_ct l + 1 := he; omega
    exact (bx_el_i.mp (bx_el_c h c)) e he'
theorem bx_sl_c {b : Nat} {l : bf_L} {sK sA sB sX sY sK' sA' sB' sX' sY' : Nat → Int32} (h : bx_sl b l sK sA sB sX sY)
    (c : ∀ i, i < bf_sz l → sK' (16 * b + i) = sK (16 * b + i) ∧ sA' (16 * b + i) = sA (16 * b + i) ∧ sB' (16 * b + i) = sB (16 * b + i) ∧ sX' (16 * b + i) = sX (16 * b + i) ∧ sY' (16 * b + i) = sY (16 * b + i)) : bx_sl b l sK' sA' sB' sX' sY' := by
  intro i hi
  obtain ⟨c1, c2, c3, c4, c5⟩ := c i hi
  rw [c1, c2, c3, c4, c5]
  exact h i hi
theorem bx_sl_a {b : Nat} {l : bf_L} {σ : bf_S} {sK sA sB sX sY sK' sA' sB' sX' sY' : Nat → Int32} (h : bx_sl b l sK sA sB sX sY)
    (c : ∀ i, i < bf_sz l → sK' (16 * b + i) = sK (16 * b + i) ∧ sA' (16 * b + i) = sA (16 * b + i) ∧ sB' (16 * b + i) = sB (16 * b + i) ∧ sX' (16 * b + i) = sX (16 * b + i) ∧ sY' (16 * b + i) = sY (16 * b + i))
    (n : bx_s1 b σ (sK' (16 * b + bf_sz l)) (sA' (16 * b + bf_sz l)) (sB' (16 * b + bf_sz l)) (sX' (16 * b + bf_sz l)) (sY' (16 * b + bf_sz l))) : bx_sl b (bg_addS l σ) sK' sA' sB' sX' sY' := by
  rw [bx_sl_i]
  intro i hi
  show bx_s1 b (if i = bf_sz l then σ else l.1 i) _ _ _ _ _
  by_cases z : i = bf_sz l
  · rw [if_pos z, z]; exact n
  · rw [if_neg z]
    have hi' : i < bf_sz l := by have : i < bf_sz l + 1 := hi; omega
    exact (bx_sl_i.mp (bx_sl_c h c)) i hi'
theorem ry_el_c {q : Nat} {l : bf_L} {eK eX eY eK' eX' eY' : Nat → Int32} (h : ry_el q l eK eX eY) (c : ∀ e, e < bf_ct l → eK' (24 * q + e) = eK (24 * q + e) ∧ eX' (24 * q + e) = eX (24 * q + e) ∧ eY' (24 * q + e) = eY (24 * q + e)) : ry_el q l eK' eX' eY' := by
  intro e he
  obtain ⟨c1, c2, c3⟩ := c e he
  rw [c1, c2, c3]
  exact h e he
theorem ry_el_a {q : Nat} {l : bf_L} {ε : bf_E} {eK eX eY eK' eX' eY' : Nat → Int32} (h : ry_el q l eK eX eY) (c : ∀ e, e < bf_ct l → eK' (24 * q + e) = eK (24 * q + e) ∧ eX' (24 * q + e) = eX (24 * q + e) ∧ eY' (24 * q + e) = eY (24 * q + e))
    (n : ry_e1 ε (eK' (24 * q + bf_ct l)) (eX' (24 * q + bf_ct l)) (eY' (24 * q + bf_ct l))) : ry_el q (bg_addE l ε) eK' eX' eY' := by
  rw [ry_el_i]
  intro e he
  show ry_e1 (if e = bf_ct l then ε else l.2.1 e) _ _ _
  by_cases z : e = bf_ct l
  · rw [if_pos z, z]; exact n
  · rw [if_neg z]
    have he' : e < bf_ct l := by have : e < bf_ct l + 1 := he; omega
    exact (ry_el_i.mp (ry_el_c h c)) e he'
theorem ry_sl_c {q : Nat} {l : bf_L} {sK sR sN sA sB sX sY sK' sR' sN' sA' sB' sX' sY' : Nat → Int32} (h : ry_sl q l sK sR sN sA sB sX sY) (c : ∀ i, i < bf_sz l → sK' (16 * q + i) = sK (16 * q + i) ∧ sR' (16 * q + i) = sR (16 * q + i) ∧ sN' (16 * q + i) = sN (16 * q + i) ∧ sA' (16 * q + i) = sA (16 * q + i) ∧ sB' (16 * q + i) = sB (16 * q + i) ∧ sX' (16 * q + i) = sX (16 * q + i) ∧ sY' (16 * q + i) = sY (16 * q + i)) : ry_sl q l sK' sR' sN' sA' sB' sX' sY' := by
  intro i hi
  obtain ⟨c1, c2, c3, c4, c5, c6, c7⟩ := c i hi
  rw [c1, c2, c3, c4, c5, c6, c7]
  exact h i hi
theorem ry_sl_a {q : Nat} {l : bf_L} {σ : bf_S} {sK sR sN sA sB sX sY sK' sR' sN' sA' sB' sX' sY' : Nat → Int32} (h : ry_sl q l sK sR sN sA sB sX sY) (c : ∀ i, i < bf_sz l → sK' (16 * q + i) = sK (16 * q + i) ∧ sR' (16 * q + i) = sR (16 * q + i) ∧ sN' (16 * q + i) = sN (16 * q + i) ∧ sA' (16 * q + i) = sA (16 * q + i) ∧ sB' (16 * q + i) = sB (16 * q + i) ∧ sX' (16 * q + i) = sX (16 * q + i) ∧ sY' (16 * q + i) = sY (16 * q + i))
    (n : ry_s1 σ (sK' (16 * q + bf_sz l)) (sR' (16 * q + bf_sz l)) (sN' (16 * q + bf_sz l)) (sA' (16 * q + bf_sz l)) (sB' (16 * q + bf_sz l)) (sX' (16 * q + bf_sz l)) (sY' (16 * q + bf_sz l))) : ry_sl q (bg_addS l σ) sK' sR' sN' sA' sB' sX' sY' := by
  rw [ry_sl_i]
  intro i hi
  show ry_s1 (if i = bf_sz l then σ else l.1 i) _ _ _ _ _ _ _
  by_cases z : i = bf_sz l
  · rw [if_pos z, z]; exact n
  · rw [if_neg z]
    have hi' : i < bf_sz l := by have : i < bf_sz l + 1 := hi; omega
    exact (ry_sl_i.mp (ry_sl_c h c)) i hi'
/-! well-formedness of the ghosts -/
def bg_W (bk : Nat → Nat) (P : Nat → bf_L) (es ss h : Nat) (pc sc : Nat → Nat) : Prop :=
  (∀ q, q < 4 → bk q < 4 ∧ bf_wL (P q)) ∧ (∀ q q', q < 4 → q' < 4 → bk q = bk q' → q = q') ∧ (∀ q, q < 3 → 0 < bf_sz (P q)) ∧
  es ≤ bf_ct (P 3) ∧ (∀ j, j < es → pc j < bf_ct (P 3)) ∧ ss ≤ bf_sz (P 3) ∧ (∀ j, j < ss → sc j < bf_sz (P 3)) ∧
  (0 < bf_sz (P 3) → 0 < ss ∧ sc (ss - 1) = bf_sz (P 3) - 1) ∧ h ≤ 12
def bg_X (bk : Nat → Nat) (P : Nat → bf_L) (es ss h : Nat) (pc sc : Nat → Nat) (M g pl : Nat → Int32) (so oc : Int32) (u : SX) : Prop := match u with
  | (xph, xkh, xes, xem, xss, xsm, xdb, xfo, xco, xst, xen, xlo, xrg, xpn, xkr, xkp, xeK, xeX, xeY, xeR, xeV, xeS, xsK, xsA, xsB, xsX, xsY, xsS, xpB, xpS, xfS, xfT, xfB) => xph = nI h ∧ xes = nI es ∧ xem = nI (bf_ct (P 3)) ∧ xss = nI ss ∧ xsm = nI (bf_sz (P 3)) ∧ xdb = nI (bk 3) ∧ xst = so ∧ xlo = oc ∧ xrg = g ∧ xpn = pl ∧
    (∀ q, q < 4 → bx_sl (bk q) (P q) xsK xsA xsB xsX xsY ∧ bx_el (bk q) (P q) xeK xeX xeY) ∧
    (∀ e, e < bf_ct (P 3) → xeR (24 * bk 3 + e) = M e) ∧ (∀ j, j < es → xeS j = nI (24 * bk 3 + pc j)) ∧ (∀ j, j < ss → xsS j = nI (16 * bk 3 + sc j)) ∧
    (∀ p, p < 3 → xpB p = nI (bk p) ∧ xpS p = nI (16 * bk p + (bf_sz (P p) - 1)))
def bg_Y (P : Nat → bf_L) (es ss h : Nat) (pc sc : Nat → Nat) (M g pl : Nat → Int32) (so oc : Int32) (v : SY) : Prop := match v with
  | (ydp, ypd, yhi, yoh, yop, ynx, yba, yca, yed, ysp, ysK, ysR, ysN, ysA, ysB, ysX, ysY, ysz, yeK, yeL, yeR, yeM, yct, yeV, ytS, ytP, yrg, ypn, yog, yoq, yoN, yoT, yoB) => yhi = nI h ∧ ypd = nI es ∧ ydp = nI ss ∧ yct 3 = nI (bf_ct (P 3)) ∧ ysz 3 = nI (bf_sz (P 3)) ∧ ysp = so ∧ yed = oc ∧ yrg = g ∧ ypn = pl ∧
    (∀ q, q < 4 → ry_sl q (P q) ysK ysR ysN ysA ysB ysX ysY ∧ ry_el q (P q) yeK yeL yeR) ∧
    (∀ e, e < bf_ct (P 3) → yeM (72 + e) = M e) ∧ (∀ j, j < es → ytP j = nI (pc j)) ∧ (∀ j, j < ss → ytS j = nI (sc j)) ∧
    (∀ p, p < 3 → ysz p = nI (bf_sz (P p)))
def i_Rel (_ : Nat) (u : SX) (v : SY) : Prop :=
  ∃ bk P es ss h pc sc M g pl so oc, bg_W bk P es ss h pc sc ∧ bg_X bk P es ss h pc sc M g pl so oc u ∧ bg_Y P es ss h pc sc M g pl so oc v
theorem i_up {k : Nat} {u : SX} {v : SY} (h : i_Rel k u v) : i_Rel (k + 4) u v := h
/-! a new expression on the stack of es, a new statement on the stack of ss -/
theorem bg_W_E {bk : Nat → Nat} {P : Nat → bf_L} {es ss h : Nat} {pc sc : Nat → Nat} {ε : bf_E} (W : bg_W bk P es ss h pc sc) (hc : bf_ct (P 3) < 24) (hε : bf_wE (bg_addE (P 3) ε) (bf_ct (P 3))) :
    bg_W bk (bg_put P 3 (bg_addE (P 3) ε)) (es + 1) ss h (bg_at pc es (bf_ct (P 3))) sc := by
  obtain ⟨w1, w2, w3, w4, w5, w6, w7, w8, w9⟩ := W
  refine ⟨fun q hq => ⟨(w1 q hq).1, ?_⟩, w2, fun q hq => ?_, ?_, ?_, ?_, ?_, ?_, w9⟩
  · by_cases z : q = 3
    · subst z
      rw [bg_put_s]
      obtain ⟨a1, a2, a3, a4⟩ := (w1 3 hq).2
      refine ⟨a1, hc, fun i hi => ?_, fun e he => ?_⟩
      · obtain ⟨s1, s2, s3, s4, s5, s6, s7⟩ := a3 i hi
        exact ⟨s1, s2, s3, s4, fun x y => Nat.lt_succ_of_lt (s5 x y), fun x => Nat.lt_succ_of_lt (s6 x), s7⟩
      · by_cases y : e = bf_ct (P 3)
        · rw [y]; exact hε
        · have he' : e < bf_ct (P 3) := by have : e < bf_ct (P 3) + 1 := he; omega
          have k := a4 e he'
          have ee : (bg_addE (P 3) ε).2.1 e = (P 3).2.1 e := if_neg y
          unfold bf_wE bf_eK bf_eA bf_eB at k ⊢
          rw [ee]
          exact k
    · rw [bg_put_n z]; exact (w1 q hq).2
  · rw [bg_put_n (by omega)]; exact w3 q hq
  · rw [bg_put_s]; show es + 1 ≤ bf_ct (P 3) + 1; omega
  · intro j hj
    rw [bg_put_s]
    show _ < bf_ct (P 3) + 1
    by_cases z : j = es
    · rw [z, bg_at_s]; omega
    · rw [bg_at_n z]; have := w5 j (by omega); omega
  · rw [bg_put_s]; exact w6
  · rw [bg_put_s]; exact w7
  · rw [bg_put_s]; exact w8
theorem bg_W_S {bk : Nat → Nat} {P : Nat → bf_L} {es ss h : Nat} {pc sc : Nat → Nat} {σ : bf_S} (W1 : ∀ q, q < 4 → bk q < 4 ∧ bf_wL (P q)) (W2 : ∀ q q', q < 4 → q' < 4 → bk q = bk q' → q = q') (W3 : ∀ q, q < 3 → 0 < bf_sz (P q))
    (W4 : es ≤ bf_ct (P 3)) (W5 : ∀ j, j < es → pc j < bf_ct (P 3)) (W6 : ss ≤ bf_sz (P 3)) (W7 : ∀ j, j < ss → sc j < bf_sz (P 3)) (W9 : h ≤ 12)
    (hc : bf_sz (P 3) < 16) (hσ : bf_wS (bg_addS (P 3) σ) (bf_sz (P 3))) : bg_W bk (bg_put P 3 (bg_addS (P 3) σ)) es (ss + 1) h pc (bg_at sc ss (bf_sz (P 3))) := by
  refine ⟨fun q hq => ⟨(W1 q hq).1, ?_⟩, W2, fun q hq => ?_, ?_, ?_, ?_, ?_, ?_, W9⟩
  · by_cases z : q = 3
    · subst z
      rw [bg_put_s]
      obtain ⟨a1, a2, a3, a4⟩ := (W1 3 hq).2
      refine ⟨hc, a2, fun i hi => ?_, a4⟩
      by_cases y : i = bf_sz (P 3)
      · rw [y]; exact hσ
      · have hi' : i < bf_sz (P 3) := by have : i < bf_sz (P 3) + 1 := hi; omega
        have k := a3 i hi'
        have ee : (bg_addS (P 3) σ).1 i = (P 3).1 i := if_neg y
        unfold bf_wS bf_K bf_R bf_N bf_X bf_Y bf_A bf_B at k ⊢
        rw [ee]
        exact k
    · rw [bg_put_n z]; exact (W1 q hq).2
  · rw [bg_put_n (by omega)]; exact W3 q hq
  · rw [bg_put_s]; exact W4
  · rw [bg_put_s]; exact W5
  · rw [bg_put_s]; show ss + 1 ≤ bf_sz (P 3) + 1; omega
  · intro j hj
    rw [bg_put_s]
    show _ < bf_sz (P 3) + 1
    by_cases z : j = ss
    · rw [z, bg_at_s]; omega
    · rw [bg_at_n z]; have := W7 j (by omega); omega
  · intro _
    rw [bg_put_s]
    exact ⟨Nat.succ_pos _, by rw [Nat.add_sub_cancel, bg_at_s]; rfl⟩
end
section
/-! Making expressions and statements, on both sides -/
theorem gx_takeE {post : Int32 → SX → Prop} {u : SX} {bk : Nat → Nat} {P : Nat → bf_L} {es ss h : Nat} {pc sc : Nat → Nat} {M g pl : Nat → Int32} {so oc : Int32} (X : bg_X bk P (es + 1) ss h pc sc M g pl so oc u) (he : es < 24)
    (H : ∀ u', bg_X bk P es ss h pc sc M g pl so oc u' → post (nI (24 * bk 3 + pc es)) u') : wpX_takeExpression post u := by
  obtain ⟨xph, xkh, xes, xem, xss, xsm, xdb, xfo, xco, xst, xen, xlo, xrg, xpn, xkr, xkp, xeK, xeX, xeY, xeR, xeV, xeS, xsK, xsA, xsB, xsX, xsY, xsS, xpB, xpS, xfS, xfT, xfB⟩ := u
  obtain ⟨rfl, rfl, rfl, rfl, rfl, rfl, rfl, rfl, rfl, rfl, x11, x12, x13, x14, x15⟩ := X
  refine nm_r (nI_pred es) ⟨vp_in_nI he (by decide), ?_⟩
  rw [nI_clamp (show es < 2 ^ 31 by omega), x13 es (Nat.lt_succ_self _)]
  exact H _ ⟨rfl, rfl, rfl, rfl, rfl, rfl, rfl, rfl, rfl, rfl, x11, x12, fun j hj => x13 j (Nat.lt_succ_of_lt hj), x14, x15⟩
theorem gx_takeS {post : Int32 → SX → Prop} {u : SX} {bk : Nat → Nat} {P : Nat → bf_L} {es ss h : Nat} {pc sc : Nat → Nat} {M g pl : Nat → Int32} {so oc : Int32} (X : bg_X bk P es (ss + 1) h pc sc M g pl so oc u) (he : ss < 16)
    (H : ∀ u', bg_X bk P es ss h pc sc M g pl so oc u' → post (nI (16 * bk 3 + sc ss)) u') : wpX_takeStatement post u := by
  obtain ⟨xph, xkh, xes, xem, xss, xsm, xdb, xfo, xco, xst, xen, xlo, xrg, xpn, xkr, xkp, xeK, xeX, xeY, xeR, xeV, xeS, xsK, xsA, xsB, xsX, xsY, xsS, xpB, xpS, xfS, xfT, xfB⟩ := u
  obtain ⟨rfl, rfl, rfl, rfl, rfl, rfl, rfl, rfl, rfl, rfl, x11, x12, x13, x14, x15⟩ := X
  refine nm_r (nI_pred ss) ⟨vp_in_nI he (by decide), ?_⟩
  rw [nI_clamp (show ss < 2 ^ 31 by omega), x14 ss (Nat.lt_succ_self _)]
  exact H _ ⟨rfl, rfl, rfl, rfl, rfl, rfl, rfl, rfl, rfl, rfl, x11, x12, x13, fun j hj => x14 j (Nat.lt_succ_of_lt hj), x15⟩
theorem gx_mkE {post : Int32 → SX → Prop} {u : SX} {bk : Nat → Nat} {P : Nat → bf_L} {es ss h : Nat} {pc sc : Nat → Nat} {M g pl : Nat → Int32} {so oc : Int32} (W1 : ∀ q, q < 4 → bk q < 4 ∧ bf_wL (P q)) (W2 : ∀ q q', q < 4 → q' < 4 → bk q = bk q' → q = q') (hc : bf_ct (P 3) < 24) (he : es ≤ bf_ct (P 3)) (X : bg_X bk P es ss h pc sc M g pl so oc u)
    {ε : bf_E} {a0 a1 a2 a3 : Int32} (n : bx_e1 (bk 3) ε a0 a1 a2)
    (H : ∀ u', bg_X bk (bg_put P 3 (bg_addE (P 3) ε)) (es + 1) ss h (bg_at pc es (bf_ct (P 3))) sc (upd M (bf_ct (P 3)) a3) g pl so oc u' → post (nI (es + 1)) u') :
    wpX_makeExpression post u a0 a1 a2 a3 := by
  obtain ⟨xph, xkh, xes, xem, xss, xsm, xdb, xfo, xco, xst, xen, xlo, xrg, xpn, xkr, xkp, xeK, xeX, xeY, xeR, xeV, xeS, xsK, xsA, xsB, xsX, xsY, xsS, xpB, xpS, xfS, xfT, xfB⟩ := u
  obtain ⟨rfl, rfl, rfl, rfl, rfl, rfl, rfl, rfl, rfl, rfl, x11, x12, x13, x14, x15⟩ := X
  have hb := (W1 3 (by decide)).1
  have ei : nI (bk 3) * 24 + nI (bf_ct (P 3)) = nI (24 * bk 3 + bf_ct (P 3)) := by
    show nI (bk 3) * nI 24 + nI (bf_ct (P 3)) = _
    rw [pk_mul, nI_add, Nat.mul_comm]
  have hin : vp_in (nI (24 * bk 3 + bf_ct (P 3))) 96 := vp_in_nI (by omega) (by decide)
  have hcl : (nI (24 * bk 3 + bf_ct (P 3))).toNatClampNeg = 24 * bk 3 + bf_ct (P 3) := nI_clamp (by omega)
  have hcs : (nI es).toNatClampNeg = es := nI_clamp (by omega)
  refine nm_r ei ⟨hin, nm_r (e' := upd xeK (24 * bk 3 + bf_ct (P 3)) a0) (by rw [hcl]) ⟨hin, nm_r (e' := upd xeX (24 * bk 3 + bf_ct (P 3)) a1) (by rw [hcl]) ⟨hin, nm_r (e' := upd xeY (24 * bk 3 + bf_ct (P 3)) a2) (by rw [hcl])
    ⟨hin, nm_r (e' := upd xeR (24 * bk 3 + bf_ct (P 3)) a3) (by rw [hcl]) (nm_r (nI_1 _) ⟨vp_in_nI (by omega) (by decide), nm_r (e' := upd xeS es (nI (24 * bk 3 + bf_ct (P 3)))) (by rw [hcs]) (nm_r (nI_1 es) (H _ ?_))⟩)⟩⟩⟩⟩
  refine ⟨rfl, rfl, by rw [bg_put_s]; rfl, rfl, by rw [bg_put_s]; rfl, rfl, rfl, rfl, rfl, rfl, fun q hq => ?_, fun e h1 => ?_, fun j hj => ?_, x14, fun p hp => ?_⟩
  · by_cases z : q = 3
    · subst z
      rw [bg_put_s]
      exact ⟨(x11 3 hq).1, bx_el_a (x11 3 hq).2 (fun e h1 => ⟨pk_un (by omega), pk_un (by omega), pk_un (by omega)⟩) (by rw [pk_us, pk_us, pk_us]; exact n)⟩
    · rw [bg_put_n z]
      have hne : bk q ≠ bk 3 := fun y => z (W2 q 3 hq (by decide) y)
      have h24 := (W1 q hq).2.2.1
      exact ⟨(x11 q hq).1, bx_el_c (x11 q hq).2 (fun e h1 => ⟨pk_un (by omega), pk_un (by omega), pk_un (by omega)⟩)⟩
  · rw [bg_put_s] at h1
    have h1 : e < bf_ct (P 3) + 1 := h1
    by_cases z : e = bf_ct (P 3)
    · rw [z, pk_us, pk_us]
    · rw [pk_un (by omega), pk_un z]; exact x12 e (by omega)
  · by_cases z : j = es
    · rw [z, pk_us, bg_at_s]
    · rw [pk_un z, bg_at_n z]; exact x13 j (by omega)
  · rw [bg_put_n (by omega)]; exact x15 p hp
theorem gx_mkS {post : Int32 → SX → Prop} {u : SX} {bk : Nat → Nat} {P : Nat → bf_L} {es ss h : Nat} {pc sc : Nat → Nat} {M g pl : Nat → Int32} {so oc : Int32} (W1 : ∀ q, q < 4 → bk q < 4 ∧ bf_wL (P q)) (W2 : ∀ q q', q < 4 → q' < 4 → bk q = bk q' → q = q') (hc : bf_sz (P 3) < 16) (he : ss ≤ bf_sz (P 3)) (X : bg_X bk P es ss h pc sc M g pl so oc u)
    {σ : bf_S} {a0 a1 a2 a3 a4 : Int32} (n : bx_s1 (bk 3) σ a0 a1 a2 a3 a4)
    (H : ∀ u', bg_X bk (bg_put P 3 (bg_addS (P 3) σ)) es (ss + 1) h pc (bg_at sc ss (bf_sz (P 3))) M g pl so oc u' → post (nI (ss + 1)) u') :
    wpX_makeStatement post u a0 a1 a2 a3 a4 := by
  obtain ⟨xph, xkh, xes, xem, xss, xsm, xdb, xfo, xco, xst, xen, xlo, xrg, xpn, xkr, xkp, xeK, xeX, xeY, xeR, xeV, xeS, xsK, xsA, xsB, xsX, xsY, xsS, xpB, xpS, xfS, xfT, xfB⟩ := u
  obtain ⟨rfl, rfl, rfl, rfl, rfl, rfl, rfl, rfl, rfl, rfl, x11, x12, x13, x14, x15⟩ := X
  have hb := (W1 3 (by decide)).1
  have ei : nI (bk 3) * 16 + nI (bf_sz (P 3)) = nI (16 * bk 3 + bf_sz (P 3)) := by
    show nI (bk 3) * nI 16 + nI (bf_sz (P 3)) = _
    rw [pk_mul, nI_add, Nat.mul_comm]
  have hin : vp_in (nI (16 * bk 3 + bf_sz (P 3))) 64 := vp_in_nI (by omega) (by decide)
  have hcl : (nI (16 * bk 3 + bf_sz (P 3))).toNatClampNeg = 16 * bk 3 + bf_sz (P 3) := nI_clamp (by omega)
  have hcs : (nI ss).toNatClampNeg = ss := nI_clamp (by omega)
  refine nm_r ei ⟨hin, nm_r (e' := upd xsK (16 * bk 3 + bf_sz (P 3)) a0) (by rw [hcl]) ⟨hin, nm_r (e' := upd xsA (16 * bk 3 + bf_sz (P 3)) a1) (by rw [hcl]) ⟨hin, nm_r (e' := upd xsB (16 * bk 3 + bf_sz (P 3)) a2) (by rw [hcl])
    ⟨hin, nm_r (e' := upd xsX (16 * bk 3 + bf_sz (P 3)) a3) (by rw [hcl]) ⟨hin, nm_r (e' := upd xsY (16 * bk 3 + bf_sz (P 3)) a4) (by rw [hcl]) (nm_r (nI_1 _) ⟨vp_in_nI (by omega) (by decide), nm_r (e' := upd xsS ss (nI (16 * bk 3 + bf_sz (P 3)))) (by rw [hcs]) (nm_r (nI_1 ss) (H _ ?_))⟩)⟩⟩⟩⟩⟩
  refine ⟨rfl, rfl, by rw [bg_put_s]; rfl, rfl, by rw [bg_put_s]; rfl, rfl, rfl, rfl, rfl, rfl, fun q hq => ?_, fun e h1 => ?_, x13, fun j hj => ?_, fun p hp => ?_⟩
  · by_cases z : q = 3
    · subst z
      rw [bg_put_s]
      exact ⟨bx_sl_a (x11 3 hq).1 (fun i h1 => ⟨pk_un (by omega), pk_un (by omega), pk_un (by omega), pk_un (by omega), pk_un (by omega)⟩) (by rw [pk_us, pk_us, pk_us, pk_us, pk_us]; exact n), (x11 3 hq).2⟩
    · rw [bg_put_n z]
      have hne : bk q ≠ bk 3 := fun y => z (W2 q 3 hq (by decide) y)
      have h16 := (W1 q hq).2.1
      exact ⟨bx_sl_c (x11 q hq).1 (fun i h1 => ⟨pk_un (by omega), pk_un (by omega), pk_un (by omega), pk_un (by omega), pk_un (by omega)⟩), (x11 q hq).2⟩
  · rw [bg_put_s] at h1; exact x12 e h1
  · by_cases z : j = ss
    · rw [z, pk_us, bg_at_s]
    · rw [pk_un z, bg_at_n z]; exact x14 j (by omega)
  · rw [bg_put_n (by omega)]; exact x15 p hp
/-! the reference -/
theorem gy_mkE {post : Int32 → SY → Prop} {v : SY} {P : Nat → bf_L} {es ss h : Nat} {pc sc : Nat → Nat} {M g pl : Nat → Int32} {so oc : Int32} (W1 : ∀ q, q < 4 → bf_wL (P q)) (hc : bf_ct (P 3) < 24) (he : es ≤ bf_ct (P 3)) (Y : bg_Y P es ss h pc sc M g pl so oc v)
    {ε : bf_E} {a0 a1 a2 a3 : Int32} (n : ry_e1 ε a0 a1 a2)
    (H : ∀ v', bg_Y (bg_put P 3 (bg_addE (P 3) ε)) (es + 1) ss h (bg_at pc es (bf_ct (P 3))) sc (upd M (bf_ct (P 3)) a3) g pl so oc v' → post (nI (es + 1)) v') :
    wpY_piece post v a0 a1 a2 a3 := by
  obtain ⟨ydp, ypd, yhi, yoh, yop, ynx, yba, yca, yed, ysp, ysK, ysR, ysN, ysA, ysB, ysX, ysY, ysz, yeK, yeL, yeR, yeM, yct, yeV, ytS, ytP, yrg, ypn, yog, yoq, yoN, yoT, yoB⟩ := v
  obtain ⟨rfl, rfl, rfl, y4, y5, rfl, rfl, rfl, rfl, y10, y11, y12, y13, y14⟩ := Y
  have ei : (72 : Int32) + nI (bf_ct (P 3)) = nI (24 * 3 + bf_ct (P 3)) := by
    show nI 72 + nI (bf_ct (P 3)) = _
    rw [nI_add]
  have hin : vp_in ((72 : Int32) + nI (bf_ct (P 3))) 96 := by rw [ei]; exact vp_in_nI (by omega) (by decide)
  have hcl : ((72 : Int32) + nI (bf_ct (P 3))).toNatClampNeg = 24 * 3 + bf_ct (P 3) := by rw [ei]; exact nI_clamp (by omega)
  have hcs : (nI es).toNatClampNeg = es := nI_clamp (by omega)
  refine nm_r y4 ⟨hin, nm_r (e' := upd yeK (24 * 3 + bf_ct (P 3)) a0) (by rw [hcl]) ⟨hin, nm_r (e' := upd yeL (24 * 3 + bf_ct (P 3)) a1) (by rw [hcl]) ⟨hin, nm_r (e' := upd yeR (24 * 3 + bf_ct (P 3)) a2) (by rw [hcl])
    ⟨hin, nm_r (e' := upd yeM (24 * 3 + bf_ct (P 3)) a3) (by rw [hcl]) ⟨vp_in_nI (by omega) (by decide), nm_r (e' := upd ytP es (nI (bf_ct (P 3)))) (by rw [hcs]) (nm_r (nI_1 es) (nm_r (e' := upd yct 3 (nI (bf_ct (P 3) + 1))) (by rw [y4, nI_1]) (H _ ?_)))⟩⟩⟩⟩⟩
  refine ⟨rfl, rfl, rfl, by rw [bg_put_s]; exact pk_us, by rw [bg_put_s]; exact y5, rfl, rfl, rfl, rfl, fun q hq => ?_, fun e h1 => ?_, fun j hj => ?_, y13, fun p hp => ?_⟩
  · by_cases z : q = 3
    · subst z
      rw [bg_put_s]
      exact ⟨(y10 3 hq).1, ry_el_a (y10 3 hq).2 (fun e h1 => ⟨pk_un (by omega), pk_un (by omega), pk_un (by omega)⟩) (by rw [pk_us, pk_us, pk_us]; exact n)⟩
    · rw [bg_put_n z]
      have h24 := (W1 q hq).2.1
      exact ⟨(y10 q hq).1, ry_el_c (y10 q hq).2 (fun e h1 => ⟨pk_un (by omega), pk_un (by omega), pk_un (by omega)⟩)⟩
  · rw [bg_put_s] at h1
    have h1 : e < bf_ct (P 3) + 1 := h1
    by_cases z : e = bf_ct (P 3)
    · rw [z, pk_us]; exact pk_us.symm
    · rw [pk_un z]; exact (pk_un (by omega)).trans (y11 e (by omega))
  · by_cases z : j = es
    · rw [z, pk_us, bg_at_s]
    · rw [pk_un z, bg_at_n z]; exact y12 j (by omega)
  · rw [bg_put_n (by omega)]; exact y14 p hp
section
variable {ydp ypd yhi yoh yop ynx yba yca yed ysp : Int32} {ysK ysR ysN ysA ysB ysX ysY ysz yeK yeL yeR yeM yct yeV ytS ytP yrg ypn yog yoq yoN yoT yoB : Nat → Int32}
/-- make, when first, second, test and exit (f1, s1, t1, e1) may have been written at the new place already -/
theorem gy_mkS {post : Int32 → SY → Prop} {P : Nat → bf_L} {es ss h : Nat} {pc sc : Nat → Nat} {M g pl : Nat → Int32} {so oc : Int32} (W1 : ∀ q, q < 4 → bf_wL (P q)) (hc : bf_sz (P 3) < 16) (he : ss ≤ bf_sz (P 3))
    (y4 : yct 3 = nI (bf_ct (P 3))) (y5 : ysz 3 = nI (bf_sz (P 3))) (y10 : ∀ q, q < 4 → ry_sl q (P q) ysK ysR ysN ysA ysB ysX ysY ∧ ry_el q (P q) yeK yeL yeR)
    (y11 : ∀ e, e < bf_ct (P 3) → yeM (72 + e) = M e) (y12 : ∀ j, j < es → ytP j = nI (pc j)) (y13 : ∀ j, j < ss → ytS j = nI (sc j)) (y14 : ∀ p, p < 3 → ysz p = nI (bf_sz (P p)))
    {f1 s1 t1 e1 : Nat → Int32} (hf : ∀ j, j ≠ 48 + bf_sz (P 3) → f1 j = ysA j) (hs : ∀ j, j ≠ 48 + bf_sz (P 3) → s1 j = ysB j) (ht : ∀ j, j ≠ 48 + bf_sz (P 3) → t1 j = ysX j) (hx : ∀ j, j ≠ 48 + bf_sz (P 3) → e1 j = ysY j)
    {σ : bf_S} {a0 a1 a2 : Int32} (n : ry_s1 σ a0 a1 a2 (f1 (48 + bf_sz (P 3))) (s1 (48 + bf_sz (P 3))) (t1 (48 + bf_sz (P 3))) (e1 (48 + bf_sz (P 3))))
    (H : ∀ v', bg_Y (bg_put P 3 (bg_addS (P 3) σ)) es (ss + 1) h pc (bg_at sc ss (bf_sz (P 3))) M g pl so oc v' → post (nI (ss + 1)) v') :
    wpY_make post (nI ss, nI es, nI h, yoh, yop, ynx, yba, yca, oc, so, ysK, ysR, ysN, f1, s1, t1, e1, ysz, yeK, yeL, yeR, yeM, yct, yeV, ytS, ytP, g, pl, yog, yoq, yoN, yoT, yoB) a0 a1 a2 := by
  have ei : (48 : Int32) + ysz 3 = nI (16 * 3 + bf_sz (P 3)) := by
    rw [y5]
    show nI 48 + nI (bf_sz (P 3)) = _
    rw [nI_add]
  have hin : vp_in (nI (16 * 3 + bf_sz (P 3))) 64 := vp_in_nI (by omega) (by decide)
  have hcl : (nI (16 * 3 + bf_sz (P 3))).toNatClampNeg = 16 * 3 + bf_sz (P 3) := nI_clamp (by omega)
  have hcs : (nI ss).toNatClampNeg = ss := nI_clamp (by omega)
  refine nm_r ei ⟨hin, nm_r (e' := upd ysK (16 * 3 + bf_sz (P 3)) a0) (by rw [hcl]) ⟨hin, nm_r (e' := upd ysR (16 * 3 + bf_sz (P 3)) a1) (by rw [hcl]) ⟨hin, nm_r (e' := upd ysN (16 * 3 + bf_sz (P 3)) a2) (by rw [hcl])
    ⟨vp_in_nI (by omega) (by decide), nm_r (e' := upd ytS ss (nI (bf_sz (P 3)))) (by rw [hcs, y5]) (nm_r (nI_1 ss) (nm_r (e' := upd ysz 3 (nI (bf_sz (P 3) + 1))) (by rw [y5, nI_1]) (H _ ?_)))⟩⟩⟩⟩
  refine ⟨rfl, rfl, rfl, by rw [bg_put_s]; exact y4, by rw [bg_put_s]; exact pk_us, rfl, rfl, rfl, rfl, fun q hq => ?_, fun e h1 => ?_, y12, fun j hj => ?_, fun p hp => ?_⟩
  · by_cases z : q = 3
    · subst z
      rw [bg_put_s]
      exact ⟨ry_sl_a (y10 3 hq).1 (fun i h1 => ⟨pk_un (by omega), pk_un (by omega), pk_un (by omega), hf _ (by omega), hs _ (by omega), ht _ (by omega), hx _ (by omega)⟩) (by rw [pk_us, pk_us, pk_us]; exact n), (y10 3 hq).2⟩
    · rw [bg_put_n z]
      have h16 := (W1 q hq).1
      exact ⟨ry_sl_c (y10 q hq).1 (fun i h1 => ⟨pk_un (by omega), pk_un (by omega), pk_un (by omega), hf _ (by omega), hs _ (by omega), ht _ (by omega), hx _ (by omega)⟩), (y10 q hq).2⟩
  · rw [bg_put_s] at h1; exact y11 e h1
  · by_cases z : j = ss
    · rw [z, pk_us, bg_at_s]
    · rw [pk_un z, bg_at_n z]; exact y13 j (by omega)
  · rw [bg_put_n (by omega)]; exact (pk_un (by omega)).trans (y14 p hp)
end
end
section
/-! The small methods -/
theorem bg_wE_new {l : bf_L} {ε : bf_E} (h : ε.1 ≤ 8 ∧ (ε.1 = 8 → ε.2.2.1 < 6) ∧ (ε.1 ≤ 6 → ε.2.2.1 < bf_ct l ∧ ε.2.2.2 < bf_ct l)) : bf_wE (bg_addE l ε) (bf_ct l) := by
  unfold bf_wE bf_eK bf_eA bf_eB
  rw [show (bg_addE l ε).2.1 (bf_ct l) = ε from if_pos rfl]
  exact h
theorem bg_wS_new {l : bf_L} {σ : bf_S} (h : σ.1 ≤ 12 ∧ (σ.1 = 1 ∨ σ.1 = 2 ∨ σ.1 = 3 ∨ σ.1 = 6 ∨ σ.1 = 7 ∨ σ.1 = 8 → ∃ r, r < 6 ∧ σ.2.1 = nI r) ∧ (σ.1 = 1 → ∃ r, r < 6 ∧ σ.2.2.1 = nI r) ∧
    (σ.1 = 4 ∨ σ.1 = 5 → ∃ p, p < 3 ∧ σ.2.2.1 = nI p) ∧ (6 ≤ σ.1 → σ.1 ≠ 10 → σ.2.2.2.2.2.1 < bf_ct l) ∧ (11 ≤ σ.1 → σ.2.2.2.2.2.2 < bf_ct l) ∧ (10 ≤ σ.1 → σ.2.2.2.1 < bf_sz l ∧ σ.2.2.2.2.1 < bf_sz l)) :
    bf_wS (bg_addS l σ) (bf_sz l) := by
  unfold bf_wS bf_K bf_R bf_N bf_X bf_Y bf_A bf_B
  rw [show (bg_addS l σ).1 (bf_sz l) = σ from if_pos rfl]
  exact h
/-! ranges -/
def gr_out (n : Nat) (x : Int32) : Prop := x < 0 ∨ nI n ≤ x
theorem gr_cases (x : Int32) (n : Nat) (hn : n < 2 ^ 31 := by decide) : gr_out n x ∨ ∃ j, j < n ∧ x = nI j := by
  rcases pk_ix x hn with h | h | h
  · exact Or.inl (Or.inl h)
  · exact Or.inl (Or.inr h)
  · exact Or.inr h
theorem gr_nneg {n : Nat} {x : Int32} (h : nI n ≤ x) (hn : n < 2 ^ 31) : ¬ x < 0 := Int32.not_lt.mpr (Int32.le_trans (nI_pos' hn) h)
theorem gx_isR0 {post : Int32 → Prop} {x : Int32} (h : gr_out 6 x) (H : post 0) : wpX_isRegister post x := by
  rcases h with h | h
  · exact br_t h H
  · exact br_f (gr_nneg h (by decide)) (br_t h H)
theorem gx_isR1 {post : Int32 → Prop} {j : Nat} (h : j < 6) (H : post 1) : wpX_isRegister post (nI j) := br_f (nI_pos (by omega)) (br_f (nI_ge (b := 6) h (by decide)) H)
theorem gx_isP0 {post : Int32 → Prop} {x : Int32} (h : gr_out 3 x) (H : post 0) : wpX_isProcedure post x := by
  rcases h with h | h
  · exact br_t h H
  · exact br_f (gr_nneg h (by decide)) (br_t h H)
theorem gx_isP1 {post : Int32 → Prop} {j : Nat} (h : j < 3) (H : post 1) : wpX_isProcedure post (nI j) := br_f (nI_pos (by omega)) (br_f (nI_ge (b := 3) h (by decide)) H)
theorem gy_isR0 {post : Int32 → Prop} {v : SY} {x : Int32} (h : gr_out 6 x) (H : post 0) : wpY_isRegister post v x := by
  obtain ⟨ydp, ypd, yhi, yoh, yop, ynx, yba, yca, yed, ysp, ysK, ysR, ysN, ysA, ysB, ysX, ysY, ysz, yeK, yeL, yeR, yeM, yct, yeV, ytS, ytP, yrg, ypn, yog, yoq, yoN, yoT, yoB⟩ := v
  rcases h with h | h
  · exact br_t h H
  · exact br_f (gr_nneg h (by decide)) (br_t (Int32.lt_of_lt_of_le (show (5 : Int32) < nI 6 by decide) h) H)
theorem gy_isR1 {post : Int32 → Prop} {v : SY} {j : Nat} (h : j < 6) (H : post 1) : wpY_isRegister post v (nI j) := by
  obtain ⟨ydp, ypd, yhi, yoh, yop, ynx, yba, yca, yed, ysp, ysK, ysR, ysN, ysA, ysB, ysX, ysY, ysz, yeK, yeL, yeR, yeM, yct, yeV, ytS, ytP, yrg, ypn, yog, yoq, yoN, yoT, yoB⟩ := v
  exact br_f (nI_pos (by omega)) (br_f (nI_nlt (a := 5) (by omega) (by decide)) H)
theorem i_vc_number {k : Nat} {u : SX} {v : SY} (I : i_Rel k u v) (hk : k + 4 ≤ 2048) (v1 : Int32) : wpX_number (fun r u' => wpY_number (fun r' v' => r' = r ∧ i_Rel (k + 4) u' v') v v1) u v1 := by
  have J : ∀ k', i_Rel k' u v := fun _ => I
  obtain ⟨bk, P, es, ss, h, pc, sc, M, g, pl, so, oc, W, X, Y⟩ := I
  have W1 := W.1
  have W2 := W.2.1
  have w4 := W.2.2.2.1
  have h24 := (W1 3 (by decide)).2.2.1
  obtain ⟨xph, xkh, xes, xem, xss, xsm, xdb, xfo, xco, xst, xen, xlo, xrg, xpn, xkr, xkp, xeK, xeX, xeY, xeR, xeV, xeS, xsK, xsA, xsB, xsX, xsY, xsS, xpB, xpS, xfS, xfT, xfB⟩ := u
  obtain ⟨ydp, ypd, yhi, yoh, yop, ynx, yba, yca, yed, ysp, ysK, ysR, ysN, ysA, ysB, ysX, ysY, ysz, yeK, yeL, yeR, yeM, yct, yeV, ytS, ytP, yrg, ypn, yog, yoq, yoN, yoT, yoB⟩ := v
  have e3 : xem = nI (bf_ct (P 3)) := X.2.2.1
  have f4 : yct 3 = nI (bf_ct (P 3)) := Y.2.2.2.1
  by_cases c1 : v1 < -100
  · exact br_t c1 (br_t c1 ⟨rfl, J _⟩)
  by_cases c2 : v1 ≤ 100
  · by_cases hc : bf_ct (P 3) < 24
    · refine br_f c1 (br_t c2 (br_t (by rw [e3]; exact nI_lt (b := 24) hc (by decide)) (gx_mkE (ε := (7, v1, 0, 0)) W1 W2 hc w4 X ⟨rfl, fun _ => rfl, fun z => absurd z (by simp), fun z => absurd z (by simp)⟩ (fun u' X' => ?_))))
      obtain ⟨xph, xkh, xes, xem, xss, xsm, xdb, xfo, xco, xst, xen, xlo, xrg, xpn, xkr, xkp, xeK, xeX, xeY, xeR, xeV, xeS, xsK, xsA, xsB, xsX, xsY, xsS, xpB, xpS, xfS, xfT, xfB⟩ := u'
      refine br_f c1 (br_t c2 (br_f (by rw [f4]; exact bx_ne (b := 24) (by omega)) (gy_mkE (ε := (7, v1, 0, 0)) (fun q hq => (W1 q hq).2) hc w4 Y ⟨rfl, fun _ => rfl, fun z => absurd z (by simp), fun z => absurd z (by simp)⟩ (fun v' Y' => ?_))))
      obtain ⟨ydp, ypd, yhi, yoh, yop, ynx, yba, yca, yed, ysp, ysK, ysR, ysN, ysA, ysB, ysX, ysY, ysz, yeK, yeL, yeR, yeM, yct, yeV, ytS, ytP, yrg, ypn, yog, yoq, yoN, yoT, yoB⟩ := v'
      exact ⟨rfl, _, _, _, _, _, _, _, _, _, _, _, _, bg_W_E W hc (bg_wE_new ⟨by simp, fun z => absurd z (by simp), fun z => absurd z (by simp)⟩), X', Y'⟩
    · exact br_f c1 (br_t c2 (br_f (by rw [e3]; exact nI_nlt (b := 24) (by omega) (by omega)) (br_f c1 (br_t c2 (br_t (by rw [f4, show bf_ct (P 3) = 24 by omega]; rfl) ⟨rfl, J _⟩)))))
  · exact br_f c1 (br_f c2 (br_f c1 (br_f c2 ⟨rfl, J _⟩)))
theorem i_vc_register {k : Nat} {u : SX} {v : SY} (I : i_Rel k u v) (hk : k + 4 ≤ 2048) (v1 : Int32) : wpX_register (fun r u' => wpY_register (fun r' v' => r' = r ∧ i_Rel (k + 4) u' v') v v1) u v1 := by
  have J : ∀ k', i_Rel k' u v := fun _ => I
  obtain ⟨bk, P, es, ss, h, pc, sc, M, g, pl, so, oc, W, X, Y⟩ := I
  have W1 := W.1
  have W2 := W.2.1
  have w4 := W.2.2.2.1
  have h24 := (W1 3 (by decide)).2.2.1
  obtain ⟨xph, xkh, xes, xem, xss, xsm, xdb, xfo, xco, xst, xen, xlo, xrg, xpn, xkr, xkp, xeK, xeX, xeY, xeR, xeV, xeS, xsK, xsA, xsB, xsX, xsY, xsS, xpB, xpS, xfS, xfT, xfB⟩ := u
  obtain ⟨ydp, ypd, yhi, yoh, yop, ynx, yba, yca, yed, ysp, ysK, ysR, ysN, ysA, ysB, ysX, ysY, ysz, yeK, yeL, yeR, yeM, yct, yeV, ytS, ytP, yrg, ypn, yog, yoq, yoN, yoT, yoB⟩ := v
  have e3 : xem = nI (bf_ct (P 3)) := X.2.2.1
  have f4 : yct 3 = nI (bf_ct (P 3)) := Y.2.2.2.1
  unfold wpX_register wpY_register
  rcases gr_cases v1 6 with o | ⟨j, hj, rfl⟩
  · exact gx_isR0 o (br_t rfl (gy_isR0 o (br_t rfl ⟨rfl, J _⟩)))
  · refine gx_isR1 hj (br_f (by decide) ?_)
    by_cases hc : bf_ct (P 3) < 24
    · refine br_t (by rw [e3]; exact nI_lt (b := 24) hc (by decide)) (gx_mkE (ε := (8, 0, j, 0)) W1 W2 hc w4 X ⟨rfl, fun z => absurd z (by simp), fun _ => rfl, fun z => absurd z (by simp)⟩ (fun u' X' => ?_))
      obtain ⟨xph, xkh, xes, xem, xss, xsm, xdb, xfo, xco, xst, xen, xlo, xrg, xpn, xkr, xkp, xeK, xeX, xeY, xeR, xeV, xeS, xsK, xsA, xsB, xsX, xsY, xsS, xpB, xpS, xfS, xfT, xfB⟩ := u'
      refine gy_isR1 hj (br_f (by decide) (br_f (by rw [f4]; exact bx_ne (b := 24) (by omega)) (gy_mkE (ε := (8, 0, j, 0)) (fun q hq => (W1 q hq).2) hc w4 Y ⟨rfl, fun z => absurd z (by simp), fun _ => rfl, fun z => absurd z (by simp)⟩ (fun v' Y' => ?_))))
      obtain ⟨ydp, ypd, yhi, yoh, yop, ynx, yba, yca, yed, ysp, ysK, ysR, ysN, ysA, ysB, ysX, ysY, ysz, yeK, yeL, yeR, yeM, yct, yeV, ytS, ytP, yrg, ypn, yog, yoq, yoN, yoT, yoB⟩ := v'
      exact ⟨rfl, _, _, _, _, _, _, _, _, _, _, _, _, bg_W_E W hc (bg_wE_new ⟨by simp, fun _ => hj, fun z => absurd z (by simp)⟩), X', Y'⟩
    · exact br_f (by rw [e3]; exact nI_nlt (b := 24) (by omega) (by omega)) (gy_isR1 hj (br_f (by decide) (br_t (by rw [f4, show bf_ct (P 3) = 24 by omega]; rfl) ⟨rfl, J _⟩)))
theorem i_vc_apply {k : Nat} {u : SX} {v : SY} (I : i_Rel k u v) (hk : k + 4 ≤ 2048) (v1 : Int32) : wpX_apply (fun r u' => wpY_apply (fun r' v' => r' = r ∧ i_Rel (k + 4) u' v') v v1) u v1 := by
  have J : ∀ k', i_Rel k' u v := fun _ => I
  obtain ⟨bk, P, es, ss, h, pc, sc, M, g, pl, so, oc, W, X, Y⟩ := I
  have W1 := W.1
  have W2 := W.2.1
  have w4 := W.2.2.2.1
  have w5 := W.2.2.2.2.1
  have h24 := (W1 3 (by decide)).2.2.1
  have hb := (W1 3 (by decide)).1
  obtain ⟨xph, xkh, xes, xem, xss, xsm, xdb, xfo, xco, xst, xen, xlo, xrg, xpn, xkr, xkp, xeK, xeX, xeY, xeR, xeV, xeS, xsK, xsA, xsB, xsX, xsY, xsS, xpB, xpS, xfS, xfT, xfB⟩ := u
  obtain ⟨ydp, ypd, yhi, yoh, yop, ynx, yba, yca, yed, ysp, ysK, ysR, ysN, ysA, ysB, ysX, ysY, ysz, yeK, yeL, yeR, yeM, yct, yeV, ytS, ytP, yrg, ypn, yog, yoq, yoN, yoT, yoB⟩ := v
  have e2 : xes = nI es := X.2.1
  have e3 : xem = nI (bf_ct (P 3)) := X.2.2.1
  have f2 : ypd = nI es := Y.2.1
  have f4 : yct 3 = nI (bf_ct (P 3)) := Y.2.2.2.1
  by_cases c1 : v1 < 0
  · exact br_t c1 (br_t c1 ⟨rfl, J _⟩)
  by_cases c2 : v1 ≤ 6
  · obtain ⟨a, ha, rfl⟩ := nI_of2 (M := 6) (n := 6) (by decide) c1 c2
    by_cases hc : bf_ct (P 3) < 24
    · by_cases h2 : 2 ≤ es
      · obtain ⟨e, rfl⟩ : ∃ e, es = e + 1 + 1 := ⟨es - 2, by omega⟩
        have p0 := w5 e (by omega)
        have p1 := w5 (e + 1) (by omega)
        refine br_f c1 (br_t c2 (br_t (by rw [e3]; exact nI_lt (b := 24) hc (by decide)) (br_t (by rw [e2]; exact nI_le (a := 2) h2 (by omega)) (gx_takeE X (by omega) (fun u1 X1 => ?_)))))
        obtain ⟨xph, xkh, xes, xem, xss, xsm, xdb, xfo, xco, xst, xen, xlo, xrg, xpn, xkr, xkp, xeK, xeX, xeY, xeR, xeV, xeS, xsK, xsA, xsB, xsX, xsY, xsS, xpB, xpS, xfS, xfT, xfB⟩ := u1
        refine gx_takeE X1 (by omega) (fun u2 X2 => ?_)
        obtain ⟨xph, xkh, xes, xem, xss, xsm, xdb, xfo, xco, xst, xen, xlo, xrg, xpn, xkr, xkp, xeK, xeX, xeY, xeR, xeV, xeS, xsK, xsA, xsB, xsX, xsY, xsS, xpB, xpS, xfS, xfT, xfB⟩ := u2
        have m0 : xeR (nI (24 * bk 3 + pc e)).toNatClampNeg = M (pc e) := by rw [nI_clamp (by omega)]; exact X2.2.2.2.2.2.2.2.2.2.2.2.1 _ p0
        have m1 : xeR (nI (24 * bk 3 + pc (e + 1))).toNatClampNeg = M (pc (e + 1)) := by rw [nI_clamp (by omega)]; exact X2.2.2.2.2.2.2.2.2.2.2.2.1 _ p1
        refine ⟨vp_in_nI (by omega) (by decide), vp_in_nI (by omega) (by decide), ?_⟩
        rw [m0, m1]
        refine gx_mkE (ε := (a, 0, pc e, pc (e + 1))) W1 W2 hc (by omega) X2 ⟨rfl, fun z => absurd z (by show a ≠ 7; omega), fun z => absurd z (by show a ≠ 8; omega), fun _ => ⟨rfl, rfl⟩⟩ (fun u' X' => ?_)
        obtain ⟨xph, xkh, xes, xem, xss, xsm, xdb, xfo, xco, xst, xen, xlo, xrg, xpn, xkr, xkp, xeK, xeX, xeY, xeR, xeV, xeS, xsK, xsA, xsB, xsX, xsY, xsS, xpB, xpS, xfS, xfT, xfB⟩ := u'
        obtain ⟨y1, rfl, y3, y4, y5, y6, y7, y8, y9, y10, y11, y12, y13, y14⟩ := Y
        have q0 : ytP (nI e).toNatClampNeg = nI (pc e) := by rw [nI_clamp (by omega)]; exact y12 e (by omega)
        have q1 : ytP (nI e + 1).toNatClampNeg = nI (pc (e + 1)) := by rw [nI_1, nI_clamp (by omega)]; exact y12 (e + 1) (by omega)
        have ad : ∀ x, (72 : Int32) + nI x = nI (72 + x) := fun x => nI_add 72 x
        have n0 : yeM ((72 : Int32) + nI (pc e)).toNatClampNeg = M (pc e) := by rw [ad, nI_clamp (by omega)]; exact y11 _ p0
        have n1 : yeM ((72 : Int32) + nI (pc (e + 1))).toNatClampNeg = M (pc (e + 1)) := by rw [ad, nI_clamp (by omega)]; exact y11 _ p1
        refine br_f c1 (br_t c2 (br_f (by rw [f4]; exact bx_ne (b := 24) (by omega)) (br_t (nI_le (a := 2) h2 (by omega)) (nm_r (e' := nI e) (pk_sub (a := e + 1 + 1) (b := 2) (by omega)) ⟨vp_in_nI (by omega) (by decide), nm_r q0 ⟨by rw [nI_1]; exact vp_in_nI (by omega) (by decide), nm_r q1
          ⟨by rw [ad]; exact vp_in_nI (by omega) (by decide), by rw [ad]; exact vp_in_nI (by omega) (by decide), ?_⟩⟩⟩))))
        rw [n0, n1]
        refine gy_mkE (ε := (a, 0, pc e, pc (e + 1))) (es := e) (ss := ss) (h := h) (pc := pc) (sc := sc) (M := M) (g := g) (pl := pl) (so := so) (oc := oc) (fun q hq => (W1 q hq).2) hc (by omega) ⟨y1, rfl, y3, y4, y5, y6, y7, y8, y9, y10, y11, fun j hj => y12 j (by omega), y13, y14⟩ ⟨rfl, fun z => absurd z (by show a ≠ 7; omega), fun z => absurd z (by show a ≠ 8; omega), fun _ => ⟨rfl, rfl⟩⟩ (fun v' Y' => ?_)
        obtain ⟨ydp, ypd, yhi, yoh, yop, ynx, yba, yca, yed, ysp, ysK, ysR, ysN, ysA, ysB, ysX, ysY, ysz, yeK, yeL, yeR, yeM, yct, yeV, ytS, ytP, yrg, ypn, yog, yoq, yoN, yoT, yoB⟩ := v'
        have We : bg_W bk P e ss h pc sc := ⟨W1, W2, W.2.2.1, by omega, fun j hj => w5 j (by omega), W.2.2.2.2.2⟩
        exact ⟨rfl, _, _, _, _, _, _, _, _, _, _, _, _, bg_W_E We hc (bg_wE_new ⟨by show a ≤ 8; omega, fun z => absurd z (by show a ≠ 8; omega), fun _ => ⟨p0, p1⟩⟩), X', Y'⟩
      · exact br_f c1 (br_t c2 (br_t (by rw [e3]; exact nI_lt (b := 24) hc (by decide)) (br_f (by rw [e2]; exact nI_ge (b := 2) (by omega) (by decide)) (br_f c1 (br_t c2 (br_f (by rw [f4]; exact bx_ne (b := 24) (by omega)) (br_f (by rw [f2]; exact nI_ge (b := 2) (by omega) (by decide)) ⟨rfl, J _⟩)))))))
    · exact br_f c1 (br_t c2 (br_f (by rw [e3]; exact nI_nlt (b := 24) (by omega) (by omega)) (br_f c1 (br_t c2 (br_t (by rw [f4, show bf_ct (P 3) = 24 by omega]; rfl) ⟨rfl, J _⟩)))))
  · exact br_f c1 (br_f c2 (br_f c1 (br_f c2 ⟨rfl, J _⟩)))
end
section
/-! The other small methods -/
theorem gx_62_0 {post : Int32 → Prop} {x : Int32} (h : gr_out 6 x) (H : post 0) : wX_isGoodSimple_62 post x := by
  unfold wX_isGoodSimple_62
  exact gx_isR0 h ⟨rfl, H⟩
theorem gx_62_1 {post : Int32 → Prop} {j : Nat} (h : j < 6) (H : post 1) : wX_isGoodSimple_62 post (nI j) := by
  unfold wX_isGoodSimple_62
  exact gx_isR1 h ⟨rfl, H⟩
theorem gx_67_0 {post : Int32 → Prop} {x : Int32} (h : gr_out 3 x) (H : post 0) : wX_isGoodSimple_67 post x := by
  unfold wX_isGoodSimple_67
  exact gx_isP0 h ⟨rfl, H⟩
theorem gx_67_1 {post : Int32 → Prop} {j : Nat} (h : j < 3) (H : post 1) : wX_isGoodSimple_67 post (nI j) := by
  unfold wX_isGoodSimple_67
  exact gx_isP1 h ⟨rfl, H⟩
/-- simple: refused on both sides, or taken on both -/
theorem gs_dec (v1 v2 v3 : Int32) :
    ((∀ post : Int32 → Prop, post 0 → wpX_isGoodSimple post v1 v2 v3) ∧ (∀ (post : Int32 → Prop) (v : SY), post 1 → wpY_badSimple post v v1 v2 v3)) ∨
    (∃ o, o ≤ 5 ∧ v1 = nI o ∧ (o = 1 ∨ o = 2 ∨ o = 3 → ∃ r, r < 6 ∧ v2 = nI r) ∧ (o = 1 → ∃ r, r < 6 ∧ v3 = nI r) ∧ (o = 4 ∨ o = 5 → ∃ p, p < 3 ∧ v3 = nI p) ∧
      (∀ post : Int32 → Prop, post 1 → wpX_isGoodSimple post v1 v2 v3) ∧ (∀ (post : Int32 → Prop) (v : SY), post 0 → wpY_badSimple post v v1 v2 v3)) := by
  rcases gr_cases v1 6 with o | ⟨o, ho, rfl⟩
  · refine Or.inl ⟨fun post H => ?_, fun post v H => ?_⟩
    · rcases o with o | o
      · exact br_t o H
      · exact br_f (gr_nneg o (by decide)) (br_t (Int32.lt_of_lt_of_le (show (5 : Int32) < nI 6 by decide) o) H)
    · obtain ⟨ydp, ypd, yhi, yoh, yop, ynx, yba, yca, yed, ysp, ysK, ysR, ysN, ysA, ysB, ysX, ysY, ysz, yeK, yeL, yeR, yeM, yct, yeV, ytS, ytP, yrg, ypn, yog, yoq, yoN, yoT, yoB⟩ := v
      rcases o with o | o
      · exact br_t o H
      · exact br_f (gr_nneg o (by decide)) (br_f (Int32.not_le.mpr (Int32.lt_of_lt_of_le (show (5 : Int32) < nI 6 by decide) o)) H)
  have h6 : o = 0 ∨ o = 1 ∨ o = 2 ∨ o = 3 ∨ o = 4 ∨ o = 5 := by omega
  rcases h6 with rfl | rfl | rfl | rfl | rfl | rfl
  · refine Or.inr ⟨0, by decide, rfl, fun z => by omega, fun z => by omega, fun z => by omega, fun post H => ?_, fun post v H => ?_⟩
    · exact br_f (by decide) (br_f (by decide) (br_t rfl H))
    · obtain ⟨ydp, ypd, yhi, yoh, yop, ynx, yba, yca, yed, ysp, ysK, ysR, ysN, ysA, ysB, ysX, ysY, ysz, yeK, yeL, yeR, yeM, yct, yeV, ytS, ytP, yrg, ypn, yog, yoq, yoN, yoT, yoB⟩ := v
      exact br_f (by decide) (br_t (by decide) (br_t (by decide) (br_f (by decide) (br_t (by decide) H))))
  · rcases gr_cases v2 6 with a | ⟨r, hr, rfl⟩
    · refine Or.inl ⟨fun post H => ?_, fun post v H => ?_⟩
      · exact br_f (by decide) (br_f (by decide) (br_f (by decide) (br_t rfl (gx_isR0 a (br_t rfl H)))))
      · obtain ⟨ydp, ypd, yhi, yoh, yop, ynx, yba, yca, yed, ysp, ysK, ysR, ysN, ysA, ysB, ysX, ysY, ysz, yeK, yeL, yeR, yeM, yct, yeV, ytS, ytP, yrg, ypn, yog, yoq, yoN, yoT, yoB⟩ := v
        exact br_f (by decide) (br_t (by decide) (br_f (by decide) (br_f (by decide) (gy_isR0 a (br_t rfl H)))))
    · rcases gr_cases v3 6 with b | ⟨s, hs, rfl⟩
      · refine Or.inl ⟨fun post H => ?_, fun post v H => ?_⟩
        · exact br_f (by decide) (br_f (by decide) (br_f (by decide) (br_t rfl (gx_isR1 hr (br_f (by decide) (gx_isR0 b (br_t rfl H)))))))
        · obtain ⟨ydp, ypd, yhi, yoh, yop, ynx, yba, yca, yed, ysp, ysK, ysR, ysN, ysA, ysB, ysX, ysY, ysz, yeK, yeL, yeR, yeM, yct, yeV, ytS, ytP, yrg, ypn, yog, yoq, yoN, yoT, yoB⟩ := v
          exact br_f (by decide) (br_t (by decide) (br_f (by decide) (br_f (by decide) (gy_isR1 hr (br_f (by decide) (br_t rfl (gy_isR0 b (br_t rfl H))))))))
      · refine Or.inr ⟨1, by decide, rfl, fun _ => ⟨r, hr, rfl⟩, fun _ => ⟨s, hs, rfl⟩, fun z => by omega, fun post H => ?_, fun post v H => ?_⟩
        · exact br_f (by decide) (br_f (by decide) (br_f (by decide) (br_t rfl (gx_isR1 hr (br_f (by decide) (gx_isR1 hs (br_f (by decide) H)))))))
        · obtain ⟨ydp, ypd, yhi, yoh, yop, ynx, yba, yca, yed, ysp, ysK, ysR, ysN, ysA, ysB, ysX, ysY, ysz, yeK, yeL, yeR, yeM, yct, yeV, ytS, ytP, yrg, ypn, yog, yoq, yoN, yoT, yoB⟩ := v
          exact br_f (by decide) (br_t (by decide) (br_f (by decide) (br_f (by decide) (gy_isR1 hr (br_f (by decide) (br_t rfl (gy_isR1 hs (br_f (by decide) H))))))))
  · rcases gr_cases v2 6 with a | ⟨r, hr, rfl⟩
    · refine Or.inl ⟨fun post H => ?_, fun post v H => ?_⟩
      · exact br_f (by decide) (br_f (by decide) (br_f (by decide) (br_f (by decide) (br_t rfl (gx_62_0 a H)))))
      · obtain ⟨ydp, ypd, yhi, yoh, yop, ynx, yba, yca, yed, ysp, ysK, ysR, ysN, ysA, ysB, ysX, ysY, ysz, yeK, yeL, yeR, yeM, yct, yeV, ytS, ytP, yrg, ypn, yog, yoq, yoN, yoT, yoB⟩ := v
        exact br_f (by decide) (br_t (by decide) (br_f (by decide) (br_f (by decide) (gy_isR0 a (br_t rfl H)))))
    · refine Or.inr ⟨2, by decide, rfl, fun _ => ⟨r, hr, rfl⟩, fun z => by omega, fun z => by omega, fun post H => ?_, fun post v H => ?_⟩
      · exact br_f (by decide) (br_f (by decide) (br_f (by decide) (br_f (by decide) (br_t rfl (gx_62_1 hr H)))))
      · obtain ⟨ydp, ypd, yhi, yoh, yop, ynx, yba, yca, yed, ysp, ysK, ysR, ysN, ysA, ysB, ysX, ysY, ysz, yeK, yeL, yeR, yeM, yct, yeV, ytS, ytP, yrg, ypn, yog, yoq, yoN, yoT, yoB⟩ := v
        exact br_f (by decide) (br_t (by decide) (br_f (by decide) (br_f (by decide) (gy_isR1 hr (br_f (by decide) (br_f (by decide) (br_t (by decide) H)))))))
  · rcases gr_cases v2 6 with a | ⟨r, hr, rfl⟩
    · refine Or.inl ⟨fun post H => ?_, fun post v H => ?_⟩
      · exact br_f (by decide) (br_f (by decide) (br_f (by decide) (br_f (by decide) (br_f (by decide) (br_t rfl (gx_62_0 a H))))))
      · obtain ⟨ydp, ypd, yhi, yoh, yop, ynx, yba, yca, yed, ysp, ysK, ysR, ysN, ysA, ysB, ysX, ysY, ysz, yeK, yeL, yeR, yeM, yct, yeV, ytS, ytP, yrg, ypn, yog, yoq, yoN, yoT, yoB⟩ := v
        exact br_f (by decide) (br_t (by decide) (br_f (by decide) (br_f (by decide) (gy_isR0 a (br_t rfl H)))))
    · refine Or.inr ⟨3, by decide, rfl, fun _ => ⟨r, hr, rfl⟩, fun z => by omega, fun z => by omega, fun post H => ?_, fun post v H => ?_⟩
      · exact br_f (by decide) (br_f (by decide) (br_f (by decide) (br_f (by decide) (br_f (by decide) (br_t rfl (gx_62_1 hr H))))))
      · obtain ⟨ydp, ypd, yhi, yoh, yop, ynx, yba, yca, yed, ysp, ysK, ysR, ysN, ysA, ysB, ysX, ysY, ysz, yeK, yeL, yeR, yeM, yct, yeV, ytS, ytP, yrg, ypn, yog, yoq, yoN, yoT, yoB⟩ := v
        exact br_f (by decide) (br_t (by decide) (br_f (by decide) (br_f (by decide) (gy_isR1 hr (br_f (by decide) (br_f (by decide) (br_t (by decide) H)))))))
  · rcases gr_cases v3 3 with b | ⟨s, hs, rfl⟩
    · refine Or.inl ⟨fun post H => ?_, fun post v H => ?_⟩
      · exact br_f (by decide) (br_f (by decide) (br_f (by decide) (br_f (by decide) (br_f (by decide) (br_f (by decide) (br_t rfl (gx_67_0 b H)))))))
      · obtain ⟨ydp, ypd, yhi, yoh, yop, ynx, yba, yca, yed, ysp, ysK, ysR, ysN, ysA, ysB, ysX, ysY, ysz, yeK, yeL, yeR, yeM, yct, yeV, ytS, ytP, yrg, ypn, yog, yoq, yoN, yoT, yoB⟩ := v
        refine br_f (by decide) (br_t (by decide) (br_f (by decide) (br_t (by decide) (br_f (by decide) (br_f (by decide) ?_)))))
        rcases b with b | b
        · exact br_t b H
        · exact br_f (gr_nneg b (by decide)) (br_f (Int32.not_le.mpr (Int32.lt_of_lt_of_le (show (2 : Int32) < nI 3 by decide) b)) H)
    · refine Or.inr ⟨4, by decide, rfl, fun z => by omega, fun z => by omega, fun _ => ⟨s, hs, rfl⟩, fun post H => ?_, fun post v H => ?_⟩
      · exact br_f (by decide) (br_f (by decide) (br_f (by decide) (br_f (by decide) (br_f (by decide) (br_f (by decide) (br_t rfl (gx_67_1 hs H)))))))
      · obtain ⟨ydp, ypd, yhi, yoh, yop, ynx, yba, yca, yed, ysp, ysK, ysR, ysN, ysA, ysB, ysX, ysY, ysz, yeK, yeL, yeR, yeM, yct, yeV, ytS, ytP, yrg, ypn, yog, yoq, yoN, yoT, yoB⟩ := v
        exact br_f (by decide) (br_t (by decide) (br_f (by decide) (br_t (by decide) (br_f (by decide) (br_f (by decide) (br_f (nI_pos (by omega)) (br_t (nI_le (b := 2) (by omega) (by decide)) H)))))))
  · rcases gr_cases v3 3 with b | ⟨s, hs, rfl⟩
    · refine Or.inl ⟨fun post H => ?_, fun post v H => ?_⟩
      · exact br_f (by decide) (br_f (by decide) (br_f (by decide) (br_f (by decide) (br_f (by decide) (br_f (by decide) (br_f (by decide) (br_t rfl (gx_67_0 b H))))))))
      · obtain ⟨ydp, ypd, yhi, yoh, yop, ynx, yba, yca, yed, ysp, ysK, ysR, ysN, ysA, ysB, ysX, ysY, ysz, yeK, yeL, yeR, yeM, yct, yeV, ytS, ytP, yrg, ypn, yog, yoq, yoN, yoT, yoB⟩ := v
        refine br_f (by decide) (br_t (by decide) (br_f (by decide) (br_t (by decide) (br_f (by decide) (br_f (by decide) ?_)))))
        rcases b with b | b
        · exact br_t b H
        · exact br_f (gr_nneg b (by decide)) (br_f (Int32.not_le.mpr (Int32.lt_of_lt_of_le (show (2 : Int32) < nI 3 by decide) b)) H)
    · refine Or.inr ⟨5, by decide, rfl, fun z => by omega, fun z => by omega, fun _ => ⟨s, hs, rfl⟩, fun post H => ?_, fun post v H => ?_⟩
      · exact br_f (by decide) (br_f (by decide) (br_f (by decide) (br_f (by decide) (br_f (by decide) (br_f (by decide) (br_f (by decide) (br_t rfl (gx_67_1 hs H))))))))
      · obtain ⟨ydp, ypd, yhi, yoh, yop, ynx, yba, yca, yed, ysp, ysK, ysR, ysN, ysA, ysB, ysX, ysY, ysz, yeK, yeL, yeR, yeM, yct, yeV, ytS, ytP, yrg, ypn, yog, yoq, yoN, yoT, yoB⟩ := v
        exact br_f (by decide) (br_t (by decide) (br_f (by decide) (br_t (by decide) (br_f (by decide) (br_f (by decide) (br_f (nI_pos (by omega)) (br_t (nI_le (b := 2) (by omega) (by decide)) H)))))))
theorem i_vc_simple {k : Nat} {u : SX} {v : SY} (I : i_Rel k u v) (hk : k + 4 ≤ 2048) (v1 : Int32) (v2 : Int32) (v3 : Int32) : wpX_simple (fun r u' => wpY_simple (fun r' v' => r' = r ∧ i_Rel (k + 4) u' v') v v1 v2 v3) u v1 v2 v3 := by
  have J : ∀ k', i_Rel k' u v := fun _ => I
  obtain ⟨bk, P, es, ss, h, pc, sc, M, g, pl, so, oc, W, X, Y⟩ := I
  have W1 := W.1
  have w6 := W.2.2.2.2.2.1
  have h16 := (W1 3 (by decide)).2.1
  obtain ⟨xph, xkh, xes, xem, xss, xsm, xdb, xfo, xco, xst, xen, xlo, xrg, xpn, xkr, xkp, xeK, xeX, xeY, xeR, xeV, xeS, xsK, xsA, xsB, xsX, xsY, xsS, xpB, xpS, xfS, xfT, xfB⟩ := u
  obtain ⟨ydp, ypd, yhi, yoh, yop, ynx, yba, yca, yed, ysp, ysK, ysR, ysN, ysA, ysB, ysX, ysY, ysz, yeK, yeL, yeR, yeM, yct, yeV, ytS, ytP, yrg, ypn, yog, yoq, yoN, yoT, yoB⟩ := v
  have e5 : xsm = nI (bf_sz (P 3)) := X.2.2.2.2.1
  have f5 : ysz 3 = nI (bf_sz (P 3)) := Y.2.2.2.2.1
  unfold wpX_simple wpY_simple
  rcases gs_dec v1 v2 v3 with ⟨bX, bY⟩ | ⟨o, ho, rfl, g1, g2, g3, gX, gY⟩
  · exact bX _ (br_t rfl (bY _ _ (br_f (by decide) ⟨rfl, J _⟩)))
  · refine gX _ (br_f (by decide) ?_)
    by_cases hc : bf_sz (P 3) < 16
    · refine br_t (by rw [e5]; exact nI_lt (b := 16) hc (by decide)) (gx_mkS (σ := (o, v2, v3, 0, 0, 0, 0)) W1 W.2.1 hc w6 X ⟨rfl, fun _ => ⟨rfl, rfl⟩, fun z => absurd z (by show ¬ 10 ≤ o; omega), fun z => absurd z (by show ¬ 6 ≤ o; omega), fun z => absurd z (by show ¬ 11 ≤ o; omega)⟩ (fun u' X' => ?_))
      obtain ⟨xph, xkh, xes, xem, xss, xsm, xdb, xfo, xco, xst, xen, xlo, xrg, xpn, xkr, xkp, xeK, xeX, xeY, xeR, xeV, xeS, xsK, xsA, xsB, xsX, xsY, xsS, xpB, xpS, xfS, xfT, xfB⟩ := u'
      refine gY _ _ (br_t rfl (br_f (by rw [f5]; exact bx_ne (b := 16) (by omega)) ?_))
      obtain ⟨rfl, rfl, rfl, y4, y5, rfl, rfl, rfl, rfl, y10, y11, y12, y13, y14⟩ := Y
      refine gy_mkS (σ := (o, v2, v3, 0, 0, 0, 0)) (fun q hq => (W1 q hq).2) hc w6 y4 y5 y10 y11 y12 y13 y14 (fun _ _ => rfl) (fun _ _ => rfl) (fun _ _ => rfl) (fun _ _ => rfl) ⟨rfl, fun _ => ⟨rfl, rfl⟩, fun z => absurd z (by show ¬ 10 ≤ o; omega), fun z => absurd z (by show ¬ 6 ≤ o; omega), fun z => absurd z (by show ¬ 11 ≤ o; omega)⟩ (fun v' Y' => ?_)
      obtain ⟨ydp, ypd, yhi, yoh, yop, ynx, yba, yca, yed, ysp, ysK, ysR, ysN, ysA, ysB, ysX, ysY, ysz, yeK, yeL, yeR, yeM, yct, yeV, ytS, ytP, yrg, ypn, yog, yoq, yoN, yoT, yoB⟩ := v'
      exact ⟨rfl, _, _, _, _, _, _, _, _, _, _, _, _, bg_W_S W1 W.2.1 W.2.2.1 W.2.2.2.1 W.2.2.2.2.1 w6 W.2.2.2.2.2.2.1 W.2.2.2.2.2.2.2.2 hc (bg_wS_new ⟨by show o ≤ 12; omega, fun z => g1 (by have z : o = 1 ∨ o = 2 ∨ o = 3 ∨ o = 6 ∨ o = 7 ∨ o = 8 := z; omega), g2, g3, fun z => absurd z (by show ¬ 6 ≤ o; omega), fun z => absurd z (by show ¬ 11 ≤ o; omega), fun z => absurd z (by show ¬ 10 ≤ o; omega)⟩), X', Y'⟩
    · exact br_f (by rw [e5]; exact nI_nlt (b := 16) (by omega) (by omega)) (gY _ _ (br_t rfl (br_t (by rw [f5, show bf_sz (P 3) = 16 by omega]; rfl) ⟨rfl, J _⟩)))
theorem i_vc_seq {k : Nat} {u : SX} {v : SY} (I : i_Rel k u v) (hk : k + 4 ≤ 2048) : wpX_seq (fun r u' => wpY_seq (fun r' v' => r' = r ∧ i_Rel (k + 4) u' v') v) u := by
  have J : ∀ k', i_Rel k' u v := fun _ => I
  obtain ⟨bk, P, es, ss, h, pc, sc, M, g, pl, so, oc, W, X, Y⟩ := I
  have W1 := W.1
  have w6 := W.2.2.2.2.2.1
  have w7 := W.2.2.2.2.2.2.1
  have h16 := (W1 3 (by decide)).2.1
  obtain ⟨xph, xkh, xes, xem, xss, xsm, xdb, xfo, xco, xst, xen, xlo, xrg, xpn, xkr, xkp, xeK, xeX, xeY, xeR, xeV, xeS, xsK, xsA, xsB, xsX, xsY, xsS, xpB, xpS, xfS, xfT, xfB⟩ := u
  obtain ⟨ydp, ypd, yhi, yoh, yop, ynx, yba, yca, yed, ysp, ysK, ysR, ysN, ysA, ysB, ysX, ysY, ysz, yeK, yeL, yeR, yeM, yct, yeV, ytS, ytP, yrg, ypn, yog, yoq, yoN, yoT, yoB⟩ := v
  have e4 : xss = nI ss := X.2.2.2.1
  have e5 : xsm = nI (bf_sz (P 3)) := X.2.2.2.2.1
  have f3 : ydp = nI ss := Y.2.2.1
  have f5 : ysz 3 = nI (bf_sz (P 3)) := Y.2.2.2.2.1
  by_cases hc : bf_sz (P 3) < 16
  · by_cases h2 : 2 ≤ ss
    · obtain ⟨s, rfl⟩ : ∃ s, ss = s + 1 + 1 := ⟨ss - 2, by omega⟩
      have p0 := w7 s (by omega)
      have p1 := w7 (s + 1) (by omega)
      refine br_t (by rw [e5]; exact nI_lt (b := 16) hc (by decide)) (br_t (by rw [e4]; exact nI_le (a := 2) h2 (by omega)) (gx_takeS X (by omega) (fun u1 X1 => ?_)))
      obtain ⟨xph, xkh, xes, xem, xss, xsm, xdb, xfo, xco, xst, xen, xlo, xrg, xpn, xkr, xkp, xeK, xeX, xeY, xeR, xeV, xeS, xsK, xsA, xsB, xsX, xsY, xsS, xpB, xpS, xfS, xfT, xfB⟩ := u1
      refine gx_takeS X1 (by omega) (fun u2 X2 => ?_)
      obtain ⟨xph, xkh, xes, xem, xss, xsm, xdb, xfo, xco, xst, xen, xlo, xrg, xpn, xkr, xkp, xeK, xeX, xeY, xeR, xeV, xeS, xsK, xsA, xsB, xsX, xsY, xsS, xpB, xpS, xfS, xfT, xfB⟩ := u2
      refine gx_mkS (σ := (10, 0, 0, sc s, sc (s + 1), 0, 0)) W1 W.2.1 hc (by omega) X2 ⟨rfl, fun z => absurd z (by simp), fun _ => ⟨rfl, rfl⟩, fun _ z => absurd rfl z, fun z => absurd z (by simp)⟩ (fun u' X' => ?_)
      obtain ⟨xph, xkh, xes, xem, xss, xsm, xdb, xfo, xco, xst, xen, xlo, xrg, xpn, xkr, xkp, xeK, xeX, xeY, xeR, xeV, xeS, xsK, xsA, xsB, xsX, xsY, xsS, xpB, xpS, xfS, xfT, xfB⟩ := u'
      obtain ⟨rfl, rfl, rfl, y4, y5, rfl, rfl, rfl, rfl, y10, y11, y12, y13, y14⟩ := Y
      have ei : (48 : Int32) + ysz 3 = nI (48 + bf_sz (P 3)) := by rw [y5]; exact nI_add 48 _
      have hi4 : vp_in ((48 : Int32) + ysz 3) 64 := by rw [ei]; exact vp_in_nI (by omega) (by decide)
      have hc4 : ((48 : Int32) + ysz 3).toNatClampNeg = 48 + bf_sz (P 3) := by rw [ei]; exact nI_clamp (by omega)
      have q0 : ytS (nI s).toNatClampNeg = nI (sc s) := by rw [nI_clamp (by omega)]; exact y13 s (by omega)
      have q1 : ytS (nI s + 1).toNatClampNeg = nI (sc (s + 1)) := by rw [nI_1, nI_clamp (by omega)]; exact y13 (s + 1) (by omega)
      refine br_f (by rw [y5]; exact bx_ne (b := 16) (by omega)) (br_t (nI_le (a := 2) h2 (by omega)) (nm_r (e' := nI s) (pk_sub (a := s + 1 + 1) (b := 2) (by omega)) ⟨vp_in_nI (by omega) (by decide), hi4, nm_r (e' := upd ysA (48 + bf_sz (P 3)) (nI (sc s))) (by rw [hc4, q0]) ⟨by rw [nI_1]; exact vp_in_nI (by omega) (by decide), hi4, nm_r (e' := upd ysB (48 + bf_sz (P 3)) (nI (sc (s + 1)))) (by rw [hc4, q1]) ?_⟩⟩))
      refine gy_mkS (σ := (10, 0, 0, sc s, sc (s + 1), 0, 0)) (ss := s) (fun q hq => (W1 q hq).2) hc (by omega) y4 y5 y10 y11 y12 (fun j hj => y13 j (by omega)) y14 (fun _ z => pk_un z) (fun _ z => pk_un z) (fun _ _ => rfl) (fun _ _ => rfl) ⟨rfl, fun z => absurd z (by simp), fun _ => ⟨pk_us, pk_us⟩, fun _ z => absurd rfl z, fun z => absurd z (by simp)⟩ (fun v' Y' => ?_)
      obtain ⟨ydp, ypd, yhi, yoh, yop, ynx, yba, yca, yed, ysp, ysK, ysR, ysN, ysA, ysB, ysX, ysY, ysz, yeK, yeL, yeR, yeM, yct, yeV, ytS, ytP, yrg, ypn, yog, yoq, yoN, yoT, yoB⟩ := v'
      exact ⟨rfl, _, _, _, _, _, _, _, _, _, _, _, _, bg_W_S W1 W.2.1 W.2.2.1 W.2.2.2.1 W.2.2.2.2.1 (by omega) (fun j hj => w7 j (by omega)) W.2.2.2.2.2.2.2.2 hc (bg_wS_new ⟨by simp, fun z => absurd z (by simp), fun z => absurd z (by simp), fun z => absurd z (by simp), fun _ z => absurd rfl z, fun z => absurd z (by simp), fun _ => ⟨p0, p1⟩⟩), X', Y'⟩
    · exact br_t (by rw [e5]; exact nI_lt (b := 16) hc (by decide)) (br_f (by rw [e4]; exact nI_ge (b := 2) (by omega) (by decide)) (br_f (by rw [f5]; exact bx_ne (b := 16) (by omega)) (br_f (by rw [f3]; exact nI_ge (b := 2) (by omega) (by decide)) ⟨rfl, J _⟩)))
  · exact br_f (by rw [e5]; exact nI_nlt (b := 16) (by omega) (by omega)) (br_t (by rw [f5, show bf_sz (P 3) = 16 by omega]; rfl) ⟨rfl, J _⟩)
theorem i_vc_tested {k : Nat} {u : SX} {v : SY} (I : i_Rel k u v) (hk : k + 4 ≤ 2048) (v1 : Int32) : wpX_tested (fun r u' => wpY_tested (fun r' v' => r' = r ∧ i_Rel (k + 4) u' v') v v1) u v1 := by
  have J : ∀ k', i_Rel k' u v := fun _ => I
  obtain ⟨bk, P, es, ss, h, pc, sc, M, g, pl, so, oc, W, X, Y⟩ := I
  have W1 := W.1
  have w4 := W.2.2.2.1
  have w5 := W.2.2.2.2.1
  have w6 := W.2.2.2.2.2.1
  have w7 := W.2.2.2.2.2.2.1
  have h16 := (W1 3 (by decide)).2.1
  have h24 := (W1 3 (by decide)).2.2.1
  obtain ⟨xph, xkh, xes, xem, xss, xsm, xdb, xfo, xco, xst, xen, xlo, xrg, xpn, xkr, xkp, xeK, xeX, xeY, xeR, xeV, xeS, xsK, xsA, xsB, xsX, xsY, xsS, xpB, xpS, xfS, xfT, xfB⟩ := u
  obtain ⟨ydp, ypd, yhi, yoh, yop, ynx, yba, yca, yed, ysp, ysK, ysR, ysN, ysA, ysB, ysX, ysY, ysz, yeK, yeL, yeR, yeM, yct, yeV, ytS, ytP, yrg, ypn, yog, yoq, yoN, yoT, yoB⟩ := v
  have e2 : xes = nI es := X.2.1
  have e4 : xss = nI ss := X.2.2.2.1
  have e5 : xsm = nI (bf_sz (P 3)) := X.2.2.2.2.1
  have f2 : ypd = nI es := Y.2.1
  have f3 : ydp = nI ss := Y.2.2.1
  have f5 : ysz 3 = nI (bf_sz (P 3)) := Y.2.2.2.2.1
  rcases gr_cases v1 2 with b | ⟨o, ho, rfl⟩
  · have n0 : ¬ v1 = 0 := by
      rintro rfl
      rcases b with b | b
      · exact absurd b (by decide)
      · exact absurd b (by decide)
    have n1 : ¬ v1 = 1 := by
      rintro rfl
      rcases b with b | b
      · exact absurd b (by decide)
      · exact absurd b (by decide)
    refine br_f n0 (br_f n1 ?_)
    rcases b with b | b
    · exact br_t b ⟨rfl, J _⟩
    · exact br_f (gr_nneg b (by decide)) (br_f (Int32.not_le.mpr (Int32.lt_of_lt_of_le (show (1 : Int32) < nI 2 by decide) b)) ⟨rfl, J _⟩)
  have go : ∀ {post : Int32 → SX → Prop}, wX_tested_11 post (nI o) xph xkh xes xem xss xsm xdb xfo xco xst xen xlo xrg xpn xkr xkp xeK xeX xeY xeR xeV xeS xsK xsA xsB xsX xsY xsS xpB xpS xfS xfT xfB → wpX_tested post (xph, xkh, xes, xem, xss, xsm, xdb, xfo, xco, xst, xen, xlo, xrg, xpn, xkr, xkp, xeK, xeX, xeY, xeR, xeV, xeS, xsK, xsA, xsB, xsX, xsY, xsS, xpB, xpS, xfS, xfT, xfB) (nI o) := by
    intro post H
    have h2 : o = 0 ∨ o = 1 := by omega
    rcases h2 with rfl | rfl
    · exact br_t rfl H
    · exact br_f (by decide) (br_t rfl H)
  refine go ?_
  have yc1 : ¬ nI o < 0 := nI_pos (by omega)
  have yc2 : nI o ≤ 1 := nI_le (b := 1) (by omega) (by decide)
  by_cases hc : bf_sz (P 3) < 16
  · by_cases hs2 : 2 ≤ ss
    · by_cases he2 : 2 ≤ es
      · obtain ⟨s, rfl⟩ : ∃ s, ss = s + 1 + 1 := ⟨ss - 2, by omega⟩
        obtain ⟨e, rfl⟩ : ∃ e, es = e + 1 + 1 := ⟨es - 2, by omega⟩
        have p0 := w7 s (by omega)
        have p1 := w7 (s + 1) (by omega)
        have p2 := w5 e (by omega)
        have p3 := w5 (e + 1) (by omega)
        refine br_t (by rw [e5]; exact nI_lt (b := 16) hc (by decide)) (br_f (by rw [e4]; exact nI_nlt (b := 2) (by omega) (by omega)) (br_t (by rw [e2]; exact nI_le (a := 2) he2 (by omega)) (gx_takeS X (by omega) (fun u1 X1 => ?_))))
        obtain ⟨xph, xkh, xes, xem, xss, xsm, xdb, xfo, xco, xst, xen, xlo, xrg, xpn, xkr, xkp, xeK, xeX, xeY, xeR, xeV, xeS, xsK, xsA, xsB, xsX, xsY, xsS, xpB, xpS, xfS, xfT, xfB⟩ := u1
        refine gx_takeS X1 (by omega) (fun u2 X2 => ?_)
        obtain ⟨xph, xkh, xes, xem, xss, xsm, xdb, xfo, xco, xst, xen, xlo, xrg, xpn, xkr, xkp, xeK, xeX, xeY, xeR, xeV, xeS, xsK, xsA, xsB, xsX, xsY, xsS, xpB, xpS, xfS, xfT, xfB⟩ := u2
        refine gx_takeE X2 (by omega) (fun u3 X3 => ?_)
        obtain ⟨xph, xkh, xes, xem, xss, xsm, xdb, xfo, xco, xst, xen, xlo, xrg, xpn, xkr, xkp, xeK, xeX, xeY, xeR, xeV, xeS, xsK, xsA, xsB, xsX, xsY, xsS, xpB, xpS, xfS, xfT, xfB⟩ := u3
        refine gx_takeE X3 (by omega) (fun u4 X4 => ?_)
        obtain ⟨xph, xkh, xes, xem, xss, xsm, xdb, xfo, xco, xst, xen, xlo, xrg, xpn, xkr, xkp, xeK, xeX, xeY, xeR, xeV, xeS, xsK, xsA, xsB, xsX, xsY, xsS, xpB, xpS, xfS, xfT, xfB⟩ := u4
        have eo : (11 : Int32) + nI o = nI (11 + o) := nI_add 11 o
        rw [eo]
        refine gx_mkS (σ := (11 + o, 0, 0, sc s, sc (s + 1), pc e, pc (e + 1))) W1 W.2.1 hc (by omega) X4 ⟨rfl, fun z => absurd z (by show ¬ 11 + o < 10; omega), fun _ => ⟨rfl, rfl⟩, fun _ _ => rfl, fun _ => rfl⟩ (fun u' X' => ?_)
        obtain ⟨xph, xkh, xes, xem, xss, xsm, xdb, xfo, xco, xst, xen, xlo, xrg, xpn, xkr, xkp, xeK, xeX, xeY, xeR, xeV, xeS, xsK, xsA, xsB, xsX, xsY, xsS, xpB, xpS, xfS, xfT, xfB⟩ := u'
        obtain ⟨rfl, rfl, rfl, y4, y5, rfl, rfl, rfl, rfl, y10, y11, y12, y13, y14⟩ := Y
        have ei : (48 : Int32) + ysz 3 = nI (48 + bf_sz (P 3)) := by rw [y5]; exact nI_add 48 _
        have hi4 : vp_in (nI (48 + bf_sz (P 3))) 64 := vp_in_nI (by omega) (by decide)
        have hc4 : (nI (48 + bf_sz (P 3))).toNatClampNeg = 48 + bf_sz (P 3) := nI_clamp (by omega)
        have q0 : ytS (nI s).toNatClampNeg = nI (sc s) := by rw [nI_clamp (by omega)]; exact y13 s (by omega)
        have q1 : ytS (nI s + 1).toNatClampNeg = nI (sc (s + 1)) := by rw [nI_1, nI_clamp (by omega)]; exact y13 (s + 1) (by omega)
        have q2 : ytP (nI e).toNatClampNeg = nI (pc e) := by rw [nI_clamp (by omega)]; exact y12 e (by omega)
        have q3 : ytP (nI e + 1).toNatClampNeg = nI (pc (e + 1)) := by rw [nI_1, nI_clamp (by omega)]; exact y12 (e + 1) (by omega)
        refine br_f yc1 (br_t yc2 (br_f (by rw [y5]; exact bx_ne (b := 16) (by omega)) (br_f (nI_nlt (b := 2) (by omega) (by omega)) (br_t (nI_le (a := 2) he2 (by omega)) (nm_r (e' := nI s) (pk_sub (a := s + 1 + 1) (b := 2) (by omega)) (nm_r (e' := nI e) (pk_sub (a := e + 1 + 1) (b := 2) (by omega)) (nm_r ei
          ⟨vp_in_nI (by omega) (by decide), hi4, nm_r (e' := upd ysA (48 + bf_sz (P 3)) (nI (sc s))) (by rw [hc4, q0]) ⟨by rw [nI_1]; exact vp_in_nI (by omega) (by decide), hi4, nm_r (e' := upd ysB (48 + bf_sz (P 3)) (nI (sc (s + 1)))) (by rw [hc4, q1])
          ⟨vp_in_nI (by omega) (by decide), hi4, nm_r (e' := upd ysX (48 + bf_sz (P 3)) (nI (pc e))) (by rw [hc4, q2]) ⟨by rw [nI_1]; exact vp_in_nI (by omega) (by decide), hi4, nm_r (e' := upd ysY (48 + bf_sz (P 3)) (nI (pc (e + 1)))) (by rw [hc4, q3]) ?_⟩⟩⟩⟩)))))))
        rw [eo]
        refine gy_mkS (σ := (11 + o, 0, 0, sc s, sc (s + 1), pc e, pc (e + 1))) (ss := s) (es := e) (fun q hq => (W1 q hq).2) hc (by omega) y4 y5 y10 y11 (fun j hj => y12 j (by omega)) (fun j hj => y13 j (by omega)) y14 (fun _ z => pk_un z) (fun _ z => pk_un z) (fun _ z => pk_un z) (fun _ z => pk_un z) ⟨rfl, fun z => absurd z (by show ¬ 11 + o < 10; omega), fun _ => ⟨pk_us, pk_us⟩, fun _ _ => pk_us, fun _ => pk_us⟩ (fun v' Y' => ?_)
        obtain ⟨ydp, ypd, yhi, yoh, yop, ynx, yba, yca, yed, ysp, ysK, ysR, ysN, ysA, ysB, ysX, ysY, ysz, yeK, yeL, yeR, yeM, yct, yeV, ytS, ytP, yrg, ypn, yog, yoq, yoN, yoT, yoB⟩ := v'
        refine ⟨rfl, _, _, _, _, _, _, _, _, _, _, _, _, bg_W_S W1 W.2.1 W.2.2.1 (by omega) (fun j hj => w5 j (by omega)) (by omega) (fun j hj => w7 j (by omega)) W.2.2.2.2.2.2.2.2 hc (bg_wS_new ⟨by show 11 + o ≤ 12; omega, fun z => ?_, fun z => ?_, fun z => ?_, fun _ _ => p2, fun _ => p3, fun _ => ⟨p0, p1⟩⟩), X', Y'⟩
        · have z : 11 + o = 1 ∨ 11 + o = 2 ∨ 11 + o = 3 ∨ 11 + o = 6 ∨ 11 + o = 7 ∨ 11 + o = 8 := z
          omega
        · have z : 11 + o = 1 := z
          omega
        · have z : 11 + o = 4 ∨ 11 + o = 5 := z
          omega
      · exact br_t (by rw [e5]; exact nI_lt (b := 16) hc (by decide)) (br_f (by rw [e4]; exact nI_nlt (b := 2) (by omega) (by omega)) (br_f (by rw [e2]; exact nI_ge (b := 2) (by omega) (by decide))
          (br_f yc1 (br_t yc2 (br_f (by rw [f5]; exact bx_ne (b := 16) (by omega)) (br_f (by rw [f3]; exact nI_nlt (b := 2) (by omega) (by omega)) (br_f (by rw [f2]; exact nI_ge (b := 2) (by omega) (by decide)) ⟨rfl, J _⟩)))))))
    · exact br_t (by rw [e5]; exact nI_lt (b := 16) hc (by decide)) (br_t (by rw [e4]; exact nI_lt (b := 2) (by omega) (by decide)) (br_f yc1 (br_t yc2 (br_f (by rw [f5]; exact bx_ne (b := 16) (by omega)) (br_t (by rw [f3]; exact nI_lt (b := 2) (by omega) (by decide)) ⟨rfl, J _⟩)))))
  · exact br_f (by rw [e5]; exact nI_nlt (b := 16) (by omega) (by omega)) (br_f yc1 (br_t yc2 (br_t (by rw [f5, show bf_sz (P 3) = 16 by omega]; rfl) ⟨rfl, J _⟩)))
end
section
/-! update, discard, procedure, load, and the calls that only read -/
theorem gu_dec (v1 v2 : Int32) :
    ((∀ post : Int32 → Prop, post 0 → wpX_isGoodUpdate post v1 v2) ∧ (∀ (post : Int32 → SY → Prop) (v : SY), post (-1) v → wpY_update post v v1 v2)) ∨
    (∃ o, o ≤ 3 ∧ v1 = nI o ∧ (o < 3 → ∃ r, r < 6 ∧ v2 = nI r) ∧ (∀ post : Int32 → Prop, post 1 → wpX_isGoodUpdate post v1 v2) ∧
      (∀ (post : Int32 → SY → Prop) {ydp ypd yhi yoh yop ynx yba yca yed ysp : Int32} {ysK ysR ysN ysA ysB ysX ysY ysz yeK yeL yeR yeM yct yeV ytS ytP yrg ypn yog yoq yoN yoT yoB : Nat → Int32}, wY_update_24 post v1 v2 ydp ypd yhi yoh yop ynx yba yca yed ysp ysK ysR ysN ysA ysB ysX ysY ysz yeK yeL yeR yeM yct yeV ytS ytP yrg ypn yog yoq yoN yoT yoB → wpY_update post (ydp, ypd, yhi, yoh, yop, ynx, yba, yca, yed, ysp, ysK, ysR, ysN, ysA, ysB, ysX, ysY, ysz, yeK, yeL, yeR, yeM, yct, yeV, ytS, ytP, yrg, ypn, yog, yoq, yoN, yoT, yoB) v1 v2)) := by
  rcases gr_cases v1 4 with o | ⟨o, ho, rfl⟩
  · have n3 : ¬ v1 = 3 := by
      rintro rfl
      rcases o with o | o
      · exact absurd o (by decide)
      · exact absurd o (by decide)
    refine Or.inl ⟨fun post H => ?_, fun post v H => ?_⟩
    · rcases o with o | o
      · exact br_f n3 (br_t o H)
      · exact br_f n3 (br_f (gr_nneg o (by decide)) (br_t (Int32.le_trans (show (3 : Int32) ≤ nI 4 by decide) o) H))
    · obtain ⟨ydp, ypd, yhi, yoh, yop, ynx, yba, yca, yed, ysp, ysK, ysR, ysN, ysA, ysB, ysX, ysY, ysz, yeK, yeL, yeR, yeM, yct, yeV, ytS, ytP, yrg, ypn, yog, yoq, yoN, yoT, yoB⟩ := v
      rcases o with o | o
      · exact br_t o H
      · exact br_f (gr_nneg o (by decide)) (br_t (Int32.lt_of_lt_of_le (show (3 : Int32) < nI 4 by decide) o) H)
  by_cases o3 : o = 3
  · subst o3
    exact Or.inr ⟨3, by decide, rfl, fun z => absurd z (by simp), fun post H => br_t rfl H, fun post => by intros; exact br_f (by decide) (br_f (by decide) (br_t (by decide) (by assumption)))⟩
  · have n3 : ¬ nI o = 3 := bx_ne (b := 3) o3
    have h0 : ¬ nI o < 0 := nI_pos (by omega)
    have h3 : ¬ (3 : Int32) ≤ nI o := nI_ge (b := 3) (by omega) (by decide)
    have h4 : ¬ (3 : Int32) < nI o := nI_nlt (a := 3) (by omega) (by decide)
    rcases gr_cases v2 6 with a | ⟨r, hr, rfl⟩
    · refine Or.inl ⟨fun post H => br_f n3 (br_f h0 (br_f h3 (gx_isR0 a (br_t rfl H)))), fun post v H => ?_⟩
      obtain ⟨ydp, ypd, yhi, yoh, yop, ynx, yba, yca, yed, ysp, ysK, ysR, ysN, ysA, ysB, ysX, ysY, ysz, yeK, yeL, yeR, yeM, yct, yeV, ytS, ytP, yrg, ypn, yog, yoq, yoN, yoT, yoB⟩ := v
      exact br_f h0 (br_f h4 (br_f h3 (gy_isR0 a (br_t rfl H))))
    · exact Or.inr ⟨o, by omega, rfl, fun _ => ⟨r, hr, rfl⟩, fun post H => br_f n3 (br_f h0 (br_f h3 (gx_isR1 hr (br_f (by decide) H)))), fun post => by intros; exact br_f h0 (br_f h4 (br_f h3 (gy_isR1 hr (br_f (by decide) (by assumption)))))⟩
theorem i_vc_update {k : Nat} {u : SX} {v : SY} (I : i_Rel k u v) (hk : k + 4 ≤ 2048) (v1 : Int32) (v2 : Int32) : wpX_update (fun r u' => wpY_update (fun r' v' => r' = r ∧ i_Rel (k + 4) u' v') v v1 v2) u v1 v2 := by
  have J : ∀ k', i_Rel k' u v := fun _ => I
  obtain ⟨bk, P, es, ss, h, pc, sc, M, g, pl, so, oc, W, X, Y⟩ := I
  have W1 := W.1
  have w4 := W.2.2.2.1
  have w5 := W.2.2.2.2.1
  have w6 := W.2.2.2.2.2.1
  have h16 := (W1 3 (by decide)).2.1
  have h24 := (W1 3 (by decide)).2.2.1
  have hb := (W1 3 (by decide)).1
  obtain ⟨xph, xkh, xes, xem, xss, xsm, xdb, xfo, xco, xst, xen, xlo, xrg, xpn, xkr, xkp, xeK, xeX, xeY, xeR, xeV, xeS, xsK, xsA, xsB, xsX, xsY, xsS, xpB, xpS, xfS, xfT, xfB⟩ := u
  obtain ⟨ydp, ypd, yhi, yoh, yop, ynx, yba, yca, yed, ysp, ysK, ysR, ysN, ysA, ysB, ysX, ysY, ysz, yeK, yeL, yeR, yeM, yct, yeV, ytS, ytP, yrg, ypn, yog, yoq, yoN, yoT, yoB⟩ := v
  have e2 : xes = nI es := X.2.1
  have e5 : xsm = nI (bf_sz (P 3)) := X.2.2.2.2.1
  have f2 : ypd = nI es := Y.2.1
  have f5 : ysz 3 = nI (bf_sz (P 3)) := Y.2.2.2.2.1
  unfold wpX_update
  rcases gu_dec v1 v2 with ⟨bX, bY⟩ | ⟨o, ho, rfl, g1, gX, gY⟩
  · exact bX _ (br_t rfl (bY _ _ ⟨rfl, J _⟩))
  refine gX _ (br_f (by decide) ?_)
  by_cases hc : bf_sz (P 3) < 16
  · by_cases h1 : 1 ≤ es
    · obtain ⟨e, rfl⟩ : ∃ e, es = e + 1 := ⟨es - 1, by omega⟩
      have p0 := w5 e (by omega)
      have eo : (6 : Int32) + nI o = nI (6 + o) := nI_add 6 o
      have x13 := X.2.2.2.2.2.2.2.2.2.2.2.2.1
      have x12 := X.2.2.2.2.2.2.2.2.2.2.2.1
      have ex : xes - 1 = nI e := by rw [e2]; exact nI_pred e
      have et : xeS (xes - 1).toNatClampNeg = nI (24 * bk 3 + pc e) := by rw [ex, nI_clamp (by omega)]; exact x13 e (by omega)
      have em : xeR (nI (24 * bk 3 + pc e)).toNatClampNeg = M (pc e) := by rw [nI_clamp (by omega)]; exact x12 _ p0
      refine br_t (by rw [e5]; exact nI_lt (b := 16) hc (by decide)) (br_t (by rw [e2]; exact nI_le (a := 1) (by omega) (by omega)) (nm_r eo ⟨by rw [ex]; exact vp_in_nI (by omega) (by decide), nm_r et ?_⟩))
      have y12 := Y.2.2.2.2.2.2.2.2.2.2.2.1
      have y11 := Y.2.2.2.2.2.2.2.2.2.2.1
      have fx : ypd - 1 = nI e := by rw [f2]; exact nI_pred e
      have ft : ytP (ypd - 1).toNatClampNeg = nI (pc e) := by rw [fx, nI_clamp (by omega)]; exact y12 e (by omega)
      have ad : (72 : Int32) + nI (pc e) = nI (72 + pc e) := nI_add 72 _
      have fm : yeM ((72 : Int32) + nI (pc e)).toNatClampNeg = M (pc e) := by rw [ad, nI_clamp (by omega)]; exact y11 _ p0
      have fi : vp_in ((72 : Int32) + nI (pc e)) 96 := by rw [ad]; exact vp_in_nI (by omega) (by decide)
      -- both sides take the expression and make the statement
      have take : ∀ {post : Int32 → SX → Prop}, (∀ u', bg_X bk (bg_put P 3 (bg_addS (P 3) (6 + o, v2, 0, 0, 0, pc e, 0))) e (ss + 1) h pc (bg_at sc ss (bf_sz (P 3))) M g pl so oc u' → post (nI (ss + 1)) u') → wX_update_75 post v2 (nI (6 + o)) xph xkh xes xem xss xsm xdb xfo xco xst xen xlo xrg xpn xkr xkp xeK xeX xeY xeR xeV xeS xsK xsA xsB xsX xsY xsS xpB xpS xfS xfT xfB := by
        intro post H
        unfold wX_update_75
        refine gx_takeE X (by omega) (fun u1 X1 => ?_)
        obtain ⟨xph, xkh, xes, xem, xss, xsm, xdb, xfo, xco, xst, xen, xlo, xrg, xpn, xkr, xkp, xeK, xeX, xeY, xeR, xeV, xeS, xsK, xsA, xsB, xsX, xsY, xsS, xpB, xpS, xfS, xfT, xfB⟩ := u1
        refine gx_mkS (σ := (6 + o, v2, 0, 0, 0, pc e, 0)) W1 W.2.1 hc w6 X1 ⟨rfl, fun _ => ⟨rfl, rfl⟩, fun z => absurd z (by show ¬ 10 ≤ 6 + o; omega), fun _ _ => rfl, fun z => absurd z (by show ¬ 11 ≤ 6 + o; omega)⟩ (fun u' X' => ?_)
        obtain ⟨xph, xkh, xes, xem, xss, xsm, xdb, xfo, xco, xst, xen, xlo, xrg, xpn, xkr, xkp, xeK, xeX, xeY, xeR, xeV, xeS, xsK, xsA, xsB, xsX, xsY, xsS, xpB, xpS, xfS, xfT, xfB⟩ := u'
        exact H _ X'
      have takeY : ∀ {post : Int32 → SY → Prop}, (∀ v', bg_Y (bg_put P 3 (bg_addS (P 3) (6 + o, v2, 0, 0, 0, pc e, 0))) e (ss + 1) h pc (bg_at sc ss (bf_sz (P 3))) M g pl so oc v' → post (nI (ss + 1)) v') → wY_update_86 post (nI o) v2 (nI (pc e)) ydp ypd yhi yoh yop ynx yba yca yed ysp ysK ysR ysN ysA ysB ysX ysY ysz yeK yeL yeR yeM yct yeV ytS ytP yrg ypn yog yoq yoN yoT yoB := by
        intro post H
        obtain ⟨rfl, rfl, rfl, y4, y5, rfl, rfl, rfl, rfl, y10, y11, y12, y13, y14⟩ := Y
        have ei : (48 : Int32) + ysz 3 = nI (48 + bf_sz (P 3)) := by rw [y5]; exact nI_add 48 _
        have hi4 : vp_in ((48 : Int32) + ysz 3) 64 := by rw [ei]; exact vp_in_nI (by omega) (by decide)
        have hc4 : ((48 : Int32) + ysz 3).toNatClampNeg = 48 + bf_sz (P 3) := by rw [ei]; exact nI_clamp (by omega)
        refine nm_r (nI_pred e) ⟨hi4, nm_r (e' := upd ysX (48 + bf_sz (P 3)) (nI (pc e))) (by rw [hc4]) ?_⟩
        rw [eo]
        refine gy_mkS (σ := (6 + o, v2, 0, 0, 0, pc e, 0)) (es := e) (fun q hq => (W1 q hq).2) hc w6 y4 y5 y10 y11 (fun j hj => y12 j (by omega)) y13 y14 (fun _ _ => rfl) (fun _ _ => rfl) (fun _ z => pk_un z) (fun _ _ => rfl) ⟨rfl, fun _ => ⟨rfl, rfl⟩, fun z => absurd z (by show ¬ 10 ≤ 6 + o; omega), fun _ _ => pk_us, fun z => absurd z (by show ¬ 11 ≤ 6 + o; omega)⟩ (fun v' Y' => ?_)
        obtain ⟨ydp, ypd, yhi, yoh, yop, ynx, yba, yca, yed, ysp, ysK, ysR, ysN, ysA, ysB, ysX, ysY, ysz, yeK, yeL, yeR, yeM, yct, yeV, ytS, ytP, yrg, ypn, yog, yoq, yoN, yoT, yoB⟩ := v'
        exact H _ Y'
      have fin : ∀ u' v', bg_X bk (bg_put P 3 (bg_addS (P 3) (6 + o, v2, 0, 0, 0, pc e, 0))) e (ss + 1) h pc (bg_at sc ss (bf_sz (P 3))) M g pl so oc u' → bg_Y (bg_put P 3 (bg_addS (P 3) (6 + o, v2, 0, 0, 0, pc e, 0))) e (ss + 1) h pc (bg_at sc ss (bf_sz (P 3))) M g pl so oc v' → i_Rel (k + 4) u' v' := by
        intro u' v' X' Y'
        refine ⟨_, _, _, _, _, _, _, _, _, _, _, _, bg_W_S W1 W.2.1 W.2.2.1 (by omega) (fun j hj => w5 j (by omega)) w6 W.2.2.2.2.2.2.1 W.2.2.2.2.2.2.2.2 hc (bg_wS_new ⟨by show 6 + o ≤ 12; omega, fun z => g1 ?_, fun z => ?_, fun z => ?_, fun _ _ => p0, fun z => absurd z (by show ¬ 11 ≤ 6 + o; omega), fun z => absurd z (by show ¬ 10 ≤ 6 + o; omega)⟩), X', Y'⟩
        · have z : 6 + o = 1 ∨ 6 + o = 2 ∨ 6 + o = 3 ∨ 6 + o = 6 ∨ 6 + o = 7 ∨ 6 + o = 8 := z
          omega
        · have z : 6 + o = 1 := z
          omega
        · have z : 6 + o = 4 ∨ 6 + o = 5 := z
          omega
      by_cases o3 : o = 3
      · refine br_t (by rw [o3]; rfl) (take (fun u' X' => gY _ (br_f (by rw [f5]; exact bx_ne (b := 16) (by omega)) (br_t (by rw [f2]; exact nI_le (a := 1) (by omega) (by omega)) ⟨by rw [fx]; exact vp_in_nI (by omega) (by decide), nm_r ft (br_t (by rw [o3]; decide) (takeY (fun v' Y' => ⟨rfl, fin u' v' X' Y'⟩)))⟩))))
      · refine br_f (bx_ne (b := 9) (by omega)) ⟨vp_in_nI (by omega) (by decide), ?_⟩
        rw [em]
        have h3 : ¬ (3 : Int32) ≤ nI o := nI_ge (b := 3) (by omega) (by decide)
        refine br_c (fun z => ?_) (fun z => ?_)
        · refine gY _ (br_f (by rw [f5]; exact bx_ne (b := 16) (by omega)) (br_t (by rw [f2]; exact nI_le (a := 1) (by omega) (by omega)) ⟨by rw [fx]; exact vp_in_nI (by omega) (by decide), nm_r ft (br_f h3 ⟨fi, br_t ?_ ⟨rfl, J _⟩⟩)⟩))
          rw [fm]; exact z
        · refine take (fun u' X' => gY _ (br_f (by rw [f5]; exact bx_ne (b := 16) (by omega)) (br_t (by rw [f2]; exact nI_le (a := 1) (by omega) (by omega)) ⟨by rw [fx]; exact vp_in_nI (by omega) (by decide), nm_r ft (br_f h3 ⟨fi, br_f ?_ (takeY (fun v' Y' => ⟨rfl, fin u' v' X' Y'⟩))⟩)⟩)))
          rw [fm]; exact z
    · exact br_t (by rw [e5]; exact nI_lt (b := 16) hc (by decide)) (br_f (by rw [e2]; exact nI_ge (b := 1) (by omega) (by decide)) (gY _ (br_f (by rw [f5]; exact bx_ne (b := 16) (by omega)) (br_f (by rw [f2]; exact nI_ge (b := 1) (by omega) (by decide)) ⟨rfl, J _⟩))))
  · exact br_f (by rw [e5]; exact nI_nlt (b := 16) (by omega) (by omega)) (gY _ (br_t (by rw [f5, show bf_sz (P 3) = 16 by omega]; rfl) ⟨rfl, J _⟩))
/-! emptying -/
theorem bg_wemp (l : bf_L) : bf_wL (bg_emp l) := ⟨Nat.zero_le _, Nat.zero_le _, fun i hi => absurd hi (Nat.not_lt_zero i), fun i hi => absurd hi (Nat.not_lt_zero i)⟩
theorem i_vc_discard {k : Nat} {u : SX} {v : SY} (I : i_Rel k u v) (hk : k + 4 ≤ 2048) : wpX_discard (fun r u' => wpY_discard (fun r' v' => r' = r ∧ i_Rel (k + 4) u' v') v) u := by
  obtain ⟨bk, P, es, ss, h, pc, sc, M, g, pl, so, oc, W, X, Y⟩ := I
  obtain ⟨W1, W2, W3, -, -, -, -, -, W9⟩ := W
  obtain ⟨xph, xkh, xes, xem, xss, xsm, xdb, xfo, xco, xst, xen, xlo, xrg, xpn, xkr, xkp, xeK, xeX, xeY, xeR, xeV, xeS, xsK, xsA, xsB, xsX, xsY, xsS, xpB, xpS, xfS, xfT, xfB⟩ := u
  obtain ⟨ydp, ypd, yhi, yoh, yop, ynx, yba, yca, yed, ysp, ysK, ysR, ysN, ysA, ysB, ysX, ysY, ysz, yeK, yeL, yeR, yeM, yct, yeV, ytS, ytP, yrg, ypn, yog, yoq, yoN, yoT, yoB⟩ := v
  obtain ⟨x1, x2, x3, x4, x5, x6, x7, x8, x9, x10, x11, x12, x13, x14, x15⟩ := X
  obtain ⟨y1, y2, y3, y4, y5, y6, y7, y8, y9, y10, y11, y12, y13, y14⟩ := Y
  refine nm_e (nm_e ⟨y3.trans x4.symm, bk, bg_put P 3 (bg_emp (P 3)), 0, 0, h, pc, sc, M, g, pl, so, oc, ?_, ?_, ?_⟩)
  · refine ⟨fun q hq => ⟨(W1 q hq).1, ?_⟩, W2, fun q hq => ?_, Nat.zero_le _, fun j hj => absurd hj (Nat.not_lt_zero j), Nat.zero_le _, fun j hj => absurd hj (Nat.not_lt_zero j), fun z => ?_, W9⟩
    · by_cases z : q = 3
      · rw [z, bg_put_s]; exact bg_wemp _
      · rw [bg_put_n z]; exact (W1 q hq).2
    · rw [bg_put_n (by omega)]; exact W3 q hq
    · rw [bg_put_s] at z; exact absurd z (Nat.not_lt_zero 0)
  · refine ⟨x1, rfl, by rw [bg_put_s]; rfl, rfl, by rw [bg_put_s]; rfl, x6, x7, x8, x9, x10, fun q hq => ?_, fun e he => ?_, fun j hj => absurd hj (Nat.not_lt_zero j), fun j hj => absurd hj (Nat.not_lt_zero j), fun p hp => ?_⟩
    · by_cases z : q = 3
      · subst z
        rw [bg_put_s]
        exact ⟨fun i hi => absurd hi (Nat.not_lt_zero i), fun i hi => absurd hi (Nat.not_lt_zero i)⟩
      · rw [bg_put_n z]; exact x11 q hq
    · rw [bg_put_s] at he; exact absurd he (Nat.not_lt_zero e)
    · rw [bg_put_n (by omega)]; exact x15 p hp
  · refine ⟨y1, rfl, rfl, by rw [bg_put_s]; exact pk_us, by rw [bg_put_s]; exact pk_us, y6, y7, y8, y9, fun q hq => ?_, fun e he => ?_, fun j hj => absurd hj (Nat.not_lt_zero j), fun j hj => absurd hj (Nat.not_lt_zero j), fun p hp => ?_⟩
    · by_cases z : q = 3
      · subst z
        rw [bg_put_s]
        exact ⟨fun i hi => absurd hi (Nat.not_lt_zero i), fun i hi => absurd hi (Nat.not_lt_zero i)⟩
      · rw [bg_put_n z]; exact y10 q hq
    · rw [bg_put_s] at he; exact absurd he (Nat.not_lt_zero e)
    · rw [bg_put_n (by omega)]; exact (pk_un (by omega)).trans (y14 p hp)
theorem i_vc_load {k : Nat} {u : SX} {v : SY} (I : i_Rel k u v) (hk : k + 4 ≤ 2048) (v1 : Int32) (v2 : Int32) : wpX_load (fun r u' => wpY_load (fun r' v' => r' = r ∧ i_Rel (k + 4) u' v') v v1 v2) u v1 v2 := by
  have J : ∀ k', i_Rel k' u v := fun _ => I
  obtain ⟨bk, P, es, ss, h, pc, sc, M, g, pl, so, oc, W, X, Y⟩ := I
  obtain ⟨xph, xkh, xes, xem, xss, xsm, xdb, xfo, xco, xst, xen, xlo, xrg, xpn, xkr, xkp, xeK, xeX, xeY, xeR, xeV, xeS, xsK, xsA, xsB, xsX, xsY, xsS, xpB, xpS, xfS, xfT, xfB⟩ := u
  obtain ⟨ydp, ypd, yhi, yoh, yop, ynx, yba, yca, yed, ysp, ysK, ysR, ysN, ysA, ysB, ysX, ysY, ysz, yeK, yeL, yeR, yeM, yct, yeV, ytS, ytP, yrg, ypn, yog, yoq, yoN, yoT, yoB⟩ := v
  unfold wpX_load wpY_load
  rcases gr_cases v1 6 with o | ⟨j, hj, rfl⟩
  · exact gx_isR0 o (br_t rfl (gy_isR0 o (br_t rfl ⟨rfl, J _⟩)))
  · obtain ⟨x1, x2, x3, x4, x5, x6, x7, x8, x9, x10, x11⟩ := X
    obtain ⟨y1, y2, y3, y4, y5, y6, y7, y8, y9, y10⟩ := Y
    have hin : vp_in (nI j) 6 := vp_in_nI hj (by decide)
    exact gx_isR1 hj (br_f (by decide) ⟨hin, nm_e (gy_isR1 hj (br_f (by decide) ⟨hin, nm_e ⟨rfl, bk, P, es, ss, h, pc, sc, M, upd g (nI j).toNatClampNeg v2, pl, so, oc, W, ⟨x1, x2, x3, x4, x5, x6, x7, x8, by rw [x9], x10, x11⟩, ⟨y1, y2, y3, y4, y5, y6, y7, by rw [y8], y9, y10⟩⟩⟩))⟩)
theorem i_vc_outcome {k : Nat} {u : SX} {v : SY} (I : i_Rel k u v) (hk : k + 4 ≤ 2048) : wpX_outcome (fun r => wpY_outcome (fun r' => r' = r ∧ i_Rel (k + 4) u v) v) u := by
  have J : ∀ k', i_Rel k' u v := fun _ => I
  obtain ⟨bk, P, es, ss, h, pc, sc, M, g, pl, so, oc, W, X, Y⟩ := I
  obtain ⟨xph, xkh, xes, xem, xss, xsm, xdb, xfo, xco, xst, xen, xlo, xrg, xpn, xkr, xkp, xeK, xeX, xeY, xeR, xeV, xeS, xsK, xsA, xsB, xsX, xsY, xsS, xpB, xpS, xfS, xfT, xfB⟩ := u
  obtain ⟨ydp, ypd, yhi, yoh, yop, ynx, yba, yca, yed, ysp, ysK, ysR, ysN, ysA, ysB, ysX, ysY, ysz, yeK, yeL, yeR, yeM, yct, yeV, ytS, ytP, yrg, ypn, yog, yoq, yoN, yoT, yoB⟩ := v
  exact ⟨Y.2.2.2.2.2.2.1.trans X.2.2.2.2.2.2.2.1.symm, J _⟩
theorem i_vc_look {k : Nat} {u : SX} {v : SY} (I : i_Rel k u v) (hk : k + 4 ≤ 2048) (v1 : Int32) : wpX_look (fun r => wpY_look (fun r' => r' = r ∧ i_Rel (k + 4) u v) v v1) u v1 := by
  have J : ∀ k', i_Rel k' u v := fun _ => I
  obtain ⟨bk, P, es, ss, h, pc, sc, M, g, pl, so, oc, W, X, Y⟩ := I
  obtain ⟨xph, xkh, xes, xem, xss, xsm, xdb, xfo, xco, xst, xen, xlo, xrg, xpn, xkr, xkp, xeK, xeX, xeY, xeR, xeV, xeS, xsK, xsA, xsB, xsX, xsY, xsS, xpB, xpS, xfS, xfT, xfB⟩ := u
  obtain ⟨ydp, ypd, yhi, yoh, yop, ynx, yba, yca, yed, ysp, ysK, ysR, ysN, ysA, ysB, ysX, ysY, ysz, yeK, yeL, yeR, yeM, yct, yeV, ytS, ytP, yrg, ypn, yog, yoq, yoN, yoT, yoB⟩ := v
  unfold wpX_look wpY_look
  rcases gr_cases v1 6 with o | ⟨j, hj, rfl⟩
  · exact gx_isR0 o (br_t rfl (gy_isR0 o (br_t rfl ⟨rfl, J _⟩)))
  · have hin : vp_in (nI j) 6 := vp_in_nI hj (by decide)
    have e : yrg = xrg := Y.2.2.2.2.2.2.2.1.trans X.2.2.2.2.2.2.2.2.1.symm
    exact gx_isR1 hj (br_f (by decide) ⟨hin, gy_isR1 hj (br_f (by decide) ⟨hin, by rw [e], J _⟩)⟩)
theorem i_vc_pile {k : Nat} {u : SX} {v : SY} (I : i_Rel k u v) (hk : k + 4 ≤ 2048) : wpX_pile (fun r => wpY_pile (fun r' => r' = r ∧ i_Rel (k + 4) u v) v) u := by
  have J : ∀ k', i_Rel k' u v := fun _ => I
  obtain ⟨bk, P, es, ss, h, pc, sc, M, g, pl, so, oc, W, X, Y⟩ := I
  obtain ⟨xph, xkh, xes, xem, xss, xsm, xdb, xfo, xco, xst, xen, xlo, xrg, xpn, xkr, xkp, xeK, xeX, xeY, xeR, xeV, xeS, xsK, xsA, xsB, xsX, xsY, xsS, xpB, xpS, xfS, xfT, xfB⟩ := u
  obtain ⟨ydp, ypd, yhi, yoh, yop, ynx, yba, yca, yed, ysp, ysK, ysR, ysN, ysA, ysB, ysX, ysY, ysz, yeK, yeL, yeR, yeM, yct, yeV, ytS, ytP, yrg, ypn, yog, yoq, yoN, yoT, yoB⟩ := v
  exact ⟨Y.1.trans X.1.symm, J _⟩
theorem i_vc_onPile {k : Nat} {u : SX} {v : SY} (I : i_Rel k u v) (hk : k + 4 ≤ 2048) (v1 : Int32) : wpX_onPile (fun r => wpY_onPile (fun r' => r' = r ∧ i_Rel (k + 4) u v) v v1) u v1 := by
  have J : ∀ k', i_Rel k' u v := fun _ => I
  obtain ⟨bk, P, es, ss, h, pc, sc, M, g, pl, so, oc, W, X, Y⟩ := I
  have h12 := W.2.2.2.2.2.2.2.2
  obtain ⟨xph, xkh, xes, xem, xss, xsm, xdb, xfo, xco, xst, xen, xlo, xrg, xpn, xkr, xkp, xeK, xeX, xeY, xeR, xeV, xeS, xsK, xsA, xsB, xsX, xsY, xsS, xpB, xpS, xfS, xfT, xfB⟩ := u
  obtain ⟨ydp, ypd, yhi, yoh, yop, ynx, yba, yca, yed, ysp, ysK, ysR, ysN, ysA, ysB, ysX, ysY, ysz, yeK, yeL, yeR, yeM, yct, yeV, ytS, ytP, yrg, ypn, yog, yoq, yoN, yoT, yoB⟩ := v
  have e1 : xph = nI h := X.1
  have f1 : yhi = nI h := Y.1
  have e2 : ypn = xpn := Y.2.2.2.2.2.2.2.2.1.trans X.2.2.2.2.2.2.2.2.2.1.symm
  subst e1 f1 e2
  rcases pk_ix v1 (n := h) (by omega) with o | o | ⟨j, hj, rfl⟩
  · exact br_t o (br_t o ⟨rfl, J _⟩)
  · exact br_f (gr_nneg o (by omega)) (br_t o (br_f (gr_nneg o (by omega)) (br_f (Int32.not_lt.mpr o) ⟨rfl, J _⟩)))
  · have ei : nI h - 1 - nI j = nI (h - 1 - j) := by
      show nI h - nI 1 - nI j = _
      rw [pk_sub (by omega), pk_sub (by omega)]
    have hin : vp_in (nI h - 1 - nI j) 12 := by rw [ei]; exact vp_in_nI (by omega) (by decide)
    exact br_f (nI_pos (by omega)) (br_f (nI_ge hj (by omega)) ⟨hin, br_f (nI_pos (by omega)) (br_t (nI_lt hj (by omega)) ⟨hin, rfl, J _⟩)⟩)
theorem i_vc_steps {k : Nat} {u : SX} {v : SY} (I : i_Rel k u v) (hk : k + 4 ≤ 2048) : wpX_steps (fun r => wpY_steps (fun r' => r' = r ∧ i_Rel (k + 4) u v) v) u := by
  have J : ∀ k', i_Rel k' u v := fun _ => I
  obtain ⟨bk, P, es, ss, h, pc, sc, M, g, pl, so, oc, W, X, Y⟩ := I
  obtain ⟨xph, xkh, xes, xem, xss, xsm, xdb, xfo, xco, xst, xen, xlo, xrg, xpn, xkr, xkp, xeK, xeX, xeY, xeR, xeV, xeS, xsK, xsA, xsB, xsX, xsY, xsS, xpB, xpS, xfS, xfT, xfB⟩ := u
  obtain ⟨ydp, ypd, yhi, yoh, yop, ynx, yba, yca, yed, ysp, ysK, ysR, ysN, ysA, ysB, ysX, ysY, ysz, yeK, yeL, yeR, yeM, yct, yeV, ytS, ytP, yrg, ypn, yog, yoq, yoN, yoT, yoB⟩ := v
  exact ⟨Y.2.2.2.2.2.1.trans X.2.2.2.2.2.2.1.symm, J _⟩
end
section
/-! procedure -/
/-- j cells have been copied from S on to B on -/
def gc_cp (B S j : Nat) (A A' : Nat → Int32) : Prop := (∀ i, i < j → A' (B + i) = A (S + i)) ∧ (∀ x, x < B ∨ B + j ≤ x → A' x = A x)
theorem gc_0 {B S : Nat} {A : Nat → Int32} : gc_cp B S 0 A A := ⟨fun i hi => absurd hi (Nat.not_lt_zero i), fun _ _ => rfl⟩
theorem gc_1 {B S j : Nat} {A A' : Nat → Int32} (h : gc_cp B S j A A') (hS : B ≤ S) : gc_cp B S (j + 1) A (upd A' (B + j) (A' (S + j))) := by
  refine ⟨fun i hi => ?_, fun x hx => ?_⟩
  · by_cases e : i = j
    · rw [e, pk_us]; exact h.2 _ (by omega)
    · rw [pk_un (by omega)]; exact h.1 i (by omega)
  · rw [pk_un (by omega)]; exact h.2 x (by omega)
section
variable {ydp ypd yhi yoh yop ynx yba yca yed ysp : Int32} {ysK ysR ysN ysA ysB ysX ysY ysz yeK yeL yeR yeM yct yeV ytS ytP yrg ypn yog yoq yoN yoT yoB : Nat → Int32}
variable {post : Int32 → SY → Prop} {p : Nat}
theorem gc_loop3 (hp : p < 3) (H : ∀ a1 a2 a3, gc_cp (24 * p) 72 24 yeK a1 → gc_cp (24 * p) 72 24 yeL a2 → gc_cp (24 * p) 72 24 yeR a3 → post (ysz 3) (0, 0, yhi, yoh, yop, ynx, yba, yca, yed, ysp, ysK, ysR, ysN, ysA, ysB, ysX, ysY, upd (upd ysz p (ysz 3)) 3 0, a1, a2, a3, yeM, upd yct 3 0, yeV, ytS, ytP, yrg, ypn, yog, yoq, yoN, yoT, yoB)) :
    ∀ d j a1 a2 a3, j + d = 24 → gc_cp (24 * p) 72 j yeK a1 → gc_cp (24 * p) 72 j yeL a2 → gc_cp (24 * p) 72 j yeR a3 → wY_procedure_185 post (nI p) ydp ypd yhi yoh yop ynx yba yca yed ysp (d + 1) (nI j) ysK ysR ysN ysA ysB ysX ysY ysz a1 a2 a3 yeM yct yeV ytS ytP yrg ypn yog yoq yoN yoT yoB := by
  intro d
  have hip : vp_in (nI p) 4 := vp_in_nI (by omega) (by decide)
  have hcp : (nI p).toNatClampNeg = p := nI_clamp (by omega)
  induction d with
  | zero =>
    intro j a1 a2 a3 hj h1 h2 h3
    obtain rfl : j = 24 := by omega
    refine br_t (by decide) ⟨hip, nm_r (e' := upd ysz p (ysz 3)) (by rw [hcp]) (nm_e (nm_e ⟨hip, ?_⟩))⟩
    rw [hcp]
    have e : upd (upd ysz p (ysz 3)) 3 0 p = ysz 3 := (pk_un (by omega)).trans pk_us
    rw [e]
    exact H a1 a2 a3 h1 h2 h3
  | succ d ih =>
    intro j a1 a2 a3 hj h1 h2 h3
    have es : (72 : Int32) + nI j = nI (72 + j) := nI_add 72 j
    have eb : (24 : Int32) * nI p + nI j = nI (24 * p + j) := by
      show nI 24 * nI p + nI j = _
      rw [pk_mul, nI_add]
    have i1 : vp_in ((72 : Int32) + nI j) 96 := by rw [es]; exact vp_in_nI (by omega) (by decide)
    have i2 : vp_in ((24 : Int32) * nI p + nI j) 96 := by rw [eb]; exact vp_in_nI (by omega) (by decide)
    have c1 : ((72 : Int32) + nI j).toNatClampNeg = 72 + j := by rw [es]; exact nI_clamp (by omega)
    have c2 : ((24 : Int32) * nI p + nI j).toNatClampNeg = 24 * p + j := by rw [eb]; exact nI_clamp (by omega)
    refine br_f (nI_ge (b := 24) (by omega) (by decide)) ⟨i1, i2, nm_r (e' := upd a1 (24 * p + j) (a1 (72 + j))) (by rw [c1, c2]) ⟨i1, i2, nm_r (e' := upd a2 (24 * p + j) (a2 (72 + j))) (by rw [c1, c2]) ⟨i1, i2, nm_r (e' := upd a3 (24 * p + j) (a3 (72 + j))) (by rw [c1, c2]) (nm_r (nI_1 j) ?_)⟩⟩⟩
    exact ih (j + 1) _ _ _ (by omega) (gc_1 h1 (by omega)) (gc_1 h2 (by omega)) (gc_1 h3 (by omega))
theorem gc_loop7 (hp : p < 3) (H : ∀ b1 b2 b3 b4 b5 b6 b7 a1 a2 a3, gc_cp (16 * p) 48 16 ysK b1 → gc_cp (16 * p) 48 16 ysR b2 → gc_cp (16 * p) 48 16 ysN b3 → gc_cp (16 * p) 48 16 ysA b4 → gc_cp (16 * p) 48 16 ysB b5 → gc_cp (16 * p) 48 16 ysX b6 → gc_cp (16 * p) 48 16 ysY b7 → gc_cp (24 * p) 72 24 yeK a1 → gc_cp (24 * p) 72 24 yeL a2 → gc_cp (24 * p) 72 24 yeR a3 → post (ysz 3) (0, 0, yhi, yoh, yop, ynx, yba, yca, yed, ysp, b1, b2, b3, b4, b5, b6, b7, upd (upd ysz p (ysz 3)) 3 0, a1, a2, a3, yeM, upd yct 3 0, yeV, ytS, ytP, yrg, ypn, yog, yoq, yoN, yoT, yoB)) :
    ∀ d j b1 b2 b3 b4 b5 b6 b7, j + d = 16 → gc_cp (16 * p) 48 j ysK b1 → gc_cp (16 * p) 48 j ysR b2 → gc_cp (16 * p) 48 j ysN b3 → gc_cp (16 * p) 48 j ysA b4 → gc_cp (16 * p) 48 j ysB b5 → gc_cp (16 * p) 48 j ysX b6 → gc_cp (16 * p) 48 j ysY b7 → wY_procedure_31 post (nI p) ydp ypd yhi yoh yop ynx yba yca yed ysp (d + 1) (nI j) b1 b2 b3 b4 b5 b6 b7 ysz yeK yeL yeR yeM yct yeV ytS ytP yrg ypn yog yoq yoN yoT yoB := by
  intro d
  induction d with
  | zero =>
    intro j b1 b2 b3 b4 b5 b6 b7 hj h1 h2 h3 h4 h5 h6 h7
    obtain rfl : j = 16 := by omega
    exact br_t (by decide) ⟨25, gc_loop3 hp (fun a1 a2 a3 k1 k2 k3 => H b1 b2 b3 b4 b5 b6 b7 a1 a2 a3 h1 h2 h3 h4 h5 h6 h7 k1 k2 k3) 24 0 _ _ _ rfl gc_0 gc_0 gc_0⟩
  | succ d ih =>
    intro j b1 b2 b3 b4 b5 b6 b7 hj h1 h2 h3 h4 h5 h6 h7
    have es : (48 : Int32) + nI j = nI (48 + j) := nI_add 48 j
    have eb : (16 : Int32) * nI p + nI j = nI (16 * p + j) := by
      show nI 16 * nI p + nI j = _
      rw [pk_mul, nI_add]
    have i1 : vp_in ((48 : Int32) + nI j) 64 := by rw [es]; exact vp_in_nI (by omega) (by decide)
    have i2 : vp_in ((16 : Int32) * nI p + nI j) 64 := by rw [eb]; exact vp_in_nI (by omega) (by decide)
    have c1 : ((48 : Int32) + nI j).toNatClampNeg = 48 + j := by rw [es]; exact nI_clamp (by omega)
    have c2 : ((16 : Int32) * nI p + nI j).toNatClampNeg = 16 * p + j := by rw [eb]; exact nI_clamp (by omega)
    refine br_f (nI_ge (b := 16) (by omega) (by decide)) ⟨i1, i2, nm_r (e' := upd b1 (16 * p + j) (b1 (48 + j))) (by rw [c1, c2]) ⟨i1, i2, nm_r (e' := upd b2 (16 * p + j) (b2 (48 + j))) (by rw [c1, c2]) ⟨i1, i2, nm_r (e' := upd b3 (16 * p + j) (b3 (48 + j))) (by rw [c1, c2])
      ⟨i1, i2, nm_r (e' := upd b4 (16 * p + j) (b4 (48 + j))) (by rw [c1, c2]) ⟨i1, i2, nm_r (e' := upd b5 (16 * p + j) (b5 (48 + j))) (by rw [c1, c2]) ⟨i1, i2, nm_r (e' := upd b6 (16 * p + j) (b6 (48 + j))) (by rw [c1, c2]) ⟨i1, i2, nm_r (e' := upd b7 (16 * p + j) (b7 (48 + j))) (by rw [c1, c2]) (nm_r (nI_1 j) ?_)⟩⟩⟩⟩⟩⟩⟩
    exact ih (j + 1) _ _ _ _ _ _ _ (by omega) (gc_1 h1 (by omega)) (gc_1 h2 (by omega)) (gc_1 h3 (by omega)) (gc_1 h4 (by omega)) (gc_1 h5 (by omega)) (gc_1 h6 (by omega)) (gc_1 h7 (by omega))
end
/-- the banks stay apart -/
theorem gc_inj {bk : Nat → Nat} {p : Nat} (hp : p < 3) (W2 : ∀ q q', q < 4 → q' < 4 → bk q = bk q' → q = q') (q q' : Nat) (hq : q < 4) (hq' : q' < 4)
    (e : bg_at (bg_at bk p (bk 3)) 3 (bk p) q = bg_at (bg_at bk p (bk 3)) 3 (bk p) q') : q = q' := by
  have key : ∀ q, q < 4 → ∃ r, r < 4 ∧ bg_at (bg_at bk p (bk 3)) 3 (bk p) q = bk r ∧ (q = 3 → r = p) ∧ (q = p → r = 3) ∧ (q ≠ 3 → q ≠ p → r = q) := by
    intro q hq
    by_cases z : q = 3
    · exact ⟨p, by omega, by rw [z, bg_at_s], fun _ => rfl, fun y => by omega, fun a => absurd z a⟩
    by_cases y : q = p
    · exact ⟨3, by decide, by rw [bg_at_n z, y, bg_at_s], fun a => absurd a z, fun _ => rfl, fun _ b => absurd y b⟩
    exact ⟨q, hq, by rw [bg_at_n z, bg_at_n y], fun a => absurd a z, fun a => absurd a y, fun _ _ => rfl⟩
  obtain ⟨r, h1, h2, h3, h4, h5⟩ := key q hq
  obtain ⟨r', h1', h2', h3', h4', h5'⟩ := key q' hq'
  have er := W2 r r' h1 h1' (h2.symm.trans (e.trans h2'))
  omega
theorem i_vc_procedure {k : Nat} {u : SX} {v : SY} (I : i_Rel k u v) (hk : k + 4 ≤ 2048) (v1 : Int32) : wpX_procedure (fun r u' => wpY_procedure (fun r' v' => r' = r ∧ i_Rel (k + 4) u' v') v v1) u v1 := by
  have J : ∀ k', i_Rel k' u v := fun _ => I
  obtain ⟨bk, P, es, ss, h, pc, sc, M, g, pl, so, oc, W, X, Y⟩ := I
  obtain ⟨W1, W2, W3, W4, W5, W6, W7, W8, W9⟩ := W
  obtain ⟨xph, xkh, xes, xem, xss, xsm, xdb, xfo, xco, xst, xen, xlo, xrg, xpn, xkr, xkp, xeK, xeX, xeY, xeR, xeV, xeS, xsK, xsA, xsB, xsX, xsY, xsS, xpB, xpS, xfS, xfT, xfB⟩ := u
  obtain ⟨ydp, ypd, yhi, yoh, yop, ynx, yba, yca, yed, ysp, ysK, ysR, ysN, ysA, ysB, ysX, ysY, ysz, yeK, yeL, yeR, yeM, yct, yeV, ytS, ytP, yrg, ypn, yog, yoq, yoN, yoT, yoB⟩ := v
  obtain ⟨x1, x2, x3, x4, x5, x6, x7, x8, x9, x10, x11, x12, x13, x14, x15⟩ := X
  obtain ⟨y1, y2, y3, y4, y5, y6, y7, y8, y9, y10, y11, y12, y13, y14⟩ := Y
  have h16 := (W1 3 (by decide)).2.1
  have h24 := (W1 3 (by decide)).2.2.1
  unfold wpX_procedure
  rcases gr_cases v1 3 with o | ⟨p, hp, rfl⟩
  · refine gx_isP0 o (br_t rfl ?_)
    rcases o with o | o
    · exact br_t o ⟨rfl, J _⟩
    · exact br_f (gr_nneg o (by decide)) (br_f (Int32.not_le.mpr (Int32.lt_of_lt_of_le (show (2 : Int32) < nI 3 by decide) o)) ⟨rfl, J _⟩)
  refine gx_isP1 hp (br_f (by decide) ?_)
  have c1 : ¬ nI p < 0 := nI_pos (by omega)
  have c2 : nI p ≤ 2 := nI_le (b := 2) (by omega) (by decide)
  have hip : vp_in (nI p) 3 := vp_in_nI hp (by decide)
  have hcp : (nI p).toNatClampNeg = p := nI_clamp (by omega)
  by_cases s1 : ss = 1
  · by_cases e0 : es = 0
    · subst s1 e0
      have hz : 0 < bf_sz (P 3) := by omega
      have h0 : sc 0 = bf_sz (P 3) - 1 := (W8 hz).2
      have eb : xpB (nI p).toNatClampNeg = nI (bk p) := by rw [hcp]; exact (x15 p hp).1
      have et : xsS 0 = nI (16 * bk 3 + (bf_sz (P 3) - 1)) := by rw [x14 0 (by decide), h0]
      refine br_t x4 (br_t x2 ⟨hip, nm_r (e' := upd xpS p (nI (16 * bk 3 + (bf_sz (P 3) - 1)))) (by rw [hcp, et]) ⟨hip, nm_r eb ⟨hip, nm_r (e' := upd xpB p (nI (bk 3))) (by rw [hcp, x6]) ?_⟩⟩⟩)
      refine br_f c1 (br_t c2 (br_t y3 (br_t (by rw [y2]; decide) ⟨17, gc_loop7 hp (fun b1 b2 b3 b4 b5 b6 b7 a1 a2 a3 k1 k2 k3 k4 k5 k6 k7 l1 l2 l3 => ?_) 16 0 _ _ _ _ _ _ _ rfl gc_0 gc_0 gc_0 gc_0 gc_0 gc_0 gc_0⟩)))
      refine ⟨y5.trans x5.symm, bg_at (bg_at bk p (bk 3)) 3 (bk p), bg_put (bg_put P p (P 3)) 3 (bg_emp (P 3)), 0, 0, h, pc, sc, M, g, pl, so, oc, ?_, ?_, ?_⟩
      · refine ⟨fun q hq => ⟨?_, ?_⟩, fun q q' hq hq' => ?_, fun q hq => ?_, Nat.zero_le _, fun j hj => absurd hj (Nat.not_lt_zero j), Nat.zero_le _, fun j hj => absurd hj (Nat.not_lt_zero j), fun z => ?_, W9⟩
        · by_cases z : q = 3
          · rw [z, bg_at_s]; exact (W1 p (by omega)).1
          · rw [bg_at_n z]
            by_cases y : q = p
            · rw [y, bg_at_s]; exact (W1 3 (by decide)).1
            · rw [bg_at_n y]; exact (W1 q hq).1
        · by_cases z : q = 3
          · rw [z, bg_put_s]; exact bg_wemp _
          · rw [bg_put_n z]
            by_cases y : q = p
            · rw [y, bg_put_s]; exact (W1 3 (by decide)).2
            · rw [bg_put_n y]; exact (W1 q hq).2
        · exact gc_inj hp W2 q q' hq hq'
        · rw [bg_put_n (by omega)]
          by_cases y : q = p
          · rw [y, bg_put_s]; exact hz
          · rw [bg_put_n y]; exact W3 q hq
        · rw [bg_put_s] at z; exact absurd z (Nat.not_lt_zero 0)
      · refine ⟨x1, rfl, by rw [bg_put_s]; rfl, rfl, by rw [bg_put_s]; rfl, by rw [bg_at_s], x7, x8, x9, x10, fun q hq => ?_, fun e he => ?_, fun j hj => absurd hj (Nat.not_lt_zero j), fun j hj => absurd hj (Nat.not_lt_zero j), fun r hr => ?_⟩
        · by_cases z : q = 3
          · subst z
            rw [bg_put_s]
            exact ⟨fun i hi => absurd hi (Nat.not_lt_zero i), fun i hi => absurd hi (Nat.not_lt_zero i)⟩
          · rw [bg_put_n z, bg_at_n z]
            by_cases y : q = p
            · rw [y, bg_put_s, bg_at_s]; exact x11 3 (by decide)
            · rw [bg_put_n y, bg_at_n y]; exact x11 q hq
        · rw [bg_put_s] at he; exact absurd he (Nat.not_lt_zero e)
        · rw [bg_put_n (show r ≠ 3 by omega), bg_at_n (show r ≠ 3 by omega)]
          by_cases y : r = p
          · rw [y, bg_put_s, bg_at_s, pk_us, pk_us]; exact ⟨rfl, rfl⟩
          · rw [bg_put_n y, bg_at_n y, pk_un y, pk_un y]; exact x15 r hr
      · refine ⟨y1, rfl, rfl, by rw [bg_put_s]; exact pk_us, by rw [bg_put_s]; exact pk_us, y6, y7, y8, y9, fun q hq => ?_, fun e he => ?_, fun j hj => absurd hj (Nat.not_lt_zero j), fun j hj => absurd hj (Nat.not_lt_zero j), fun r hr => ?_⟩
        · by_cases z : q = 3
          · subst z
            rw [bg_put_s]
            exact ⟨fun i hi => absurd hi (Nat.not_lt_zero i), fun i hi => absurd hi (Nat.not_lt_zero i)⟩
          · rw [bg_put_n z]
            by_cases y : q = p
            · subst y
              rw [bg_put_s]
              refine ⟨fun i hi => ?_, fun e he => ?_⟩
              · have i16 : i < 16 := by omega
                rw [k1.1 i i16, k2.1 i i16, k3.1 i i16, k4.1 i i16, k5.1 i i16, k6.1 i i16, k7.1 i i16]
                exact (y10 3 (by decide)).1 i hi
              · have e24 : e < 24 := by omega
                rw [l1.1 e e24, l2.1 e e24, l3.1 e e24]
                exact (y10 3 (by decide)).2 e he
            · rw [bg_put_n y]
              have q16 := (W1 q hq).2.1
              have q24 := (W1 q hq).2.2.1
              refine ⟨ry_sl_c (y10 q hq).1 (fun i hi => ⟨k1.2 _ ?_, k2.2 _ ?_, k3.2 _ ?_, k4.2 _ ?_, k5.2 _ ?_, k6.2 _ ?_, k7.2 _ ?_⟩), ry_el_c (y10 q hq).2 (fun e he => ⟨l1.2 _ ?_, l2.2 _ ?_, l3.2 _ ?_⟩)⟩ <;> omega
        · rw [bg_put_s] at he; exact absurd he (Nat.not_lt_zero e)
        · rw [bg_put_n (show r ≠ 3 by omega), pk_un (show r ≠ 3 by omega)]
          by_cases y : r = p
          · rw [y, bg_put_s, pk_us]; exact y5
          · rw [bg_put_n y, pk_un y]; exact y14 r hr
    · have hes : es ≤ 24 := by omega
      exact br_t (by rw [x4, s1]; rfl) (br_f (by rw [x2]; exact bx_ne (b := 0) e0) (br_f c1 (br_t c2 (br_t (by rw [y3, s1]; rfl) (br_f (by rw [y2]; exact nI_nle (by omega) (by omega)) ⟨rfl, J _⟩)))))
  · exact br_f (by rw [x4]; exact bx_ne (b := 1) s1) (br_f c1 (br_t c2 (br_f (by rw [y3]; exact bx_ne (b := 1) s1) ⟨rfl, J _⟩)))
end
section
/-! The beginning, and run -/
/-- a run's first state -/
def gm_0 (P : Nat → bf_L) (g pl : Nat → Int32) (h p : Nat) (b : Int32) : bf_M := (g, pl, h, [(p, bf_sz (P p) - 1, 0, decide (b ≠ 0))], 0, 0, 0)
/-- what is left of its end -/
def gm_g (mf : bf_M) (g : Nat → Int32) : Nat → Int32 := if mf.2.2.2.2.2.2 = 0 then mf.1 else g
def gm_p (mf : bf_M) (pl : Nat → Int32) : Nat → Int32 := if mf.2.2.2.2.2.2 = 0 then mf.2.1 else pl
def gm_h (mf : bf_M) (h : Nat) : Nat := if mf.2.2.2.2.2.2 = 0 then mf.2.2.1 else h
theorem gm_W {P : Nat → bf_L} {g pl : Nat → Int32} {h p : Nat} {b : Int32} (hG : bf_G P) (hp : p < 3) (hh : h ≤ 12) : bf_W P g pl (gm_0 P g pl h p b) := by
  have h1 := (hG p hp).2
  have h2 := (hG p hp).1.1
  refine ⟨⟨⟨hp, ?_, Nat.zero_le _, fun _ z => absurd rfl z⟩, ?_, trivial, trivial⟩, (by show 0 = bf_cc P [(p, bf_sz (P p) - 1, 0, decide (b ≠ 0))]; rw [bf_cc_0]; rfl), Nat.zero_le _, Nat.zero_le _, hh, fun _ _ => rfl, fun _ _ => rfl, Nat.zero_le _⟩
  · show bf_sz (P p) - 1 < bf_sz (P p)
    omega
  · show 0 + (bf_sz (P p) - 1) < 16 * (0 + 1)
    omega
theorem gm_mu {P : Nat → bf_L} {g pl : Nat → Int32} {h p : Nat} {b : Int32} (hG : bf_G P) (hp : p < 3) : bf_mu (gm_0 P g pl h p b).2.2.2.2.2.1 (gm_0 P g pl h p b).2.2.2.1 < 60100 := by
  have h2 := (hG p hp).1.1
  show (300 - 0) * 200 + (bf_sz (P p) - 1 + 1) < 60100
  omega
theorem gx_run {post : Int32 → SX → Prop} {u : SX} {bk : Nat → Nat} {P : Nat → bf_L} {es ss h : Nat} {pc sc : Nat → Nat} {M g pl : Nat → Int32} {so oc : Int32} {p kk : Nat} {b : Int32} {mf : bf_M} (W : bg_W bk P es ss h pc sc) (X : bg_X bk P es ss h pc sc M g pl so oc u) (hp : p < 3) (hkk : kk < 60100)
    (hto : bf_to P kk (gm_0 P g pl h p b) mf) (Wf : bf_W P g pl mf)
    (H : ∀ u', bg_X bk P es ss (gm_h mf h) pc sc M (gm_g mf g) (gm_p mf pl) (nI mf.2.2.2.2.2.1) (nI mf.2.2.2.2.2.2) u' → post (nI mf.2.2.2.2.2.2) u') : wpX_run post u (nI p) b := by
  obtain ⟨xph, xkh, xes, xem, xss, xsm, xdb, xfo, xco, xst, xen, xlo, xrg, xpn, xkr, xkp, xeK, xeX, xeY, xeR, xeV, xeS, xsK, xsA, xsB, xsX, xsY, xsS, xpB, xpS, xfS, xfT, xfB⟩ := u
  obtain ⟨rfl, x2, x3, x4, x5, x6, x7, x8, rfl, rfl, x11, x12, x13, x14, x15⟩ := X
  have hP : bx_P bk P xeK xeX xeY xsK xsA xsB xsX xsY xpS := fun q hq => ⟨(W.1 q (by omega)).1, (W.1 q (by omega)).2, W.2.2.1 q hq, (x11 q (by omega)).1, (x11 q (by omega)).2, (x15 q hq).2⟩
  have W0 := gm_W (g := xrg) (pl := xpn) (h := h) (b := b) (bx_PG hP) hp W.2.2.2.2.2.2.2.2
  have hcp : (nI p).toNatClampNeg = p := nI_clamp (by omega)
  unfold wpX_run
  refine gx_isP1 hp ?_
  refine br_f (by decide) ?_
  refine bx_keep (fun kr kp hkr hkp => ?_)
  refine ⟨vp_in_nI hp (by decide), ?_⟩
  rw [hcp, (x15 p hp).2]
  have go : ∀ w : Bool, w = decide (b ≠ 0) → wX_run_49 post (bx_b w) (nI (16 * bk p + (bf_sz (P p) - 1))) (nI h) (nI h) xes xem xss xsm xdb 0 0 0 0 xlo xrg xpn kr kp xeK xeX xeY xeR xeV xeS xsK xsA xsB xsX xsY xsS xpB xpS xfS xfT xfB := by
    intro w hw
    subst hw
    refine bx_open (k := 0) (by decide) (bx_nar _) ⟨kk + 1, ?_⟩
    refine bx_loop (g0 := xrg) (p0 := xpn) hP (mf := mf) (fun eV S T B => ?_) kk _ hto W0 0 (kk + 1) _ _ _ _ (by omega) (by omega) (bx_f_put (fs := []) trivial)
    by_cases hz : mf.2.2.2.2.2.2 = 0
    · refine br_t (by rw [hz]; rfl) (H _ ⟨?_, x2, x3, x4, x5, x6, rfl, rfl, ?_, ?_, x11, x12, x13, x14, x15⟩)
      · rw [gm_h, if_pos hz]
      · rw [gm_g, if_pos hz]
      · rw [gm_p, if_pos hz]
    · have h3 := Wf.2.2.2.2.2.2.2
      refine br_f (bx_ne (b := 0) hz) (bx_rest hkr hkp Wf.2.2.2.2.2.1 Wf.2.2.2.2.2.2.1 (H _ ⟨?_, x2, x3, x4, x5, x6, rfl, rfl, ?_, ?_, x11, x12, x13, x14, x15⟩))
      · rw [gm_h, if_neg hz]
      · rw [gm_g, if_neg hz]
      · rw [gm_p, if_neg hz]
  exact br_c (fun z => go false (by rw [z]; rfl)) (fun z => go true (decide_eq_true z).symm)
theorem gy_run {post : Int32 → SY → Prop} {v : SY} {bk : Nat → Nat} {P : Nat → bf_L} {es ss h : Nat} {pc sc : Nat → Nat} {M g pl : Nat → Int32} {so oc : Int32} {p kk : Nat} {b : Int32} {mf : bf_M} (W : bg_W bk P es ss h pc sc) (Y : bg_Y P es ss h pc sc M g pl so oc v) (hp : p < 3)
    (hto : bf_to P kk (gm_0 P g pl h p b) mf)
    (H : ∀ v', bg_Y P es ss (gm_h mf h) pc sc M (gm_g mf g) (gm_p mf pl) (nI mf.2.2.2.2.2.1) (nI mf.2.2.2.2.2.2) v' → post (nI mf.2.2.2.2.2.2) v') : wpY_run post v (nI p) b := by
  obtain ⟨ydp, ypd, yhi, yoh, yop, ynx, yba, yca, yed, ysp, ysK, ysR, ysN, ysA, ysB, ysX, ysY, ysz, yeK, yeL, yeR, yeM, yct, yeV, ytS, ytP, yrg, ypn, yog, yoq, yoN, yoT, yoB⟩ := v
  obtain ⟨rfl, y2, y3, y4, y5, y6, y7, rfl, rfl, y10, y11, y12, y13, y14⟩ := Y
  have hP : ry_P P ysK ysR ysN ysA ysB ysX ysY ysz yeK yeL yeR := fun q hq => ⟨(W.1 q (by omega)).2, W.2.2.1 q hq, (y10 q (by omega)).1, (y10 q (by omega)).2, y14 q hq⟩
  have hz1 := W.2.2.1 p hp
  have W0 := gm_W (g := yrg) (pl := ypn) (h := h) (b := b) (ry_PG hP) hp W.2.2.2.2.2.2.2.2
  refine br_f (nI_pos (by omega)) (br_t (nI_le (b := 2) (by omega) (by decide)) (ry_keep (fun kr kp hkr hkp => ?_)))
  have go : ∀ w : Bool, w = decide (b ≠ 0) → wY_run_45 post (nI p) (bx_b w) ydp ypd (nI h) (nI h) 0 ynx yba 0 ((-1)) 0 ysK ysR ysN ysA ysB ysX ysY ysz yeK yeL yeR yeM yct yeV ytS ytP yrg ypn kr kp yoN yoT yoB := by
    intro w hw
    subst hw
    have nb : narrow .boolean (.int (bx_b (decide (b ≠ 0)))) = .int (bx_b (decide (b ≠ 0))) := by cases decide (b ≠ 0) <;> rfl
    have fb : fits .boolean (.int (bx_b (decide (b ≠ 0)))) = true := by cases decide (b ≠ 0) <;> decide
    have en : (16 : Int32) * nI p + ysz (nI p).toNatClampNeg - 1 = nI (16 * p + (bf_sz (P p) - 1)) := by
      rw [nI_clamp (show p < 2 ^ 31 by omega), y14 p hp]
      obtain ⟨z', hz'⟩ : ∃ z', bf_sz (P p) = z' + 1 := ⟨bf_sz (P p) - 1, by omega⟩
      rw [hz']
      show nI 16 * nI p + nI (z' + 1) - 1 = nI (16 * p + (z' + 1 - 1))
      rw [pk_mul, nI_add]
      exact nI_pred (16 * p + z')
    refine ⟨nb, fb, vp_in_nI (by omega) (by decide), nm_r en ⟨kk + 2, ?_⟩⟩
    refine ry_loop (g0 := yrg) (p0 := ypn) hP (mf := mf) hkr hkp (fun hz op nx ba eV N T B => ?_) (fun hz op nx ba eV N T B => ?_) kk _ hto W0 (kk + 2) _ _ _ _ _ _ _ _ (by omega) ⟨rfl, fun _ => ⟨fun _ => ⟨rfl, rfl, rfl, trivial⟩, fun z => absurd rfl z⟩⟩
    · have H := H (ydp, ypd, nI mf.2.2.1, nI h, op, nx, ba, nI mf.2.2.2.2.1, 0, nI mf.2.2.2.2.2.1, ysK, ysR, ysN, ysA, ysB, ysX, ysY, ysz, yeK, yeL, yeR, yeM, yct, eV, ytS, ytP, mf.1, mf.2.1, kr, kp, N, T, B) ⟨?_, y2, y3, y4, y5, rfl, ?_, ?_, ?_, y10, y11, y12, y13, y14⟩
      · rw [hz] at H; exact H
      · rw [gm_h, if_pos hz]
      · rw [hz]; rfl
      · rw [gm_g, if_pos hz]
      · rw [gm_p, if_pos hz]
    · refine H _ ⟨?_, y2, y3, y4, y5, rfl, rfl, ?_, ?_, y10, y11, y12, y13, y14⟩
      · rw [gm_h, if_neg hz]
      · rw [gm_g, if_neg hz]
      · rw [gm_p, if_neg hz]
  exact br_c (fun z => go false (by rw [z]; rfl)) (fun z => go true (decide_eq_true z).symm)
theorem i_vc_run {k : Nat} {u : SX} {v : SY} (I : i_Rel k u v) (hk : k + 4 ≤ 2048) (v1 : Int32) (v2 : Int32) : wpX_run (fun r u' => wpY_run (fun r' v' => r' = r ∧ i_Rel (k + 4) u' v') v v1 v2) u v1 v2 := by
  have J : ∀ k', i_Rel k' u v := fun _ => I
  obtain ⟨bk, P, es, ss, h, pc, sc, M, g, pl, so, oc, W, X, Y⟩ := I
  rcases gr_cases v1 3 with o | ⟨p, hp, rfl⟩
  · obtain ⟨xph, xkh, xes, xem, xss, xsm, xdb, xfo, xco, xst, xen, xlo, xrg, xpn, xkr, xkp, xeK, xeX, xeY, xeR, xeV, xeS, xsK, xsA, xsB, xsX, xsY, xsS, xpB, xpS, xfS, xfT, xfB⟩ := u
    obtain ⟨ydp, ypd, yhi, yoh, yop, ynx, yba, yca, yed, ysp, ysK, ysR, ysN, ysA, ysB, ysX, ysY, ysz, yeK, yeL, yeR, yeM, yct, yeV, ytS, ytP, yrg, ypn, yog, yoq, yoN, yoT, yoB⟩ := v
    unfold wpX_run
    refine gx_isP0 o (br_t rfl ?_)
    rcases o with o | o
    · exact br_t o ⟨rfl, J _⟩
    · exact br_f (gr_nneg o (by decide)) (br_f (Int32.not_le.mpr (Int32.lt_of_lt_of_le (show (2 : Int32) < nI 3 by decide) o)) ⟨rfl, J _⟩)
  · have hG : bf_G P := fun q hq => ⟨(W.1 q (by omega)).2, W.2.2.1 q hq⟩
    have hh := W.2.2.2.2.2.2.2.2
    obtain ⟨kk, mf, hkk, hto, Wf⟩ := bf_ends hG 60100 (gm_0 P g pl h p v2) (gm_W hG hp hh) (gm_mu hG hp)
    refine gx_run W X hp hkk hto Wf (fun u' X' => gy_run W Y hp hto (fun v' Y' => ⟨rfl, bk, P, es, ss, gm_h mf h, pc, sc, M, gm_g mf g, gm_p mf pl, _, _, ?_, X', Y'⟩))
    refine ⟨W.1, W.2.1, W.2.2.1, W.2.2.2.1, W.2.2.2.2.1, W.2.2.2.2.2.1, W.2.2.2.2.2.2.1, W.2.2.2.2.2.2.2.1, ?_⟩
    unfold gm_h
    split
    · exact Wf.2.2.2.2.1
    · exact hh
/-! the beginning -/
def gi_l (n : Nat) : bf_L := (fun _ => (0, 0, 0, 0, 0, 0, 0), fun _ => (7, 0, 0, 0), n, 0)
def gi_P (q : Nat) : bf_L := gi_l (if q < 3 then 1 else 0)
theorem gi_w (n : Nat) (hn : n ≤ 16) : bf_wL (gi_l n) :=
  ⟨hn, Nat.zero_le _, fun i _ => ⟨Nat.zero_le _, fun z => absurd z (by show ¬ (0 = 1 ∨ 0 = 2 ∨ 0 = 3 ∨ 0 = 6 ∨ 0 = 7 ∨ 0 = 8); decide), fun z => absurd z (by show ¬ 0 = 1; decide), fun z => absurd z (by show ¬ (0 = 4 ∨ 0 = 5); decide), fun z => absurd z (by show ¬ 6 ≤ 0; decide), fun z => absurd z (by show ¬ 11 ≤ 0; decide), fun z => absurd z (by show ¬ 10 ≤ 0; decide)⟩, fun e he => absurd he (Nat.not_lt_zero e)⟩
theorem i_vc0 : wpX_init (fun u => wpY_init (fun v => i_Rel 0 u v)) := by
  refine ⟨4, br_f (by decide) ⟨vp_in_iff.mpr (by decide), nm_e ⟨vp_in_iff.mpr (by decide), nm_e (nm_r (e' := 1) (by decide) (br_f (by decide) ⟨vp_in_iff.mpr (by decide), nm_e ⟨vp_in_iff.mpr (by decide), nm_e (nm_r (e' := 2) (by decide) (br_f (by decide) ⟨vp_in_iff.mpr (by decide), nm_e ⟨vp_in_iff.mpr (by decide), nm_e (nm_r (e' := 3) (by decide) (br_t (by decide) ?_))⟩⟩))⟩⟩))⟩⟩⟩
  refine ⟨4, br_f (by decide) ⟨vp_in_iff.mpr (by decide), nm_e (nm_r (e' := 1) (by decide) (br_f (by decide) ⟨vp_in_iff.mpr (by decide), nm_e (nm_r (e' := 2) (by decide) (br_f (by decide) ⟨vp_in_iff.mpr (by decide), nm_e (nm_r (e' := 3) (by decide) (br_t (by decide) ?_))⟩))⟩))⟩⟩
  refine ⟨fun q => q, gi_P, 0, 0, 0, fun _ => 0, fun _ => 0, fun _ => 0, fun _ => 0, fun _ => 0, 0, -4, ?_, ?_, ?_⟩
  · refine ⟨fun q hq => ⟨hq, gi_w _ (by split <;> omega)⟩, fun q q' _ _ e => e, fun q hq => ?_, Nat.zero_le _, fun j hj => absurd hj (Nat.not_lt_zero j), Nat.zero_le _, fun j hj => absurd hj (Nat.not_lt_zero j), fun z => absurd z (by show ¬ 0 < 0; decide), Nat.zero_le _⟩
    show 0 < if q < 3 then 1 else 0
    rw [if_pos hq]; decide
  · refine ⟨rfl, rfl, rfl, rfl, rfl, rfl, rfl, rfl, rfl, rfl, fun q hq => ⟨fun i hi => ⟨rfl, fun _ => ⟨rfl, rfl⟩, fun z => absurd z (by show ¬ 10 ≤ 0; decide), fun z => absurd z (by show ¬ 6 ≤ 0; decide), fun z => absurd z (by show ¬ 11 ≤ 0; decide)⟩, fun e he => absurd he (Nat.not_lt_zero e)⟩, fun e he => absurd he (Nat.not_lt_zero e), fun j hj => absurd hj (Nat.not_lt_zero j), fun j hj => absurd hj (Nat.not_lt_zero j), fun p hp => ?_⟩
    have h3 : p = 0 ∨ p = 1 ∨ p = 2 := by omega
    rcases h3 with rfl | rfl | rfl <;> exact ⟨by decide, by decide⟩
  · refine ⟨rfl, rfl, rfl, rfl, rfl, rfl, rfl, rfl, rfl, fun q hq => ⟨fun i hi => ⟨rfl, fun _ => ⟨rfl, rfl⟩, fun z => absurd z (by show ¬ 10 ≤ 0; decide), fun z => absurd z (by show ¬ 6 ≤ 0; decide), fun z => absurd z (by show ¬ 11 ≤ 0; decide)⟩, fun e he => absurd he (Nat.not_lt_zero e)⟩, fun e he => absurd he (Nat.not_lt_zero e), fun j hj => absurd hj (Nat.not_lt_zero j), fun j hj => absurd hj (Nat.not_lt_zero j), fun p hp => ?_⟩
    have h3 : p = 0 ∨ p = 1 ∨ p = 2 := by omega
    rcases h3 with rfl | rfl | rfl <;> decide
end
