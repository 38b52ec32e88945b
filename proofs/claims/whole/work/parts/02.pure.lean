/-! The pure machine.
 A slot l = (statements, expressions, size, count). A statement (kind, r, n, a, b, x, y); an expression (kind, literal, a, b).
 A frame (slot, index, stage, backwards). The machine: registers g, pile pl, height h, frames fs, calls under way c, steps n, ending z -/
abbrev bf_S : Type := Nat × Int32 × Int32 × Nat × Nat × Nat × Nat
abbrev bf_E : Type := Nat × Int32 × Nat × Nat
abbrev bf_L : Type := (Nat → bf_S) × (Nat → bf_E) × Nat × Nat
abbrev bf_F : Type := Nat × Nat × Nat × Bool
abbrev bf_M : Type := (Nat → Int32) × (Nat → Int32) × Nat × List bf_F × Nat × Nat × Nat
def bf_K (l : bf_L) (i : Nat) : Nat := (l.1 i).1
def bf_R (l : bf_L) (i : Nat) : Int32 := (l.1 i).2.1
def bf_N (l : bf_L) (i : Nat) : Int32 := (l.1 i).2.2.1
def bf_A (l : bf_L) (i : Nat) : Nat := (l.1 i).2.2.2.1
def bf_B (l : bf_L) (i : Nat) : Nat := (l.1 i).2.2.2.2.1
def bf_X (l : bf_L) (i : Nat) : Nat := (l.1 i).2.2.2.2.2.1
def bf_Y (l : bf_L) (i : Nat) : Nat := (l.1 i).2.2.2.2.2.2
def bf_eK (l : bf_L) (e : Nat) : Nat := (l.2.1 e).1
def bf_eL (l : bf_L) (e : Nat) : Int32 := (l.2.1 e).2.1
def bf_eA (l : bf_L) (e : Nat) : Nat := (l.2.1 e).2.2.1
def bf_eB (l : bf_L) (e : Nat) : Nat := (l.2.1 e).2.2.2
def bf_sz (l : bf_L) : Nat := l.2.2.1
def bf_ct (l : bf_L) : Nat := l.2.2.2
def bf_wS (l : bf_L) (i : Nat) : Prop :=
  bf_K l i ≤ 12 ∧
  (bf_K l i = 1 ∨ bf_K l i = 2 ∨ bf_K l i = 3 ∨ bf_K l i = 6 ∨ bf_K l i = 7 ∨ bf_K l i = 8 → ∃ r, r < 6 ∧ bf_R l i = nI r) ∧
  (bf_K l i = 1 → ∃ r, r < 6 ∧ bf_N l i = nI r) ∧
  (bf_K l i = 4 ∨ bf_K l i = 5 → ∃ p, p < 3 ∧ bf_N l i = nI p) ∧
  (6 ≤ bf_K l i → bf_K l i ≠ 10 → bf_X l i < bf_ct l) ∧
  (11 ≤ bf_K l i → bf_Y l i < bf_ct l) ∧
  (10 ≤ bf_K l i → bf_A l i < i ∧ bf_B l i < i)
def bf_wE (l : bf_L) (e : Nat) : Prop :=
  bf_eK l e ≤ 8 ∧ (bf_eK l e = 8 → bf_eA l e < 6) ∧ (bf_eK l e ≤ 6 → bf_eA l e < e ∧ bf_eB l e < e)
def bf_wL (l : bf_L) : Prop := bf_sz l ≤ 16 ∧ bf_ct l ≤ 24 ∧ (∀ i, i < bf_sz l → bf_wS l i) ∧ ∀ e, e < bf_ct l → bf_wE l e
def bf_op (k : Nat) (x y : Int32) : Int32 :=
  if k = 0 then x + y else if k = 1 then x - y else if k = 2 then x * y else if k = 3 then x ^^^ y
  else if k = 4 then x &&& y else if k = 5 then (if x < y then 1 else 0) else (if x = y then 1 else 0)
theorem bf_op5 (x y : Int32) : bf_op 5 x y = if x < y then 1 else 0 := by simp [bf_op]
theorem bf_op6 (x y : Int32) : bf_op 6 x y = if x = y then 1 else 0 := by simp [bf_op]
/-- what the expression e is worth, from the values of those before it -/
def bf_e1 (l : bf_L) (g t : Nat → Int32) (e : Nat) : Int32 :=
  if bf_eK l e = 7 then bf_eL l e else if bf_eK l e = 8 then g (bf_eA l e) else bf_op (bf_eK l e) (t (bf_eA l e)) (t (bf_eB l e))
def bf_tb (l : bf_L) (g : Nat → Int32) : Nat → Nat → Int32
  | 0 => fun _ => 0
  | n + 1 => upd (bf_tb l g n) n (bf_e1 l g (bf_tb l g n) n)
def bf_v (l : bf_L) (g : Nat → Int32) (e : Nat) : Int32 := bf_tb l g (e + 1) e
theorem bf_tb_lt (l : bf_L) (g : Nat → Int32) {j : Nat} : ∀ {n : Nat}, j < n → bf_tb l g n j = bf_v l g j
  | 0, h => absurd h (Nat.not_lt_zero j)
  | n + 1, h => by
    by_cases e : j = n
    · subst e; rfl
    · have h2 : j < n := by omega
      have : bf_tb l g (n + 1) j = bf_tb l g n j := pk_un e
      rw [this]
      exact bf_tb_lt l g h2
theorem bf_v_eq (l : bf_L) (g : Nat → Int32) (e : Nat) : bf_v l g e = bf_e1 l g (bf_tb l g e) e := pk_us
/-- a table that holds the values below e gives e's value -/
theorem bf_e1_v {l : bf_L} {g t : Nat → Int32} {e : Nat} (w : bf_wE l e) (h : ∀ j, j < e → t j = bf_v l g j) : bf_e1 l g t e = bf_v l g e := by
  rw [bf_v_eq]
  unfold bf_e1
  by_cases h7 : bf_eK l e = 7
  · rw [if_pos h7, if_pos h7]
  by_cases h8 : bf_eK l e = 8
  · rw [if_neg h7, if_neg h7, if_pos h8, if_pos h8]
  have hb := w.2.2 (by have := w.1; omega)
  rw [if_neg h7, if_neg h7, if_neg h8, if_neg h8, h _ hb.1, h _ hb.2, bf_tb_lt l g hb.1, bf_tb_lt l g hb.2]
/-- values depend on registers 0 to 5 alone -/
theorem bf_v_reg {l : bf_L} {g g' : Nat → Int32} (hg : ∀ j, j < 6 → g j = g' j) : ∀ e, (∀ j, j ≤ e → bf_wE l j) → bf_v l g e = bf_v l g' e := by
  intro e
  induction e using Nat.strongRecOn with
  | _ e ih =>
    intro hw
    have w := hw e (Nat.le_refl e)
    have key : bf_e1 l g (bf_v l g') e = bf_v l g e := bf_e1_v w (fun j hj => (ih j hj (fun i hi => hw i (by omega))).symm)
    rw [← key, ← bf_e1_v (g := g') (t := bf_v l g') w (fun _ _ => rfl)]
    unfold bf_e1
    by_cases h7 : bf_eK l e = 7
    · rw [if_pos h7, if_pos h7]
    by_cases h8 : bf_eK l e = 8
    · rw [if_neg h7, if_neg h7, if_pos h8, if_pos h8, hg _ (w.2.1 h8)]
    rw [if_neg h7, if_neg h7, if_neg h8, if_neg h8]
/-- is the entry (near) or the exit test true -/
def bf_tv (l : bf_L) (g : Nat → Int32) (i : Nat) (w near : Bool) : Bool :=
  decide (bf_v l g (if w = near then bf_Y l i else bf_X l i) ≠ 0)
def bf_opA (l : bf_L) (q i : Nat) (w : Bool) (fs : List bf_F) : List bf_F := (q, bf_A l i, 0, w) :: (q, i, 1, w) :: fs
def bf_opB (l : bf_L) (q i : Nat) (w : Bool) (fs : List bf_F) : List bf_F := (q, bf_B l i, 0, w) :: (q, i, 2, w) :: fs
def bf_push (r : Nat) (g pl : Nat → Int32) (h : Nat) : (Nat → Int32) × (Nat → Int32) × Nat × Nat :=
  if 12 ≤ h then (g, pl, h, 1) else (upd g r 0, upd pl h (g r), h + 1, 0)
def bf_pop (r : Nat) (g pl : Nat → Int32) (h : Nat) : (Nat → Int32) × (Nat → Int32) × Nat × Nat :=
  if h = 0 ∨ g r ≠ 0 then (g, pl, h, 1) else (upd g r (pl (h - 1)), pl, h - 1, 0)
def bf_eff (l : bf_L) (i : Nat) (w : Bool) (g pl : Nat → Int32) (h : Nat) : (Nat → Int32) × (Nat → Int32) × Nat × Nat :=
  let r := (bf_R l i).toNatClampNeg
  let s := (bf_N l i).toNatClampNeg
  let v := bf_v l g (bf_X l i)
  if bf_K l i = 0 then (g, pl, h, 0)
  else if bf_K l i = 1 then (upd (upd g r (g s)) s (g r), pl, h, 0)
  else if bf_K l i = 2 then (if w then bf_pop r g pl h else bf_push r g pl h)
  else if bf_K l i = 3 then (if w then bf_push r g pl h else bf_pop r g pl h)
  else if bf_K l i = 6 then (upd g r (if w then g r - v else g r + v), pl, h, 0)
  else if bf_K l i = 7 then (upd g r (if w then g r + v else g r - v), pl, h, 0)
  else if bf_K l i = 8 then (upd g r (g r ^^^ v), pl, h, 0)
  else (g, pl, h, if v = 0 then 1 else 0)
/-- one turn of the machine at its top frame (q, i, t, w) over fs -/
def bf_stp (P : Nat → bf_L) (g pl : Nat → Int32) (h q i t : Nat) (w : Bool) (fs : List bf_F) (c n : Nat) : bf_M :=
  if bf_K (P q) i < 10 then
    if bf_K (P q) i = 4 ∨ bf_K (P q) i = 5 then
      if t = 0 then
        if 300 ≤ n then (g, pl, h, (q, i, t, w) :: fs, c, n, 2)
        else if 6 ≤ c then (g, pl, h, (q, i, t, w) :: fs, c, n + 1, 3)
        else (g, pl, h, ((bf_N (P q) i).toNatClampNeg, bf_sz (P (bf_N (P q) i).toNatClampNeg) - 1, 0, w != decide (bf_K (P q) i = 5)) :: (q, i, 1, w) :: fs, c + 1, n + 1, 0)
      else (g, pl, h, fs, c - 1, n, 0)
    else if 300 ≤ n then (g, pl, h, fs, c, n, 2)
    else ((bf_eff (P q) i w g pl h).1, (bf_eff (P q) i w g pl h).2.1, (bf_eff (P q) i w g pl h).2.2.1, fs, c, n + 1, (bf_eff (P q) i w g pl h).2.2.2)
  else if bf_K (P q) i = 10 then
    if t = (if w then 1 else 2) then (g, pl, h, fs, c, n, 0)
    else if t = (if w then 2 else 0) then (g, pl, h, bf_opA (P q) q i w fs, c, n, 0)
    else (g, pl, h, bf_opB (P q) q i w fs, c, n, 0)
  else if bf_K (P q) i = 11 then
    if t = 0 then (g, pl, h, (if bf_tv (P q) g i w true then bf_opA (P q) q i w fs else bf_opB (P q) q i w fs), c, n, 0)
    else if bf_tv (P q) g i w false = decide (t = 1) then (g, pl, h, fs, c, n, 0)
    else (g, pl, h, (q, i, t, w) :: fs, c, n, 1)
  else
    if t = 1 then (g, pl, h, (if bf_tv (P q) g i w false then fs else bf_opB (P q) q i w fs), c, n, 0)
    else if bf_tv (P q) g i w true = decide (t = 0) then (g, pl, h, bf_opA (P q) q i w fs, c, n, 0)
    else (g, pl, h, (q, i, t, w) :: fs, c, n, 1)
/-- calls that have begun and not ended -/
def bf_cc (P : Nat → bf_L) : List bf_F → Nat
  | [] => 0
  | f :: fs => (if bf_K (P f.1) f.2.1 < 10 ∧ f.2.2.1 ≠ 0 then 1 else 0) + bf_cc P fs
def bf_nf : List bf_F → Prop
  | [] => True
  | f :: _ => f.2.2.1 ≠ 0
def bf_ok (P : Nat → bf_L) : List bf_F → Prop
  | [] => True
  | f :: fs => (f.1 < 3 ∧ f.2.1 < bf_sz (P f.1) ∧ f.2.2.1 ≤ 2 ∧ (bf_K (P f.1) f.2.1 < 10 → f.2.2.1 ≠ 0 → (bf_K (P f.1) f.2.1 = 4 ∨ bf_K (P f.1) f.2.1 = 5) ∧ f.2.2.1 = 1)) ∧
    fs.length + f.2.1 < 16 * (bf_cc P fs + 1) ∧ bf_nf fs ∧ bf_ok P fs
def bf_pot : List bf_F → Nat
  | [] => 0
  | f :: fs => if f.2.2.1 = 0 then f.2.1 + 1 else 20 + fs.length
def bf_mu (n : Nat) (fs : List bf_F) : Nat := (300 - n) * 200 + bf_pot fs
/-- well formed; g0, p0: the registers and the pile when the run began (beyond their ends nothing is ever written) -/
def bf_W (P : Nat → bf_L) (g0 p0 : Nat → Int32) (m : bf_M) : Prop :=
  bf_ok P m.2.2.2.1 ∧ m.2.2.2.2.1 = bf_cc P m.2.2.2.1 ∧ m.2.2.2.2.1 ≤ 6 ∧ m.2.2.2.2.2.1 ≤ 300 ∧ m.2.2.1 ≤ 12 ∧
  (∀ j, 6 ≤ j → m.1 j = g0 j) ∧ (∀ j, 12 ≤ j → m.2.1 j = p0 j) ∧ m.2.2.2.2.2.2 ≤ 3
def bf_G (P : Nat → bf_L) : Prop := ∀ q, q < 3 → bf_wL (P q) ∧ 0 < bf_sz (P q)
section
variable {P : Nat → bf_L} {g pl g0 p0 : Nat → Int32} {h q i t c n : Nat} {w : Bool} {fs : List bf_F}
/-! the turns, case by case -/
theorem bs_leafT (hk : bf_K (P q) i < 10) (h4 : ¬ (bf_K (P q) i = 4 ∨ bf_K (P q) i = 5)) (hn : 300 ≤ n) :
    bf_stp P g pl h q i t w fs c n = (g, pl, h, fs, c, n, 2) := by
  unfold bf_stp; rw [if_pos hk, if_neg h4, if_pos hn]
theorem bs_leaf (hk : bf_K (P q) i < 10) (h4 : ¬ (bf_K (P q) i = 4 ∨ bf_K (P q) i = 5)) (hn : ¬ 300 ≤ n) :
    bf_stp P g pl h q i t w fs c n = ((bf_eff (P q) i w g pl h).1, (bf_eff (P q) i w g pl h).2.1, (bf_eff (P q) i w g pl h).2.2.1, fs, c, n + 1, (bf_eff (P q) i w g pl h).2.2.2) := by
  unfold bf_stp; rw [if_pos hk, if_neg h4, if_neg hn]
theorem bs_callT (h4 : bf_K (P q) i = 4 ∨ bf_K (P q) i = 5) (hn : 300 ≤ n) :
    bf_stp P g pl h q i 0 w fs c n = (g, pl, h, (q, i, 0, w) :: fs, c, n, 2) := by
  unfold bf_stp; rw [if_pos (show bf_K (P q) i < 10 by omega), if_pos h4, if_pos rfl, if_pos hn]
theorem bs_callD (h4 : bf_K (P q) i = 4 ∨ bf_K (P q) i = 5) (hn : ¬ 300 ≤ n) (hc : 6 ≤ c) :
    bf_stp P g pl h q i 0 w fs c n = (g, pl, h, (q, i, 0, w) :: fs, c, n + 1, 3) := by
  unfold bf_stp; rw [if_pos (show bf_K (P q) i < 10 by omega), if_pos h4, if_pos rfl, if_neg hn, if_pos hc]
theorem bs_call (h4 : bf_K (P q) i = 4 ∨ bf_K (P q) i = 5) (hn : ¬ 300 ≤ n) (hc : ¬ 6 ≤ c) :
    bf_stp P g pl h q i 0 w fs c n = (g, pl, h, ((bf_N (P q) i).toNatClampNeg, bf_sz (P (bf_N (P q) i).toNatClampNeg) - 1, 0, w != decide (bf_K (P q) i = 5)) :: (q, i, 1, w) :: fs, c + 1, n + 1, 0) := by
  unfold bf_stp; rw [if_pos (show bf_K (P q) i < 10 by omega), if_pos h4, if_pos rfl, if_neg hn, if_neg hc]
theorem bs_ret (h4 : bf_K (P q) i = 4 ∨ bf_K (P q) i = 5) (ht : t ≠ 0) :
    bf_stp P g pl h q i t w fs c n = (g, pl, h, fs, c - 1, n, 0) := by
  unfold bf_stp; rw [if_pos (show bf_K (P q) i < 10 by omega), if_pos h4, if_neg ht]
theorem bs_seqC (hk : bf_K (P q) i = 10) (ht : t = if w then 1 else 2) :
    bf_stp P g pl h q i t w fs c n = (g, pl, h, fs, c, n, 0) := by
  unfold bf_stp; rw [if_neg (show ¬ bf_K (P q) i < 10 by omega), if_pos hk, if_pos ht]
theorem bs_seqA (hk : bf_K (P q) i = 10) (ht : t = if w then 2 else 0) :
    bf_stp P g pl h q i t w fs c n = (g, pl, h, bf_opA (P q) q i w fs, c, n, 0) := by
  unfold bf_stp; rw [if_neg (show ¬ bf_K (P q) i < 10 by omega), if_pos hk, if_neg (show ¬ t = if w then 1 else 2 by cases w <;> simp_all), if_pos ht]
theorem bs_seqB (hk : bf_K (P q) i = 10) (ht : t = if w then 0 else 1) :
    bf_stp P g pl h q i t w fs c n = (g, pl, h, bf_opB (P q) q i w fs, c, n, 0) := by
  unfold bf_stp; rw [if_neg (show ¬ bf_K (P q) i < 10 by omega), if_pos hk, if_neg (show ¬ t = if w then 1 else 2 by cases w <;> simp_all), if_neg (show ¬ t = if w then 2 else 0 by cases w <;> simp_all)]
theorem bs_if0 (hk : bf_K (P q) i = 11) :
    bf_stp P g pl h q i 0 w fs c n = (g, pl, h, (if bf_tv (P q) g i w true then bf_opA (P q) q i w fs else bf_opB (P q) q i w fs), c, n, 0) := by
  unfold bf_stp; rw [if_neg (show ¬ bf_K (P q) i < 10 by omega), if_neg (show ¬ bf_K (P q) i = 10 by omega), if_pos hk, if_pos rfl]
theorem bs_ifC (hk : bf_K (P q) i = 11) (ht : t ≠ 0) (hv : bf_tv (P q) g i w false = decide (t = 1)) :
    bf_stp P g pl h q i t w fs c n = (g, pl, h, fs, c, n, 0) := by
  unfold bf_stp; rw [if_neg (show ¬ bf_K (P q) i < 10 by omega), if_neg (show ¬ bf_K (P q) i = 10 by omega), if_pos hk, if_neg ht, if_pos hv]
theorem bs_ifF (hk : bf_K (P q) i = 11) (ht : t ≠ 0) (hv : ¬ bf_tv (P q) g i w false = decide (t = 1)) :
    bf_stp P g pl h q i t w fs c n = (g, pl, h, (q, i, t, w) :: fs, c, n, 1) := by
  unfold bf_stp; rw [if_neg (show ¬ bf_K (P q) i < 10 by omega), if_neg (show ¬ bf_K (P q) i = 10 by omega), if_pos hk, if_neg ht, if_neg hv]
theorem bs_lp1 (hk : bf_K (P q) i = 12) :
    bf_stp P g pl h q i 1 w fs c n = (g, pl, h, (if bf_tv (P q) g i w false then fs else bf_opB (P q) q i w fs), c, n, 0) := by
  unfold bf_stp; rw [if_neg (show ¬ bf_K (P q) i < 10 by omega), if_neg (show ¬ bf_K (P q) i = 10 by omega), if_neg (show ¬ bf_K (P q) i = 11 by omega), if_pos rfl]
theorem bs_lpA (hk : bf_K (P q) i = 12) (ht : t ≠ 1) (hv : bf_tv (P q) g i w true = decide (t = 0)) :
    bf_stp P g pl h q i t w fs c n = (g, pl, h, bf_opA (P q) q i w fs, c, n, 0) := by
  unfold bf_stp; rw [if_neg (show ¬ bf_K (P q) i < 10 by omega), if_neg (show ¬ bf_K (P q) i = 10 by omega), if_neg (show ¬ bf_K (P q) i = 11 by omega), if_neg ht, if_pos hv]
theorem bs_lpF (hk : bf_K (P q) i = 12) (ht : t ≠ 1) (hv : ¬ bf_tv (P q) g i w true = decide (t = 0)) :
    bf_stp P g pl h q i t w fs c n = (g, pl, h, (q, i, t, w) :: fs, c, n, 1) := by
  unfold bf_stp; rw [if_neg (show ¬ bf_K (P q) i < 10 by omega), if_neg (show ¬ bf_K (P q) i = 10 by omega), if_neg (show ¬ bf_K (P q) i = 11 by omega), if_neg ht, if_neg hv]
/-! what the effects keep -/
def bf_kept (g pl : Nat → Int32) (e : (Nat → Int32) × (Nat → Int32) × Nat × Nat) : Prop :=
  e.2.2.1 ≤ 12 ∧ (∀ j, 6 ≤ j → e.1 j = g j) ∧ (∀ j, 12 ≤ j → e.2.1 j = pl j) ∧ e.2.2.2 ≤ 1
theorem bf_un6 {r : Nat} {x : Int32} (hr : r < 6) (j : Nat) (hj : 6 ≤ j) : upd g r x j = g j := pk_un (by omega)
theorem bf_push_k {r : Nat} (hr : r < 6) (hh : h ≤ 12) : bf_kept g pl (bf_push r g pl h) := by
  unfold bf_push
  by_cases e : 12 ≤ h
  · rw [if_pos e]; exact ⟨hh, fun _ _ => rfl, fun _ _ => rfl, Nat.le_refl _⟩
  · rw [if_neg e]; exact ⟨(by omega : h + 1 ≤ 12), bf_un6 hr, fun j hj => pk_un (by omega), Nat.zero_le _⟩
theorem bf_pop_k {r : Nat} (hr : r < 6) (hh : h ≤ 12) : bf_kept g pl (bf_pop r g pl h) := by
  unfold bf_pop
  by_cases e : h = 0 ∨ g r ≠ 0
  · rw [if_pos e]; exact ⟨hh, fun _ _ => rfl, fun _ _ => rfl, Nat.le_refl _⟩
  · rw [if_neg e]; exact ⟨(by omega : h - 1 ≤ 12), bf_un6 hr, fun _ _ => rfl, Nat.zero_le _⟩
theorem bf_same_k (hh : h ≤ 12) : bf_kept g pl (g, pl, h, 0) := ⟨hh, fun _ _ => rfl, fun _ _ => rfl, Nat.zero_le _⟩
theorem bf_upd_k {r : Nat} {x : Int32} (hr : r < 6) (hh : h ≤ 12) : bf_kept g pl (upd g r x, pl, h, 0) := ⟨hh, bf_un6 hr, fun _ _ => rfl, Nat.zero_le _⟩
theorem bf_R6 {l : bf_L} (ws : bf_wS l i) (hk : bf_K l i = 1 ∨ bf_K l i = 2 ∨ bf_K l i = 3 ∨ bf_K l i = 6 ∨ bf_K l i = 7 ∨ bf_K l i = 8) :
    ∃ r, r < 6 ∧ bf_R l i = nI r ∧ (bf_R l i).toNatClampNeg = r := by
  obtain ⟨r, hr, e⟩ := ws.2.1 hk
  exact ⟨r, hr, e, by rw [e]; exact nI_clamp (by omega)⟩
theorem bf_N6 {l : bf_L} (ws : bf_wS l i) (hk : bf_K l i = 1) : ∃ r, r < 6 ∧ bf_N l i = nI r ∧ (bf_N l i).toNatClampNeg = r := by
  obtain ⟨r, hr, e⟩ := ws.2.2.1 hk
  exact ⟨r, hr, e, by rw [e]; exact nI_clamp (by omega)⟩
theorem bf_N3 {l : bf_L} (ws : bf_wS l i) (hk : bf_K l i = 4 ∨ bf_K l i = 5) : ∃ p, p < 3 ∧ bf_N l i = nI p ∧ (bf_N l i).toNatClampNeg = p := by
  obtain ⟨r, hr, e⟩ := ws.2.2.2.1 hk
  exact ⟨r, hr, e, by rw [e]; exact nI_clamp (by omega)⟩
/-! the effect of each kind -/
section
variable {l : bf_L}
theorem be_0 (hk : bf_K l i = 0) : bf_eff l i w g pl h = (g, pl, h, 0) := by unfold bf_eff; simp only [hk, if_pos]
theorem be_1 (hk : bf_K l i = 1) : bf_eff l i w g pl h = (upd (upd g (bf_R l i).toNatClampNeg (g (bf_N l i).toNatClampNeg)) (bf_N l i).toNatClampNeg (g (bf_R l i).toNatClampNeg), pl, h, 0) := by
  unfold bf_eff; simp [hk]
theorem be_2 (hk : bf_K l i = 2) : bf_eff l i w g pl h = if w then bf_pop (bf_R l i).toNatClampNeg g pl h else bf_push (bf_R l i).toNatClampNeg g pl h := by
  unfold bf_eff; simp [hk]
theorem be_3 (hk : bf_K l i = 3) : bf_eff l i w g pl h = if w then bf_push (bf_R l i).toNatClampNeg g pl h else bf_pop (bf_R l i).toNatClampNeg g pl h := by
  unfold bf_eff; simp [hk]
theorem be_6 (hk : bf_K l i = 6) : bf_eff l i w g pl h = (upd g (bf_R l i).toNatClampNeg (if w then g (bf_R l i).toNatClampNeg - bf_v l g (bf_X l i) else g (bf_R l i).toNatClampNeg + bf_v l g (bf_X l i)), pl, h, 0) := by
  unfold bf_eff; simp [hk]
theorem be_7 (hk : bf_K l i = 7) : bf_eff l i w g pl h = (upd g (bf_R l i).toNatClampNeg (if w then g (bf_R l i).toNatClampNeg + bf_v l g (bf_X l i) else g (bf_R l i).toNatClampNeg - bf_v l g (bf_X l i)), pl, h, 0) := by
  unfold bf_eff; simp [hk]
theorem be_8 (hk : bf_K l i = 8) : bf_eff l i w g pl h = (upd g (bf_R l i).toNatClampNeg (g (bf_R l i).toNatClampNeg ^^^ bf_v l g (bf_X l i)), pl, h, 0) := by
  unfold bf_eff; simp [hk]
theorem be_9 (hk : bf_K l i = 9) : bf_eff l i w g pl h = (g, pl, h, if bf_v l g (bf_X l i) = 0 then 1 else 0) := by
  unfold bf_eff; simp [hk]
theorem bf_eff_k (ws : bf_wS l i) (hk : bf_K l i < 10) (h4 : ¬ (bf_K l i = 4 ∨ bf_K l i = 5)) (hh : h ≤ 12) : bf_kept g pl (bf_eff l i w g pl h) := by
  have hc : bf_K l i = 0 ∨ bf_K l i = 1 ∨ bf_K l i = 2 ∨ bf_K l i = 3 ∨ bf_K l i = 6 ∨ bf_K l i = 7 ∨ bf_K l i = 8 ∨ bf_K l i = 9 := by omega
  rcases hc with k | k | k | k | k | k | k | k
  · rw [be_0 k]; exact bf_same_k hh
  · obtain ⟨r, hr, -, er⟩ := bf_R6 ws (Or.inl k)
    obtain ⟨s, hs, -, es⟩ := bf_N6 ws k
    rw [be_1 k, er, es]
    exact ⟨hh, fun j hj => (pk_un (by omega)).trans (pk_un (by omega)), fun _ _ => rfl, Nat.zero_le _⟩
  · obtain ⟨r, hr, -, er⟩ := bf_R6 ws (by omega)
    rw [be_2 k, er]; cases w
    · exact bf_push_k hr hh
    · exact bf_pop_k hr hh
  · obtain ⟨r, hr, -, er⟩ := bf_R6 ws (by omega)
    rw [be_3 k, er]; cases w
    · exact bf_pop_k hr hh
    · exact bf_push_k hr hh
  · obtain ⟨r, hr, -, er⟩ := bf_R6 ws (by omega)
    rw [be_6 k, er]; exact bf_upd_k hr hh
  · obtain ⟨r, hr, -, er⟩ := bf_R6 ws (by omega)
    rw [be_7 k, er]; exact bf_upd_k hr hh
  · obtain ⟨r, hr, -, er⟩ := bf_R6 ws (by omega)
    rw [be_8 k, er]; exact bf_upd_k hr hh
  · rw [be_9 k]; exact ⟨hh, fun _ _ => rfl, fun _ _ => rfl, by dsimp only; split <;> omega⟩
end
/-! frames -/
theorem bf_cc_ge (hk : 10 ≤ bf_K (P q) i) : bf_cc P ((q, i, t, w) :: fs) = bf_cc P fs := by
  show (if bf_K (P q) i < 10 ∧ t ≠ 0 then 1 else 0) + bf_cc P fs = bf_cc P fs
  rw [if_neg (by omega), Nat.zero_add]
theorem bf_cc_0 : bf_cc P ((q, i, 0, w) :: fs) = bf_cc P fs := by
  show (if bf_K (P q) i < 10 ∧ 0 ≠ 0 then 1 else 0) + bf_cc P fs = bf_cc P fs
  rw [if_neg (by omega), Nat.zero_add]
theorem bf_cc_1 (hk : bf_K (P q) i < 10) (ht : t ≠ 0) : bf_cc P ((q, i, t, w) :: fs) = bf_cc P fs + 1 := by
  show (if bf_K (P q) i < 10 ∧ t ≠ 0 then 1 else 0) + bf_cc P fs = bf_cc P fs + 1
  rw [if_pos ⟨hk, ht⟩, Nat.add_comm]
/-- a composite frame may change its stage, and begin a part of its own -/
theorem bf_ok_t {t' : Nat} (o : bf_ok P ((q, i, t, w) :: fs)) (hk : 10 ≤ bf_K (P q) i) (ht : t' ≤ 2) : bf_ok P ((q, i, t', w) :: fs) :=
  ⟨⟨o.1.1, o.1.2.1, ht, fun z => absurd z (by show ¬ bf_K (P q) i < 10; omega)⟩, o.2.1, o.2.2.1, o.2.2.2⟩
theorem bf_ok_c {t' a : Nat} (o : bf_ok P ((q, i, t, w) :: fs)) (hk : 10 ≤ bf_K (P q) i) (ht : t' ≤ 2) (h0 : t' ≠ 0) (ha : a < i) : bf_ok P ((q, a, 0, w) :: (q, i, t', w) :: fs) := by
  refine ⟨⟨o.1.1, Nat.lt_trans ha o.1.2.1, Nat.zero_le _, fun _ z => absurd rfl z⟩, ?_, h0, bf_ok_t o hk ht⟩
  rw [bf_cc_ge hk]
  have := o.2.1
  show fs.length + 1 + a < _
  dsimp only at this
  omega
/-- what a turn does to the frames: the outcome is well formed, and the measure falls -/
theorem bf_mu_pop (o : bf_ok P ((q, i, t, w) :: fs)) (ht : t ≠ 0) : bf_mu n fs < bf_mu n ((q, i, t, w) :: fs) := by
  have e : bf_pot ((q, i, t, w) :: fs) = 20 + fs.length := if_neg ht
  have z : bf_pot fs < 20 + fs.length := by
    have nf := o.2.2.1
    cases fs with
    | nil => show 0 < _; omega
    | cons f fs =>
      have : bf_pot (f :: fs) = 20 + fs.length := if_neg nf
      rw [this]
      show 20 + fs.length < 20 + (fs.length + 1)
      omega
  unfold bf_mu
  omega
theorem bf_mu_child {t' a : Nat} (ha : a < i) (hi : i ≤ 16) : bf_mu n ((q, a, 0, w) :: (q, i, t', w) :: fs) < bf_mu n ((q, i, t, w) :: fs) := by
  have e1 : bf_pot ((q, a, 0, w) :: (q, i, t', w) :: fs) = a + 1 := rfl
  have e2 : i + 1 ≤ bf_pot ((q, i, t, w) :: fs) := by
    show i + 1 ≤ if t = 0 then i + 1 else 20 + fs.length
    split <;> omega
  unfold bf_mu
  omega
theorem bf_pot_le (o : bf_ok P fs) (hG : bf_G P) (hc : bf_cc P fs ≤ 6) : bf_pot fs ≤ 140 := by
  cases fs with
  | nil => exact Nat.zero_le _
  | cons f fs =>
    obtain ⟨q, i, t, w⟩ := f
    have h1 := o.2.1
    have h2 := o.1.2.1
    have h3 := (hG q o.1.1).1.1
    dsimp only at h1 h2
    have h4 : bf_cc P fs ≤ bf_cc P ((q, i, t, w) :: fs) := Nat.le_add_left _ _
    show (if t = 0 then i + 1 else 20 + fs.length) ≤ 140
    split <;> omega
theorem bf_mu_step {fs' : List bf_F} (hn : ¬ 300 ≤ n) (o : bf_ok P fs') (hG : bf_G P) (hc : bf_cc P fs' ≤ 6) : bf_mu (n + 1) fs' < bf_mu n fs := by
  have := bf_pot_le o hG hc
  unfold bf_mu
  omega
/-- one turn keeps the machine well formed; if it goes on the measure has fallen -/
theorem bf_stp_W (hG : bf_G P) (W : bf_W P g0 p0 (g, pl, h, (q, i, t, w) :: fs, c, n, 0)) :
    bf_W P g0 p0 (bf_stp P g pl h q i t w fs c n) ∧ ((bf_stp P g pl h q i t w fs c n).2.2.2.2.2.2 = 0 → bf_mu (bf_stp P g pl h q i t w fs c n).2.2.2.2.2.1 (bf_stp P g pl h q i t w fs c n).2.2.2.1 < bf_mu n ((q, i, t, w) :: fs)) := by
  obtain ⟨o, hc, h6, hn, hh, hg, hp, -⟩ := W
  dsimp only at o hc h6 hn hh hg hp
  have hL := hG q o.1.1
  have hi := o.1.2.1
  have ht := o.1.2.2.1
  have hcl := o.1.2.2.2
  dsimp only at hi ht hcl
  have ws := hL.1.2.2.1 i hi
  have h16 := hL.1.1
  have ofs : bf_ok P fs := o.2.2.2
  rcases Nat.lt_or_ge (bf_K (P q) i) 10 with hk | hk
  · by_cases h4 : bf_K (P q) i = 4 ∨ bf_K (P q) i = 5
    · by_cases t0 : t = 0
      · subst t0
        rw [bf_cc_0] at hc
        by_cases n3 : 300 ≤ n
        · rw [bs_callT h4 n3]; exact ⟨⟨o, by rw [bf_cc_0]; exact hc, h6, hn, hh, hg, hp, (by decide : (2 : Nat) ≤ 3)⟩, fun z => absurd z (by decide : ¬ (2 : Nat) = 0)⟩
        · by_cases c6 : 6 ≤ c
          · rw [bs_callD h4 n3 c6]; exact ⟨⟨o, by rw [bf_cc_0]; exact hc, h6, (by omega : n + 1 ≤ 300), hh, hg, hp, (by decide : (3 : Nat) ≤ 3)⟩, fun z => absurd z (by decide : ¬ (3 : Nat) = 0)⟩
          · rw [bs_call h4 n3 c6]
            obtain ⟨p, hp3, -, ep⟩ := bf_N3 ws h4
            rw [ep]
            have hLp := hG p hp3
            have hcc : bf_cc P ((q, i, 1, w) :: fs) = bf_cc P fs + 1 := bf_cc_1 hk (by decide)
            have o1 : bf_ok P ((q, i, 1, w) :: fs) := ⟨⟨o.1.1, o.1.2.1, (by decide : 1 ≤ 2), fun _ _ => ⟨h4, rfl⟩⟩, o.2.1, o.2.2.1, ofs⟩
            have o2 : bf_ok P ((p, bf_sz (P p) - 1, 0, w != decide (bf_K (P q) i = 5)) :: (q, i, 1, w) :: fs) := by
              refine ⟨⟨hp3, (by have := hLp.2; omega : bf_sz (P p) - 1 < bf_sz (P p)), Nat.zero_le _, fun _ z => absurd rfl z⟩, ?_, (by decide : 1 ≠ 0), o1⟩
              rw [hcc]
              have := o.2.1
              have := hLp.1.1
              show fs.length + 1 + (bf_sz (P p) - 1) < _
              dsimp only at *
              omega
            have hc2 : c + 1 = bf_cc P ((p, bf_sz (P p) - 1, 0, w != decide (bf_K (P q) i = 5)) :: (q, i, 1, w) :: fs) := by rw [bf_cc_0, hcc, hc]
            have hc3 : bf_cc P ((p, bf_sz (P p) - 1, 0, w != decide (bf_K (P q) i = 5)) :: (q, i, 1, w) :: fs) ≤ 6 := by omega
            exact ⟨⟨o2, hc2, (by omega : c + 1 ≤ 6), (by omega : n + 1 ≤ 300), hh, hg, hp, Nat.zero_le _⟩, fun _ => bf_mu_step n3 o2 hG hc3⟩
      · rw [bs_ret h4 t0]
        rw [bf_cc_1 hk t0] at hc
        exact ⟨⟨ofs, (by omega : c - 1 = bf_cc P fs), (by omega : c - 1 ≤ 6), hn, hh, hg, hp, Nat.zero_le _⟩, fun _ => bf_mu_pop o t0⟩
    · have t0 : t = 0 := by
        rcases Nat.eq_zero_or_pos t with z | z
        · exact z
        · exact absurd (hcl hk (by omega)).1 h4
      subst t0
      rw [bf_cc_0] at hc
      by_cases n3 : 300 ≤ n
      · rw [bs_leafT hk h4 n3]; exact ⟨⟨ofs, hc, h6, hn, hh, hg, hp, (by decide : (2 : Nat) ≤ 3)⟩, fun z => absurd z (by decide : ¬ (2 : Nat) = 0)⟩
      · rw [bs_leaf hk h4 n3]
        obtain ⟨e1, e2, e3, e4⟩ := bf_eff_k (w := w) (g := g) (pl := pl) ws hk h4 hh
        have hc3 : bf_cc P fs ≤ 6 := by omega
        exact ⟨⟨ofs, hc, h6, (by omega : n + 1 ≤ 300), e1, fun j hj => (e2 j hj).trans (hg j hj), fun j hj => (e3 j hj).trans (hp j hj), Nat.le_trans e4 (by decide)⟩, fun _ => bf_mu_step n3 ofs hG hc3⟩
  · have hcf : c = bf_cc P fs := by rw [hc, bf_cc_ge hk]
    have hab := ws.2.2.2.2.2.2 hk
    have pop : t ≠ 0 → bf_W P g0 p0 (g, pl, h, fs, c, n, 0) ∧ ((0 : Nat) = 0 → bf_mu n fs < bf_mu n ((q, i, t, w) :: fs)) := fun z => ⟨⟨ofs, hcf, h6, hn, hh, hg, hp, Nat.zero_le _⟩, fun _ => bf_mu_pop o z⟩
    have opA : bf_W P g0 p0 (g, pl, h, bf_opA (P q) q i w fs, c, n, 0) ∧ ((0 : Nat) = 0 → bf_mu n (bf_opA (P q) q i w fs) < bf_mu n ((q, i, t, w) :: fs)) :=
      ⟨⟨bf_ok_c o hk (by decide) (by decide) hab.1, by show c = bf_cc P ((q, bf_A (P q) i, 0, w) :: (q, i, 1, w) :: fs); rw [bf_cc_0, bf_cc_ge hk]; exact hcf, h6, hn, hh, hg, hp, Nat.zero_le _⟩, fun _ => bf_mu_child hab.1 (by omega)⟩
    have opB : bf_W P g0 p0 (g, pl, h, bf_opB (P q) q i w fs, c, n, 0) ∧ ((0 : Nat) = 0 → bf_mu n (bf_opB (P q) q i w fs) < bf_mu n ((q, i, t, w) :: fs)) :=
      ⟨⟨bf_ok_c o hk (by decide) (by decide) hab.2, by show c = bf_cc P ((q, bf_B (P q) i, 0, w) :: (q, i, 2, w) :: fs); rw [bf_cc_0, bf_cc_ge hk]; exact hcf, h6, hn, hh, hg, hp, Nat.zero_le _⟩, fun _ => bf_mu_child hab.2 (by omega)⟩
    have stay : bf_W P g0 p0 (g, pl, h, (q, i, t, w) :: fs, c, n, 1) ∧ ((1 : Nat) = 0 → bf_mu n ((q, i, t, w) :: fs) < bf_mu n ((q, i, t, w) :: fs)) := ⟨⟨o, hc, h6, hn, hh, hg, hp, (by decide : (1 : Nat) ≤ 3)⟩, fun z => absurd z (by decide)⟩
    have hk3 : bf_K (P q) i = 10 ∨ bf_K (P q) i = 11 ∨ bf_K (P q) i = 12 := by have := ws.1; omega
    rcases hk3 with k | k | k
    · have h3 : (t = if w then 1 else 2) ∨ (t = if w then 2 else 0) ∨ (t = if w then 0 else 1) := by
        cases w <;> simp <;> omega
      rcases h3 with z | z | z
      · rw [bs_seqC k z]; exact pop (by rw [z]; cases w <;> decide)
      · rw [bs_seqA k z]; exact opA
      · rw [bs_seqB k z]; exact opB
    · by_cases t0 : t = 0
      · subst t0
        rw [bs_if0 k]
        cases bf_tv (P q) g i w true
        · exact opB
        · exact opA
      · by_cases hv : bf_tv (P q) g i w false = decide (t = 1)
        · rw [bs_ifC k t0 hv]; exact pop t0
        · rw [bs_ifF k t0 hv]; exact stay
    · by_cases t1 : t = 1
      · subst t1
        rw [bs_lp1 k]
        cases bf_tv (P q) g i w false
        · exact opB
        · exact pop (by decide)
      · by_cases hv : bf_tv (P q) g i w true = decide (t = 0)
        · rw [bs_lpA k t1 hv]; exact opA
        · rw [bs_lpF k t1 hv]; exact stay
end
/-! runs: k turns from m to mf -/
def bf_to (P : Nat → bf_L) : Nat → bf_M → bf_M → Prop
  | 0, m, mf => m = mf ∧ (m.2.2.2.1 = [] ∨ m.2.2.2.2.2.2 ≠ 0)
  | k + 1, m, mf => ∃ g pl h q i t w fs c n, m = (g, pl, h, (q, i, t, w) :: fs, c, n, 0) ∧ bf_to P k (bf_stp P g pl h q i t w fs c n) mf
theorem bf_ends {P : Nat → bf_L} {g0 p0 : Nat → Int32} (hG : bf_G P) : ∀ (N : Nat) (m : bf_M), bf_W P g0 p0 m → bf_mu m.2.2.2.2.2.1 m.2.2.2.1 < N → ∃ k mf, k < N ∧ bf_to P k m mf ∧ bf_W P g0 p0 mf := by
  intro N
  induction N with
  | zero => intro m _ h; omega
  | succ N ih =>
    intro m W hm
    obtain ⟨g, pl, h, fs, c, n, z⟩ := m
    cases fs with
    | nil => exact ⟨0, _, by omega, ⟨rfl, Or.inl rfl⟩, W⟩
    | cons f fs =>
      obtain ⟨q, i, t, w⟩ := f
      by_cases hz : z = 0
      · subst hz
        obtain ⟨W', hmu⟩ := bf_stp_W hG W
        by_cases hz' : (bf_stp P g pl h q i t w fs c n).2.2.2.2.2.2 = 0
        · obtain ⟨k, mf, hk, ht, Wf⟩ := ih _ W' (by have := hmu hz'; dsimp only at hm; omega)
          exact ⟨k + 1, mf, by omega, ⟨g, pl, h, q, i, t, w, fs, c, n, rfl, ht⟩, Wf⟩
        · refine ⟨1, _, ?_, ⟨g, pl, h, q, i, t, w, fs, c, n, rfl, rfl, Or.inr hz'⟩, W'⟩
          have z : 0 < bf_pot ((q, i, t, w) :: fs) := by
            show 0 < if t = 0 then i + 1 else 20 + fs.length
            split <;> omega
          unfold bf_mu at hm
          dsimp only at hm
          omega
      · exact ⟨0, _, by omega, ⟨rfl, Or.inr hz⟩, W⟩
