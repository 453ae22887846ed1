/-! counting the uses anew -/
def ev_Un (a : Nat → Int32) (n : Nat) : Nat → Int32 := fun j => if j < 192 then nI (ev_ct (fun i => decide (a i = nI j)) 0 n) else 0
theorem ev_Un_0 (a : Nat → Int32) : ev_Un a 0 = fun _ => 0 := by
  funext j
  unfold ev_Un
  split
  · exact nI_0
  · rfl
theorem ev_Un_512 (a : Nat → Int32) : ev_Un a 512 = ev_U a := rfl
theorem ev_Un_h {a : Nat → Int32} {n : Nat} (h : a n = -1) : ev_Un a (n + 1) = ev_Un a n := by
  funext j
  unfold ev_Un
  by_cases hj : j < 192
  · have hf : ¬ (fun i => decide (a i = nI j)) (0 + n) = true := by
      show ¬ decide (a (0 + n) = nI j) = true
      rw [Nat.zero_add, h, decide_eq_false (ev_ne1' (a := j) (by omega))]
      exact Bool.false_ne_true
    rw [if_pos hj, if_pos hj, ev_ct_f hf]
  · rw [if_neg hj, if_neg hj]
theorem ev_Un_b {a : Nat → Int32} {n b : Nat} (hb : b < 192) (h : a n = nI b) : ev_Un a (n + 1) = upd (ev_Un a n) b (ev_Un a n b + 1) := by
  funext j
  by_cases e : j = b
  · subst e
    rw [pk_us]
    unfold ev_Un
    have hf : (fun i => decide (a i = nI j)) (0 + n) = true := by
      show decide (a (0 + n) = nI j) = true
      rw [Nat.zero_add, h]
      exact decide_eq_true rfl
    rw [if_pos hb, if_pos hb, ev_ct_t hf, nI_1]
  · rw [pk_un e]
    unfold ev_Un
    by_cases hj : j < 192
    · have hf : ¬ (fun i => decide (a i = nI j)) (0 + n) = true := by
        show ¬ decide (a (0 + n) = nI j) = true
        rw [Nat.zero_add, h, decide_eq_false (p := nI b = nI j) (fun z => e (ev_inj z.symm (by omega) (by omega)))]
        exact Bool.false_ne_true
      rw [if_pos hj, if_pos hj, ev_ct_f hf]
    · rw [if_neg hj, if_neg hj]
theorem ev_U_m1 {a : Nat → Int32} (h : ∀ k, k < 512 → a k = -1) : ev_U a = fun _ => 0 := by
  funext j
  by_cases hj : j < 192
  · rw [ev_U0 hj]
    exact ev_ct_none 512 (fun i _ hi => decide_eq_false (by rw [h i (by omega)]; exact ev_ne1' (by omega)))
  · exact ev_U_ge hj

/-! a stretch of an array filled -/
def ev_fl (f g : Nat → Int32) (o i : Nat) : Nat → Int32 := fun j => if o ≤ j ∧ j < o + i then g (j - o) else f j
theorem ev_fl_0 (f g : Nat → Int32) (o : Nat) : ev_fl f g o 0 = f := by
  funext j
  exact if_neg (by omega)
theorem ev_fl_s (f g : Nat → Int32) (o i : Nat) : upd (ev_fl f g o i) (o + i) (g i) = ev_fl f g o (i + 1) := by
  funext j
  by_cases e : j = o + i
  · rw [e, pk_us]
    unfold ev_fl
    rw [if_pos (by omega), show o + i - o = i by omega]
  · rw [pk_un e]
    unfold ev_fl
    by_cases h : o ≤ j ∧ j < o + i
    · rw [if_pos h, if_pos (by omega)]
    · rw [if_neg h, if_neg (by omega)]
theorem ev_fl_in {f g : Nat → Int32} {o i k : Nat} (h : k < i) : ev_fl f g o i (o + k) = g k := by
  unfold ev_fl
  rw [if_pos (by omega), show o + k - o = k by omega]
theorem ev_fl_out {f g : Nat → Int32} {o i j : Nat} (h : j < o ∨ o + i ≤ j) : ev_fl f g o i j = f j := if_neg (by omega)
theorem ev_fl_congr {f g g' : Nat → Int32} {o i : Nat} (h : ∀ k, k < i → g k = g' k) : ev_fl f g o i = ev_fl f g' o i := by
  funext j
  unfold ev_fl
  by_cases z : o ≤ j ∧ j < o + i
  · rw [if_pos z, if_pos z]; exact h _ (by omega)
  · rw [if_neg z, if_neg z]
theorem ev_fl_V {a g : Nat → Int32} {i : Nat} (hV : ev_V a) (hg : ∀ k, k < 512 → g k = -1 ∨ ∃ b, b < 192 ∧ g k = nI b) : ev_V (ev_fl a g 0 i) := by
  intro k hk
  by_cases z : 0 ≤ k ∧ k < 0 + i
  · have : ev_fl a g 0 i k = g (k - 0) := if_pos z
    rw [this]; exact hg _ (by omega)
  · have : ev_fl a g 0 i k = a k := if_neg z
    rw [this]; exact hV k hk

/-! pieces punched, pieces shared, ints set -/
def ev_pA (a : Nat → Int32) (o : Nat) : Nat → (Nat → Int32)
  | 0 => a
  | i + 1 => upd (ev_pA a o i) (o + i) (-1)
theorem ev_pA_V {a : Nat → Int32} (hV : ev_V a) (o : Nat) : ∀ i, ev_V (ev_pA a o i) := by
  intro i
  induction i with
  | zero => exact hV
  | succ i ih => exact ev_V_upd ih (Or.inl rfl)
def ev_sA (a : Nat → Int32) (o t : Nat) : Nat → (Nat → Int32)
  | 0 => a
  | i + 1 => upd (ev_sA a o t i) (t + i) (ev_sA a o t i (o + i))
theorem ev_sA_V {a : Nat → Int32} {o t n : Nat} (hV : ev_V a) (ho : o + n ≤ 512) : ∀ i, i ≤ n → ev_V (ev_sA a o t i) := by
  intro i
  induction i with
  | zero => exact fun _ => hV
  | succ i ih => exact fun hi => ev_V_upd (ih (by omega)) (ih (by omega) (o + i) (by omega))
def ev_iV (a v : Nat → Int32) (x : Int32) (o : Nat) : Nat → (Nat → Int32)
  | 0 => v
  | i + 1 => upd (ev_iV a v x o i) (a (o + i)).toNatClampNeg (x + nI i)

/-! where an extent of a file begins -/
def ev_nx (x : Int32) : Int32 := if x.toNatClampNeg % 64 = 63 then -1 else nI (x.toNatClampNeg + 1)
def ev_pv (a : Nat → Int32) (o j : Nat) : Int32 := if j = o then -1 else a (j - 1)
def ev_xb (a : Nat → Int32) (o j : Nat) : Bool := decide (¬ a j = -1 ∧ (ev_pv a o j = -1 ∨ ¬ a j = ev_nx (ev_pv a o j)))
theorem ev_pv_0 (a : Nat → Int32) (o : Nat) : ev_pv a o o = -1 := if_pos rfl
theorem ev_pv_s (a : Nat → Int32) (o i : Nat) : ev_pv a o (o + (i + 1)) = a (o + i) := if_neg (by omega)
theorem ev_pv_V {a : Nat → Int32} {o j : Nat} (hV : ev_V a) (h : o ≤ j) (hj : j ≤ 512) : ev_pv a o j = -1 ∨ ∃ b, b < 192 ∧ ev_pv a o j = nI b := by
  unfold ev_pv
  split
  · exact Or.inl rfl
  · exact hV _ (by omega)
theorem ev_nx_nI {b : Nat} (hb : b < 192) : ev_nx (nI b) = if b % 64 = 63 then -1 else nI (b + 1) := by
  unfold ev_nx
  rw [nI_clamp (by omega)]
