section
/-! rows pasted from kit/rows (pk_), then counting -/
theorem pk_us {f : Nat → Int32} {k : Nat} {x : Int32} : upd f k x k = x := if_pos rfl
theorem pk_un {f : Nat → Int32} {k j : Nat} {x : Int32} (h : j ≠ k) : upd f k x j = f j := if_neg h
theorem pk_sub {a b : Nat} (h : b ≤ a) : nI a - nI b = nI (a - b) := by
  obtain ⟨c, rfl⟩ : ∃ c, a = c + b := ⟨a - b, by omega⟩
  rw [← nI_add, Int32.add_sub_cancel, Nat.add_sub_cancel]
theorem pk_m1 (n : Nat) : nI (n + 1) + (-1) = nI n := by
  rw [← nI_1, Int32.add_assoc, show (1 : Int32) + (-1) = 0 from rfl, Int32.add_zero]
theorem pk_mul (a b : Nat) : nI a * nI b = nI (a * b) := (Int32.ofNat_mul a b).symm
theorem pk_div {a d : Nat} (ha : a < 2 ^ 31) (h0 : 0 < d) (hd : d < 2 ^ 31) : nI a / nI d = nI (a / d) := by
  apply Int32.toInt_inj.mp
  rw [lg_idiv_nonneg (by rw [nI_toInt ha]; omega) (by rw [nI_toInt hd]; omega), nI_toInt ha, nI_toInt hd, nI_toInt (Nat.lt_of_le_of_lt (Nat.div_le_self a d) ha)]
  first | rfl | exact (Int.natCast_ediv _ _).symm
theorem pk_rem {a d : Nat} (ha : a < 2 ^ 31) (h0 : 0 < d) (hd : d < 2 ^ 31) : nI a - nI a / nI d * nI d = nI (a % d) := by
  rw [pk_div ha h0 hd, pk_mul, pk_sub (Nat.div_mul_le_self a d)]
  exact congrArg nI (by have := Nat.div_add_mod' a d; omega)
theorem pk_ix (x : Int32) {n : Nat} (hn : n < 2 ^ 31) : x < 0 ∨ nI n ≤ x ∨ ∃ j : Nat, j < n ∧ x = nI j := by
  by_cases h : x < 0
  · exact Or.inl h
  · obtain ⟨j, hj, rfl⟩ := nI_of h
    by_cases h2 : j < n
    · exact Or.inr (Or.inr ⟨j, h2, rfl⟩)
    · exact Or.inr (Or.inl (nI_le (by omega) hj))
theorem pk_le {x y : Int32} {A B : Prop} (a b : Nat) (f : a ≤ b → A) (g : b < a → B) (hx : x = nI a := by rfl) (hy : y = nI b := by rfl) (ha : a < 2 ^ 31 := by omega) (hb : b < 2 ^ 31 := by omega) : (x ≤ y → A) ∧ (¬ x ≤ y → B) := by
  subst hx hy
  rw [nI_leI ha hb]
  exact ⟨f, fun z => g (by omega)⟩
theorem pk_lt {x y : Int32} {A B : Prop} (a b : Nat) (f : a < b → A) (g : b ≤ a → B) (hx : x = nI a := by rfl) (hy : y = nI b := by rfl) (ha : a < 2 ^ 31 := by omega) (hb : b < 2 ^ 31 := by omega) : (x < y → A) ∧ (¬ x < y → B) := by
  subst hx hy
  rw [nI_ltI ha hb]
  exact ⟨f, fun z => g (by omega)⟩
theorem pk_eq {x y : Int32} {A B : Prop} (a b : Nat) (f : a = b → A) (g : a ≠ b → B) (hx : x = nI a := by rfl) (hy : y = nI b := by rfl) (ha : a < 2 ^ 31 := by omega) (hb : b < 2 ^ 31 := by omega) : (x = y → A) ∧ (¬ x = y → B) := by
  subst hx hy
  rw [nI_eq ha hb]
  exact ⟨f, g⟩
theorem pk_in {x : Int32} (n N : Nat) (h : n < N) (hx : x = nI n := by rfl) (hN : N < 2 ^ 31 := by omega) : vp_in x N := by
  subst hx
  exact vp_in_nI h hN
theorem pk_cl {x : Int32} (n : Nat) (hx : x = nI n := by rfl) (h : n < 2 ^ 31 := by omega) : x.toNatClampNeg = n := by
  subst hx
  exact nI_clamp h
theorem pk_loop {σ : Type} (W : Nat → Nat → σ → Prop) (I : Nat → σ → Prop) (e i0 : Nat) (s : σ) (hi : i0 ≤ e) (h0 : I i0 s) (hx : ∀ n s, I e s → W (n + 1) e s)
    (hs : ∀ n i s, i < e → I i s → (∀ s', I (i + 1) s' → W n (i + 1) s') → W (n + 1) i s) : ∃ n, W n i0 s :=
  ⟨e + 1, loop_i W I e hx hs (e + 1) i0 s hi (by omega) h0⟩

/-! numbers -/
theorem ev_m1lt : (-1 : Int32) < 0 := by decide
theorem ev_m1le : ¬ (0 : Int32) ≤ -1 := by decide
theorem ev_ne1 {a : Nat} (h : a < 2 ^ 31) : ¬ nI a = -1 := by
  intro e
  have := nI_pos (n := a) h
  rw [e] at this
  exact this ev_m1lt
theorem ev_ne1' {a : Nat} (h : a < 2 ^ 31) : ¬ (-1 : Int32) = nI a := fun e => ev_ne1 h e.symm
theorem ev_eq0 {a : Nat} (h : a < 2 ^ 31) : nI a = 0 ↔ a = 0 := by
  rw [← nI_0, nI_eq h (by omega)]
theorem ev_eq1 {a : Nat} (h : a < 2 ^ 31) : nI a = 1 ↔ a = 1 := nI_eq (b := 1) h (by omega)
theorem ev_inj {a b : Nat} (h : nI a = nI b) (ha : a < 2 ^ 31) (hb : b < 2 ^ 31) : a = b := (nI_eq ha hb).mp h
theorem ev_uu (f : Nat → Int32) (k : Nat) (x y : Int32) : upd (upd f k x) k y = upd f k y := by
  funext j
  by_cases h : j = k
  · rw [h, pk_us, pk_us]
  · rw [pk_un h, pk_un h, pk_un h]
theorem ev_same (f : Nat → Int32) (k : Nat) (x : Int32) (h : f k = x) : upd f k x = f := by
  funext j
  by_cases e : j = k
  · rw [e, pk_us, h]
  · rw [pk_un e]

/-! counting the places s .. s + d - 1 -/
def ev_ct (p : Nat → Bool) (s : Nat) : Nat → Nat
  | 0 => 0
  | d + 1 => ev_ct p s d + (if p (s + d) = true then 1 else 0)
theorem ev_ctS (p : Nat → Bool) (s d : Nat) : ev_ct p s (d + 1) = ev_ct p s d + (if p (s + d) = true then 1 else 0) := rfl
theorem ev_ct_t {p : Nat → Bool} {s d : Nat} (h : p (s + d) = true) : ev_ct p s (d + 1) = ev_ct p s d + 1 := by rw [ev_ctS, if_pos h]
theorem ev_ct_f {p : Nat → Bool} {s d : Nat} (h : ¬ p (s + d) = true) : ev_ct p s (d + 1) = ev_ct p s d := by rw [ev_ctS, if_neg h]; rfl
theorem ev_ct_le (p : Nat → Bool) (s : Nat) : ∀ d, ev_ct p s d ≤ d := by
  intro d
  induction d with
  | zero => exact Nat.le_refl 0
  | succ d ih => rw [ev_ctS]; split <;> omega
theorem ev_ct_congr {p q : Nat → Bool} {s : Nat} : ∀ d, (∀ j, s ≤ j → j < s + d → p j = q j) → ev_ct p s d = ev_ct q s d := by
  intro d
  induction d with
  | zero => intro _; rfl
  | succ d ih =>
    intro h
    rw [ev_ctS, ev_ctS, ih (fun j a b => h j a (by omega)), h (s + d) (by omega) (by omega)]
theorem ev_ct_mono {p q : Nat → Bool} {s : Nat} : ∀ d, (∀ j, s ≤ j → j < s + d → p j = true → q j = true) → ev_ct p s d ≤ ev_ct q s d := by
  intro d
  induction d with
  | zero => intro _; exact Nat.le_refl 0
  | succ d ih =>
    intro h
    have i := ih (fun j a b => h j a (by omega))
    by_cases e : p (s + d) = true
    · rw [ev_ct_t e, ev_ct_t (h _ (by omega) (by omega) e)]; omega
    · rw [ev_ct_f e, ev_ctS]; split <;> omega
theorem ev_ct_mono1 {p q : Nat → Bool} {s t : Nat} : ∀ d, (∀ j, s ≤ j → j < s + d → j ≠ t → p j = true → q j = true) → ev_ct p s d ≤ ev_ct q s d + (if t < s + d then 1 else 0) := by
  intro d
  induction d with
  | zero => intro _; exact Nat.zero_le _
  | succ d ih =>
    intro h
    have i := ih (fun j a b => h j a (by omega))
    by_cases e : p (s + d) = true
    · rw [ev_ct_t e]
      by_cases t1 : t = s + d
      · rw [if_neg (by omega)] at i
        rw [if_pos (by omega), ev_ctS]
        split <;> omega
      · rw [ev_ct_t (h _ (by omega) (by omega) (fun z => t1 z.symm) e)]
        by_cases t2 : t < s + d
        · rw [if_pos t2] at i
          rw [if_pos (by omega)]
          omega
        · rw [if_neg t2] at i
          rw [if_neg (by omega)]
          omega
    · rw [ev_ct_f e, ev_ctS]
      by_cases t2 : t < s + d
      · rw [if_pos t2] at i
        rw [if_pos (show t < s + (d + 1) by omega)]
        omega
      · rw [if_neg t2] at i
        omega
theorem ev_ct_one {p q : Nat → Bool} {s k : Nat} (hp : p k = false) (hq : q k = true) (ho : ∀ j, j ≠ k → p j = q j) : ∀ d, s ≤ k → k < s + d → ev_ct q s d = ev_ct p s d + 1 := by
  intro d
  induction d with
  | zero => intro a b; omega
  | succ d ih =>
    intro a b
    by_cases e : k = s + d
    · have hc : ev_ct q s d = ev_ct p s d := ev_ct_congr d (fun j _ h => (ho j (by omega)).symm)
      rw [e] at hp hq
      rw [ev_ct_t hq, ev_ct_f (by rw [hp]; exact Bool.false_ne_true), hc]
    · rw [ev_ctS, ev_ctS, ih a (by omega), ho (s + d) (by omega)]
      exact Nat.add_right_comm _ _ _
theorem ev_ct_pos {p : Nat → Bool} {s : Nat} : ∀ d, 0 < ev_ct p s d → ∃ j, s ≤ j ∧ j < s + d ∧ p j = true := by
  intro d
  induction d with
  | zero => intro h; exact absurd h (Nat.lt_irrefl 0)
  | succ d ih =>
    intro h
    by_cases e : p (s + d) = true
    · exact ⟨s + d, by omega, by omega, e⟩
    · rw [ev_ct_f e] at h
      obtain ⟨j, a, b, c⟩ := ih h
      exact ⟨j, a, by omega, c⟩
theorem ev_ct_ge1 {p : Nat → Bool} {s j : Nat} (hj : p j = true) : ∀ d, s ≤ j → j < s + d → 0 < ev_ct p s d := by
  intro d
  induction d with
  | zero => intro a b; omega
  | succ d ih =>
    intro a b
    by_cases e : j = s + d
    · rw [e] at hj
      rw [ev_ct_t hj]; omega
    · have := ih a (by omega)
      rw [ev_ctS]; omega
theorem ev_ct_lt {p q : Nat → Bool} {s k : Nat} (hp : p k = false) (hq : q k = true) : ∀ d, (∀ j, s ≤ j → j < s + d → p j = true → q j = true) → s ≤ k → k < s + d → ev_ct p s d < ev_ct q s d := by
  intro d
  induction d with
  | zero => intro _ a b; omega
  | succ d ih =>
    intro h a b
    by_cases e : k = s + d
    · have hc : ev_ct p s d ≤ ev_ct q s d := ev_ct_mono d (fun j x y => h j x (by omega))
      rw [e] at hp hq
      rw [ev_ct_t hq, ev_ct_f (by rw [hp]; exact Bool.false_ne_true)]; omega
    · have i := ih (fun j x y => h j x (by omega)) a (by omega)
      by_cases e2 : p (s + d) = true
      · rw [ev_ct_t e2, ev_ct_t (h _ (by omega) (by omega) e2)]; omega
      · rw [ev_ct_f e2, ev_ctS]; omega
theorem ev_ct_split (p : Nat → Bool) (s d : Nat) : ∀ e, ev_ct p s (d + e) = ev_ct p s d + ev_ct p (s + d) e := by
  intro e
  induction e with
  | zero => rfl
  | succ e ih =>
    show ev_ct p s (d + e) + (if p (s + (d + e)) = true then 1 else 0) = ev_ct p s d + (ev_ct p (s + d) e + (if p (s + d + e) = true then 1 else 0))
    rw [ih, Nat.add_assoc s d e]
    exact Nat.add_assoc _ _ _
theorem ev_ct_none {p : Nat → Bool} {s : Nat} : ∀ d, (∀ j, s ≤ j → j < s + d → p j = false) → ev_ct p s d = 0 := by
  intro d
  induction d with
  | zero => intro _; rfl
  | succ d ih =>
    intro h
    rw [ev_ct_f (by rw [h (s + d) (by omega) (by omega)]; exact Bool.false_ne_true)]
    exact ih (fun j a b => h j a (by omega))
theorem ev_ct_all {p : Nat → Bool} {s : Nat} : ∀ d, (∀ j, s ≤ j → j < s + d → p j = true) → ev_ct p s d = d := by
  intro d
  induction d with
  | zero => intro _; rfl
  | succ d ih =>
    intro h
    rw [ev_ct_t (h (s + d) (by omega) (by omega)), ih (fun j a b => h j a (by omega))]
end
section
/-! how many pieces a block has; blocks of pieces are within; a piece alone at its block -/
def ev_cn (a : Nat → Int32) (x : Int32) : Nat := ev_ct (fun j => decide (a j = x)) 0 512
def ev_U (a : Nat → Int32) : Nat → Int32 := fun j => if j < 192 then nI (ev_cn a (nI j)) else 0
def ev_V (a : Nat → Int32) : Prop := ∀ k, k < 512 → a k = -1 ∨ ∃ b, b < 192 ∧ a k = nI b
def ev_fr (u : Nat → Int32) : Nat := ev_ct (fun j => decide (u j = 0)) 0 192
def ev_al (a : Nat → Int32) (k : Nat) : Prop := ∃ b, b < 192 ∧ a k = nI b ∧ ev_cn a (nI b) = 1
def ev_na (a : Nat → Int32) (k : Nat) : Bool := decide (a k = -1) || !decide (ev_U a (a k).toNatClampNeg = 1)
theorem ev_U_lt {a : Nat → Int32} {j : Nat} (h : j < 192) : ev_U a j = nI (ev_cn a (nI j)) := if_pos h
theorem ev_U_ge {a : Nat → Int32} {j : Nat} (h : ¬ j < 192) : ev_U a j = 0 := if_neg h
theorem ev_cn_le (a : Nat → Int32) (x : Int32) : ev_cn a x ≤ 512 := ev_ct_le _ _ _
theorem ev_cn_pos {a : Nat → Int32} {k : Nat} {x : Int32} (hk : k < 512) (h : a k = x) : 0 < ev_cn a x :=
  ev_ct_ge1 (j := k) (decide_eq_true h) 512 (Nat.zero_le _) (by omega)
theorem ev_cn_upd (a : Nat → Int32) {k : Nat} (x y : Int32) (hk : k < 512) : ev_cn (upd a k x) y + (if a k = y then 1 else 0) = ev_cn a y + (if x = y then 1 else 0) := by
  by_cases h1 : a k = y
  · by_cases h2 : x = y
    · rw [if_pos h1, if_pos h2]
      have : ev_cn (upd a k x) y = ev_cn a y := ev_ct_congr 512 (fun j _ _ => by
        show decide (upd a k x j = y) = decide (a j = y)
        by_cases e : j = k
        · rw [e, pk_us, h1, h2]
        · rw [pk_un e])
      rw [this]
    · rw [if_pos h1, if_neg h2]
      have : ev_cn a y = ev_cn (upd a k x) y + 1 := ev_ct_one (k := k)
        (by show decide (upd a k x k = y) = false
            rw [pk_us]; exact decide_eq_false h2)
        (decide_eq_true h1)
        (fun j hj => by
          show decide (upd a k x j = y) = decide (a j = y)
          rw [pk_un hj]) 512 (Nat.zero_le _) (by omega)
      omega
  · by_cases h2 : x = y
    · rw [if_neg h1, if_pos h2]
      have : ev_cn (upd a k x) y = ev_cn a y + 1 := ev_ct_one (k := k)
        (decide_eq_false h1)
        (by show decide (upd a k x k = y) = true
            rw [pk_us]; exact decide_eq_true h2)
        (fun j hj => by
          show decide (a j = y) = decide (upd a k x j = y)
          rw [pk_un hj]) 512 (Nat.zero_le _) (by omega)
      omega
    · rw [if_neg h1, if_neg h2]
      have : ev_cn (upd a k x) y = ev_cn a y := ev_ct_congr 512 (fun j _ _ => by
        show decide (upd a k x j = y) = decide (a j = y)
        by_cases e : j = k
        · rw [e, pk_us, decide_eq_false h1, decide_eq_false h2]
        · rw [pk_un e])
      rw [this]
theorem ev_U0 {a : Nat → Int32} {j : Nat} (h : j < 192) : ev_U a j = 0 ↔ ev_cn a (nI j) = 0 := by
  have := ev_cn_le a (nI j)
  rw [ev_U_lt h, ev_eq0 (by omega)]
theorem ev_U1 {a : Nat → Int32} {j : Nat} (h : j < 192) : ev_U a j = 1 ↔ ev_cn a (nI j) = 1 := by
  have := ev_cn_le a (nI j)
  rw [ev_U_lt h, ev_eq1 (by omega)]
theorem ev_Unn (a : Nat → Int32) (j : Nat) : ∃ c, c ≤ 512 ∧ ev_U a j = nI c := by
  by_cases h : j < 192
  · exact ⟨_, ev_cn_le a (nI j), ev_U_lt h⟩
  · exact ⟨0, by omega, by rw [ev_U_ge h, nI_0]⟩
/-- a piece leaves its block -/
theorem ev_U_out {a : Nat → Int32} {k b : Nat} (hk : k < 512) (hb : b < 192) (h : a k = nI b) : ev_U (upd a k (-1)) = upd (ev_U a) b (ev_U a b - 1) := by
  funext j
  by_cases hj : j < 192
  · have e := ev_cn_upd a (-1) (nI j) hk
    rw [if_neg (ev_ne1' (a := j) (by omega))] at e
    by_cases z : j = b
    · subst z
      rw [if_pos h] at e
      rw [pk_us, ev_U_lt hj, ev_U_lt hj, show ev_cn a (nI j) = ev_cn (upd a k (-1)) (nI j) + 1 by omega, nI_pred]
    · have hne : ¬ a k = nI j := fun y => z (ev_inj (y.symm.trans h) (by omega) (by omega))
      rw [if_neg hne] at e
      rw [pk_un z, ev_U_lt hj, ev_U_lt hj]
      exact congrArg nI (by omega)
  · rw [pk_un (by omega), ev_U_ge hj, ev_U_ge hj]
/-- a hole gets a block -/
theorem ev_U_in {a : Nat → Int32} {k t : Nat} (hk : k < 512) (ht : t < 192) (h : a k = -1) : ev_U (upd a k (nI t)) = upd (ev_U a) t (ev_U a t + 1) := by
  funext j
  by_cases hj : j < 192
  · have e := ev_cn_upd a (nI t) (nI j) hk
    rw [if_neg (show ¬ a k = nI j by rw [h]; exact ev_ne1' (by omega))] at e
    by_cases z : j = t
    · subst z
      rw [if_pos rfl] at e
      rw [pk_us, ev_U_lt hj, ev_U_lt hj, nI_1]
      exact congrArg nI (by omega)
    · have hne : ¬ nI t = nI j := fun y => z (ev_inj y.symm (by omega) (by omega))
      rw [if_neg hne] at e
      rw [pk_un z, ev_U_lt hj, ev_U_lt hj]
      exact congrArg nI (by omega)
  · rw [pk_un (by omega), ev_U_ge hj, ev_U_ge hj]
theorem ev_U_mv {a : Nat → Int32} {k b t : Nat} (hk : k < 512) (hb : b < 192) (ht : t < 192) (h : a k = nI b) : ev_U (upd a k (nI t)) = upd (upd (ev_U a) b (ev_U a b - 1)) t (upd (ev_U a) b (ev_U a b - 1) t + 1) := by
  rw [← ev_U_out hk hb h, ← ev_U_in hk ht (a := upd a k (-1)) pk_us, ev_uu]
theorem ev_V_upd {a : Nat → Int32} {k : Nat} {x : Int32} (hV : ev_V a) (hx : x = -1 ∨ ∃ b, b < 192 ∧ x = nI b) : ev_V (upd a k x) := by
  intro j hj
  by_cases e : j = k
  · rw [e, pk_us]; exact hx
  · rw [pk_un e]; exact hV j hj
/-- punching: free blocks -/
theorem ev_fr_out {a : Nat → Int32} {k b : Nat} (hk : k < 512) (hb : b < 192) (h : a k = nI b) : ev_fr (ev_U (upd a k (-1))) = ev_fr (ev_U a) + (if ev_U (upd a k (-1)) b = 0 then 1 else 0) := by
  have h0 : ¬ ev_U a b = 0 := by
    rw [ev_U0 hb]
    have := ev_cn_pos hk h
    omega
  have ho : ∀ j, j ≠ b → decide (ev_U a j = 0) = decide (ev_U (upd a k (-1)) j = 0) := by
    intro j hj
    rw [ev_U_out hk hb h, pk_un hj]
  by_cases z : ev_U (upd a k (-1)) b = 0
  · rw [if_pos z]
    exact ev_ct_one (k := b) (decide_eq_false h0) (decide_eq_true z) ho 192 (Nat.zero_le _) (by omega)
  · rw [if_neg z, Nat.add_zero]
    unfold ev_fr
    refine ev_ct_congr 192 (fun j _ _ => ?_)
    show decide (ev_U (upd a k (-1)) j = 0) = decide (ev_U a j = 0)
    by_cases e : j = b
    · rw [e, decide_eq_false h0, decide_eq_false z]
    · exact (ho j e).symm
/-- a piece goes to a free block t -/
theorem ev_to_cn {a : Nat → Int32} {k t j : Nat} (hk : k < 512) (ht : t < 192) (hj : j < 192) (hne : j ≠ t) : ev_cn (upd a k (nI t)) (nI j) + (if a k = nI j then 1 else 0) = ev_cn a (nI j) := by
  have e := ev_cn_upd a (nI t) (nI j) hk
  rw [if_neg (c := nI t = nI j) (fun y => hne (ev_inj y.symm (by omega) (by omega)))] at e
  exact e
theorem ev_to_free {a : Nat → Int32} {k t j : Nat} (hk : k < 512) (ht : t < 192) (hj : j < 192) (hne : j ≠ t) (h : ev_U a j = 0) : ev_U (upd a k (nI t)) j = 0 := by
  rw [ev_U0 hj] at h ⊢
  have := ev_to_cn (a := a) hk ht hj hne
  omega
theorem ev_to_fr {a : Nat → Int32} {k t : Nat} (hk : k < 512) (ht : t < 192) : ev_fr (ev_U a) ≤ ev_fr (ev_U (upd a k (nI t))) + 1 := by
  have := ev_ct_mono1 (p := fun j => decide (ev_U a j = 0)) (q := fun j => decide (ev_U (upd a k (nI t)) j = 0)) (s := 0) (t := t) 192
    (fun j _ h2 h3 h4 => decide_eq_true (ev_to_free hk ht (by omega) h3 (of_decide_eq_true h4)))
  rw [if_pos (by omega)] at this
  exact this
theorem ev_to_al {a : Nat → Int32} {k t : Nat} (hk : k < 512) (ht : t < 192) (h0 : ev_U a t = 0) : ev_al (upd a k (nI t)) k := by
  refine ⟨t, ht, pk_us, ?_⟩
  rw [ev_U0 ht] at h0
  have e := ev_cn_upd a (nI t) (nI t) hk
  have hne : ¬ a k = nI t := fun z => by
    have := ev_cn_pos hk z
    omega
  rw [if_neg hne, if_pos rfl] at e
  omega
theorem ev_to_al2 {a : Nat → Int32} {k t q : Nat} (hk : k < 512) (ht : t < 192) (h0 : ev_U a t = 0) (hq : q < 512) (h : ev_al a q) : ev_al (upd a k (nI t)) q := by
  by_cases e : q = k
  · rw [e]; exact ev_to_al hk ht h0
  · obtain ⟨b, hb, e1, e2⟩ := h
    have hbt : b ≠ t := by
      intro z
      rw [ev_U0 ht, ← z] at h0
      omega
    have hne : ¬ a k = nI b := by
      intro z
      have c := ev_cn_upd a (-1) (nI b) hk
      rw [if_pos z, if_neg (ev_ne1' (a := b) (by omega))] at c
      have p : 0 < ev_cn (upd a k (-1)) (nI b) := ev_cn_pos hq (by rw [pk_un e]; exact e1)
      omega
    have c := ev_to_cn (a := a) hk ht hb hbt
    rw [if_neg hne] at c
    exact ⟨b, hb, by rw [pk_un e]; exact e1, by omega⟩
theorem ev_al_na {a : Nat → Int32} {k : Nat} (h : ev_al a k) : ev_na a k = false := by
  obtain ⟨b, hb, e1, e2⟩ := h
  unfold ev_na
  rw [e1, nI_clamp (by omega), decide_eq_false (ev_ne1 (a := b) (by omega)), decide_eq_true ((ev_U1 hb).mpr e2)]
  rfl
theorem ev_na_al {a : Nat → Int32} {k : Nat} (hV : ev_V a) (hk : k < 512) (h : ev_na a k = false) : ev_al a k := by
  unfold ev_na at h
  cases hV k hk with
  | inl z => rw [decide_eq_true z] at h; exact absurd h (by simp)
  | inr z =>
    obtain ⟨b, hb, e⟩ := z
    rw [e, nI_clamp (by omega), decide_eq_false (ev_ne1 (a := b) (by omega))] at h
    have h2 : ev_U a b = 1 := by
      by_cases y : ev_U a b = 1
      · exact y
      · rw [decide_eq_false y] at h; exact absurd h (by simp)
    exact ⟨b, hb, e, (ev_U1 hb).mp h2⟩
theorem ev_na_mono {a a' : Nat → Int32} (hV : ev_V a) {k : Nat} (hk : k < 512) (h : ev_al a k → ev_al a' k) (hn : ev_na a' k = true) : ev_na a k = true := by
  by_cases z : ev_na a k = true
  · exact z
  · have := ev_al_na (h (ev_na_al hV hk (by simpa using z)))
    rw [this] at hn
    exact absurd hn (by simp)

/-! pieces k0 .. moved to the blocks s .. -/
def ev_mA (a : Nat → Int32) (k0 s : Nat) : Nat → (Nat → Int32)
  | 0 => a
  | i + 1 => upd (ev_mA a k0 s i) (k0 + i) (nI (s + i))
def ev_mV (a v : Nat → Int32) (k0 s : Nat) : Nat → (Nat → Int32)
  | 0 => v
  | i + 1 => if ev_mA a k0 s i (k0 + i) = -1 then ev_mV a v k0 s i else upd (ev_mV a v k0 s i) (s + i) (ev_mV a v k0 s i (ev_mA a k0 s i (k0 + i)).toNatClampNeg)
def ev_MF (a a' : Nat → Int32) (k0 s i : Nat) : Prop :=
  ev_V a' ∧ (∀ j, j < i → ev_al a' (k0 + j)) ∧ (∀ q, q < 512 → ev_al a q → ev_al a' q) ∧ (∀ q, (q < k0 ∨ k0 + i ≤ q) → a' q = a q) ∧ (∀ j, j < i → a' (k0 + j) = nI (s + j)) ∧ ev_fr (ev_U a) ≤ ev_fr (ev_U a') + i ∧ (∀ j, j < 192 → (j < s ∨ s + i ≤ j) → ev_U a j = 0 → ev_U a' j = 0)
theorem ev_mA_MF {a : Nat → Int32} {k0 s m : Nat} (hV : ev_V a) (hk : k0 + m ≤ 512) (hs : s + m ≤ 192) (hf : ∀ j, j < m → ev_U a (s + j) = 0) : ∀ i, i ≤ m → ev_MF a (ev_mA a k0 s i) k0 s i := by
  intro i
  induction i with
  | zero => exact fun _ => ⟨hV, fun j h => absurd h (Nat.not_lt_zero j), fun _ _ h => h, fun _ _ => rfl, fun j h => absurd h (Nat.not_lt_zero j), Nat.le_refl _, fun _ _ _ h => h⟩
  | succ i ih =>
    intro hi
    obtain ⟨c1, c2, c3, c4, c5, c6, c7⟩ := ih (by omega)
    have hu : ev_U (ev_mA a k0 s i) (s + i) = 0 := c7 (s + i) (by omega) (by omega) (hf i (by omega))
    refine ⟨ev_V_upd c1 (Or.inr ⟨s + i, by omega, rfl⟩), ?_, ?_, ?_, ?_, ?_, ?_⟩
    · intro j hj
      by_cases e : j = i
      · rw [e]; exact ev_to_al (by omega) (by omega) hu
      · exact ev_to_al2 (by omega) (by omega) hu (by omega) (c2 j (by omega))
    · intro q hq h
      exact ev_to_al2 (by omega) (by omega) hu hq (c3 q hq h)
    · intro q hq
      show upd (ev_mA a k0 s i) (k0 + i) (nI (s + i)) q = a q
      rw [pk_un (by omega)]
      exact c4 q (by omega)
    · intro j hj
      show upd (ev_mA a k0 s i) (k0 + i) (nI (s + i)) (k0 + j) = nI (s + j)
      by_cases e : j = i
      · rw [e, pk_us]
      · rw [pk_un (by omega)]; exact c5 j (by omega)
    · have := ev_to_fr (a := ev_mA a k0 s i) (k := k0 + i) (t := s + i) (by omega) (by omega)
      show ev_fr (ev_U a) ≤ ev_fr (ev_U (upd (ev_mA a k0 s i) (k0 + i) (nI (s + i)))) + (i + 1)
      omega
    · intro j hj h1 h2
      exact ev_to_free (by omega) (by omega) hj (by omega) (c7 j hj (by omega) h2)
end
section
/-! free runs, free extents -/
def ev_rn (u : Nat → Int32) : Nat → Nat → Nat
  | 0, _ => 0
  | d + 1, b => if u b = 0 then ev_rn u d (b + 1) + 1 else 0
theorem ev_rn_t {u : Nat → Int32} {d b : Nat} (h : u b = 0) : ev_rn u (d + 1) b = ev_rn u d (b + 1) + 1 := if_pos h
theorem ev_rn_f {u : Nat → Int32} {d b : Nat} (h : ¬ u b = 0) : ev_rn u (d + 1) b = 0 := if_neg h
theorem ev_rn_le (u : Nat → Int32) : ∀ d b, ev_rn u d b ≤ d := by
  intro d
  induction d with
  | zero => intro b; exact Nat.le_refl 0
  | succ d ih =>
    intro b
    by_cases h : u b = 0
    · rw [ev_rn_t h]; have := ih (b + 1); omega
    · rw [ev_rn_f h]; omega
theorem ev_rn_in (u : Nat → Int32) : ∀ d b j, j < ev_rn u d b → u (b + j) = 0 := by
  intro d
  induction d with
  | zero => intro b j h; exact absurd h (Nat.not_lt_zero j)
  | succ d ih =>
    intro b j h
    by_cases z : u b = 0
    · rw [ev_rn_t z] at h
      cases j with
      | zero => exact z
      | succ j =>
        have := ih (b + 1) j (by omega)
        rw [show b + (j + 1) = b + 1 + j by omega]
        exact this
    · rw [ev_rn_f z] at h; exact absurd h (Nat.not_lt_zero j)
theorem ev_rn_end (u : Nat → Int32) : ∀ d b, ev_rn u d b < d → ¬ u (b + ev_rn u d b) = 0 := by
  intro d
  induction d with
  | zero => intro b h; exact absurd h (Nat.not_lt_zero _)
  | succ d ih =>
    intro b h
    by_cases z : u b = 0
    · rw [ev_rn_t z] at h ⊢
      have := ih (b + 1) (by omega)
      rw [show b + (ev_rn u d (b + 1) + 1) = b + 1 + ev_rn u d (b + 1) by omega]
      exact this
    · rw [ev_rn_f z]; exact z
def ev_F (u : Nat → Int32) (b : Nat) : Nat := ev_rn u (64 - b % 64) b
def ev_E (u : Nat → Int32) (b : Nat) : Nat := if b % 64 ≠ 0 ∧ u (b - 1) = 0 then 0 else ev_F u b
theorem ev_F_le (u : Nat → Int32) (b : Nat) : ev_F u b ≤ 64 - b % 64 := ev_rn_le u _ _
theorem ev_F_f {u : Nat → Int32} {b : Nat} (h : ¬ u b = 0) : ev_F u b = 0 := by
  unfold ev_F
  rw [show 64 - b % 64 = (63 - b % 64) + 1 by omega, ev_rn_f h]
theorem ev_F_t {u : Nat → Int32} {b : Nat} (h : u b = 0) : 0 < ev_F u b := by
  unfold ev_F
  rw [show 64 - b % 64 = (63 - b % 64) + 1 by omega, ev_rn_t h]; omega
theorem ev_F_s {u : Nat → Int32} {b : Nat} (h : u b = 0) (h2 : (b + 1) % 64 ≠ 0) : ev_F u b = ev_F u (b + 1) + 1 := by
  unfold ev_F
  rw [show 64 - b % 64 = (64 - (b + 1) % 64) + 1 by omega, ev_rn_t h]
theorem ev_F_in {u : Nat → Int32} {b j : Nat} (h : j < ev_F u b) : u (b + j) = 0 := ev_rn_in u _ b j h
theorem ev_F_end {u : Nat → Int32} {b : Nat} (h : (b + ev_F u b) % 64 ≠ 0 ∨ ev_F u b = 0) : ¬ u (b + ev_F u b) = 0 := by
  have := ev_F_le u b
  refine ev_rn_end u _ b ?_
  show ev_F u b < 64 - b % 64
  omega
theorem ev_E_0 {u : Nat → Int32} {b : Nat} (h : b % 64 ≠ 0) (h2 : u (b - 1) = 0) : ev_E u b = 0 := if_pos ⟨h, h2⟩
theorem ev_E_F {u : Nat → Int32} {b : Nat} (h : b % 64 = 0 ∨ ¬ u (b - 1) = 0) : ev_E u b = ev_F u b := if_neg (fun z => h.elim z.1 (fun y => y z.2))
theorem ev_E_F' {u : Nat → Int32} {b : Nat} (h : ¬ u b = 0) : ev_E u b = ev_F u b := by
  by_cases z : b % 64 ≠ 0 ∧ u (b - 1) = 0
  · rw [ev_E_0 z.1 z.2, ev_F_f h]
  · exact if_neg z
theorem ev_E_le (u : Nat → Int32) (b : Nat) : ev_E u b ≤ ev_F u b := by
  unfold ev_E
  split
  · exact Nat.zero_le _
  · exact Nat.le_refl _
theorem ev_E_eq {u : Nat → Int32} {b : Nat} (h : 0 < ev_E u b) : ev_E u b = ev_F u b := by
  unfold ev_E at h ⊢
  split at h
  · omega
  · rename_i z; rw [if_neg z]
theorem ev_E_pos {u : Nat → Int32} {b : Nat} : 0 < ev_E u b ↔ u b = 0 ∧ (b % 64 = 0 ∨ ¬ u (b - 1) = 0) := by
  constructor
  · intro h
    have h1 := ev_E_eq h
    refine ⟨?_, ?_⟩
    · by_cases z : u b = 0
      · exact z
      · have := ev_F_f z; omega
    · by_cases z : b % 64 = 0
      · exact Or.inl z
      · refine Or.inr (fun y => ?_)
        have := ev_E_0 z y
        omega
  · intro h
    rw [ev_E_F h.2]; exact ev_F_t h.1

/-! BEST in a group: the shortest that is long enough, the first such -/
def ev_sf (u : Nat → Int32) (left first : Nat) : Nat → Int32 × Nat
  | 0 => (-1, 65)
  | d + 1 => if left ≤ ev_E u (first + d) ∧ ev_E u (first + d) < (ev_sf u left first d).2 then (nI (first + d), ev_E u (first + d)) else ev_sf u left first d
theorem ev_sf_t {u : Nat → Int32} {left first d : Nat} (h : left ≤ ev_E u (first + d)) (h2 : ev_E u (first + d) < (ev_sf u left first d).2) : ev_sf u left first (d + 1) = (nI (first + d), ev_E u (first + d)) := if_pos ⟨h, h2⟩
theorem ev_sf_f {u : Nat → Int32} {left first d : Nat} (h : ¬ (left ≤ ev_E u (first + d) ∧ ev_E u (first + d) < (ev_sf u left first d).2)) : ev_sf u left first (d + 1) = ev_sf u left first d := if_neg h
theorem ev_sf_ok (u : Nat → Int32) (left first : Nat) : ∀ d, (ev_sf u left first d = (-1, 65) ∧ ∀ j, j < d → ¬ left ≤ ev_E u (first + j)) ∨ (∃ j, j < d ∧ ev_sf u left first d = (nI (first + j), ev_E u (first + j)) ∧ left ≤ ev_E u (first + j)) := by
  intro d
  induction d with
  | zero => exact Or.inl ⟨rfl, fun j h => absurd h (Nat.not_lt_zero j)⟩
  | succ d ih =>
    by_cases h : left ≤ ev_E u (first + d) ∧ ev_E u (first + d) < (ev_sf u left first d).2
    · exact Or.inr ⟨d, by omega, ev_sf_t h.1 h.2, h.1⟩
    · rw [ev_sf_f h]
      cases ih with
      | inl y =>
        refine Or.inl ⟨y.1, fun j hj hl => ?_⟩
        by_cases e : j = d
        · subst e
          refine h ⟨hl, ?_⟩
          rw [y.1]
          have := ev_E_le u (first + j)
          have := ev_F_le u (first + j)
          show ev_E u (first + j) < 65
          omega
        · exact y.2 j (by omega) hl
      | inr y =>
        obtain ⟨j, a, b, c⟩ := y
        exact Or.inr ⟨j, by omega, b, c⟩
/-- the blocks of an extent behind its first change nothing -/
theorem ev_sf_hop {u : Nat → Int32} {left first d : Nat} (hl : 0 < left) (hg : first % 64 = 0) : ∀ m, m + 1 ≤ ev_F u (first + d) → d < 64 → ev_sf u left first (d + 1 + m) = ev_sf u left first (d + 1) := by
  intro m
  induction m with
  | zero => intro _ _; rfl
  | succ m ih =>
    intro h hd
    have hF := ev_F_le u (first + d)
    rw [show d + 1 + (m + 1) = (d + 1 + m) + 1 by omega, ev_sf_f, ih (by omega) hd]
    intro z
    have h0 : ev_E u (first + (d + 1 + m)) = 0 := by
      refine ev_E_0 (by omega) ?_
      rw [show first + (d + 1 + m) - 1 = first + d + m by omega]
      exact ev_F_in (by omega)
    omega

/-! LONGEST -/
def ev_lg (u : Nat → Int32) : Nat → Int32 × Nat
  | 0 => (-1, 0)
  | d + 1 => if (ev_lg u d).2 < ev_E u d then (nI d, ev_E u d) else ev_lg u d
theorem ev_lg_t {u : Nat → Int32} {d : Nat} (h : (ev_lg u d).2 < ev_E u d) : ev_lg u (d + 1) = (nI d, ev_E u d) := if_pos h
theorem ev_lg_f {u : Nat → Int32} {d : Nat} (h : ¬ (ev_lg u d).2 < ev_E u d) : ev_lg u (d + 1) = ev_lg u d := if_neg h
theorem ev_lg_ok (u : Nat → Int32) : ∀ d, (∀ j, j < d → ev_F u j ≤ (ev_lg u d).2) ∧ (ev_lg u d = (-1, 0) ∨ ∃ j, j < d ∧ ev_lg u d = (nI j, ev_E u j) ∧ 0 < ev_E u j) := by
  intro d
  induction d with
  | zero => exact ⟨fun j h => absurd h (Nat.not_lt_zero j), Or.inl rfl⟩
  | succ d ih =>
    have hF : ev_F u d ≤ ev_E u d ∨ ev_F u d ≤ (ev_lg u d).2 := by
      by_cases z : d % 64 ≠ 0 ∧ u (d - 1) = 0
      · right
        have h1 := ih.1 (d - 1) (by omega)
        have h2 := ev_F_s (u := u) (b := d - 1) z.2 (by omega)
        rw [show d - 1 + 1 = d by omega] at h2
        omega
      · left
        have : ev_E u d = ev_F u d := if_neg z
        omega
    by_cases h : (ev_lg u d).2 < ev_E u d
    · rw [ev_lg_t h]
      refine ⟨fun j hj => ?_, Or.inr ⟨d, by omega, rfl, by omega⟩⟩
      show ev_F u j ≤ ev_E u d
      by_cases e : j = d
      · rw [e]; omega
      · have := ih.1 j (by omega); omega
    · rw [ev_lg_f h]
      refine ⟨fun j hj => ?_, ?_⟩
      · by_cases e : j = d
        · rw [e]; omega
        · exact ih.1 j (by omega)
      · cases ih.2 with
        | inl y => exact Or.inl y
        | inr y =>
          obtain ⟨j, a, b, c⟩ := y
          exact Or.inr ⟨j, by omega, b, c⟩
/-- the reference's step, by runs -/
theorem ev_lg_F (u : Nat → Int32) (d : Nat) : ((ev_lg u d).2 < ev_F u d → ev_lg u (d + 1) = (nI d, ev_F u d)) ∧ (¬ (ev_lg u d).2 < ev_F u d → ev_lg u (d + 1) = ev_lg u d) := by
  have hle := ev_E_le u d
  have key : (ev_lg u d).2 < ev_F u d → ev_E u d = ev_F u d := by
    intro h
    by_cases z : d % 64 ≠ 0 ∧ u (d - 1) = 0
    · have h1 := (ev_lg_ok u d).1 (d - 1) (by omega)
      have h2 := ev_F_s (u := u) (b := d - 1) z.2 (by omega)
      rw [show d - 1 + 1 = d by omega] at h2
      omega
    · exact if_neg z
  constructor
  · intro h
    rw [ev_lg_t (by rw [key h]; exact h), key h]
  · intro h
    exact ev_lg_f (by omega)

/-! the place of the next pieces -/
def ev_near (u : Nat → Int32) (bf : Int32) : Int32 := if bf = -1 then -1 else if bf.toNatClampNeg % 64 = 63 then -1 else if u (bf.toNatClampNeg + 1) = 0 then nI (bf.toNatClampNeg + 1) else -1
def ev_g (u : Nat → Int32) (file left t : Nat) : Int32 := (ev_sf u left (64 * ((file + t) % 3)) 64).1
def ev_best (u : Nat → Int32) (file left : Nat) : Int32 := if ev_g u file left 0 = -1 then (if ev_g u file left 1 = -1 then ev_g u file left 2 else ev_g u file left 1) else ev_g u file left 0
def ev_st (u : Nat → Int32) (bf : Int32) (file left : Nat) : Int32 := if ev_near u bf = -1 then (if ev_best u file left = -1 then (ev_lg u 192).1 else ev_best u file left) else ev_near u bf
theorem ev_g_ok {u : Nat → Int32} {file left t : Nat} : (ev_g u file left t = -1 ∧ ∀ j, j < 64 → ¬ left ≤ ev_E u (64 * ((file + t) % 3) + j)) ∨ (∃ s, s < 192 ∧ ev_g u file left t = nI s ∧ left ≤ ev_F u s) := by
  cases ev_sf_ok u left (64 * ((file + t) % 3)) 64 with
  | inl h => exact Or.inl ⟨congrArg Prod.fst h.1, h.2⟩
  | inr h =>
    obtain ⟨j, a, b, c⟩ := h
    have := ev_E_le u (64 * ((file + t) % 3) + j)
    exact Or.inr ⟨64 * ((file + t) % 3) + j, by omega, congrArg Prod.fst b, by omega⟩
theorem ev_best_ok {u : Nat → Int32} {file left : Nat} (hl : 0 < left) : (ev_best u file left = -1 ∧ ∀ j, j < 192 → ev_E u j < left) ∨ (∃ s, s < 192 ∧ ev_best u file left = nI s ∧ left ≤ ev_F u s) := by
  unfold ev_best
  rcases ev_g_ok (u := u) (file := file) (left := left) (t := 0) with ⟨h0, n0⟩ | ⟨s, h1, h2, h3⟩
  · rw [if_pos h0]
    rcases ev_g_ok (u := u) (file := file) (left := left) (t := 1) with ⟨h1, n1⟩ | ⟨s, h1, h2, h3⟩
    · rw [if_pos h1]
      rcases ev_g_ok (u := u) (file := file) (left := left) (t := 2) with ⟨h2, n2⟩ | ⟨s, h1, h2, h3⟩
      · refine Or.inl ⟨h2, fun j hj => ?_⟩
        have a0 := n0 (j % 64) (by omega)
        have a1 := n1 (j % 64) (by omega)
        have a2 := n2 (j % 64) (by omega)
        have hd : j / 64 = (file + 0) % 3 ∨ j / 64 = (file + 1) % 3 ∨ j / 64 = (file + 2) % 3 := by omega
        rcases hd with z | z | z
        · rw [← z, show 64 * (j / 64) + j % 64 = j by omega] at a0; omega
        · rw [← z, show 64 * (j / 64) + j % 64 = j by omega] at a1; omega
        · rw [← z, show 64 * (j / 64) + j % 64 = j by omega] at a2; omega
      · exact Or.inr ⟨s, h1, h2, h3⟩
    · rw [if_neg (by rw [h2]; exact ev_ne1 (by omega))]
      exact Or.inr ⟨s, h1, h2, h3⟩
  · rw [if_neg (by rw [h2]; exact ev_ne1 (by omega))]
    exact Or.inr ⟨s, h1, h2, h3⟩
theorem ev_near_ok {u : Nat → Int32} {b : Nat} (hb : b < 192) : (ev_near u (nI b) = -1 ∧ (b % 64 = 63 ∨ ¬ u (b + 1) = 0)) ∨ (b % 64 ≠ 63 ∧ u (b + 1) = 0 ∧ ev_near u (nI b) = nI (b + 1)) := by
  unfold ev_near
  rw [if_neg (ev_ne1 (a := b) (by omega)), nI_clamp (by omega)]
  by_cases h1 : b % 64 = 63
  · rw [if_pos h1]; exact Or.inl ⟨rfl, Or.inl h1⟩
  · rw [if_neg h1]
    by_cases h2 : u (b + 1) = 0
    · rw [if_pos h2]; exact Or.inr ⟨h1, h2, rfl⟩
    · rw [if_neg h2]; exact Or.inl ⟨rfl, Or.inr h2⟩
theorem ev_near_h (u : Nat → Int32) : ev_near u (-1) = -1 := if_pos rfl
def ev_mn (a b : Nat) : Nat := if a < b then a else b
theorem ev_mn_le (a b : Nat) : ev_mn a b ≤ a ∧ ev_mn a b ≤ b := by
  unfold ev_mn; split <;> omega
theorem ev_near_ok2 {u : Nat → Int32} {bf : Int32} (hb : bf = -1 ∨ ∃ b, b < 192 ∧ bf = nI b) : ev_near u bf = -1 ∨ ∃ s, s < 192 ∧ ev_near u bf = nI s ∧ 0 < ev_F u s := by
  rcases hb with rfl | ⟨b, hb, rfl⟩
  · exact Or.inl (ev_near_h u)
  · rcases ev_near_ok (u := u) hb with ⟨h, _⟩ | ⟨h1, h2, h3⟩
    · exact Or.inl h
    · exact Or.inr ⟨b + 1, by omega, h3, ev_F_t h2⟩
/-- LONGEST finds a block where one is free -/
theorem ev_lg_found {u : Nat → Int32} (hf : 0 < ev_fr u) : ∃ s, s < 192 ∧ ev_lg u 192 = (nI s, ev_F u s) ∧ 0 < ev_F u s ∧ ev_E u s = ev_F u s := by
  obtain ⟨j, _, h1, h2⟩ := ev_ct_pos 192 hf
  have h3 : u j = 0 := of_decide_eq_true h2
  have h4 := ev_F_t h3
  obtain ⟨c1, c2⟩ := ev_lg_ok u 192
  have h5 := c1 j (by omega)
  rcases c2 with z | ⟨s, a, b, c⟩
  · rw [z] at h5
    have h5' : ev_F u j ≤ 0 := h5
    omega
  · have := ev_E_eq c
    exact ⟨s, a, by rw [b, this], by omega, this⟩
/-- what is chosen: a free block s; as many pieces as are free from there on, or all that are left -/
theorem ev_st_ok {u : Nat → Int32} {bf : Int32} {file left : Nat} (hl : 0 < left) (hf : 0 < ev_fr u) (hb : bf = -1 ∨ ∃ b, b < 192 ∧ bf = nI b) :
    ∃ s, s < 192 ∧ ev_st u bf file left = nI s ∧ 0 < ev_F u s ∧ (ev_near u bf = -1 → ¬ ev_best u file left = -1 → left ≤ ev_F u s) ∧ (ev_near u bf = -1 → ev_best u file left = -1 → ev_lg u 192 = (nI s, ev_F u s) ∧ ev_F u s < left) := by
  unfold ev_st
  rcases ev_near_ok2 (u := u) hb with h | ⟨s, h1, h2, h3⟩
  · rw [if_pos h]
    rcases ev_best_ok (u := u) (file := file) hl with ⟨g1, g2⟩ | ⟨s, g1, g2, g3⟩
    · rw [if_pos g1]
      obtain ⟨s, a, b, c, d⟩ := ev_lg_found hf
      have := g2 s a
      exact ⟨s, a, by rw [b], c, fun _ z => absurd g1 z, fun _ _ => ⟨b, by omega⟩⟩
    · have n : ¬ ev_best u file left = -1 := by rw [g2]; exact ev_ne1 (by omega)
      rw [if_neg n]
      exact ⟨s, g1, g2, by omega, fun _ _ => g3, fun _ z => absurd z n⟩
  · have n : ¬ ev_near u bf = -1 := by rw [h2]; exact ev_ne1 (by omega)
    rw [if_neg n]
    exact ⟨s, h1, h2, h3, fun z => absurd z n, fun z => absurd z n⟩
end
section
/-! free extents in the order of their lengths -/
def ev_rk (u : Nat → Int32) (first len b : Nat) : Nat := ev_ct (fun j => decide (0 < ev_E u j ∧ (ev_E u j < len ∨ (ev_E u j = len ∧ j < b)))) first 64
theorem ev_rk_0 (u : Nat → Int32) (first : Nat) : ev_rk u first 1 first = 0 :=
  ev_ct_none 64 (fun j h1 _ => decide_eq_false (fun z => by omega))
theorem ev_rk_t {u : Nat → Int32} {first len b : Nat} (h1 : first ≤ b) (h2 : b < first + 64) (hl : 0 < len) (h : ev_E u b = len) : ev_rk u first len (b + 1) = ev_rk u first len b + 1 := by
  refine ev_ct_one (k := b) (decide_eq_false (fun z => by omega)) (decide_eq_true (by omega)) (fun j hj => ?_) 64 h1 h2
  show decide (0 < ev_E u j ∧ (ev_E u j < len ∨ (ev_E u j = len ∧ j < b))) = decide (0 < ev_E u j ∧ (ev_E u j < len ∨ (ev_E u j = len ∧ j < b + 1)))
  exact decide_eq_decide.mpr (by omega)
theorem ev_rk_f {u : Nat → Int32} {first len b : Nat} (h : ¬ ev_E u b = len) : ev_rk u first len (b + 1) = ev_rk u first len b := by
  refine ev_ct_congr 64 (fun j _ _ => ?_)
  show decide (0 < ev_E u j ∧ (ev_E u j < len ∨ (ev_E u j = len ∧ j < b + 1))) = decide (0 < ev_E u j ∧ (ev_E u j < len ∨ (ev_E u j = len ∧ j < b)))
  refine decide_eq_decide.mpr ?_
  by_cases e : j = b
  · rw [e]; omega
  · omega
theorem ev_rk_s {u : Nat → Int32} {first len : Nat} : ev_rk u first (len + 1) first = ev_rk u first len (first + 64) := by
  refine ev_ct_congr 64 (fun j _ _ => ?_)
  show decide (0 < ev_E u j ∧ (ev_E u j < len + 1 ∨ (ev_E u j = len + 1 ∧ j < first))) = decide (0 < ev_E u j ∧ (ev_E u j < len ∨ (ev_E u j = len ∧ j < first + 64)))
  exact decide_eq_decide.mpr (by omega)
theorem ev_rk_le (u : Nat → Int32) (first len b : Nat) : ev_rk u first len b ≤ 64 := ev_ct_le _ _ _
theorem ev_rk_lt {u : Nat → Int32} {first b c : Nat} (h1 : first ≤ b) (h2 : b < first + 64) (hb : 0 < ev_E u b) (h : ev_E u b < ev_E u c ∨ (ev_E u b = ev_E u c ∧ b < c)) : ev_rk u first (ev_E u b) b < ev_rk u first (ev_E u c) c := by
  refine ev_ct_lt (k := b) (decide_eq_false (fun z => by omega)) (decide_eq_true ⟨hb, h⟩) 64 (fun j _ _ z => ?_) h1 h2
  have z' := of_decide_eq_true z
  exact decide_eq_true (by omega)
/-- no two have the same rank -/
theorem ev_rk_inj {u : Nat → Int32} {first b c : Nat} (h1 : first ≤ b) (h2 : b < first + 64) (h3 : first ≤ c) (h4 : c < first + 64) (hb : 0 < ev_E u b) (hc : 0 < ev_E u c) (h : ev_rk u first (ev_E u b) b = ev_rk u first (ev_E u c) c) : b = c := by
  by_cases e : b = c
  · exact e
  · by_cases z : ev_E u b < ev_E u c ∨ (ev_E u b = ev_E u c ∧ b < c)
    · have := ev_rk_lt h1 h2 hb z; omega
    · have := ev_rk_lt (b := c) (c := b) h3 h4 hc (by omega); omega
def ev_isK (u : Nat → Int32) (first : Nat) (k : Int32) (b : Nat) : Prop := first ≤ b ∧ b < first + 64 ∧ 0 < ev_E u b ∧ nI (ev_rk u first (ev_E u b) b) = k
theorem ev_isK_inj {u : Nat → Int32} {first : Nat} {k : Int32} {b c : Nat} (hb : ev_isK u first k b) (hc : ev_isK u first k c) : b = c := by
  obtain ⟨b1, b2, b3, b4⟩ := hb
  obtain ⟨c1, c2, c3, c4⟩ := hc
  have h1 := ev_rk_le u first (ev_E u b) b
  have h2 := ev_rk_le u first (ev_E u c) c
  exact ev_rk_inj b1 b2 c1 c2 b3 c3 (ev_inj (b4.trans c4.symm) (by omega) (by omega))

/-! counting in a group -/
theorem ev_ct_grp (c : Nat → Bool) {g : Nat} (hg : g < 3) : ev_ct (fun b => decide (b / 64 = g) && c b) 0 192 = ev_ct c (64 * g) 64 := by
  have h := ev_ct_split (fun b => decide (b / 64 = g) && c b) 0 64 128
  have h2 := ev_ct_split (fun b => decide (b / 64 = g) && c b) (0 + 64) 64 64
  have key : ∀ t, ev_ct (fun b => decide (b / 64 = g) && c b) (64 * t) 64 = if t = g then ev_ct c (64 * g) 64 else 0 := by
    intro t
    by_cases e : t = g
    · rw [if_pos e, e]
      refine ev_ct_congr 64 (fun j h1 h2 => ?_)
      show (decide (j / 64 = g) && c j) = c j
      rw [decide_eq_true (by omega : j / 64 = g), Bool.true_and]
    · rw [if_neg e]
      refine ev_ct_none 64 (fun j h1 h2 => ?_)
      show (decide (j / 64 = g) && c j) = false
      rw [decide_eq_false (by omega : ¬ j / 64 = g), Bool.false_and]
  have k0 := key 0
  have k1 := key 1
  have k2 := key 2
  simp only [Nat.mul_zero, Nat.mul_one, Nat.zero_add, Nat.reduceMul, Nat.reduceAdd] at h h2 k0 k1 k2
  rw [h, h2, k0, k1, k2]
  have : g = 0 ∨ g = 1 ∨ g = 2 := by omega
  rcases this with rfl | rfl | rfl <;> simp

/-! the states that are kept -/
def ev_Rg (K S : Nat) (kb ki as : Nat → Int32) : Prop := ∀ i, i < K →
  (∀ k, k < 512 → as (704 * i + k) = kb ((S + 4 - K + i) % 4 * 512 + k)) ∧ (∀ b, b < 192 → as (704 * i + 512 + b) = ki ((S + 4 - K + i) % 4 * 192 + b)) ∧
  (∀ k, k < 512 → as (704 * i + k) = -1 ∨ ∃ b, b < 192 ∧ as (704 * i + k) = nI b)
theorem ev_Rg_0 (S : Nat) (kb ki as : Nat → Int32) : ev_Rg 0 S kb ki as := fun i h => absurd h (Nat.not_lt_zero i)
/-- one more is kept, fewer than four before -/
theorem ev_Rg_s {K S : Nat} {kb ki as kb' ki' as' a v : Nat → Int32} (hK : K < 4) (hS : S < 4) (hV : ev_V a) (h : ev_Rg K S kb ki as)
    (b1 : ∀ k, k < 512 → kb' (S * 512 + k) = a k) (b2 : ∀ k, (k < S * 512 ∨ S * 512 + 512 ≤ k) → kb' k = kb k)
    (i1 : ∀ k, k < 192 → ki' (S * 192 + k) = v k) (i2 : ∀ k, (k < S * 192 ∨ S * 192 + 192 ≤ k) → ki' k = ki k)
    (s1 : ∀ k, k < 512 → as' (704 * K + k) = a k) (s2 : ∀ k, k < 192 → as' (704 * K + 512 + k) = v k) (s3 : ∀ k, k < 704 * K → as' k = as k) :
    ev_Rg (K + 1) ((S + 1) % 4) kb' ki' as' := by
  intro i hi
  by_cases e : i = K
  · subst e
    have hs : ((S + 1) % 4 + 4 - (i + 1) + i) % 4 = S := by omega
    rw [hs]
    exact ⟨fun k hk => by rw [s1 k hk, b1 k hk], fun b hb => by rw [s2 b hb, i1 b hb], fun k hk => by rw [s1 k hk]; exact hV k hk⟩
  · obtain ⟨c1, c2, c3⟩ := h i (by omega)
    have hs : ((S + 1) % 4 + 4 - (K + 1) + i) % 4 = (S + 4 - K + i) % 4 := by omega
    have hn : (S + 4 - K + i) % 4 ≠ S := by omega
    rw [hs]
    obtain ⟨T, hT⟩ : ∃ T, T = (S + 4 - K + i) % 4 := ⟨_, rfl⟩
    rw [← hT] at c1 c2 hn ⊢
    refine ⟨fun k hk => ?_, fun b hb => ?_, fun k hk => ?_⟩
    · rw [s3 _ (by omega), c1 k hk, b2 _ (by omega)]
    · rw [s3 _ (by omega), c2 b hb, i2 _ (by omega)]
    · rw [s3 _ (by omega)]; exact c3 k hk
/-- the eldest of four goes -/
theorem ev_Rg_d {S : Nat} {kb ki as as' : Nat → Int32} (hS : S < 4) (h : ev_Rg 4 S kb ki as) (hs : ∀ k, k < 2112 → as' k = as (k + 704)) : ev_Rg 3 S kb ki as' := by
  intro i hi
  obtain ⟨c1, c2, c3⟩ := h (i + 1) (by omega)
  have e : (S + 4 - 4 + (i + 1)) % 4 = (S + 4 - 3 + i) % 4 := by omega
  rw [e] at c1 c2
  refine ⟨fun k hk => ?_, fun b hb => ?_, fun k hk => ?_⟩
  · rw [hs _ (by omega), ← c1 k hk]; exact congrArg as (by omega)
  · rw [hs _ (by omega), ← c2 b hb]; exact congrArg as (by omega)
  · rw [hs _ (by omega), show 704 * i + k + 704 = 704 * (i + 1) + k by omega]; exact c3 k hk
/-- n changes taken back -/
theorem ev_Rg_b {K S n : Nat} {kb ki as : Nat → Int32} (hK : K ≤ 4) (hS : S < 4) (h1 : 0 < n) (hn : n ≤ K) (h : ev_Rg K S kb ki as) : ev_Rg (K - n) ((S + 4 - n) % 4) kb ki as := by
  intro i hi
  have := h i (by omega)
  rw [show ((S + 4 - n) % 4 + 4 - (K - n) + i) % 4 = (S + 4 - K + i) % 4 by omega]
  exact this
theorem ev_Rg_at {K S n : Nat} {kb ki as : Nat → Int32} (hK : K ≤ 4) (hS : S < 4) (h1 : 0 < n) (hn : n ≤ K) (h : ev_Rg K S kb ki as) :
    (∀ k, k < 512 → as (704 * (K - n) + k) = kb ((S + 4 - n) % 4 * 512 + k)) ∧ (∀ b, b < 192 → as (704 * (K - n) + 512 + b) = ki ((S + 4 - n) % 4 * 192 + b)) ∧ (∀ k, k < 512 → as (704 * (K - n) + k) = -1 ∨ ∃ b, b < 192 ∧ as (704 * (K - n) + k) = nI b) := by
  have := h (K - n) (by omega)
  rw [show (S + 4 - K + (K - n)) % 4 = (S + 4 - n) % 4 by omega] at this
  exact this
end
section
/-! counting the uses anew -/
def ev_Un (a : Nat → Int32) (n : Nat) : Nat → Int32 := fun j => if j < 192 then nI (ev_ct (fun i => decide (a i = nI j)) 0 n) else 0
theorem ev_Un_0 (a : Nat → Int32) : ev_Un a 0 = fun _ => 0 := by
  funext j
  unfold ev_Un
  split
  · exact nI_0
  · rfl
theorem ev_Un_512 (a : Nat → Int32) : ev_Un a 512 = ev_U a := rfl
theorem ev_Un_h {a : Nat → Int32} {n : Nat} (h : a n = -1) : ev_Un a (n + 1) = ev_Un a n := by
  funext j
  unfold ev_Un
  by_cases hj : j < 192
  · have hf : ¬ (fun i => decide (a i = nI j)) (0 + n) = true := by
      show ¬ decide (a (0 + n) = nI j) = true
      rw [Nat.zero_add, h, decide_eq_false (ev_ne1' (a := j) (by omega))]
      exact Bool.false_ne_true
    rw [if_pos hj, if_pos hj, ev_ct_f hf]
  · rw [if_neg hj, if_neg hj]
theorem ev_Un_b {a : Nat → Int32} {n b : Nat} (hb : b < 192) (h : a n = nI b) : ev_Un a (n + 1) = upd (ev_Un a n) b (ev_Un a n b + 1) := by
  funext j
  by_cases e : j = b
  · subst e
    rw [pk_us]
    unfold ev_Un
    have hf : (fun i => decide (a i = nI j)) (0 + n) = true := by
      show decide (a (0 + n) = nI j) = true
      rw [Nat.zero_add, h]
      exact decide_eq_true rfl
    rw [if_pos hb, if_pos hb, ev_ct_t hf, nI_1]
  · rw [pk_un e]
    unfold ev_Un
    by_cases hj : j < 192
    · have hf : ¬ (fun i => decide (a i = nI j)) (0 + n) = true := by
        show ¬ decide (a (0 + n) = nI j) = true
        rw [Nat.zero_add, h, decide_eq_false (p := nI b = nI j) (fun z => e (ev_inj z.symm (by omega) (by omega)))]
        exact Bool.false_ne_true
      rw [if_pos hj, if_pos hj, ev_ct_f hf]
    · rw [if_neg hj, if_neg hj]
theorem ev_U_m1 {a : Nat → Int32} (h : ∀ k, k < 512 → a k = -1) : ev_U a = fun _ => 0 := by
  funext j
  by_cases hj : j < 192
  · rw [ev_U0 hj]
    exact ev_ct_none 512 (fun i _ hi => decide_eq_false (by rw [h i (by omega)]; exact ev_ne1' (by omega)))
  · exact ev_U_ge hj

/-! a stretch of an array filled -/
def ev_fl (f g : Nat → Int32) (o i : Nat) : Nat → Int32 := fun j => if o ≤ j ∧ j < o + i then g (j - o) else f j
theorem ev_fl_0 (f g : Nat → Int32) (o : Nat) : ev_fl f g o 0 = f := by
  funext j
  exact if_neg (by omega)
theorem ev_fl_s (f g : Nat → Int32) (o i : Nat) : upd (ev_fl f g o i) (o + i) (g i) = ev_fl f g o (i + 1) := by
  funext j
  by_cases e : j = o + i
  · rw [e, pk_us]
    unfold ev_fl
    rw [if_pos (by omega), show o + i - o = i by omega]
  · rw [pk_un e]
    unfold ev_fl
    by_cases h : o ≤ j ∧ j < o + i
    · rw [if_pos h, if_pos (by omega)]
    · rw [if_neg h, if_neg (by omega)]
theorem ev_fl_in {f g : Nat → Int32} {o i k : Nat} (h : k < i) : ev_fl f g o i (o + k) = g k := by
  unfold ev_fl
  rw [if_pos (by omega), show o + k - o = k by omega]
theorem ev_fl_out {f g : Nat → Int32} {o i j : Nat} (h : j < o ∨ o + i ≤ j) : ev_fl f g o i j = f j := if_neg (by omega)
theorem ev_fl_congr {f g g' : Nat → Int32} {o i : Nat} (h : ∀ k, k < i → g k = g' k) : ev_fl f g o i = ev_fl f g' o i := by
  funext j
  unfold ev_fl
  by_cases z : o ≤ j ∧ j < o + i
  · rw [if_pos z, if_pos z]; exact h _ (by omega)
  · rw [if_neg z, if_neg z]
theorem ev_fl_V {a g : Nat → Int32} {i : Nat} (hV : ev_V a) (hg : ∀ k, k < 512 → g k = -1 ∨ ∃ b, b < 192 ∧ g k = nI b) : ev_V (ev_fl a g 0 i) := by
  intro k hk
  by_cases z : 0 ≤ k ∧ k < 0 + i
  · have : ev_fl a g 0 i k = g (k - 0) := if_pos z
    rw [this]; exact hg _ (by omega)
  · have : ev_fl a g 0 i k = a k := if_neg z
    rw [this]; exact hV k hk

/-! pieces punched, pieces shared, ints set -/
def ev_pA (a : Nat → Int32) (o : Nat) : Nat → (Nat → Int32)
  | 0 => a
  | i + 1 => upd (ev_pA a o i) (o + i) (-1)
theorem ev_pA_V {a : Nat → Int32} (hV : ev_V a) (o : Nat) : ∀ i, ev_V (ev_pA a o i) := by
  intro i
  induction i with
  | zero => exact hV
  | succ i ih => exact ev_V_upd ih (Or.inl rfl)
def ev_sA (a : Nat → Int32) (o t : Nat) : Nat → (Nat → Int32)
  | 0 => a
  | i + 1 => upd (ev_sA a o t i) (t + i) (ev_sA a o t i (o + i))
theorem ev_sA_V {a : Nat → Int32} {o t n : Nat} (hV : ev_V a) (ho : o + n ≤ 512) : ∀ i, i ≤ n → ev_V (ev_sA a o t i) := by
  intro i
  induction i with
  | zero => exact fun _ => hV
  | succ i ih => exact fun hi => ev_V_upd (ih (by omega)) (ih (by omega) (o + i) (by omega))
def ev_iV (a v : Nat → Int32) (x : Int32) (o : Nat) : Nat → (Nat → Int32)
  | 0 => v
  | i + 1 => upd (ev_iV a v x o i) (a (o + i)).toNatClampNeg (x + nI i)

/-! where an extent of a file begins -/
def ev_nx (x : Int32) : Int32 := if x.toNatClampNeg % 64 = 63 then -1 else nI (x.toNatClampNeg + 1)
def ev_pv (a : Nat → Int32) (o j : Nat) : Int32 := if j = o then -1 else a (j - 1)
def ev_xb (a : Nat → Int32) (o j : Nat) : Bool := decide (¬ a j = -1 ∧ (ev_pv a o j = -1 ∨ ¬ a j = ev_nx (ev_pv a o j)))
theorem ev_pv_0 (a : Nat → Int32) (o : Nat) : ev_pv a o o = -1 := if_pos rfl
theorem ev_pv_s (a : Nat → Int32) (o i : Nat) : ev_pv a o (o + (i + 1)) = a (o + i) := if_neg (by omega)
theorem ev_pv_V {a : Nat → Int32} {o j : Nat} (hV : ev_V a) (h : o ≤ j) (hj : j ≤ 512) : ev_pv a o j = -1 ∨ ∃ b, b < 192 ∧ ev_pv a o j = nI b := by
  unfold ev_pv
  split
  · exact Or.inl rfl
  · exact hV _ (by omega)
theorem ev_nx_nI {b : Nat} (hb : b < 192) : ev_nx (nI b) = if b % 64 = 63 then -1 else nI (b + 1) := by
  unfold ev_nx
  rw [nI_clamp (by omega)]
end
section
/-! numbers of the walks -/
theorem ev_d64 {b : Nat} (hb : b < 2 ^ 31) : nI b / 64 = nI (b / 64) := pk_div (d := 64) hb (by decide) (by decide)
theorem ev_r64 {b : Nat} (hb : b < 2 ^ 31) : nI b - nI b / 64 * 64 = nI (b % 64) := pk_rem (d := 64) hb (by decide) (by decide)
theorem ev_r3 {b : Nat} (hb : b < 2 ^ 31) : nI b - nI b / 3 * 3 = nI (b % 3) := pk_rem (d := 3) hb (by decide) (by decide)
theorem ev_r4 {b : Nat} (hb : b < 2 ^ 31) : nI b - nI b / 4 * 4 = nI (b % 4) := pk_rem (d := 4) hb (by decide) (by decide)
theorem ev_x64 (a : Nat) : nI a * 64 = nI (64 * a) := by rw [Nat.mul_comm]; exact pk_mul a 64
theorem ev_64x (a : Nat) : 64 * nI a = nI (64 * a) := pk_mul 64 a
theorem ev_704x (a : Nat) : 704 * nI a = nI (704 * a) := pk_mul 704 a
theorem ev_x512 (a : Nat) : nI a * 512 = nI (a * 512) := pk_mul a 512
theorem ev_x192 (a : Nat) : nI a * 192 = nI (a * 192) := pk_mul a 192
theorem ev_p64 (a : Nat) : nI a + 64 = nI (a + 64) := nI_add a 64
theorem ev_p512 (a : Nat) : nI a + 512 = nI (a + 512) := nI_add a 512
theorem ev_p704 (a : Nat) : nI a + 704 = nI (a + 704) := nI_add a 704
theorem ev_p4 (a : Nat) : nI a + 4 = nI (a + 4) := nI_add a 4
theorem ev_s64 {a : Nat} (h : a ≤ 64) : 64 - nI a = nI (64 - a) := pk_sub (a := 64) h
theorem ev_s1 {a : Nat} (h : 0 < a) : nI a - 1 = nI (a - 1) := pk_sub (b := 1) h
theorem ev_ix (f p : Nat) : nI f * 64 + nI p = nI (64 * f + p) := by rw [ev_x64, nI_add]
theorem ev_iy (f p : Nat) : 64 * nI f + nI p = nI (64 * f + p) := by rw [ev_64x, nI_add]
theorem ev_10 : ¬ (1 : Int32) = 0 := by decide
theorem ev_n64 : ¬ (64 : Int32) = 0 := by decide
theorem ev_n3 : ¬ (3 : Int32) = 0 := by decide
theorem ev_n4 : ¬ (4 : Int32) = 0 := by decide
theorem ev_na_h {a : Nat → Int32} {k : Nat} (h : a k = -1) : ev_na a k = true := by
  unfold ev_na
  rw [decide_eq_true h]
  rfl
theorem ev_na_b {a : Nat → Int32} {k b : Nat} (hb : b < 192) (h : a k = nI b) (z : ¬ ev_U a b = 1) : ev_na a k = true := by
  unfold ev_na
  rw [h, nI_clamp (by omega), decide_eq_false z, decide_eq_false (ev_ne1 (a := b) (by omega))]
  rfl

/-! the component's methods that only read -/
section
variable {fk fs : Int32} {ba ia ua kb ki : Nat → Int32}
theorem ex_run {post : Int32 → Prop} {b : Nat} (hb : b < 192) : ∀ d j, b ≤ j → j + d = (b / 64 + 1) * 64 → post (nI (j + ev_rn ua d j - b)) → wX_freeRun_12 post (nI b) (nI ((b / 64 + 1) * 64)) fk fs ba ia ua kb ki (d + 1) (nI j) := by
  intro d
  induction d with
  | zero =>
    intro j h1 h2 hp
    refine br_t (nI_le (by omega) (by omega)) ?_
    rw [pk_sub h1]; exact hp
  | succ d ih =>
    intro j h1 h2 hp
    refine br_f (nI_ge (by omega) (by omega)) ⟨vp_in_nI (by omega) (by omega), ?_⟩
    rw [nI_clamp (by omega)]
    by_cases z : ua j = 0
    · refine br_t z (nm_r (nI_1 j) ?_)
      refine ih (j + 1) (by omega) (by omega) ?_
      rw [ev_rn_t z] at hp
      rw [show j + 1 + ev_rn ua d (j + 1) - b = j + (ev_rn ua d (j + 1) + 1) - b by omega]
      exact hp
    · refine br_f z ?_
      rw [ev_rn_f z] at hp
      rw [pk_sub h1]; exact hp
theorem ex_freeRun {post : Int32 → Prop} {b : Nat} (hb : b < 192) (hp : post (nI (ev_F ua b))) : wpX_freeRun post (fk, fs, ba, ia, ua, kb, ki) (nI b) := by
  refine ⟨ev_n64, nm_r (e' := nI ((b / 64 + 1) * 64)) ?_ ⟨_, ex_run hb (64 - b % 64) b (Nat.le_refl _) (by omega) ?_⟩⟩
  · rw [ev_d64 (by omega), nI_1, ev_x64, Nat.mul_comm]
  · rw [Nat.add_sub_cancel_left]; exact hp
theorem ex_ext {post : Int32 → Prop} {b : Nat} (hb : b < 192) (hp : post (nI (ev_E ua b))) : wpX_extentLength post (fk, fs, ba, ia, ua, kb, ki) (nI b) := by
  refine ⟨ev_n64, ?_⟩
  rw [ev_r64 (by omega)]
  by_cases z : b % 64 = 0
  · refine br_t (by rw [z]; rfl) ?_
    rw [ev_E_F (Or.inl z)] at hp
    exact ex_freeRun hb hp
  · refine br_f (fun y => z ((ev_eq0 (by omega)).mp y)) ?_
    rw [ev_s1 (by omega), nI_clamp (by omega)]
    refine ⟨vp_in_nI (by omega) (by omega), ?_⟩
    by_cases y : ua (b - 1) = 0
    · refine br_t y ?_
      rw [ev_E_0 z y] at hp
      exact hp
    · refine br_f y ?_
      rw [ev_E_F (Or.inr y)] at hp
      exact ex_freeRun hb hp
theorem ex_isAlone {post : Int32 → Prop} {f p : Nat} (hf : f < 8) (hp : p < 64) (hV : ev_V ba) (h0 : ev_na ba (64 * f + p) = true → post 0) (h1 : ev_na ba (64 * f + p) = false → post 1) : wpX_isAlone post (fk, fs, ba, ia, ev_U ba, kb, ki) (nI f) (nI p) := by
  unfold wpX_isAlone
  dsimp only
  rw [ev_ix, nI_clamp (by omega)]
  refine ⟨vp_in_nI (by omega) (by omega), nm_e ?_⟩
  rcases hV (64 * f + p) (by omega) with e | ⟨b, hb, e⟩
  · exact br_t e (h0 (ev_na_h e))
  · refine br_f (by rw [e]; exact ev_ne1 (by omega)) ?_
    rw [e, nI_clamp (by omega)]
    refine ⟨vp_in_nI hb (by omega), ?_⟩
    by_cases z : ev_U ba b = 1
    · exact br_t z (h1 (ev_al_na ⟨b, hb, e, (ev_U1 hb).mp z⟩))
    · exact br_f z (h0 (ev_na_b hb e z))
theorem ex_cna_l {post : Int32 → Prop} {f p n : Nat} (hf : f < 8) (hpn : p + n ≤ 64) (hV : ev_V ba) (hp : post (nI (ev_ct (ev_na ba) (64 * f + p) n))) : ∀ d i, i + d = n → wX_countNotAlone_6 post (nI f) (nI p) (nI n) fk fs ba ia (ev_U ba) kb ki (d + 1) (nI (ev_ct (ev_na ba) (64 * f + p) i)) (nI (p + i)) := by
  intro d
  induction d with
  | zero =>
    intro i h
    refine br_t (by rw [nI_add]; exact nI_le (by omega) (by omega)) ?_
    rw [show i = n by omega]; exact hp
  | succ d ih =>
    intro i h
    refine br_f (by rw [nI_add]; exact nI_ge (by omega) (by omega)) ?_
    refine ex_isAlone hf (by omega) hV (fun z => ?_) (fun z => ?_)
    · refine br_t rfl (nm_r (nI_1 _) (nm_r (nI_1 _) ?_))
      rw [← ev_ct_t (by rw [Nat.add_assoc]; exact z)]
      exact ih (i + 1) (by omega)
    · refine br_f ev_10 (nm_r (nI_1 _) ?_)
      rw [← ev_ct_f (p := ev_na ba) (s := 64 * f + p) (d := i) (by rw [Nat.add_assoc, z]; exact Bool.false_ne_true)]
      exact ih (i + 1) (by omega)
theorem ex_cna {post : Int32 → Prop} {f p n : Nat} (hf : f < 8) (hpn : p + n ≤ 64) (hV : ev_V ba) (hp : post (nI (ev_ct (ev_na ba) (64 * f + p) n))) : wpX_countNotAlone post (fk, fs, ba, ia, ev_U ba, kb, ki) (nI f) (nI p) (nI n) :=
  ⟨_, ex_cna_l hf hpn hV hp n 0 (by omega)⟩
theorem ex_cfb_l {post : Int32 → Prop} {s e : Nat} (he : s + e ≤ 192) (hp : post (nI (ev_ct (fun j => decide (ua j = 0)) s e))) : ∀ d i, i + d = e → wX_countFreeBlocks_5 post (nI (s + e)) fk fs ba ia ua kb ki (d + 1) (nI (ev_ct (fun j => decide (ua j = 0)) s i)) (nI (s + i)) := by
  intro d
  induction d with
  | zero =>
    intro i h
    refine br_t (nI_le (by omega) (by omega)) ?_
    rw [show i = e by omega]; exact hp
  | succ d ih =>
    intro i h
    refine br_f (nI_ge (by omega) (by omega)) ?_
    refine ⟨vp_in_nI (by omega) (by omega), ?_⟩
    rw [nI_clamp (by omega)]
    by_cases z : ua (s + i) = 0
    · refine br_t z (nm_r (nI_1 _) (nm_r (nI_1 _) ?_))
      rw [← ev_ct_t (p := fun j => decide (ua j = 0)) (decide_eq_true z)]
      exact ih (i + 1) (by omega)
    · refine br_f z (nm_r (nI_1 _) ?_)
      rw [← ev_ct_f (p := fun j => decide (ua j = 0)) (s := s) (d := i) (fun y => z (of_decide_eq_true y))]
      exact ih (i + 1) (by omega)
theorem ex_cfb {post : Int32 → Prop} {x y : Int32} (s e : Nat) (he : s + e ≤ 192) (hx : x = nI s) (hy : y = nI (s + e)) (hp : post (nI (ev_ct (fun j => decide (ua j = 0)) s e))) : wpX_countFreeBlocks post (fk, fs, ba, ia, ua, kb, ki) x y := by
  subst hx hy
  exact ⟨_, ex_cfb_l he hp e 0 (by omega)⟩
theorem ex_cfe_l {post : Int32 → Prop} {s e : Nat} (he : s + e ≤ 192) (hp : post (nI (ev_ct (fun j => decide (0 < ev_E ua j)) s e))) : ∀ d i, i + d = e → wX_countFreeExtents_5 post (nI (s + e)) fk fs ba ia ua kb ki (d + 1) (nI (ev_ct (fun j => decide (0 < ev_E ua j)) s i)) (nI (s + i)) := by
  intro d
  induction d with
  | zero =>
    intro i h
    refine br_t (nI_le (by omega) (by omega)) ?_
    rw [show i = e by omega]; exact hp
  | succ d ih =>
    intro i h
    refine br_f (nI_ge (by omega) (by omega)) (ex_ext (by omega) ?_)
    have hl := ev_E_le ua (s + i)
    have hl2 := ev_F_le ua (s + i)
    by_cases z : 0 < ev_E ua (s + i)
    · refine br_f (nI_nle z (by omega)) (nm_r (nI_1 _) (nm_r (nI_1 _) ?_))
      rw [← ev_ct_t (p := fun j => decide (0 < ev_E ua j)) (decide_eq_true z)]
      exact ih (i + 1) (by omega)
    · refine br_t (nI_le (b := 0) (by omega) (by omega)) (nm_r (nI_1 _) ?_)
      rw [← ev_ct_f (p := fun j => decide (0 < ev_E ua j)) (s := s) (d := i) (fun y => z (of_decide_eq_true y))]
      exact ih (i + 1) (by omega)
theorem ex_cfe {post : Int32 → Prop} {x y : Int32} (s e : Nat) (he : s + e ≤ 192) (hx : x = nI s) (hy : y = nI (s + e)) (hp : post (nI (ev_ct (fun j => decide (0 < ev_E ua j)) s e))) : wpX_countFreeExtents post (fk, fs, ba, ia, ua, kb, ki) x y := by
  subst hx hy
  exact ⟨_, ex_cfe_l he hp e 0 (by omega)⟩
theorem ex_next {post : Int32 → Prop} {b : Nat} (hb : b < 192) (hp : post (ev_nx (nI b))) : wpX_nextInGroup post (fk, fs, ba, ia, ua, kb, ki) (nI b) := by
  refine ⟨ev_n64, ?_⟩
  rw [ev_r64 (by omega)]
  rw [ev_nx_nI hb] at hp
  by_cases z : b % 64 = 63
  · rw [if_pos z] at hp
    exact br_t (by rw [z]; rfl) hp
  · rw [if_neg z] at hp
    refine br_f (fun y => z (ev_inj (b := 63) y (by omega) (by omega))) ?_
    rw [nI_1]; exact hp
theorem ev_near_nx {u : Nat → Int32} {b : Nat} (hb : b < 192) : ev_near u (nI b) = if ev_nx (nI b) = -1 then -1 else if u (b + 1) = 0 then nI (b + 1) else -1 := by
  unfold ev_near
  rw [if_neg (ev_ne1 (a := b) (by omega)), nI_clamp (by omega), ev_nx_nI hb]
  by_cases z : b % 64 = 63
  · rw [if_pos z, if_pos z, if_pos rfl]
  · rw [if_neg z, if_neg z, if_neg (ev_ne1 (a := b + 1) (by omega))]
theorem ex_near {post : Int32 → Prop} {f p : Nat} (hf : f < 8) (hp : p < 64) (hV : ev_V ba) (h : post (ev_near ua (if p = 0 then -1 else ba (64 * f + p - 1)))) : wpX_nearBlock post (fk, fs, ba, ia, ua, kb, ki) (nI f) (nI p) := by
  unfold wpX_nearBlock
  dsimp only
  by_cases z : p = 0
  · rw [if_pos z, ev_near_h] at h
    exact br_t (by rw [z]; rfl) h
  · rw [if_neg z] at h
    refine br_f (fun y => z ((ev_eq0 (by omega)).mp y)) ?_
    rw [ev_ix, ev_s1 (by omega), nI_clamp (by omega)]
    refine ⟨vp_in_nI (by omega) (by omega), nm_e ?_⟩
    rcases hV (64 * f + p - 1) (by omega) with e | ⟨b, hb, e⟩
    · rw [e, ev_near_h] at h
      exact br_t e h
    · refine br_f (by rw [e]; exact ev_ne1 (by omega)) ?_
      rw [e] at h ⊢
      refine ex_next hb ?_
      rw [ev_near_nx hb] at h
      by_cases y : ev_nx (nI b) = -1
      · rw [if_pos y] at h
        exact br_t y h
      · rw [if_neg y] at h
        refine br_f y ?_
        have hn : ev_nx (nI b) = nI (b + 1) := by
          rw [ev_nx_nI hb] at y ⊢
          by_cases w : b % 64 = 63
          · rw [if_pos w] at y; exact absurd rfl y
          · rw [if_neg w]
        have hm : b % 64 ≠ 63 := by
          intro w
          rw [ev_nx_nI hb, if_pos w] at y
          exact y rfl
        rw [hn, nI_clamp (by omega)]
        refine ⟨vp_in_nI (by omega) (by omega), ?_⟩
        by_cases w : ua (b + 1) = 0
        · rw [if_pos w] at h
          exact br_t w h
        · rw [if_neg w] at h
          exact br_f w h
theorem ex_sf_l {post : Int32 → Prop} {g left : Nat} (hg : g < 3) (hl : left ≤ 64) (hp : post (ev_sf ua left (64 * g) 64).1) : ∀ d i, i + d = 64 → wX_shortestFit_16 post (nI left) (nI (64 * g)) fk fs ba ia ua kb ki (d + 1) (ev_sf ua left (64 * g) i).1 (nI (ev_sf ua left (64 * g) i).2) (nI (64 * g + i)) := by
  intro d
  induction d with
  | zero =>
    intro i h
    refine br_t (by rw [ev_p64]; exact nI_le (by omega) (by omega)) ?_
    rw [show i = 64 by omega]; exact hp
  | succ d ih =>
    intro i h
    refine br_f (by rw [ev_p64]; exact nI_ge (by omega) (by omega)) (ex_ext (by omega) ?_)
    have hE := ev_E_le ua (64 * g + i)
    have hF := ev_F_le ua (64 * g + i)
    have h65 : (ev_sf ua left (64 * g) i).2 ≤ 65 := by
      rcases ev_sf_ok ua left (64 * g) i with ⟨y, _⟩ | ⟨j, _, y, _⟩
      · rw [y]; exact Nat.le_refl _
      · have := ev_E_le ua (64 * g + j)
        have := ev_F_le ua (64 * g + j)
        rw [y]
        show ev_E ua (64 * g + j) ≤ 65
        omega
    by_cases z1 : left ≤ ev_E ua (64 * g + i)
    · refine br_f (nI_nlt z1 (by omega)) ?_
      by_cases z2 : ev_E ua (64 * g + i) < (ev_sf ua left (64 * g) i).2
      · refine br_f (nI_ge z2 (by omega)) (nm_r (nI_1 _) ?_)
        have := ih (i + 1) (by omega)
        rw [ev_sf_t z1 z2] at this
        exact this
      · refine br_t (nI_le (by omega) (by omega)) (nm_r (nI_1 _) ?_)
        have := ih (i + 1) (by omega)
        rw [ev_sf_f (fun y => z2 y.2)] at this
        exact this
    · refine br_t (nI_lt (by omega) (by omega)) (nm_r (nI_1 _) ?_)
      have := ih (i + 1) (by omega)
      rw [ev_sf_f (fun y => z1 y.1)] at this
      exact this
theorem ex_sf {post : Int32 → Prop} {g left : Nat} (hg : g < 3) (hl : left ≤ 64) (hp : post (ev_sf ua left (64 * g) 64).1) : wpX_shortestFit post (fk, fs, ba, ia, ua, kb, ki) (nI g) (nI left) :=
  nm_r (ev_x64 g) ⟨_, ex_sf_l hg hl hp 64 0 (by omega)⟩
theorem ex_best_s {post : Int32 → Prop} {f left t n : Nat} (hf : f < 8) (hl : left ≤ 64) (ht : t < 3) (h1 : ¬ ev_g ua f left t = -1 → post (ev_g ua f left t)) (h2 : ev_g ua f left t = -1 → wX_bestBlock_2 post (nI f) (nI left) fk fs ba ia ua kb ki n (nI (t + 1))) : wX_bestBlock_2 post (nI f) (nI left) fk fs ba ia ua kb ki (n + 1) (nI t) := by
  refine br_f (nI_ge (b := 3) ht (by omega)) ⟨ev_n3, ?_⟩
  rw [nI_add, ev_r3 (by omega)]
  refine ex_sf (by omega) hl ?_
  exact br_c (fun z => nm_r (nI_1 _) (h2 z)) h1
theorem ex_best {post : Int32 → Prop} {f left : Nat} (hf : f < 8) (hl : left ≤ 64) (hp : post (ev_best ua f left)) : wpX_bestBlock post (fk, fs, ba, ia, ua, kb, ki) (nI f) (nI left) := by
  refine ⟨4, ?_⟩
  unfold ev_best at hp
  refine ex_best_s (t := 0) hf hl (by omega) (fun z => ?_) (fun z => ?_)
  · rw [if_neg z] at hp; exact hp
  · rw [if_pos z] at hp
    refine ex_best_s (t := 1) hf hl (by omega) (fun y => ?_) (fun y => ?_)
    · rw [if_neg y] at hp; exact hp
    · rw [if_pos y] at hp
      refine ex_best_s (t := 2) hf hl (by omega) (fun _ => hp) (fun x => ?_)
      rw [x] at hp
      exact br_t (nI_le (a := 3) (b := 2 + 1) (by omega) (by omega)) hp
theorem ex_lg_l {post : Int32 → Prop} (hp : post (ev_lg ua 192).1) : ∀ d i, i + d = 192 → wX_longestBlock_6 post fk fs ba ia ua kb ki (d + 1) (ev_lg ua i).1 (nI (ev_lg ua i).2) (nI i) := by
  intro d
  induction d with
  | zero =>
    intro i h
    refine br_t (nI_le (a := 192) (by omega) (by omega)) ?_
    rw [show i = 192 by omega]; exact hp
  | succ d ih =>
    intro i h
    refine br_f (nI_ge (b := 192) (by omega) (by omega)) (ex_ext (by omega) ?_)
    have hE := ev_E_le ua i
    have hF := ev_F_le ua i
    have h65 : (ev_lg ua i).2 ≤ 64 := by
      rcases (ev_lg_ok ua i).2 with y | ⟨j, _, y, _⟩
      · rw [y]; exact Nat.zero_le _
      · have := ev_E_le ua j
        have := ev_F_le ua j
        rw [y]
        show ev_E ua j ≤ 64
        omega
    have := ih (i + 1) (by omega)
    by_cases z : (ev_lg ua i).2 < ev_E ua i
    · refine br_f (nI_ge z (by omega)) (nm_r (nI_1 _) ?_)
      rw [ev_lg_t z] at this
      exact this
    · refine br_t (nI_le (by omega) (by omega)) (nm_r (nI_1 _) ?_)
      rw [ev_lg_f z] at this
      exact this
theorem ex_lg {post : Int32 → Prop} (hp : post (ev_lg ua 192).1) : wpX_longestBlock post (fk, fs, ba, ia, ua, kb, ki) :=
  ⟨_, ex_lg_l hp 192 0 (by omega)⟩
end
end
section
/-! ranges: what both ask first -/
theorem ev_inb {A B : Prop} {x : Int32} {n : Nat} (hn : n < 2 ^ 31) (h1 : ∀ j, j < n → x = nI j → B) (h0 : (¬ ∃ j, j < n ∧ x = nI j) → A) : (x < 0 → A) ∧ (¬ x < 0 → ((nI n ≤ x → A) ∧ (¬ nI n ≤ x → B))) := by
  refine br_c (fun a => h0 ?_) (fun b => br_c (fun a => h0 ?_) (fun c => ?_))
  · intro ⟨j, hj, e⟩
    rw [e] at a
    exact nI_pos (n := j) (by omega) a
  · intro ⟨j, hj, e⟩
    rw [e] at a
    exact nI_ge hj hn a
  · obtain ⟨j, hj, rfl⟩ := nI_of b
    refine h1 j ?_ rfl
    rw [nI_leI hn hj] at c
    omega
theorem ev_tail {A B : Prop} {p : Nat} {z : Int32} (hp : p < 64) (h1 : ∀ n, 1 ≤ n → p + n ≤ 64 → z = nI n → B) (h0 : (¬ ∃ n, 1 ≤ n ∧ p + n ≤ 64 ∧ z = nI n) → A) : (z < 1 → A) ∧ (¬ z < 1 → ((64 - nI p < z → A) ∧ (¬ 64 - nI p < z → B))) := by
  rw [ev_s64 (by omega)]
  refine br_c (fun a => h0 ?_) (fun b => ?_)
  · intro ⟨n, hn, h2, e⟩
    rw [e] at a
    exact nI_nlt (b := 1) hn (by omega) a
  · have hz : ¬ z < 0 := fun y => b (Int32.lt_trans y (by decide))
    obtain ⟨n, hn, rfl⟩ := nI_of hz
    have h1' : 1 ≤ n := by
      by_cases y : n = 0
      · rw [y] at b; exact absurd (by decide) b
      · omega
    exact pk_lt (64 - p) n (fun y => h0 (fun ⟨n', a, b', e⟩ => by have := ev_inj e hn (by omega); omega)) (fun y => h1 n h1' (by omega) rfl)
def ev_ok (x y z : Int32) : Prop := ∃ f p n : Nat, f < 8 ∧ p < 64 ∧ 1 ≤ n ∧ p + n ≤ 64 ∧ x = nI f ∧ y = nI p ∧ z = nI n
theorem ey_in {post : Int32 → Prop} {x : Int32} (n : Nat) (hn : n < 2 ^ 31) (h1 : ∀ j, j < n → x = nI j → post 1) (h0 : (¬ ∃ j, j < n ∧ x = nI j) → post 0) : wpY_in post x (nI n) := ev_inb hn h1 h0
theorem ey_isRow {post : Int32 → Prop} {x y z : Int32} (h1 : ev_ok x y z → post 1) (h0 : ¬ ev_ok x y z → post 0) : wpY_isRow post x y z := by
  refine ey_in (post := fun r_1 => _) 8 (by decide) (fun f hf ef => br_f ev_10 ?_) (fun hn => br_t rfl (h0 ?_))
  · refine ey_in (post := fun r_3 => _) 64 (by decide) (fun p hp ep => br_f ev_10 ?_) (fun hn => br_t rfl (h0 ?_))
    · rw [ep]
      exact ev_tail hp (fun n a b c => h1 ⟨f, p, n, hf, hp, a, b, ef, ep, c⟩) (fun hn => h0 (fun ⟨f', p', n', a, b, c, d, e1, e2, e3⟩ => hn ⟨n', c, by have := ev_inj (ep.symm.trans e2) (by omega) (by omega); omega, e3⟩))
    · exact fun ⟨f', p', n', a, b, c, d, e1, e2, e3⟩ => hn ⟨p', b, e2⟩
  · exact fun ⟨f', p', n', a, b, c, d, e1, e2, e3⟩ => hn ⟨f', a, e1⟩
section
variable {fk fs : Int32} {ba ia ua kb ki : Nat → Int32}
theorem ex_isFile {post : Int32 → Prop} {x : Int32} (h1 : ∀ j, j < 8 → x = nI j → post 1) (h0 : (¬ ∃ j, j < 8 ∧ x = nI j) → post 0) : wpX_isFile post (fk, fs, ba, ia, ua, kb, ki) x := ev_inb (n := 8) (by decide) h1 h0
theorem ex_isRange {post : Int32 → Prop} {x y z : Int32} (h1 : ev_ok x y z → post 1) (h0 : ¬ ev_ok x y z → post 0) : wpX_isRange post (fk, fs, ba, ia, ua, kb, ki) x y z := by
  unfold wpX_isRange
  dsimp only
  refine ex_isFile (fun f hf ef => br_f ev_10 ?_) (fun hn => br_t rfl (h0 ?_))
  · refine ev_inb (n := 64) (by decide) (fun p hp ep => ?_) (fun hn => h0 ?_)
    · rw [ep]
      exact ev_tail hp (fun n a b c => h1 ⟨f, p, n, hf, hp, a, b, ef, ep, c⟩) (fun hn => h0 (fun ⟨f', p', n', a, b, c, d, e1, e2, e3⟩ => hn ⟨n', c, by have := ev_inj (ep.symm.trans e2) (by omega) (by omega); omega, e3⟩))
    · exact fun ⟨f', p', n', a, b, c, d, e1, e2, e3⟩ => hn ⟨p', b, e2⟩
  · exact fun ⟨f', p', n', a, b, c, d, e1, e2, e3⟩ => hn ⟨f', a, e1⟩
end

/-! the reference counts and keeps -/
section
variable {fk ff fl : Int32} {a v m as : Nat → Int32}
theorem ey_c24 {post : SY → Prop} (hV : ev_V a) (hp : post (fk, ff, fl, a, v, ev_U a, as)) : ∀ d i, i + d = 512 → wY_count_24 post fk ff fl (d + 1) (nI i) a v (ev_Un a i) as := by
  intro d
  induction d with
  | zero =>
    intro i h
    refine br_t (nI_le (a := 512) (by omega) (by omega)) ?_
    rw [show i = 512 by omega]; exact hp
  | succ d ih =>
    intro i h
    refine br_f (nI_ge (b := 512) (by omega) (by omega)) ⟨vp_in_nI (by omega) (by omega), ?_⟩
    rw [nI_clamp (by omega)]
    rcases hV i (by omega) with e | ⟨b, hb, e⟩
    · refine br_t (by rw [e]; decide) (nm_r (nI_1 i) ?_)
      rw [← ev_Un_h e]
      exact ih (i + 1) (by omega)
    · refine br_f (by rw [e]; exact nI_pos (by omega)) ?_
      rw [e, nI_clamp (by omega)]
      refine ⟨vp_in_nI (by omega) (by omega), vp_in_nI hb (by omega), vp_in_nI hb (by omega), nm_r (ev_Un_b hb e).symm (nm_r (nI_1 i) (ih (i + 1) (by omega)))⟩
theorem ey_c2 {post : SY → Prop} (hV : ev_V a) (hm : ∀ j, 192 ≤ j → m j = 0) (hp : post (fk, ff, fl, a, v, ev_U a, as)) : ∀ d i, i + d = 192 → wY_count_2 post fk ff fl (d + 1) (nI i) a v (ev_fl m (fun _ => 0) 0 i) as := by
  intro d
  induction d with
  | zero =>
    intro i h
    refine br_t (nI_le (a := 192) (by omega) (by omega)) ?_
    have e : ev_fl m (fun _ => 0) 0 i = ev_Un a 0 := by
      rw [ev_Un_0]
      funext j
      by_cases z : j < 192
      · exact if_pos (by omega)
      · rw [ev_fl_out (by omega)]; exact hm j (by omega)
    rw [e]
    exact ⟨_, ey_c24 hV hp 512 0 (by omega)⟩
  | succ d ih =>
    intro i h
    refine br_f (nI_ge (b := 192) (by omega) (by omega)) ⟨vp_in_nI (by omega) (by omega), ?_⟩
    rw [nI_clamp (by omega)]
    refine nm_r (e' := ev_fl m (fun _ => 0) 0 (i + 1)) ?_ (nm_r (nI_1 i) (ih (i + 1) (by omega)))
    have := ev_fl_s m (fun _ => 0) 0 i
    rw [Nat.zero_add] at this
    exact this
theorem ey_count {post : SY → Prop} (hV : ev_V a) (hm : ∀ j, 192 ≤ j → m j = 0) (hp : post (fk, ff, fl, a, v, ev_U a, as)) : wpY_count post (fk, ff, fl, a, v, m, as) := by
  have h := ey_c2 hV hm hp 192 0 (by omega)
  rw [ev_fl_0] at h
  exact ⟨_, h⟩
theorem ey_fb8 {post : Int32 → SY → Prop} (hp : post (nI (ev_fr m)) (fk, ff, fl, a, v, m, as)) : ∀ d i, i + d = 192 → wY_freeBlocks_8 post fk ff fl a v m as (d + 1) (nI (ev_ct (fun j => decide (m j = 0)) 0 i)) (nI i) := by
  intro d
  induction d with
  | zero =>
    intro i h
    refine br_t (nI_le (a := 192) (by omega) (by omega)) ?_
    rw [show i = 192 by omega]; exact hp
  | succ d ih =>
    intro i h
    refine br_f (nI_ge (b := 192) (by omega) (by omega)) ⟨vp_in_nI (by omega) (by omega), ?_⟩
    rw [nI_clamp (by omega)]
    by_cases z : m i = 0
    · refine br_t z (nm_r (nI_1 _) (nm_r (nI_1 _) ?_))
      rw [← ev_ct_t (p := fun j => decide (m j = 0)) (s := 0) (d := i) (by rw [Nat.zero_add]; exact decide_eq_true z)]
      exact ih (i + 1) (by omega)
    · refine br_f z (nm_r (nI_1 _) ?_)
      rw [← ev_ct_f (p := fun j => decide (m j = 0)) (s := 0) (d := i) (by rw [Nat.zero_add]; exact fun y => z (of_decide_eq_true y))]
      exact ih (i + 1) (by omega)
theorem ey_fb {post : Int32 → SY → Prop} (hV : ev_V a) (hm : ∀ j, 192 ≤ j → m j = 0) (hp : post (nI (ev_fr (ev_U a))) (fk, ff, fl, a, v, ev_U a, as)) : wpY_freeBlocks post (fk, ff, fl, a, v, m, as) := by
  unfold wpY_freeBlocks
  dsimp only
  refine ey_count hV hm ?_
  exact ⟨_, ey_fb8 hp 192 0 (by omega)⟩
theorem ey_k82 {post : SY → Prop} {K : Nat} (hK : K < 4) (hp : post (nI (K + 1), ff, fl, a, v, m, ev_fl as v (704 * K + 512) 192)) : ∀ d i, i + d = 192 → wY_keep_82 post (nI K) ff fl (d + 1) (nI i) a v m (ev_fl as v (704 * K + 512) i) := by
  intro d
  induction d with
  | zero =>
    intro i h
    refine br_t (nI_le (a := 192) (by omega) (by omega)) (nm_r (nI_1 K) ?_)
    rw [show i = 192 by omega]; exact hp
  | succ d ih =>
    intro i h
    refine br_f (nI_ge (b := 192) (by omega) (by omega)) ⟨vp_in_nI (by omega) (by omega), ?_⟩
    rw [ev_704x, ev_p512, nI_add, nI_clamp (n := i) (by omega), nI_clamp (by omega)]
    exact ⟨vp_in_nI (by omega) (by omega), nm_r (ev_fl_s as v (704 * K + 512) i) (nm_r (nI_1 i) (ih (i + 1) (by omega)))⟩
theorem ey_k46 {post : SY → Prop} {K : Nat} (hK : K < 4) (hp : post (nI (K + 1), ff, fl, a, v, m, ev_fl (ev_fl as a (704 * K) 512) v (704 * K + 512) 192)) : ∀ d i, i + d = 512 → wY_keep_46 post (nI K) ff fl (d + 1) (nI i) a v m (ev_fl as a (704 * K) i) := by
  intro d
  induction d with
  | zero =>
    intro i h
    refine br_t (nI_le (a := 512) (by omega) (by omega)) ?_
    rw [show i = 512 by omega]
    have := ey_k82 hK hp 192 0 (by omega)
    rw [ev_fl_0] at this
    exact ⟨_, this⟩
  | succ d ih =>
    intro i h
    refine br_f (nI_ge (b := 512) (by omega) (by omega)) ⟨vp_in_nI (by omega) (by omega), ?_⟩
    rw [ev_704x, nI_add, nI_clamp (n := i) (by omega), nI_clamp (by omega)]
    exact ⟨vp_in_nI (by omega) (by omega), nm_r (ev_fl_s as a (704 * K) i) (nm_r (nI_1 i) (ih (i + 1) (by omega)))⟩
def ev_kS (as : Nat → Int32) (K : Nat) (a v : Nat → Int32) : Nat → Int32 := ev_fl (ev_fl as a (704 * K) 512) v (704 * K + 512) 192
def ev_kD (as : Nat → Int32) : Nat → Int32 := ev_fl as (fun j => as (j + 704)) 0 2112
def ev_kK (K : Nat) : Nat := if K = 4 then 4 else K + 1
def ev_kA (as : Nat → Int32) (K : Nat) (a v : Nat → Int32) : Nat → Int32 := if K = 4 then ev_kS (ev_kD as) 3 a v else ev_kS as K a v
theorem ey_k46w {post : SY → Prop} {K : Nat} (hK : K < 4) (hp : post (nI (K + 1), ff, fl, a, v, m, ev_kS as K a v)) : ∃ n, wY_keep_46 post (nI K) ff fl n 0 a v m as := by
  have h := ey_k46 (as := as) hK hp 512 0 (by omega)
  rw [ev_fl_0] at h
  exact ⟨_, h⟩
theorem ey_k15 {post : SY → Prop} (hp : post (nI (3 + 1), ff, fl, a, v, m, ev_kS (ev_kD as) 3 a v)) : ∀ d i, i + d = 2112 → wY_keep_15 post 3 ff fl (d + 1) (nI i) a v m (ev_fl as (fun j => as (j + 704)) 0 i) := by
  intro d
  induction d with
  | zero =>
    intro i h
    refine br_t (nI_le (a := 2112) (by omega) (by omega)) ?_
    rw [show i = 2112 by omega]
    exact ey_k46w (K := 3) (by omega) hp
  | succ d ih =>
    intro i h
    refine br_f (nI_ge (b := 2112) (by omega) (by omega)) ?_
    rw [ev_p704, nI_clamp (n := i) (by omega), nI_clamp (by omega)]
    refine ⟨vp_in_nI (by omega) (by omega), vp_in_nI (by omega) (by omega), nm_r (e' := ev_fl as (fun j => as (j + 704)) 0 (i + 1)) ?_ (nm_r (nI_1 i) (ih (i + 1) (by omega)))⟩
    rw [ev_fl_out (j := i + 704) (by omega)]
    have := ev_fl_s as (fun j => as (j + 704)) 0 i
    rw [Nat.zero_add] at this
    exact this
theorem ey_keep {post : SY → Prop} {K : Nat} (hK : K ≤ 4) (hp : post (nI (ev_kK K), ff, fl, a, v, m, ev_kA as K a v)) : wpY_keep post (nI K, ff, fl, a, v, m, as) := by
  unfold ev_kK ev_kA at hp
  by_cases z : K = 4
  · rw [if_pos z, if_pos z] at hp
    refine br_t (by rw [z]; rfl) ?_
    have h := ey_k15 (as := as) hp 2112 0 (by omega)
    rw [ev_fl_0] at h
    exact ⟨_, h⟩
  · rw [if_neg z, if_neg z] at hp
    exact br_f (fun y => z (ev_inj (b := 4) y (by omega) (by omega))) (ey_k46w (by omega) hp)

/-! the reference's choice of a place -/
theorem ey_run {post : Int32 → Prop} {b : Nat} (hb : b < 192) : ∀ d j, b ≤ j → j + d = (b / 64 + 1) * 64 → post (nI (j + ev_rn m d j - b)) → wY_freeFrom_2 post (nI b) fk ff fl a v m as (d + 1) (nI j) := by
  intro d
  induction d with
  | zero =>
    intro j h1 h2 hp
    have hp' : post (nI j - nI b) := by rw [pk_sub h1]; exact hp
    by_cases z : j = 192
    · exact br_t (nI_le (a := 192) (by omega) (by omega)) hp'
    · refine br_f (nI_ge (b := 192) (by omega) (by omega)) ⟨ev_n64, ev_n64, ?_⟩
      rw [ev_d64 (b := j) (by omega), ev_d64 (b := b) (by omega)]
      exact br_f (fun y => by have := ev_inj y (by omega) (by omega); omega) hp'
  | succ d ih =>
    intro j h1 h2 hp
    refine br_f (nI_ge (b := 192) (by omega) (by omega)) ⟨ev_n64, ev_n64, ?_⟩
    rw [ev_d64 (b := j) (by omega), ev_d64 (b := b) (by omega)]
    refine br_t (congrArg nI (by omega)) ⟨vp_in_nI (by omega) (by omega), ?_⟩
    rw [nI_clamp (by omega)]
    by_cases z : m j = 0
    · refine br_t z (nm_r (nI_1 j) ?_)
      refine ih (j + 1) (by omega) (by omega) ?_
      rw [ev_rn_t z] at hp
      rw [show j + 1 + ev_rn m d (j + 1) - b = j + (ev_rn m d (j + 1) + 1) - b by omega]
      exact hp
    · refine br_f z ?_
      rw [ev_rn_f z] at hp
      rw [pk_sub h1]; exact hp
theorem ey_ff {post : Int32 → Prop} {b : Nat} (hb : b < 192) (hp : post (nI (ev_F m b))) : wpY_freeFrom post (fk, ff, fl, a, v, m, as) (nI b) := by
  refine ⟨_, ey_run hb (64 - b % 64) b (Nat.le_refl _) (by omega) ?_⟩
  rw [Nat.add_sub_cancel_left]; exact hp
theorem ey_52 {post : Int32 → Prop} {J : Int32 → Int32 → Int32 → Prop} {x1 x2 x3 x4 : Int32} {i F : Nat} (hF : F ≤ 64) (h0 : F = 0 → J x3 x4 (nI (i + 1))) (h1 : 0 < F → J x3 x4 (nI (i + F))) : wY_shortest_52 post J x1 x2 x3 x4 (nI i) (nI F) fk ff fl a v m as := by
  by_cases z : F = 0
  · exact br_t (by rw [z]; rfl) (nm_r (nI_1 i) (h0 z))
  · exact br_f (nI_ne0 (by omega) (by omega)) (nm_r (nI_add i F) (h1 (by omega)))
theorem ey_sf_l {post : Int32 → Prop} {g left : Nat} (hg : g < 3) (hl : left ≤ 64) (hl0 : 0 < left) (hp : post (ev_sf m left (64 * g) 64).1) : ∀ n i, 64 - i < n → i ≤ 64 → (i < 64 → ev_E m (64 * g + i) = ev_F m (64 * g + i)) → wY_shortest_12 post (nI g) (nI left) fk ff fl a v m as n (ev_sf m left (64 * g) i).1 (nI (ev_sf m left (64 * g) i).2) (nI (64 * g + i)) := by
  intro n
  induction n with
  | zero => intro i h; omega
  | succ n ih =>
    intro i h hi hE
    by_cases e : i = 64
    · refine br_t (by rw [ev_64x, ev_p64]; exact nI_le (by omega) (by omega)) ?_
      rw [e]; exact hp
    · refine br_f (by rw [ev_64x, ev_p64]; exact nI_ge (by omega) (by omega)) (ey_ff (by omega) ?_)
      have hE' := hE (by omega)
      have hF := ev_F_le m (64 * g + i)
      have h65 : (ev_sf m left (64 * g) i).2 ≤ 65 := by
        rcases ev_sf_ok m left (64 * g) i with ⟨y, _⟩ | ⟨j, _, y, _⟩
        · rw [y]; exact Nat.le_refl _
        · have := ev_E_le m (64 * g + j)
          have := ev_F_le m (64 * g + j)
          rw [y]
          show ev_E m (64 * g + j) ≤ 65
          omega
      have n0 : ev_F m (64 * g + i) = 0 → wY_shortest_12 post (nI g) (nI left) fk ff fl a v m as n (ev_sf m left (64 * g) (i + 1)).1 (nI (ev_sf m left (64 * g) (i + 1)).2) (nI (64 * g + i + 1)) := by
        intro z
        refine ih (i + 1) (by omega) (by omega) (fun _ => ev_E_F (Or.inr ?_))
        rw [show 64 * g + (i + 1) - 1 = 64 * g + i by omega]
        intro y
        have := ev_F_t y
        omega
      have n1 : 0 < ev_F m (64 * g + i) → wY_shortest_12 post (nI g) (nI left) fk ff fl a v m as n (ev_sf m left (64 * g) (i + 1)).1 (nI (ev_sf m left (64 * g) (i + 1)).2) (nI (64 * g + i + ev_F m (64 * g + i))) := by
        intro z
        have hh := ev_sf_hop (u := m) (left := left) (first := 64 * g) (d := i) hl0 (by omega) (ev_F m (64 * g + i) - 1) (by omega) (by omega)
        have := ih (i + 1 + (ev_F m (64 * g + i) - 1)) (by omega) (by omega) (fun hlt => ev_E_F' (by
          rw [show 64 * g + (i + 1 + (ev_F m (64 * g + i) - 1)) = 64 * g + i + ev_F m (64 * g + i) by omega]
          exact ev_F_end (Or.inl (by omega))))
        rw [hh, show 64 * g + (i + 1 + (ev_F m (64 * g + i) - 1)) = 64 * g + i + ev_F m (64 * g + i) by omega] at this
        exact this
      by_cases z1 : left ≤ ev_F m (64 * g + i)
      · refine br_f (nI_nlt z1 (by omega)) ?_
        by_cases z2 : ev_F m (64 * g + i) < (ev_sf m left (64 * g) i).2
        · rw [ev_sf_t (by omega) (by omega), hE'] at n0 n1
          exact br_f (nI_ge z2 (by omega)) (ey_52 (by omega) n0 n1)
        · rw [ev_sf_f (fun y => z2 (by omega))] at n0 n1
          exact br_t (nI_le (by omega) (by omega)) (ey_52 (by omega) n0 n1)
      · rw [ev_sf_f (fun y => z1 (by omega))] at n0 n1
        exact br_t (nI_lt (by omega) (by omega)) (ey_52 (by omega) n0 n1)
theorem ey_sf {post : Int32 → Prop} {g left : Nat} (hg : g < 3) (hl : left ≤ 64) (hl0 : 0 < left) (hp : post (ev_sf m left (64 * g) 64).1) : wpY_shortest post (fk, ff, fl, a, v, m, as) (nI g) (nI left) :=
  nm_r (ev_64x g) ⟨_, ey_sf_l hg hl hl0 hp 65 0 (by omega) (by omega) (fun _ => ev_E_F (Or.inl (by omega)))⟩
theorem ey_125 {post : SY → Prop} (hp : post (fk, (ev_lg m 192).1, nI (ev_lg m 192).2, a, v, m, as)) : ∀ d i, i + d = 192 → wY_find_125 post fk a v m as (d + 1) (nI i) (ev_lg m i).1 (nI (ev_lg m i).2) := by
  intro d
  induction d with
  | zero =>
    intro i h
    refine br_t (nI_le (a := 192) (by omega) (by omega)) ?_
    rw [show i = 192 by omega]; exact hp
  | succ d ih =>
    intro i h
    refine br_f (nI_ge (b := 192) (by omega) (by omega)) (ey_ff (by omega) ?_)
    have hF := ev_F_le m i
    have h65 : (ev_lg m i).2 ≤ 64 := by
      rcases (ev_lg_ok m i).2 with y | ⟨j, _, y, _⟩
      · rw [y]; exact Nat.zero_le _
      · have := ev_E_le m j
        have := ev_F_le m j
        rw [y]
        show ev_E m j ≤ 64
        omega
    have := ih (i + 1) (by omega)
    by_cases z : (ev_lg m i).2 < ev_F m i
    · refine br_t (nI_lt z (by omega)) (ey_ff (by omega) (nm_r (nI_1 _) ?_))
      rw [(ev_lg_F m i).1 z] at this
      exact this
    · refine br_f (nI_nlt (by omega) (by omega)) (nm_r (nI_1 _) ?_)
      rw [(ev_lg_F m i).2 z] at this
      exact this
theorem ey_77_s {post : SY → Prop} {f left t n : Nat} (hf : f < 8) (hl : left ≤ 64) (hl0 : 0 < left) (ht : t < 3) (h1 : ¬ ev_g m f left t = -1 → post (fk, ev_g m f left t, nI left, a, v, m, as)) (h2 : ev_g m f left t = -1 → wY_find_77 post (nI f) (nI left) fk a v m as n (nI (t + 1)) (-1) (nI left)) : wY_find_77 post (nI f) (nI left) fk a v m as (n + 1) (nI t) ff fl := by
  refine br_f (nI_ge (b := 3) ht (by omega)) ⟨ev_n3, ?_⟩
  rw [nI_add, ev_r3 (by omega)]
  refine ey_sf (by omega) hl hl0 ?_
  show (ev_g m f left t < 0 → _) ∧ (¬ ev_g m f left t < 0 → _)
  rcases ev_g_ok (u := m) (file := f) (left := left) (t := t) with ⟨z, _⟩ | ⟨s, hs, z, _⟩
  · refine br_t (by rw [z]; decide) (nm_r (nI_1 _) ?_)
    have := h2 z
    rw [← z] at this
    exact this
  · exact br_f (by rw [z]; exact nI_pos (by omega)) (h1 (by rw [z]; exact ev_ne1 (by omega)))
theorem ey_77 {post : SY → Prop} {f left : Nat} (hf : f < 8) (hl : left ≤ 64) (hl0 : 0 < left) (h1 : ¬ ev_best m f left = -1 → post (fk, ev_best m f left, nI left, a, v, m, as)) (h2 : ev_best m f left = -1 → post (fk, (ev_lg m 192).1, nI (ev_lg m 192).2, a, v, m, as)) : ∃ n, wY_find_77 post (nI f) (nI left) fk a v m as n 0 ff fl := by
  refine ⟨4, ?_⟩
  unfold ev_best at h1 h2
  refine ey_77_s (t := 0) hf hl hl0 (by omega) (fun z => ?_) (fun z => ?_)
  · rw [if_neg z] at h1; exact h1 z
  · rw [if_pos z] at h1 h2
    refine ey_77_s (t := 1) hf hl hl0 (by omega) (fun y => ?_) (fun y => ?_)
    · rw [if_neg y] at h1; exact h1 y
    · rw [if_pos y] at h1 h2
      refine ey_77_s (t := 2) hf hl hl0 (by omega) h1 (fun x => ?_)
      exact br_t (nI_le (a := 3) (b := 2 + 1) (by omega) (by omega)) ⟨_, ey_125 (h2 x) 192 0 (by omega)⟩
end
end
section
/-! the component's stores -/
section
variable {fk fs : Int32} {ba ia ua kb ki : Nat → Int32}
theorem ex_setBlock {post : SX → Prop} {k : Nat} {x : Int32} (hk : k < 512) (hV : ev_V ba) (hx : x = -1 ∨ ∃ t, t < 192 ∧ x = nI t) (hp : post (fk, fs, upd ba k x, ia, ev_U (upd ba k x), kb, ki)) : wpX_setBlock post (fk, fs, ba, ia, ev_U ba, kb, ki) (nI k) x := by
  unfold wpX_setBlock
  dsimp only
  rw [nI_clamp (by omega)]
  refine ⟨vp_in_nI hk (by omega), nm_e ?_⟩
  rcases hV k hk with e | ⟨b, hb, e⟩
  · refine br_t e ?_
    unfold wX_setBlock_22
    rw [nI_clamp (n := k) (by omega)]
    rcases hx with rfl | ⟨t, ht, rfl⟩
    · refine br_t rfl ⟨vp_in_nI hk (by omega), nm_e ?_⟩
      rw [ev_same ba k (-1) e] at hp ⊢
      exact hp
    · refine br_f (ev_ne1 (by omega)) ?_
      rw [nI_clamp (by omega)]
      exact ⟨vp_in_nI ht (by omega), vp_in_nI ht (by omega), nm_r (ev_U_in hk ht e).symm ⟨vp_in_nI hk (by omega), nm_e hp⟩⟩
  · refine br_f (by rw [e]; exact ev_ne1 (by omega)) ?_
    rw [e, nI_clamp (by omega)]
    refine ⟨vp_in_nI hb (by omega), vp_in_nI hb (by omega), nm_r (ev_U_out hk hb e).symm ?_⟩
    unfold wX_setBlock_22
    rw [nI_clamp (n := k) (by omega)]
    rcases hx with rfl | ⟨t, ht, rfl⟩
    · exact br_t rfl ⟨vp_in_nI hk (by omega), nm_e hp⟩
    · refine br_f (ev_ne1 (by omega)) ?_
      rw [nI_clamp (by omega)]
      refine ⟨vp_in_nI ht (by omega), vp_in_nI ht (by omega), nm_r (e' := ev_U (upd ba k (nI t))) ?_ ⟨vp_in_nI hk (by omega), nm_e hp⟩⟩
      rw [← ev_U_in hk ht (a := upd ba k (-1)) pk_us, ev_uu]
theorem ex_mv_l {post : SX → Prop} {f p s n : Nat} (hf : f < 8) (hpn : p + n ≤ 64) (hs : s + n ≤ 192) (hV : ev_V ba) (hfree : ∀ j, j < n → ev_U ba (s + j) = 0)
    (hp : post (fk, fs, ev_mA ba (64 * f + p) s n, ev_mV ba ia (64 * f + p) s n, ev_U (ev_mA ba (64 * f + p) s n), kb, ki)) :
    ∀ d i, i + d = n → wX_movePieces_3 post (nI f) (nI p) (nI n) (nI s) (d + 1) (nI i) fk fs (ev_mA ba (64 * f + p) s i) (ev_mV ba ia (64 * f + p) s i) (ev_U (ev_mA ba (64 * f + p) s i)) kb ki := by
  intro d
  induction d with
  | zero =>
    intro i h
    refine br_t (nI_le (by omega) (by omega)) ?_
    rw [show i = n by omega]; exact hp
  | succ d ih =>
    intro i h
    have hVi := (ev_mA_MF (k0 := 64 * f + p) hV (by omega) hs hfree i (by omega)).1
    have hi := ih (i + 1) (by omega)
    refine br_f (nI_ge (by omega) (by omega)) (nm_r (e' := nI (64 * f + p + i)) (by rw [ev_ix, nI_add]) ⟨vp_in_nI (by omega) (by omega), ?_⟩)
    rw [nI_clamp (by omega)]
    refine nm_e ?_
    rcases hVi (64 * f + p + i) (by omega) with e | ⟨b, hb, e⟩
    · have hv : ev_mV ba ia (64 * f + p) s (i + 1) = ev_mV ba ia (64 * f + p) s i := if_pos e
      rw [hv] at hi
      refine br_t e ?_
      unfold wX_movePieces_52
      rw [nI_add s i]
      refine ex_setBlock (by omega) hVi (Or.inr ⟨s + i, by omega, rfl⟩) ?_
      exact nm_r (nI_1 i) hi
    · have hv : ev_mV ba ia (64 * f + p) s (i + 1) = upd (ev_mV ba ia (64 * f + p) s i) (s + i) (ev_mV ba ia (64 * f + p) s i b) := by
        have : ev_mV ba ia (64 * f + p) s (i + 1) = upd (ev_mV ba ia (64 * f + p) s i) (s + i) (ev_mV ba ia (64 * f + p) s i (ev_mA ba (64 * f + p) s i (64 * f + p + i)).toNatClampNeg) := if_neg (by rw [e]; exact ev_ne1 (by omega))
        rw [this, e, nI_clamp (by omega)]
      refine br_f (by rw [e]; exact ev_ne1 (by omega)) ?_
      unfold wX_movePieces_52
      rw [e, nI_add s i, nI_clamp (n := b) (by omega), nI_clamp (n := s + i) (by omega)]
      refine ⟨vp_in_nI hb (by omega), vp_in_nI (by omega) (by omega), nm_r hv.symm ?_⟩
      refine ex_setBlock (by omega) hVi (Or.inr ⟨s + i, by omega, rfl⟩) ?_
      exact nm_r (nI_1 i) hi
theorem ex_mv {post : SX → Prop} {f p s n : Nat} (hf : f < 8) (hpn : p + n ≤ 64) (hs : s + n ≤ 192) (hV : ev_V ba) (hfree : ∀ j, j < n → ev_U ba (s + j) = 0)
    (hp : post (fk, fs, ev_mA ba (64 * f + p) s n, ev_mV ba ia (64 * f + p) s n, ev_U (ev_mA ba (64 * f + p) s n), kb, ki)) :
    wpX_movePieces post (fk, fs, ba, ia, ev_U ba, kb, ki) (nI f) (nI p) (nI n) (nI s) :=
  ⟨_, ex_mv_l hf hpn hs hV hfree hp n 0 (by omega)⟩
theorem ex_k38 {post : SX → Prop} {K S : Nat} (hK : K ≤ 4) (hS : S < 4) (hp : post (nI (ev_kK K), nI ((S + 1) % 4), ba, ia, ua, kb, ev_fl ki ia (S * 192) 192)) : ∀ d i, i + d = 192 → wX_keepState_38 post (nI K) (nI S) (d + 1) (nI i) ba ia ua kb (ev_fl ki ia (S * 192) i) := by
  intro d
  induction d with
  | zero =>
    intro i h
    refine br_t (nI_le (a := 192) (by omega) (by omega)) ⟨ev_n4, ?_⟩
    rw [nI_1, ev_r4 (by omega)]
    refine nm_e ?_
    rw [show i = 192 by omega]
    unfold ev_kK at hp
    by_cases z : K = 4
    · rw [if_pos z] at hp
      refine br_t (nI_le (a := 4) (by omega) (by omega)) ?_
      rw [z]; exact hp
    · rw [if_neg z] at hp
      exact br_f (nI_ge (b := 4) (by omega) (by omega)) (nm_r (nI_1 K) hp)
  | succ d ih =>
    intro i h
    refine br_f (nI_ge (b := 192) (by omega) (by omega)) ⟨vp_in_nI (by omega) (by omega), ?_⟩
    rw [ev_x192, nI_add, nI_clamp (n := i) (by omega), nI_clamp (by omega)]
    exact ⟨vp_in_nI (by omega) (by omega), nm_r (ev_fl_s ki ia (S * 192) i) (nm_r (nI_1 i) (ih (i + 1) (by omega)))⟩
theorem ex_k2 {post : SX → Prop} {K S : Nat} (hK : K ≤ 4) (hS : S < 4) (hp : post (nI (ev_kK K), nI ((S + 1) % 4), ba, ia, ua, ev_fl kb ba (S * 512) 512, ev_fl ki ia (S * 192) 192)) : ∀ d i, i + d = 512 → wX_keepState_2 post (nI K) (nI S) (d + 1) (nI i) ba ia ua (ev_fl kb ba (S * 512) i) ki := by
  intro d
  induction d with
  | zero =>
    intro i h
    refine br_t (nI_le (a := 512) (by omega) (by omega)) ?_
    rw [show i = 512 by omega]
    have := ex_k38 hK hS hp 192 0 (by omega)
    rw [ev_fl_0] at this
    exact ⟨_, this⟩
  | succ d ih =>
    intro i h
    refine br_f (nI_ge (b := 512) (by omega) (by omega)) ⟨vp_in_nI (by omega) (by omega), ?_⟩
    rw [ev_x512, nI_add, nI_clamp (n := i) (by omega), nI_clamp (by omega)]
    exact ⟨vp_in_nI (by omega) (by omega), nm_r (ev_fl_s kb ba (S * 512) i) (nm_r (nI_1 i) (ih (i + 1) (by omega)))⟩
theorem ex_keep {post : SX → Prop} {K S : Nat} (hK : K ≤ 4) (hS : S < 4) (hp : post (nI (ev_kK K), nI ((S + 1) % 4), ba, ia, ua, ev_fl kb ba (S * 512) 512, ev_fl ki ia (S * 192) 192)) : wpX_keepState post (nI K, nI S, ba, ia, ua, kb, ki) := by
  have h := ex_k2 hK hS hp 512 0 (by omega)
  rw [ev_fl_0] at h
  exact ⟨_, h⟩
theorem ex_r35 {post : SX → Prop} {T : Nat} (hT : T < 4) (hV : ev_V ba) (hg : ∀ k, k < 512 → kb (T * 512 + k) = -1 ∨ ∃ b, b < 192 ∧ kb (T * 512 + k) = nI b)
    (hp : post (fk, fs, ev_fl ba (fun k => kb (T * 512 + k)) 0 512, ia, ev_U (ev_fl ba (fun k => kb (T * 512 + k)) 0 512), kb, ki)) : ∀ d i, i + d = 512 → wX_restoreState_35 post (nI T) (d + 1) (nI i) fk fs (ev_fl ba (fun k => kb (T * 512 + k)) 0 i) ia (ev_U (ev_fl ba (fun k => kb (T * 512 + k)) 0 i)) kb ki := by
  intro d
  induction d with
  | zero =>
    intro i h
    refine br_t (nI_le (a := 512) (by omega) (by omega)) ?_
    rw [show i = 512 by omega]; exact hp
  | succ d ih =>
    intro i h
    refine br_f (nI_ge (b := 512) (by omega) (by omega)) ?_
    rw [ev_x512, nI_add, nI_clamp (by omega)]
    refine ⟨vp_in_nI (by omega) (by omega), ex_setBlock (by omega) (ev_fl_V hV hg) (hg i (by omega)) ?_⟩
    have e := ev_fl_s ba (fun k => kb (T * 512 + k)) 0 i
    rw [Nat.zero_add] at e
    rw [e]
    exact nm_r (nI_1 i) (ih (i + 1) (by omega))
theorem ex_r2 {post : SX → Prop} {T : Nat} (hT : T < 4) (hV : ev_V ba) (hg : ∀ k, k < 512 → kb (T * 512 + k) = -1 ∨ ∃ b, b < 192 ∧ kb (T * 512 + k) = nI b)
    (hp : post (fk, fs, ev_fl ba (fun k => kb (T * 512 + k)) 0 512, ev_fl ia (fun b => ki (T * 192 + b)) 0 192, ev_U (ev_fl ba (fun k => kb (T * 512 + k)) 0 512), kb, ki)) : ∀ d i, i + d = 192 → wX_restoreState_2 post (nI T) fk fs (d + 1) (nI i) ba (ev_fl ia (fun b => ki (T * 192 + b)) 0 i) (ev_U ba) kb ki := by
  intro d
  induction d with
  | zero =>
    intro i h
    refine br_t (nI_le (a := 192) (by omega) (by omega)) ?_
    rw [show i = 192 by omega]
    have := ex_r35 hT hV hg hp 512 0 (by omega)
    rw [ev_fl_0] at this
    exact ⟨_, this⟩
  | succ d ih =>
    intro i h
    refine br_f (nI_ge (b := 192) (by omega) (by omega)) ?_
    rw [ev_x192, nI_add, nI_clamp (n := i) (by omega), nI_clamp (by omega)]
    have e := ev_fl_s ia (fun b => ki (T * 192 + b)) 0 i
    rw [Nat.zero_add] at e
    exact ⟨vp_in_nI (by omega) (by omega), vp_in_nI (by omega) (by omega), nm_r e (nm_r (nI_1 i) (ih (i + 1) (by omega)))⟩
theorem ex_restore {post : SX → Prop} {T : Nat} (hT : T < 4) (hV : ev_V ba) (hg : ∀ k, k < 512 → kb (T * 512 + k) = -1 ∨ ∃ b, b < 192 ∧ kb (T * 512 + k) = nI b)
    (hp : post (fk, fs, ev_fl ba (fun k => kb (T * 512 + k)) 0 512, ev_fl ia (fun b => ki (T * 192 + b)) 0 192, ev_U (ev_fl ba (fun k => kb (T * 512 + k)) 0 512), kb, ki)) : wpX_restoreState post (fk, fs, ba, ia, ev_U ba, kb, ki) (nI T) := by
  have h := ex_r2 hT hV hg hp 192 0 (by omega)
  rw [ev_fl_0] at h
  exact ⟨_, h⟩
theorem ex_si {post : SX → Prop} {f p n : Nat} {x : Int32} (hf : f < 8) (hpn : p + n ≤ 64) (hA : ∀ i, i < n → ∃ b, b < 192 ∧ ba (64 * f + p + i) = nI b) (hp : post (fk, fs, ba, ev_iV ba ia x (64 * f + p) n, ua, kb, ki)) : ∀ d i, i + d = n → wX_setInts_3 post (nI f) (nI p) (nI n) x fk fs (d + 1) (nI i) ba (ev_iV ba ia x (64 * f + p) i) ua kb ki := by
  intro d
  induction d with
  | zero =>
    intro i h
    refine br_t (nI_le (by omega) (by omega)) ?_
    rw [show i = n by omega]; exact hp
  | succ d ih =>
    intro i h
    refine br_f (nI_ge (by omega) (by omega)) ?_
    rw [ev_ix, nI_add, nI_clamp (by omega)]
    refine ⟨vp_in_nI (by omega) (by omega), nm_e ?_⟩
    obtain ⟨b, hb, e⟩ := hA i (by omega)
    have hi := ih (i + 1) (by omega)
    have hv : ev_iV ba ia x (64 * f + p) (i + 1) = upd (ev_iV ba ia x (64 * f + p) i) b (x + nI i) := by
      show upd (ev_iV ba ia x (64 * f + p) i) (ba (64 * f + p + i)).toNatClampNeg (x + nI i) = _
      rw [e, nI_clamp (by omega)]
    refine br_f (by rw [e]; exact ev_ne1 (by omega)) ?_
    rw [e, nI_clamp (by omega)]
    exact ⟨vp_in_nI hb (by omega), nm_r hv.symm (nm_r (nI_1 i) hi)⟩
theorem ex_setInts {post : SX → Prop} {f p n : Nat} {x : Int32} (hf : f < 8) (hpn : p + n ≤ 64) (hA : ∀ i, i < n → ∃ b, b < 192 ∧ ba (64 * f + p + i) = nI b) (hp : post (fk, fs, ba, ev_iV ba ia x (64 * f + p) n, ua, kb, ki)) : wpX_setInts post (fk, fs, ba, ia, ua, kb, ki) (nI f) (nI p) (nI n) x :=
  ⟨_, ex_si hf hpn hA hp n 0 (by omega)⟩
end
end
section
/-! a row of pieces gets its blocks, on both sides alike -/
theorem ev_near_m1 {u : Nat → Int32} {b : Nat} (hb : b < 192) (h : b % 64 = 63 ∨ ¬ u (b + 1) = 0) : ev_near u (nI b) = -1 := by
  rcases ev_near_ok (u := u) hb with ⟨h1, _⟩ | ⟨h1, h2, _⟩
  · exact h1
  · rcases h with z | z
    · exact absurd z h1
    · exact absurd h2 z
theorem ev_near_p1 {u : Nat → Int32} {b : Nat} (hb : b < 192) (h : b % 64 ≠ 63) (h2 : u (b + 1) = 0) : ev_near u (nI b) = nI (b + 1) := by
  rcases ev_near_ok (u := u) hb with ⟨_, z | z⟩ | ⟨_, _, h3⟩
  · exact absurd z h
  · exact absurd h2 z
  · exact h3
/-- the choice: s is where, of left pieces -/
def ev_CH (u : Nat → Int32) (bf : Int32) (f left s : Nat) : Prop := s < 192 ∧ ev_st u bf f left = nI s ∧ 0 < ev_F u s ∧ (ev_near u bf = -1 → ¬ ev_best u f left = -1 → left ≤ ev_F u s) ∧ (ev_near u bf = -1 → ev_best u f left = -1 → ev_lg u 192 = (nI s, ev_F u s) ∧ ev_F u s < left)
section
variable {fk ff fl : Int32} {a v m as : Nat → Int32}
theorem ey_find {post : SY → Prop} {f left s : Nat} {bf : Int32} (hf : f < 8) (hl : left ≤ 64) (hl0 : 0 < left) (hV : ev_V a) (hm : ∀ j, 192 ≤ j → m j = 0) (hb : bf = -1 ∨ ∃ b, b < 192 ∧ bf = nI b) (hC : ev_CH (ev_U a) bf f left s)
    (hp : post (fk, nI s, nI (ev_mn (ev_F (ev_U a) s) left), a, v, ev_U a, as)) : wpY_find post (fk, ff, fl, a, v, m, as) (nI f) bf (nI left) := by
  obtain ⟨hs, hst, hF0, hbst, hlg⟩ := hC
  have hF := ev_F_le (ev_U a) s
  have h77 : ev_near (ev_U a) bf = -1 → ∃ n, wY_find_77 post (nI f) (nI left) fk a v (ev_U a) as n 0 ff fl := by
    intro hn
    refine ey_77 hf hl hl0 (fun z => ?_) (fun z => ?_)
    · have e : ev_best (ev_U a) f left = nI s := by
        unfold ev_st at hst
        rw [if_pos hn, if_neg z] at hst
        exact hst
      have := hbst hn z
      rw [e]
      unfold ev_mn at hp
      rw [if_neg (by omega)] at hp
      exact hp
    · obtain ⟨h1, h2⟩ := hlg hn z
      rw [h1]
      unfold ev_mn at hp
      rw [if_pos h2] at hp
      exact hp
  unfold wpY_find
  dsimp only
  refine ey_count hV hm ?_
  dsimp only
  refine nm_e ?_
  rcases hb with rfl | ⟨b, hb, rfl⟩
  · exact br_t (by decide) (h77 (ev_near_h _))
  · refine br_f (nI_pos (by omega)) ?_
    rw [nI_1]
    by_cases z1 : 192 ≤ b + 1
    · exact br_t (nI_le (a := 192) z1 (by omega)) (h77 (ev_near_m1 hb (Or.inl (by omega))))
    · refine br_f (nI_ge (b := 192) (by omega) (by omega)) ⟨ev_n64, ev_n64, ?_⟩
      rw [ev_d64 (b := b + 1) (by omega), ev_d64 (b := b) (by omega)]
      by_cases z2 : (b + 1) / 64 = b / 64
      · refine br_t (congrArg nI z2) ⟨vp_in_nI (by omega) (by omega), ?_⟩
        rw [nI_clamp (by omega)]
        by_cases z3 : ev_U a (b + 1) = 0
        · have hn := ev_near_p1 hb (by omega) z3
          have hsb : s = b + 1 := by
            unfold ev_st at hst
            rw [hn, if_neg (ev_ne1 (a := b + 1) (by omega))] at hst
            exact ev_inj hst.symm (by omega) (by omega)
          subst hsb
          refine br_t z3 (ey_ff (by omega) ?_)
          unfold ev_mn at hp
          by_cases z4 : left ≤ ev_F (ev_U a) (b + 1)
          · rw [if_neg (by omega)] at hp
            exact br_t (nI_le z4 (by omega)) hp
          · rw [if_pos (by omega)] at hp
            exact br_f (nI_ge (by omega) (by omega)) (ey_ff (by omega) hp)
        · exact br_f z3 (h77 (ev_near_m1 hb (Or.inr z3)))
      · exact br_f (fun y => z2 (ev_inj y (by omega) (by omega))) (h77 (ev_near_m1 hb (Or.inl (by omega))))
/-- the reference moves the pieces -/
theorem ey_63 {post : SY → Prop} {J : Int32 → Int32 → Int32 → Int32 → Int32 → (Nat → Int32) → (Nat → Int32) → (Nat → Int32) → (Nat → Int32) → Prop} {f p0 dn s n : Nat} {x3 : Int32} (hf : f < 8) (hpn : p0 + dn + n ≤ 64) (hs : s + n ≤ 192) (hn : 0 < n) (hV : ev_V a) (hfree : ∀ j, j < n → ev_U a (s + j) = 0)
    (hp : J (nI (dn + n)) (nI (s + n - 1)) fk ff fl (ev_mA a (64 * f + p0 + dn) s n) (ev_mV a v (64 * f + p0 + dn) s n) m as) :
    ∀ d i, i + d = n → wY_putDown_63 post J (nI f) (nI p0) x3 (nI dn) (nI s) (nI n) fk ff fl (d + 1) (nI i) (ev_mA a (64 * f + p0 + dn) s i) (ev_mV a v (64 * f + p0 + dn) s i) m as := by
  intro d
  induction d with
  | zero =>
    intro i h
    refine br_t (nI_le (by omega) (by omega)) (nm_r (nI_add dn n) (nm_r (e' := nI (s + n - 1)) (by rw [nI_add, ev_s1 (by omega)]) ?_))
    rw [show i = n by omega]; exact hp
  | succ d ih =>
    intro i h
    have hVi := (ev_mA_MF (k0 := 64 * f + p0 + dn) hV (by omega) hs hfree i (by omega)).1
    have hi := ih (i + 1) (by omega)
    refine br_f (nI_ge (by omega) (by omega)) (nm_r (e' := nI (64 * f + p0 + dn + i)) (by rw [ev_iy, nI_add, nI_add]) ⟨vp_in_nI (by omega) (by omega), ?_⟩)
    rw [nI_clamp (by omega), nI_add s i]
    refine nm_e ⟨vp_in_nI (by omega) (by omega), nm_e ?_⟩
    rcases hVi (64 * f + p0 + dn + i) (by omega) with e | ⟨b, hb, e⟩
    · have hv : ev_mV a v (64 * f + p0 + dn) s (i + 1) = ev_mV a v (64 * f + p0 + dn) s i := if_pos e
      rw [hv] at hi
      exact br_t (by rw [e]; decide) (nm_r (nI_1 i) hi)
    · have hv : ev_mV a v (64 * f + p0 + dn) s (i + 1) = upd (ev_mV a v (64 * f + p0 + dn) s i) (s + i) (ev_mV a v (64 * f + p0 + dn) s i b) := by
        have : ev_mV a v (64 * f + p0 + dn) s (i + 1) = upd (ev_mV a v (64 * f + p0 + dn) s i) (s + i) (ev_mV a v (64 * f + p0 + dn) s i (ev_mA a (64 * f + p0 + dn) s i (64 * f + p0 + dn + i)).toNatClampNeg) := if_neg (by rw [e]; exact ev_ne1 (by omega))
        rw [this, e, nI_clamp (by omega)]
      refine br_f (by rw [e]; exact nI_pos (by omega)) ?_
      rw [e, nI_clamp (n := b) (by omega), nI_clamp (n := s + i) (by omega)]
      exact ⟨vp_in_nI hb (by omega), vp_in_nI (by omega) (by omega), nm_r hv.symm (nm_r (nI_1 i) hi)⟩
end
section
variable {fk fs : Int32} {a v kb ki : Nat → Int32}
/-- one round of the component's placing -/
theorem ex_11 {post : SX → Prop} {f p e left s n rnd x3 : Nat} (hf : f < 8) (he : e ≤ 64) (hp : p + left = e) (hl0 : 0 < left) (hx : rnd < x3) (hx2 : x3 ≤ 64) (hV : ev_V a) (hC : ev_CH (ev_U a) (if p = 0 then -1 else a (64 * f + p - 1)) f left s)
    (h : wX_placeRow_11 post (nI f) (nI x3) (nI e) n (nI (p + ev_mn (ev_F (ev_U a) s) left)) (nI (rnd + 1)) fk fs (ev_mA a (64 * f + p) s (ev_mn (ev_F (ev_U a) s) left)) (ev_mV a v (64 * f + p) s (ev_mn (ev_F (ev_U a) s) left)) (ev_U (ev_mA a (64 * f + p) s (ev_mn (ev_F (ev_U a) s) left))) kb ki) :
    wX_placeRow_11 post (nI f) (nI x3) (nI e) (n + 1) (nI p) (nI rnd) fk fs a v (ev_U a) kb ki := by
  obtain ⟨hs, hst, hF0, hbst, hlg⟩ := hC
  have hF := ev_F_le (ev_U a) s
  obtain ⟨hm1, hm2⟩ := ev_mn_le (ev_F (ev_U a) s) left
  have h96 : wX_placeRow_96 post (wX_placeRow_11 post (nI f) (nI x3) (nI e) n) (nI f) (nI x3) (nI e) (nI p) (nI rnd) (nI s) (nI (ev_mn (ev_F (ev_U a) s) left)) fk fs a v (ev_U a) kb ki := by
    unfold wX_placeRow_96
    refine ex_mv hf (by omega) (by omega) hV (fun j hj => ev_F_in (by omega)) ?_
    exact nm_r (nI_add p _) (nm_r (nI_1 rnd) h)
  have h67 : wX_placeRow_67 post (wX_placeRow_11 post (nI f) (nI x3) (nI e) n) (nI f) (nI x3) (nI e) (nI p) (nI rnd) (nI left) (nI s) fk fs a v (ev_U a) kb ki := by
    refine br_f (ev_ne1 (by omega)) (ex_freeRun hs ?_)
    unfold ev_mn at h96
    by_cases z : left ≤ ev_F (ev_U a) s
    · rw [if_neg (by omega)] at h96
      exact br_t (nI_le z (by omega)) h96
    · rw [if_pos (by omega)] at h96
      exact br_f (nI_ge (by omega) (by omega)) h96
  refine br_f (nI_ge hx (by omega)) (br_f (nI_ge (by omega) (by omega)) (nm_r (e' := nI left) (by rw [pk_sub (by omega)]; exact congrArg nI (by omega)) ?_))
  refine ex_near hf (by omega) hV ?_
  unfold ev_st at hst
  by_cases z : ev_near (ev_U a) (if p = 0 then -1 else a (64 * f + p - 1)) = -1
  · rw [if_pos z] at hst
    refine br_t z (ex_best hf (by omega) ?_)
    by_cases y : ev_best (ev_U a) f left = -1
    · rw [if_pos y] at hst
      refine br_t y (ex_lg ?_)
      rw [hst]; exact h67
    · rw [if_neg y] at hst
      refine br_f y ?_
      rw [hst]; exact h67
  · rw [if_neg z] at hst
    refine br_f z ?_
    refine br_f z ?_
    rw [hst]; exact h67
end
/-- what a row's placing leaves behind -/
def ev_RW (f p e left : Nat) (a a' : Nat → Int32) : Prop := ev_V a' ∧ (∀ j, p ≤ j → j < e → ev_al a' (64 * f + j)) ∧ (∀ q, q < 512 → ev_al a q → ev_al a' q) ∧ (∀ q, (q < 64 * f + p ∨ 64 * f + e ≤ q) → a' q = a q) ∧ ev_fr (ev_U a) ≤ ev_fr (ev_U a') + left
theorem ev_rows {f e : Nat} (hf : f < 8) (he : e ≤ 64) : ∀ N left p (a v : Nat → Int32) (bf : Int32), left ≤ N → p + left = e → ev_V a → left ≤ ev_fr (ev_U a) → bf = (if p = 0 then -1 else a (64 * f + p - 1)) →
    ∃ a' v' : Nat → Int32, ev_RW f p e left a a' ∧
      (∀ (post : SX → Prop) (x3 n rnd : Nat) (fk fs : Int32) (kb ki : Nat → Int32), left < n → rnd + left ≤ x3 → x3 ≤ 64 → post (fk, fs, a', v', ev_U a', kb, ki) → wX_placeRow_11 post (nI f) (nI x3) (nI e) n (nI p) (nI rnd) fk fs a v (ev_U a) kb ki) ∧
      (∀ (post : SY → Prop) (p0 cn dn n : Nat) (fk ff fl : Int32) (m as : Nat → Int32), left < n → p0 + cn = e → p0 + dn = p → (∀ j, 192 ≤ j → m j = 0) → (∀ ff' fl' m', (∀ j, 192 ≤ j → m' j = 0) → post (fk, ff', fl', a', v', m', as)) → wY_putDown_31 post (nI f) (nI p0) (nI cn) n (nI dn) bf fk ff fl a v m as) := by
  intro N
  induction N with
  | zero =>
    intro left p a v bf hN hp hV hfr hbf
    refine ⟨a, v, ⟨hV, fun j h1 h2 => by omega, fun _ _ h => h, fun _ _ => rfl, by omega⟩, ?_, ?_⟩
    · intro post x3 n rnd fk fs kb ki hn hr hx hpost
      obtain ⟨n, rfl⟩ : ∃ n', n = n' + 1 := ⟨n - 1, by omega⟩
      exact br_c (fun _ => hpost) (fun _ => br_t (nI_le (by omega) (by omega)) hpost)
    · intro post p0 cn dn n fk ff fl m as hn h1 h2 hm hpost
      obtain ⟨n, rfl⟩ : ∃ n', n = n' + 1 := ⟨n - 1, by omega⟩
      exact br_t (nI_le (by omega) (by omega)) (hpost ff fl m hm)
  | succ N ih =>
    intro left p a v bf hN hp hV hfr hbf
    by_cases hl : left = 0
    · exact ih left p a v bf (by omega) hp hV hfr hbf
    · have hbv : bf = -1 ∨ ∃ b, b < 192 ∧ bf = nI b := by
        rw [hbf]
        by_cases z : p = 0
        · rw [if_pos z]; exact Or.inl rfl
        · rw [if_neg z]; exact hV _ (by omega)
      obtain ⟨s, hC⟩ : ∃ s, ev_CH (ev_U a) bf f left s := ev_st_ok (by omega) (by omega) hbv
      have hs := hC.1
      have hF0 := hC.2.2.1
      have hF := ev_F_le (ev_U a) s
      obtain ⟨M, hM⟩ : ∃ M, M = ev_mn (ev_F (ev_U a) s) left := ⟨_, rfl⟩
      have hm1 : M ≤ ev_F (ev_U a) s := by rw [hM]; exact (ev_mn_le _ _).1
      have hm2 : M ≤ left := by rw [hM]; exact (ev_mn_le _ _).2
      have hm0 : 0 < M := by rw [hM]; unfold ev_mn; split <;> omega
      have hfree : ∀ j, j < M → ev_U a (s + j) = 0 := fun j hj => ev_F_in (by omega)
      obtain ⟨c1, c2, c3, c4, c5, c6, c7⟩ := ev_mA_MF (k0 := 64 * f + p) (m := M) hV (by omega) (by omega) hfree M (Nat.le_refl _)
      have hb1 : nI (s + M - 1) = (if p + M = 0 then -1 else ev_mA a (64 * f + p) s M (64 * f + (p + M) - 1)) := by
        rw [if_neg (by omega), show 64 * f + (p + M) - 1 = 64 * f + p + (M - 1) by omega, c5 (M - 1) (by omega)]
        exact congrArg nI (by omega)
      obtain ⟨a', v', ⟨d1, d2, d3, d4, d5⟩, hX, hY⟩ := ih (left - M) (p + M) (ev_mA a (64 * f + p) s M) (ev_mV a v (64 * f + p) s M) (nI (s + M - 1)) (by omega) (by omega) c1 (by omega) hb1
      refine ⟨a', v', ⟨d1, ?_, ?_, ?_, by omega⟩, ?_, ?_⟩
      · intro j h1 h2
        by_cases z : p + M ≤ j
        · exact d2 j z h2
        · have := c2 (j - p) (by omega)
          rw [show 64 * f + p + (j - p) = 64 * f + j by omega] at this
          exact d3 _ (by omega) this
      · exact fun q h1 h2 => d3 q h1 (c3 q h1 h2)
      · intro q hq
        rw [d4 q (by omega), c4 q (by omega)]
      · intro post x3 n rnd fk fs kb ki hn hr hx hpost
        obtain ⟨n, rfl⟩ : ∃ n', n = n' + 1 := ⟨n - 1, by omega⟩
        refine ex_11 hf he hp (by omega) (by omega) hx hV (hbf ▸ hC) ?_
        rw [← hM]
        exact hX post x3 n (rnd + 1) fk fs kb ki (by omega) (by omega) hx hpost
      · intro post p0 cn dn n fk ff fl m as hn h1 h2 hm hpost
        obtain ⟨n, rfl⟩ : ∃ n', n = n' + 1 := ⟨n - 1, by omega⟩
        refine br_f (nI_ge (by omega) (by omega)) ?_
        rw [pk_sub (by omega), show cn - dn = left by omega]
        refine ey_find hf (by omega) (by omega) hV hm hbv hC ?_
        rw [← hM]
        have hidx : 64 * f + p0 + dn = 64 * f + p := by omega
        refine ⟨_, ey_63 (s := s) (n := M) (dn := dn) (p0 := p0) hf (by omega) (by omega) hm0 hV hfree ?_ M 0 (by omega)⟩
        rw [hidx]
        exact hY post p0 cn (dn + M) n fk (nI s) (nI M) (ev_U a) as (by omega) h1 (by omega) (fun j hj => ev_U_ge (by omega)) hpost
theorem ev_row_X {f p r : Nat} {a v a' v' : Nat → Int32} (hX : ∀ (post : SX → Prop) (x3 n rnd : Nat) (fk fs : Int32) (kb ki : Nat → Int32), r < n → rnd + r ≤ x3 → x3 ≤ 64 → post (fk, fs, a', v', ev_U a', kb, ki) → wX_placeRow_11 post (nI f) (nI x3) (nI (p + r)) n (nI p) (nI rnd) fk fs a v (ev_U a) kb ki) (hr : r ≤ 64) {post : SX → Prop} {fk fs : Int32} {kb ki : Nat → Int32} (hp : post (fk, fs, a', v', ev_U a', kb, ki)) :
    wpX_placeRow post (fk, fs, a, v, ev_U a, kb, ki) (nI f) (nI p) (nI r) :=
  nm_r (nI_add p r) ⟨_, hX post r (r + 1) 0 fk fs kb ki (by omega) (by omega) hr hp⟩
end
section
/-! the relation -/
def i_Rel (_ : Nat) (u : SX) (v : SY) : Prop := ∃ (K S : Nat) (ff fl : Int32) (a w kb ki m as : Nat → Int32), u = (nI K, nI S, a, w, ev_U a, kb, ki) ∧ v = (nI K, ff, fl, a, w, m, as) ∧ K ≤ 4 ∧ S < 4 ∧ ev_V a ∧ (∀ j, 192 ≤ j → m j = 0) ∧ ev_Rg K S kb ki as
theorem i_up {k : Nat} {u : SX} {v : SY} (h : i_Rel k u v) : i_Rel (k + 5) u v := h
theorem ev_rel {k K S : Nat} {ff fl : Int32} {a w kb ki m as : Nat → Int32} (hK : K ≤ 4) (hS : S < 4) (hV : ev_V a) (hm : ∀ j, 192 ≤ j → m j = 0) (hR : ev_Rg K S kb ki as) : i_Rel k (nI K, nI S, a, w, ev_U a, kb, ki) (nI K, ff, fl, a, w, m, as) :=
  ⟨K, S, ff, fl, a, w, kb, ki, m, as, rfl, rfl, hK, hS, hV, hm, hR⟩
theorem ev_kK_le {K : Nat} (h : K ≤ 4) : ev_kK K ≤ 4 := by
  unfold ev_kK; split <;> omega
theorem ev_kS_1 {as a v : Nat → Int32} {K k : Nat} (h : k < 512) : ev_kS as K a v (704 * K + k) = a k := by
  unfold ev_kS
  rw [ev_fl_out (by omega), ev_fl_in h]
theorem ev_kS_2 {as a v : Nat → Int32} {K k : Nat} (h : k < 192) : ev_kS as K a v (704 * K + 512 + k) = v k := by
  unfold ev_kS
  rw [ev_fl_in h]
theorem ev_kS_3 {as a v : Nat → Int32} {K k : Nat} (h : k < 704 * K) : ev_kS as K a v k = as k := by
  unfold ev_kS
  rw [ev_fl_out (by omega), ev_fl_out (by omega)]
theorem ev_keep_Rg {K S : Nat} {kb ki as a w : Nat → Int32} (hK : K ≤ 4) (hS : S < 4) (hV : ev_V a) (h : ev_Rg K S kb ki as) : ev_Rg (ev_kK K) ((S + 1) % 4) (ev_fl kb a (S * 512) 512) (ev_fl ki w (S * 192) 192) (ev_kA as K a w) := by
  unfold ev_kK ev_kA
  by_cases z : K = 4
  · rw [if_pos z, if_pos z]
    subst z
    have hd : ev_Rg 3 S kb ki (ev_kD as) := ev_Rg_d hS h (fun k hk => by
      have := ev_fl_in (f := as) (g := fun j => as (j + 704)) (o := 0) hk
      rw [Nat.zero_add] at this
      exact this)
    exact ev_Rg_s (K := 3) (by omega) hS hV hd (fun k hk => ev_fl_in hk) (fun k hk => ev_fl_out hk) (fun k hk => ev_fl_in hk) (fun k hk => ev_fl_out hk) (fun k hk => ev_kS_1 hk) (fun k hk => ev_kS_2 hk) (fun k hk => ev_kS_3 hk)
  · rw [if_neg z, if_neg z]
    exact ev_Rg_s (by omega) hS hV h (fun k hk => ev_fl_in hk) (fun k hk => ev_fl_out hk) (fun k hk => ev_fl_in hk) (fun k hk => ev_fl_out hk) (fun k hk => ev_kS_1 hk) (fun k hk => ev_kS_2 hk) (fun k hk => ev_kS_3 hk)

/-! new objects -/
theorem ex_init_l {post : SX → Prop} {x y z w : Nat → Int32} {b : Nat → Int32} (hp : post (0, 0, ev_fl b (fun _ => -1) 0 512, x, y, z, w)) : ∀ d i, i + d = 512 → wX_init_61 post 0 0 (d + 1) (nI i) (ev_fl b (fun _ => -1) 0 i) x y z w := by
  intro d
  induction d with
  | zero =>
    intro i h
    refine br_t (nI_le (a := 512) (by omega) (by omega)) ?_
    rw [show i = 512 by omega]; exact hp
  | succ d ih =>
    intro i h
    refine br_f (nI_ge (b := 512) (by omega) (by omega)) ⟨vp_in_nI (by omega) (by omega), ?_⟩
    rw [nI_clamp (by omega)]
    have e := ev_fl_s b (fun _ => -1) 0 i
    rw [Nat.zero_add] at e
    exact nm_r e (nm_r (nI_1 i) (ih (i + 1) (by omega)))
theorem ey_init_l {post : SY → Prop} {x y z : Nat → Int32} {b : Nat → Int32} (hp : post (0, 0, 0, ev_fl b (fun _ => -1) 0 512, x, y, z)) : ∀ d i, i + d = 512 → wY_init_42 post 0 0 0 (d + 1) (nI i) (ev_fl b (fun _ => -1) 0 i) x y z := by
  intro d
  induction d with
  | zero =>
    intro i h
    refine br_t (nI_le (a := 512) (by omega) (by omega)) ?_
    rw [show i = 512 by omega]; exact hp
  | succ d ih =>
    intro i h
    refine br_f (nI_ge (b := 512) (by omega) (by omega)) ⟨vp_in_nI (by omega) (by omega), ?_⟩
    rw [nI_clamp (by omega)]
    have e := ev_fl_s b (fun _ => -1) 0 i
    rw [Nat.zero_add] at e
    exact nm_r e (nm_r (nI_1 i) (ih (i + 1) (by omega)))
theorem ex_init {post : SX → Prop} (hp : post (0, 0, ev_fl (fun _ => 0) (fun _ => -1) 0 512, fun _ => 0, fun _ => 0, fun _ => 0, fun _ => 0)) : wpX_init post := by
  have h := ex_init_l hp 512 0 (by omega)
  rw [ev_fl_0] at h
  exact ⟨_, h⟩
theorem ey_init {post : SY → Prop} (hp : post (0, 0, 0, ev_fl (fun _ => 0) (fun _ => -1) 0 512, fun _ => 0, fun _ => 0, fun _ => 0)) : wpY_init post := by
  have h := ey_init_l hp 512 0 (by omega)
  rw [ev_fl_0] at h
  exact ⟨_, h⟩
theorem i_vc0 : wpX_init (fun u => wpY_init (fun v => i_Rel 0 u v)) := by
  refine ex_init (ey_init ?_)
  have h1 : ∀ k, k < 512 → ev_fl (fun _ => 0) (fun _ => -1) 0 512 k = -1 := by
    intro k hk
    have := ev_fl_in (f := fun _ => 0) (g := fun _ => -1) (o := 0) hk
    rw [Nat.zero_add] at this
    exact this
  have hV : ev_V (ev_fl (fun _ => 0) (fun _ => -1) 0 512) := fun k hk => Or.inl (h1 k hk)
  have := ev_rel (k := 0) (K := 0) (S := 0) (ff := 0) (fl := 0) (w := fun _ => 0) (kb := fun _ => 0) (ki := fun _ => 0) (m := fun _ => 0) (as := fun _ => 0) (by omega) (by omega) hV (fun _ _ => rfl) (ev_Rg_0 _ _ _ _)
  rw [ev_U_m1 h1] at this
  exact this

/-! the short methods -/
theorem i_vc_changes {k : Nat} {u : SX} {v : SY} (I : i_Rel k u v) (hk : k + 5 ≤ 2560) : wpX_changes (fun r => wpY_changes (fun r' => r' = r ∧ i_Rel (k + 5) u v) v) u := by
  have I' : i_Rel (k + 5) u v := I
  obtain ⟨K, S, ff, fl, a, w, kb, ki, m, as, rfl, rfl, hK, hS, hV, hm, hR⟩ := I
  exact ⟨rfl, I'⟩
theorem i_vc_settle {k : Nat} {u : SX} {v : SY} (I : i_Rel k u v) (hk : k + 5 ≤ 2560) : wpX_settle (fun r u' => wpY_settle (fun r' v' => r' = r ∧ i_Rel (k + 5) u' v') v) u := by
  obtain ⟨K, S, ff, fl, a, w, kb, ki, m, as, rfl, rfl, hK, hS, hV, hm, hR⟩ := I
  exact ⟨rfl, ev_rel (K := 0) (by omega) hS hV hm (ev_Rg_0 _ _ _ _)⟩
def ev_ok2 (x y : Int32) : Prop := ∃ f p : Nat, f < 8 ∧ p < 64 ∧ x = nI f ∧ y = nI p
theorem ev_ok_2 {x y : Int32} (h : ev_ok x y 1) : ev_ok2 x y := by
  obtain ⟨f, p, n, a, b, c, d, e1, e2, e3⟩ := h
  exact ⟨f, p, a, b, e1, e2⟩
section
variable {fk fs ff fl : Int32} {ba ia ua kb ki a v m as : Nat → Int32}
theorem ex_rng_t {post : Int32 → Prop} {f p n : Nat} (hf : f < 8) (hp : p < 64) (hn : 1 ≤ n) (hpn : p + n ≤ 64) (h : post 1) : wpX_isRange post (fk, fs, ba, ia, ua, kb, ki) (nI f) (nI p) (nI n) :=
  ex_isRange (fun _ => h) (fun z => absurd ⟨f, p, n, hf, hp, hn, hpn, rfl, rfl, rfl⟩ z)
theorem ex_rng_f {post : Int32 → Prop} {x y z : Int32} (hn : ¬ ev_ok x y z) (h : post 0) : wpX_isRange post (fk, fs, ba, ia, ua, kb, ki) x y z :=
  ex_isRange (fun z => absurd z hn) (fun _ => h)
theorem ey_row_t {post : Int32 → Prop} {f p n : Nat} (hf : f < 8) (hp : p < 64) (hn : 1 ≤ n) (hpn : p + n ≤ 64) (h : post 1) : wpY_isRow post (nI f) (nI p) (nI n) :=
  ey_isRow (fun _ => h) (fun z => absurd ⟨f, p, n, hf, hp, hn, hpn, rfl, rfl, rfl⟩ z)
theorem ey_row_f {post : Int32 → Prop} {x y z : Int32} (hn : ¬ ev_ok x y z) (h : post 0) : wpY_isRow post x y z :=
  ey_isRow (fun z => absurd z hn) (fun _ => h)
theorem ex_file_t {post : Int32 → Prop} {f : Nat} (hf : f < 8) (h : post 1) : wpX_isFile post (fk, fs, ba, ia, ua, kb, ki) (nI f) :=
  ex_isFile (fun _ _ _ => h) (fun z => absurd ⟨f, hf, rfl⟩ z)
theorem ex_file_f {post : Int32 → Prop} {x : Int32} (hn : ¬ ∃ j, j < 8 ∧ x = nI j) (h : post 0) : wpX_isFile post (fk, fs, ba, ia, ua, kb, ki) x :=
  ex_isFile (fun j hj e => absurd ⟨j, hj, e⟩ hn) (fun _ => h)
theorem ey_in_t {post : Int32 → Prop} {y : Int32} {f n : Nat} (hn : n < 2 ^ 31) (hy : y = nI n) (hf : f < n) (h : post 1) : wpY_in post (nI f) y := by
  subst hy
  exact ey_in n hn (fun _ _ _ => h) (fun z => absurd ⟨f, hf, rfl⟩ z)
theorem ey_in_f {post : Int32 → Prop} {x y : Int32} {n : Nat} (hn : n < 2 ^ 31) (hy : y = nI n) (hx : ¬ ∃ j, j < n ∧ x = nI j) (h : post 0) : wpY_in post x y := by
  subst hy
  exact ey_in n hn (fun j hj e => absurd ⟨j, hj, e⟩ hx) (fun _ => h)
theorem ex_place_t {post : Int32 → Prop} {f p : Nat} (hf : f < 8) (hp : p < 64) (h : post (ba (64 * f + p))) : wpX_place post (fk, fs, ba, ia, ua, kb, ki) (nI f) (nI p) := by
  unfold wpX_place
  dsimp only
  refine ex_rng_t (n := 1) hf hp (by omega) (by omega) (br_f ev_10 ?_)
  rw [ev_ix, nI_clamp (by omega)]
  exact ⟨vp_in_nI (by omega) (by omega), h⟩
theorem ex_place_f {post : Int32 → Prop} {x y : Int32} (hn : ¬ ev_ok2 x y) (h : post (-1)) : wpX_place post (fk, fs, ba, ia, ua, kb, ki) x y := by
  unfold wpX_place
  dsimp only
  exact ex_rng_f (fun z => hn (ev_ok_2 z)) (br_t rfl h)
theorem ey_place_t {post : Int32 → Prop} {f p : Nat} (hf : f < 8) (hp : p < 64) (h : post (a (64 * f + p))) : wpY_place post (fk, ff, fl, a, v, m, as) (nI f) (nI p) := by
  unfold wpY_place
  dsimp only
  refine ey_in_t (n := 8) (by decide) rfl hf (br_f ev_10 (ey_in_t (n := 64) (by decide) rfl hp (br_f ev_10 ?_)))
  rw [ev_iy, nI_clamp (by omega)]
  exact ⟨vp_in_nI (by omega) (by omega), h⟩
theorem ey_place_f {post : Int32 → Prop} {x y : Int32} (hn : ¬ ev_ok2 x y) (h : post (-1)) : wpY_place post (fk, ff, fl, a, v, m, as) x y := by
  unfold wpY_place
  dsimp only
  refine ey_in (n := 8) (by decide) (fun f hf ef => br_f ev_10 ?_) (fun _ => br_t rfl h)
  refine ey_in (n := 64) (by decide) (fun p hp ep => ?_) (fun _ => br_t rfl h)
  exact absurd ⟨f, p, hf, hp, ef, ep⟩ hn
end
theorem i_vc_place {k : Nat} {u : SX} {v : SY} (I : i_Rel k u v) (hk : k + 5 ≤ 2560) (v1 : Int32) (v2 : Int32) : wpX_place (fun r => wpY_place (fun r' => r' = r ∧ i_Rel (k + 5) u v) v v1 v2) u v1 v2 := by
  have I' : i_Rel (k + 5) u v := I
  obtain ⟨K, S, ff, fl, a, w, kb, ki, m, as, rfl, rfl, hK, hS, hV, hm, hR⟩ := I
  by_cases h : ev_ok2 v1 v2
  · obtain ⟨f, p, hf, hp, rfl, rfl⟩ := h
    exact ex_place_t hf hp (ey_place_t hf hp ⟨rfl, I'⟩)
  · exact ex_place_f h (ey_place_f h ⟨rfl, I'⟩)
theorem i_vc_read {k : Nat} {u : SX} {v : SY} (I : i_Rel k u v) (hk : k + 5 ≤ 2560) (v1 : Int32) (v2 : Int32) : wpX_read (fun r => wpY_read (fun r' => r' = r ∧ i_Rel (k + 5) u v) v v1 v2) u v1 v2 := by
  have I' : i_Rel (k + 5) u v := I
  obtain ⟨K, S, ff, fl, a, w, kb, ki, m, as, rfl, rfl, hK, hS, hV, hm, hR⟩ := I
  unfold wpX_read wpY_read
  dsimp only
  by_cases h : ev_ok2 v1 v2
  · obtain ⟨f, p, hf, hp, rfl, rfl⟩ := h
    refine ex_place_t hf hp ?_
    rcases hV (64 * f + p) (by omega) with e | ⟨b, hb, e⟩
    · refine br_t e (ey_place_t hf hp ?_)
      rw [e]
      exact br_f ev_m1le ⟨rfl, I'⟩
    · refine br_f (by rw [e]; exact ev_ne1 (by omega)) ?_
      rw [e, nI_clamp (by omega)]
      refine ⟨vp_in_nI hb (by omega), ey_place_t hf hp ?_⟩
      rw [e, nI_clamp (by omega)]
      exact br_t (nI_pos' (by omega)) ⟨vp_in_nI hb (by omega), rfl, I'⟩
  · exact ex_place_f h (br_t rfl (ey_place_f h (br_f ev_m1le ⟨rfl, I'⟩)))
theorem i_vc_uses {k : Nat} {u : SX} {v : SY} (I : i_Rel k u v) (hk : k + 5 ≤ 2560) (v1 : Int32) : wpX_uses (fun r => wpY_uses (fun r' v' => r' = r ∧ i_Rel (k + 5) u v') v v1) u v1 := by
  have I' : i_Rel (k + 5) u v := I
  obtain ⟨K, S, ff, fl, a, w, kb, ki, m, as, rfl, rfl, hK, hS, hV, hm, hR⟩ := I
  unfold wpX_uses wpY_uses
  dsimp only
  by_cases h : ∃ j, j < 192 ∧ v1 = nI j
  · obtain ⟨j, hj, rfl⟩ := h
    refine br_f (nI_pos (by omega)) (br_t (nI_lt (b := 192) hj (by omega)) ⟨vp_in_nI hj (by omega), ?_⟩)
    refine ey_in_t (n := 192) (by decide) rfl hj (br_f ev_10 (ey_count hV hm ?_))
    exact ⟨vp_in_nI hj (by omega), rfl, ev_rel hK hS hV (fun j hj => ev_U_ge (by omega)) hR⟩
  · refine br_c (fun _ => ey_in_f (n := 192) (by decide) rfl h (br_t rfl ⟨rfl, I'⟩)) (fun z => br_c (fun y => ?_) (fun _ => ey_in_f (n := 192) (by decide) rfl h (br_t rfl ⟨rfl, I'⟩)))
    obtain ⟨j, hj, rfl⟩ := nI_of z
    exact absurd ⟨j, (nI_ltI (b := 192) hj (by omega)).mp y, rfl⟩ h
end
section
/-! taking back -/
section
variable {fk fs ff fl : Int32} {ba ia ua kb ki a v m as : Nat → Int32}
theorem ey_b63 {post : Int32 → SY → Prop} {K : Nat} (hK : K < 4) (hp : post 1 (nI K, ff, fl, a, ev_fl v (fun b => as (704 * K + 512 + b)) 0 192, m, as)) : ∀ d i, i + d = 192 → wY_back_63 post (nI K) ff fl (d + 1) (nI i) a (ev_fl v (fun b => as (704 * K + 512 + b)) 0 i) m as := by
  intro d
  induction d with
  | zero =>
    intro i h
    refine br_t (nI_le (a := 192) (by omega) (by omega)) ?_
    rw [show i = 192 by omega]; exact hp
  | succ d ih =>
    intro i h
    refine br_f (nI_ge (b := 192) (by omega) (by omega)) ?_
    rw [ev_704x, ev_p512, nI_add, nI_clamp (n := i) (by omega), nI_clamp (by omega)]
    have e := ev_fl_s v (fun b => as (704 * K + 512 + b)) 0 i
    rw [Nat.zero_add] at e
    exact ⟨vp_in_nI (by omega) (by omega), vp_in_nI (by omega) (by omega), nm_r e (nm_r (nI_1 i) (ih (i + 1) (by omega)))⟩
theorem ey_b27 {post : Int32 → SY → Prop} {K : Nat} (hK : K < 4) (hp : post 1 (nI K, ff, fl, ev_fl a (fun k => as (704 * K + k)) 0 512, ev_fl v (fun b => as (704 * K + 512 + b)) 0 192, m, as)) : ∀ d i, i + d = 512 → wY_back_27 post (nI K) ff fl (d + 1) (nI i) (ev_fl a (fun k => as (704 * K + k)) 0 i) v m as := by
  intro d
  induction d with
  | zero =>
    intro i h
    refine br_t (nI_le (a := 512) (by omega) (by omega)) ?_
    rw [show i = 512 by omega]
    have := ey_b63 hK hp 192 0 (by omega)
    rw [ev_fl_0] at this
    exact ⟨_, this⟩
  | succ d ih =>
    intro i h
    refine br_f (nI_ge (b := 512) (by omega) (by omega)) ?_
    rw [ev_704x, nI_add, nI_clamp (n := i) (by omega), nI_clamp (by omega)]
    have e := ev_fl_s a (fun k => as (704 * K + k)) 0 i
    rw [Nat.zero_add] at e
    exact ⟨vp_in_nI (by omega) (by omega), vp_in_nI (by omega) (by omega), nm_r e (nm_r (nI_1 i) (ih (i + 1) (by omega)))⟩
end
theorem i_vc_back {k : Nat} {u : SX} {v : SY} (I : i_Rel k u v) (hk : k + 5 ≤ 2560) (v1 : Int32) : wpX_back (fun r u' => wpY_back (fun r' v' => r' = r ∧ i_Rel (k + 5) u' v') v v1) u v1 := by
  have I' : i_Rel (k + 5) u v := I
  obtain ⟨K, S, ff, fl, a, w, kb, ki, m, as, rfl, rfl, hK, hS, hV, hm, hR⟩ := I
  unfold wpX_back wpY_back
  dsimp only
  refine br_c (fun z => br_t z ⟨rfl, I'⟩) (fun z => ?_)
  have hz : ¬ v1 < 0 := fun y => z (Int32.lt_trans y (by decide))
  obtain ⟨n, hn, rfl⟩ := nI_of hz
  have h1 : 1 ≤ n := by
    by_cases y : n = 0
    · rw [y] at z; exact absurd (by decide) z
    · omega
  by_cases y : n ≤ K
  · refine br_t (nI_le y (by omega)) ⟨ev_n4, ?_⟩
    rw [ev_p4, pk_sub (a := S + 4) (by omega), ev_r4 (by omega), pk_sub (a := K) y]
    refine nm_e (nm_e ?_)
    obtain ⟨q1, q2, q3⟩ := ev_Rg_at hK hS h1 y hR
    have hR' := ev_Rg_b hK hS h1 y hR
    have hg : ∀ j, j < 512 → kb ((S + 4 - n) % 4 * 512 + j) = -1 ∨ ∃ b, b < 192 ∧ kb ((S + 4 - n) % 4 * 512 + j) = nI b := by
      intro j hj
      rw [← q1 j hj]
      exact q3 j hj
    refine ex_restore (by omega) hV hg ?_
    refine br_f z (br_t (nI_le y (by omega)) (nm_e ?_))
    have hb := ey_b27 (K := K - n) (ff := ff) (fl := fl) (a := a) (v := w) (m := m) (as := as) (post := fun r' v' => r' = 1 ∧ i_Rel (k + 5) (nI (K - n), nI ((S + 4 - n) % 4), ev_fl a (fun k => kb ((S + 4 - n) % 4 * 512 + k)) 0 512, ev_fl w (fun b => ki ((S + 4 - n) % 4 * 192 + b)) 0 192, ev_U (ev_fl a (fun k => kb ((S + 4 - n) % 4 * 512 + k)) 0 512), kb, ki) v') (by omega) (by
        refine ⟨rfl, ?_⟩
        rw [ev_fl_congr q1, ev_fl_congr q2]
        exact ev_rel (by omega) (by omega) (ev_fl_V hV hg) hm hR') 512 0 (by omega)
    rw [ev_fl_0] at hb
    exact ⟨_, hb⟩
  · exact br_f (nI_ge (by omega) (by omega)) (br_f z (br_f (nI_ge (by omega) (by omega)) ⟨rfl, I'⟩))

/-! punching -/
section
variable {fk fs ff fl : Int32} {ba ia ua kb ki a v m as : Nat → Int32}
theorem ev_pA_c {o n : Nat} (ho : o + n ≤ 512) (hV : ev_V a) : ∀ i, i ≤ n → ev_fr (ev_U a) ≤ ev_fr (ev_U (ev_pA a o i)) := by
  intro i
  induction i with
  | zero => exact fun _ => Nat.le_refl _
  | succ i ih =>
    intro hi
    have := ih (by omega)
    show ev_fr (ev_U a) ≤ ev_fr (ev_U (upd (ev_pA a o i) (o + i) (-1)))
    rcases ev_pA_V hV o i (o + i) (by omega) with e | ⟨b, hb, e⟩
    · rw [ev_same _ _ _ e]; exact this
    · rw [ev_fr_out (by omega) hb e]; omega
theorem ex_p22 {post : Int32 → SX → Prop} {f p n : Nat} (hf : f < 8) (hpn : p + n ≤ 64) (hV : ev_V ba)
    (hp : post (nI (ev_fr (ev_U (ev_pA ba (64 * f + p) n)) - ev_fr (ev_U ba))) (fk, fs, ev_pA ba (64 * f + p) n, ia, ev_U (ev_pA ba (64 * f + p) n), kb, ki)) :
    ∀ d i, i + d = n → wX_punch_22 post (nI f) (nI p) (nI n) (d + 1) (nI (ev_fr (ev_U (ev_pA ba (64 * f + p) i)) - ev_fr (ev_U ba))) (nI i) fk fs (ev_pA ba (64 * f + p) i) ia (ev_U (ev_pA ba (64 * f + p) i)) kb ki := by
  intro d
  induction d with
  | zero =>
    intro i h
    refine br_t (nI_le (by omega) (by omega)) ?_
    rw [show i = n by omega]; exact hp
  | succ d ih =>
    intro i h
    have hVi := ev_pA_V hV (64 * f + p) i
    have hi := ih (i + 1) (by omega)
    have hc := ev_pA_c (o := 64 * f + p) (n := n) (by omega) hV i (by omega)
    refine br_f (nI_ge (by omega) (by omega)) (nm_r (e' := nI (64 * f + p + i)) (by rw [ev_ix, nI_add]) ⟨vp_in_nI (by omega) (by omega), ?_⟩)
    rw [nI_clamp (by omega)]
    refine nm_e (ex_setBlock (by omega) hVi (Or.inl rfl) ?_)
    have hs : ev_pA ba (64 * f + p) (i + 1) = upd (ev_pA ba (64 * f + p) i) (64 * f + p + i) (-1) := rfl
    rcases hVi (64 * f + p + i) (by omega) with e | ⟨b, hb, e⟩
    · refine br_t e (nm_r (nI_1 i) ?_)
      rw [hs, ev_same _ _ _ e] at hi
      rw [ev_same _ _ _ e]
      exact hi
    · refine br_f (by rw [e]; exact ev_ne1 (by omega)) ?_
      rw [e, nI_clamp (by omega)]
      refine ⟨vp_in_nI hb (by omega), ?_⟩
      have ho := ev_fr_out (a := ev_pA ba (64 * f + p) i) (k := 64 * f + p + i) (by omega) hb e
      rw [hs] at hi
      by_cases z : ev_U (upd (ev_pA ba (64 * f + p) i) (64 * f + p + i) (-1)) b = 0
      · rw [if_pos z] at ho
        rw [ho, show ev_fr (ev_U (ev_pA ba (64 * f + p) i)) + 1 - ev_fr (ev_U ba) = ev_fr (ev_U (ev_pA ba (64 * f + p) i)) - ev_fr (ev_U ba) + 1 by omega] at hi
        exact br_t z (nm_r (nI_1 _) (nm_r (nI_1 i) hi))
      · rw [if_neg z] at ho
        rw [ho, Nat.add_zero] at hi
        exact br_f z (nm_r (nI_1 i) hi)
theorem ey_p24 {post : Int32 → SY → Prop} {f p n c : Nat} (hf : f < 8) (hpn : p + n ≤ 64) (hV : ev_V a) (hm : ∀ j, 192 ≤ j → m j = 0) (hc : c ≤ ev_fr (ev_U (ev_pA a (64 * f + p) n)))
    (hp : post (nI (ev_fr (ev_U (ev_pA a (64 * f + p) n)) - c)) (fk, ff, fl, ev_pA a (64 * f + p) n, v, ev_U (ev_pA a (64 * f + p) n), as)) :
    ∀ d i, i + d = n → wY_punch_24 post (nI f) (nI p) (nI n) (nI c) fk ff fl (d + 1) (nI (p + i)) (ev_pA a (64 * f + p) i) v m as := by
  intro d
  induction d with
  | zero =>
    intro i h
    refine br_t (by rw [nI_add]; exact nI_le (by omega) (by omega)) ?_
    rw [show i = n by omega]
    refine ey_fb (ev_pA_V hV _ _) hm ?_
    dsimp only
    rw [pk_sub hc]; exact hp
  | succ d ih =>
    intro i h
    refine br_f (by rw [nI_add]; exact nI_ge (by omega) (by omega)) ?_
    rw [ev_iy, nI_clamp (by omega), show 64 * f + (p + i) = 64 * f + p + i by omega]
    exact ⟨vp_in_nI (by omega) (by omega), nm_e (nm_r (nI_1 (p + i)) (ih (i + 1) (by omega)))⟩
end
theorem i_vc_punch {k : Nat} {u : SX} {v : SY} (I : i_Rel k u v) (hk : k + 5 ≤ 2560) (v1 : Int32) (v2 : Int32) (v3 : Int32) : wpX_punch (fun r u' => wpY_punch (fun r' v' => r' = r ∧ i_Rel (k + 5) u' v') v v1 v2 v3) u v1 v2 v3 := by
  have I' : i_Rel (k + 5) u v := I
  obtain ⟨K, S, ff, fl, a, w, kb, ki, m, as, rfl, rfl, hK, hS, hV, hm, hR⟩ := I
  unfold wpX_punch wpY_punch
  dsimp only
  by_cases h : ev_ok v1 v2 v3
  · obtain ⟨f, p, n, hf, hp, hn, hpn, rfl, rfl, rfl⟩ := h
    refine ex_rng_t hf hp hn hpn (br_f ev_10 (ex_keep hK hS ?_))
    have h0 : nI (ev_fr (ev_U (ev_pA a (64 * f + p) 0)) - ev_fr (ev_U a)) = 0 := by
      show nI (ev_fr (ev_U a) - ev_fr (ev_U a)) = 0
      rw [Nat.sub_self, nI_0]
    have hx := fun (post : Int32 → SX → Prop) hp => ex_p22 (post := post) (fk := nI (ev_kK K)) (fs := nI ((S + 1) % 4)) (ia := w) (kb := ev_fl kb a (S * 512) 512) (ki := ev_fl ki w (S * 192) 192) hf hpn hV hp n 0 (by omega)
    rw [h0] at hx
    refine ⟨_, hx _ ?_⟩
    refine ey_row_t hf hp hn hpn (br_f ev_10 (ey_fb hV hm (ey_keep hK ?_)))
    refine ⟨_, ey_p24 hf hpn hV (fun j hj => ev_U_ge (a := a) (j := j) (by omega)) (ev_pA_c (by omega) hV n (Nat.le_refl _)) ?_ n 0 (by omega)⟩
    exact ⟨rfl, ev_rel (ev_kK_le hK) (by omega) (ev_pA_V hV _ _) (fun j hj => ev_U_ge (by omega)) (ev_keep_Rg hK hS hV hR)⟩
  · exact ex_rng_f h (br_t rfl (ey_row_f h (br_t rfl ⟨rfl, I'⟩)))

/-! sharing -/
section
variable {fk fs ff fl : Int32} {ba ia ua kb ki a v m as : Nat → Int32}
theorem ex_s36 {post : Int32 → SX → Prop} {f t p n : Nat} (hf : f < 8) (ht : t < 8) (hpn : p + n ≤ 64) (hV : ev_V ba) :
    ∀ d i c, i + d = n → ∃ c', (∀ (fk fs : Int32) (ia kb ki : Nat → Int32) (post : Int32 → SX → Prop), post (nI c') (fk, fs, ev_sA ba (64 * f + p) (64 * t + p) n, ia, ev_U (ev_sA ba (64 * f + p) (64 * t + p) n), kb, ki) → wX_share_36 post (nI f) (nI t) (nI p) (nI n) (d + 1) (nI c) (nI i) fk fs (ev_sA ba (64 * f + p) (64 * t + p) i) ia (ev_U (ev_sA ba (64 * f + p) (64 * t + p) i)) kb ki) ∧
      (∀ (fk ff fl : Int32) (v m as : Nat → Int32) (post : Int32 → SY → Prop), post (nI c') (fk, ff, fl, ev_sA ba (64 * f + p) (64 * t + p) n, v, m, as) → wY_share_36 post (nI f) (nI t) (nI p) (nI n) fk ff fl (d + 1) (nI c) (nI (p + i)) (ev_sA ba (64 * f + p) (64 * t + p) i) v m as) := by
  intro d
  induction d with
  | zero =>
    intro i c h
    refine ⟨c, fun fk fs ia kb ki post hp => br_t (nI_le (by omega) (by omega)) ?_, fun fk ff fl v m as post hp => br_t (by rw [nI_add]; exact nI_le (by omega) (by omega)) ?_⟩
    · rw [show i = n by omega]; exact hp
    · rw [show i = n by omega]; exact hp
  | succ d ih =>
    intro i c h
    have hVi := ev_sA_V (o := 64 * f + p) (t := 64 * t + p) (n := n) hV (by omega) i (by omega)
    have hx := hVi (64 * f + p + i) (by omega)
    have hs : ev_sA ba (64 * f + p) (64 * t + p) (i + 1) = upd (ev_sA ba (64 * f + p) (64 * t + p) i) (64 * t + p + i) (ev_sA ba (64 * f + p) (64 * t + p) i (64 * f + p + i)) := rfl
    obtain ⟨c0, hX0, hY0⟩ := ih (i + 1) c (by omega)
    obtain ⟨c1, hX1, hY1⟩ := ih (i + 1) (c + 1) (by omega)
    rw [hs] at hX0 hY0 hX1 hY1
    by_cases z : ev_sA ba (64 * f + p) (64 * t + p) i (64 * f + p + i) = -1
    · refine ⟨c0, fun fk fs ia kb ki post hp => br_f (nI_ge (by omega) (by omega)) ?_, fun fk ff fl v m as post hp => br_f (by rw [nI_add]; exact nI_ge (by omega) (by omega)) ?_⟩
      · rw [ev_ix, nI_add, ev_ix, nI_add, nI_clamp (by omega)]
        refine ⟨vp_in_nI (by omega) (by omega), nm_e (ex_setBlock (by omega) hVi hx ?_)⟩
        exact br_t z (nm_r (nI_1 i) (hX0 fk fs ia kb ki post hp))
      · rw [ev_iy, ev_iy, nI_clamp (n := 64 * f + (p + i)) (by omega), nI_clamp (n := 64 * t + (p + i)) (by omega), show 64 * f + (p + i) = 64 * f + p + i by omega, show 64 * t + (p + i) = 64 * t + p + i by omega]
        refine ⟨vp_in_nI (by omega) (by omega), vp_in_nI (by omega) (by omega), nm_e ⟨vp_in_nI (by omega) (by omega), ?_⟩⟩
        rw [pk_us]
        exact br_t (by rw [z]; decide) (nm_r (nI_1 (p + i)) (hY0 fk ff fl v m as post hp))
    · refine ⟨c1, fun fk fs ia kb ki post hp => br_f (nI_ge (by omega) (by omega)) ?_, fun fk ff fl v m as post hp => br_f (by rw [nI_add]; exact nI_ge (by omega) (by omega)) ?_⟩
      · rw [ev_ix, nI_add, ev_ix, nI_add, nI_clamp (by omega)]
        refine ⟨vp_in_nI (by omega) (by omega), nm_e (ex_setBlock (by omega) hVi hx ?_)⟩
        exact br_f z (nm_r (nI_1 c) (nm_r (nI_1 i) (hX1 fk fs ia kb ki post hp)))
      · rw [ev_iy, ev_iy, nI_clamp (n := 64 * f + (p + i)) (by omega), nI_clamp (n := 64 * t + (p + i)) (by omega), show 64 * f + (p + i) = 64 * f + p + i by omega, show 64 * t + (p + i) = 64 * t + p + i by omega]
        refine ⟨vp_in_nI (by omega) (by omega), vp_in_nI (by omega) (by omega), nm_e ⟨vp_in_nI (by omega) (by omega), ?_⟩⟩
        rw [pk_us]
        refine br_f ?_ (nm_r (nI_1 c) (nm_r (nI_1 (p + i)) (hY1 fk ff fl v m as post hp)))
        rcases hx with y | ⟨b, hb, y⟩
        · exact absurd y z
        · rw [y]; exact nI_pos (by omega)
end
theorem i_vc_share {k : Nat} {u : SX} {v : SY} (I : i_Rel k u v) (hk : k + 5 ≤ 2560) (v1 : Int32) (v2 : Int32) (v3 : Int32) (v4 : Int32) : wpX_share (fun r u' => wpY_share (fun r' v' => r' = r ∧ i_Rel (k + 5) u' v') v v1 v2 v3 v4) u v1 v2 v3 v4 := by
  have I' : i_Rel (k + 5) u v := I
  obtain ⟨K, S, ff, fl, a, w, kb, ki, m, as, rfl, rfl, hK, hS, hV, hm, hR⟩ := I
  unfold wpX_share wpY_share
  dsimp only
  by_cases h : ev_ok v1 v3 v4
  · obtain ⟨f, p, n, hf, hp, hn, hpn, rfl, rfl, rfl⟩ := h
    refine ex_rng_t hf hp hn hpn (br_f ev_10 ?_)
    by_cases h2 : ∃ j, j < 8 ∧ v2 = nI j
    · obtain ⟨t, ht, rfl⟩ := h2
      refine ex_file_t ht (br_f ev_10 ?_)
      by_cases e : f = t
      · subst e
        exact br_t rfl (ey_row_t hf hp hn hpn (br_f ev_10 (ey_in_t (n := 8) (by decide) rfl ht (br_f ev_10 (br_t rfl ⟨rfl, I'⟩)))))
      · refine br_f (fun y => e (ev_inj y (by omega) (by omega))) (ex_keep hK hS ?_)
        obtain ⟨c, hX, hY⟩ := ex_s36 (post := fun _ _ => True) hf ht hpn hV n 0 0 (by omega)
        refine ⟨_, hX _ _ _ _ _ _ ?_⟩
        refine ey_row_t hf hp hn hpn (br_f ev_10 (ey_in_t (n := 8) (by decide) rfl ht (br_f ev_10 (br_f (fun y => e (ev_inj y.symm (by omega) (by omega))) (ey_keep hK ?_)))))
        refine ⟨_, hY _ _ _ _ _ _ _ ?_⟩
        exact ⟨rfl, ev_rel (ev_kK_le hK) (by omega) (ev_sA_V (n := n) hV (by omega) n (Nat.le_refl _)) hm (ev_keep_Rg hK hS hV hR)⟩
    · exact ex_file_f h2 (br_t rfl (ey_row_t hf hp hn hpn (br_f ev_10 (ey_in_f (n := 8) (by decide) rfl h2 (br_t rfl ⟨rfl, I'⟩)))))
  · exact ex_rng_f h (br_t rfl (ey_row_f h (br_t rfl ⟨rfl, I'⟩)))
end
section
/-! extents of a file -/
section
variable {fk fs ff fl : Int32} {ba ia ua kb ki a v m as : Nat → Int32}
theorem ev_xb_t {o j : Nat} (h1 : ¬ a j = -1) (h2 : ev_pv a o j = -1 ∨ ¬ a j = ev_nx (ev_pv a o j)) : ev_xb a o j = true := decide_eq_true ⟨h1, h2⟩
theorem ev_xb_f {o j : Nat} (h : a j = -1 ∨ (¬ ev_pv a o j = -1 ∧ a j = ev_nx (ev_pv a o j))) : ¬ ev_xb a o j = true := by
  intro z
  have y := of_decide_eq_true z
  rcases h with h | ⟨h1, h2⟩
  · exact y.1 h
  · exact y.2.elim h1 (fun x => x h2)
theorem ex_e17 {post : Int32 → Prop} {f : Nat} (hf : f < 8) (hV : ev_V ba) (hp : post (nI (ev_ct (ev_xb ba (64 * f)) (64 * f) 64))) : ∀ d i, i + d = 64 → wX_extents_17 post (nI f) fk fs ba ia ua kb ki (d + 1) (nI (ev_ct (ev_xb ba (64 * f)) (64 * f) i)) (ev_pv ba (64 * f) (64 * f + i)) (nI i) := by
  intro d
  induction d with
  | zero =>
    intro i h
    refine br_t (nI_le (a := 64) (by omega) (by omega)) ?_
    rw [show i = 64 by omega]; exact hp
  | succ d ih =>
    intro i h
    have hi := ih (i + 1) (by omega)
    rw [ev_pv_s] at hi
    refine br_f (nI_ge (b := 64) (by omega) (by omega)) ?_
    rw [ev_ix, nI_clamp (by omega)]
    refine ⟨vp_in_nI (by omega) (by omega), nm_e ?_⟩
    by_cases e : ba (64 * f + i) = -1
    · rw [ev_ct_f (ev_xb_f (Or.inl e))] at hi
      exact br_t e (nm_r (nI_1 i) hi)
    · refine br_f e ?_
      rcases ev_pv_V (o := 64 * f) (j := 64 * f + i) hV (by omega) (by omega) with z | ⟨c, hc, z⟩
      · rw [ev_ct_t (ev_xb_t e (Or.inl z))] at hi
        exact br_t z (nm_r (nI_1 _) (nm_r (nI_1 i) hi))
      · refine br_f (by rw [z]; exact ev_ne1 (by omega)) ?_
        rw [z]
        refine ex_next hc ?_
        by_cases y : ba (64 * f + i) = ev_nx (nI c)
        · rw [ev_ct_f (ev_xb_f (Or.inr ⟨by rw [z]; exact ev_ne1 (by omega), by rw [z]; exact y⟩))] at hi
          exact br_t y (nm_r (nI_1 i) hi)
        · rw [ev_ct_t (ev_xb_t e (Or.inr (by rw [z]; exact y)))] at hi
          exact br_f y (nm_r (nI_1 _) (nm_r (nI_1 i) hi))
theorem ex_extents {post : Int32 → Prop} {f : Nat} (hf : f < 8) (hV : ev_V ba) (hp : post (nI (ev_ct (ev_xb ba (64 * f)) (64 * f) 64))) : wpX_extents post (fk, fs, ba, ia, ua, kb, ki) (nI f) := by
  unfold wpX_extents
  dsimp only
  have h := ex_e17 (fk := fk) (fs := fs) (ia := ia) (ua := ua) (kb := kb) (ki := ki) hf hV hp 64 0 (by omega)
  rw [show ev_pv ba (64 * f) (64 * f + 0) = -1 from if_pos (Nat.add_zero _)] at h
  exact ex_file_t hf (br_f ev_10 ⟨_, h⟩)
theorem ey_e55 {post : Int32 → Prop} {J : Int32 → Int32 → Prop} {x1 : Int32} {f i : Nat} (hf : f < 8) (hi : i < 64) (hV : ev_V a) (hp : J (nI (ev_ct (ev_xb a (64 * f)) (64 * f) (i + 1))) (nI (i + 1))) : wY_extents_55 post J x1 (nI (ev_ct (ev_xb a (64 * f)) (64 * f) i)) (nI i) (a (64 * f + i)) (ev_pv a (64 * f) (64 * f + i)) fk ff fl a v m as := by
  rcases hV (64 * f + i) (by omega) with e | ⟨b, hb, e⟩
  · rw [ev_ct_f (ev_xb_f (Or.inl e))] at hp
    exact br_t (by rw [e]; decide) (nm_r (nI_1 i) hp)
  · have e1 : ¬ a (64 * f + i) = -1 := by rw [e]; exact ev_ne1 (by omega)
    refine br_f (by rw [e]; exact nI_pos (by omega)) ?_
    rcases ev_pv_V (o := 64 * f) (j := 64 * f + i) hV (by omega) (by omega) with z | ⟨c, hc, z⟩
    · rw [ev_ct_t (ev_xb_t e1 (Or.inl z))] at hp
      exact br_t (by rw [z]; decide) (nm_r (nI_1 _) (nm_r (nI_1 i) hp))
    · have hz : ¬ ev_pv a (64 * f) (64 * f + i) = -1 := by rw [z]; exact ev_ne1 (by omega)
      refine br_f (by rw [z]; exact nI_pos (by omega)) ?_
      have hnx := ev_nx_nI hc
      by_cases y : b = c + 1
      · refine br_t (by rw [e, z, nI_1, y]) ⟨ev_n64, ev_n64, ?_⟩
        rw [e, z, ev_d64 (b := b) (by omega), ev_d64 (b := c) (by omega)]
        by_cases x : b / 64 = c / 64
        · rw [ev_ct_f (ev_xb_f (Or.inr ⟨hz, by rw [e, z, hnx, if_neg (by omega), y]⟩))] at hp
          exact br_t (congrArg nI x) (nm_r (nI_1 i) hp)
        · rw [ev_ct_t (ev_xb_t e1 (Or.inr (by rw [z, hnx, if_pos (by omega)]; exact e1)))] at hp
          exact br_f (fun q => x (ev_inj q (by omega) (by omega))) (nm_r (nI_1 _) (nm_r (nI_1 i) hp))
      · have hne : ¬ a (64 * f + i) = ev_nx (ev_pv a (64 * f) (64 * f + i)) := by
          rw [z, hnx]
          by_cases x : c % 64 = 63
          · rw [if_pos x]; exact e1
          · rw [if_neg x, e]
            exact fun q => y (ev_inj q (by omega) (by omega))
        rw [ev_ct_t (ev_xb_t e1 (Or.inr hne))] at hp
        exact br_f (by rw [e, z, nI_1]; exact fun q => y (ev_inj q (by omega) (by omega))) (nm_r (nI_1 _) (nm_r (nI_1 i) hp))
theorem ey_e15 {post : Int32 → Prop} {f : Nat} (hf : f < 8) (hV : ev_V a) (hp : post (nI (ev_ct (ev_xb a (64 * f)) (64 * f) 64))) : ∀ d i, i + d = 64 → wY_extents_15 post (nI f) fk ff fl a v m as (d + 1) (nI (ev_ct (ev_xb a (64 * f)) (64 * f) i)) (nI i) := by
  intro d
  induction d with
  | zero =>
    intro i h
    refine br_t (nI_le (a := 64) (by omega) (by omega)) ?_
    rw [show i = 64 by omega]; exact hp
  | succ d ih =>
    intro i h
    have hi := ih (i + 1) (by omega)
    have h55 := ey_e55 (post := post) (x1 := nI f) (fk := fk) (ff := ff) (fl := fl) (v := v) (m := m) (as := as) (J := wY_extents_15 post (nI f) fk ff fl a v m as (d + 1)) hf (by omega) hV hi
    refine br_f (nI_ge (b := 64) (by omega) (by omega)) ?_
    rw [ev_iy]
    refine ⟨vp_in_nI (by omega) (by omega), ?_⟩
    rw [nI_clamp (n := 64 * f + i) (by omega)]
    refine nm_e ?_
    by_cases z : i = 0
    · subst z
      rw [show ev_pv a (64 * f) (64 * f + 0) = -1 from if_pos (Nat.add_zero _)] at h55
      exact br_t rfl h55
    · refine br_f (fun y => z ((ev_eq0 (by omega)).mp y)) ?_
      rw [ev_s1 (by omega), nI_clamp (by omega)]
      have hpv : ev_pv a (64 * f) (64 * f + i) = a (64 * f + i - 1) := if_neg (by omega)
      rw [hpv] at h55
      exact ⟨vp_in_nI (by omega) (by omega), h55⟩
theorem ey_extents {post : Int32 → Prop} {f : Nat} (hf : f < 8) (hV : ev_V a) (hp : post (nI (ev_ct (ev_xb a (64 * f)) (64 * f) 64))) : wpY_extents post (fk, ff, fl, a, v, m, as) (nI f) := by
  unfold wpY_extents
  dsimp only
  exact ey_in_t (n := 8) (by decide) rfl hf (br_f ev_10 ⟨_, ey_e15 hf hV hp 64 0 (by omega)⟩)
end
theorem i_vc_extents {k : Nat} {u : SX} {v : SY} (I : i_Rel k u v) (hk : k + 5 ≤ 2560) (v1 : Int32) : wpX_extents (fun r => wpY_extents (fun r' => r' = r ∧ i_Rel (k + 5) u v) v v1) u v1 := by
  have I' : i_Rel (k + 5) u v := I
  obtain ⟨K, S, ff, fl, a, w, kb, ki, m, as, rfl, rfl, hK, hS, hV, hm, hR⟩ := I
  by_cases h : ∃ j, j < 8 ∧ v1 = nI j
  · obtain ⟨f, hf, rfl⟩ := h
    exact ex_extents hf hV (ey_extents hf hV ⟨rfl, I'⟩)
  · unfold wpX_extents wpY_extents
    dsimp only
    exact ex_file_f h (br_t rfl (ey_in_f (n := 8) (by decide) rfl h (br_t rfl ⟨rfl, I'⟩)))

/-! room -/
section
variable {fk fs ff fl : Int32} {ba ia ua kb ki a v m as : Nat → Int32}
theorem ey_beg {post : Int32 → Prop} {b : Nat} (hb : b < 192) (h1 : 0 < ev_E (ev_U a) b → post 1) (h0 : ¬ 0 < ev_E (ev_U a) b → post 0) : wpY_begins post (fk, ff, fl, ba, v, ev_U a, as) (nI b) := by
  unfold wpY_begins
  dsimp only
  refine ⟨vp_in_nI hb (by omega), ?_⟩
  rw [nI_clamp (n := b) (by omega)]
  by_cases z : ev_U a b = 0
  · refine br_t z ⟨ev_n64, ?_⟩
    rw [ev_r64 (by omega)]
    by_cases y : b % 64 = 0
    · exact br_t (by rw [y]; rfl) (h1 (ev_E_pos.mpr ⟨z, Or.inl y⟩))
    · refine br_f (fun x => y ((ev_eq0 (by omega)).mp x)) ?_
      rw [ev_s1 (by omega)]
      refine ⟨vp_in_nI (by omega) (by omega), ?_⟩
      rw [nI_clamp (by omega)]
      by_cases x : ev_U a (b - 1) = 0
      · exact br_t (by rw [x]; decide) (h0 (fun q => (ev_E_pos.mp q).2.elim y (fun p => p x)))
      · refine br_f ?_ (h1 (ev_E_pos.mpr ⟨z, Or.inr x⟩))
        obtain ⟨c, hc, e⟩ := ev_Unn a (b - 1)
        rw [e] at x ⊢
        exact nI_nle (by have : ¬ c = 0 := fun q => x (by rw [q, nI_0]); omega) (by omega)
  · exact br_f z (h0 (fun q => z (ev_E_pos.mp q).1))
def ev_cW (u : Nat → Int32) (w b : Nat) : Bool := if w = 0 then decide (0 < ev_E u b) else decide (u b = 0)
def ev_rm (u : Nat → Int32) (g w b : Nat) : Bool := (decide (g = 3) || decide (b / 64 = g)) && ev_cW u w b
theorem ey_r49 {post : Int32 → SY → Prop} {J : Int32 → Int32 → Prop} {x1 : Int32} {g w i c : Nat} (hi : i < 192) (hw : w < 2) (hg : g = 3 ∨ i / 64 = g) (h1 : ev_rm (ev_U a) g w i = true → J (nI (c + 1)) (nI (i + 1))) (h0 : ¬ ev_rm (ev_U a) g w i = true → J (nI c) (nI (i + 1))) : wY_room_49 post J x1 (nI w) (nI c) (nI i) fk ff fl ba v (ev_U a) as := by
  have hb : (decide (g = 3) || decide (i / 64 = g)) = true := by
    rcases hg with z | z
    · rw [decide_eq_true z, Bool.true_or]
    · rw [decide_eq_true z, Bool.or_true]
  unfold ev_rm at h1 h0
  rw [hb, Bool.true_and] at h1 h0
  unfold ev_cW at h1 h0
  by_cases z : w = 0
  · rw [if_pos z] at h1 h0
    refine br_t (by rw [z]; rfl) (ey_beg hi (fun y => ?_) (fun y => ?_))
    · exact br_f ev_10 (nm_r (nI_1 c) (nm_r (nI_1 i) (h1 (decide_eq_true y))))
    · exact br_t rfl (nm_r (nI_1 i) (h0 (fun x => y (of_decide_eq_true x))))
  · rw [if_neg z] at h1 h0
    refine br_f (fun y => z ((ev_eq0 (by omega)).mp y)) ⟨vp_in_nI hi (by omega), ?_⟩
    rw [nI_clamp (by omega)]
    by_cases y : ev_U a i = 0
    · exact br_t y (nm_r (nI_1 c) (nm_r (nI_1 i) (h1 (decide_eq_true y))))
    · exact br_f y (nm_r (nI_1 i) (h0 (fun x => y (of_decide_eq_true x))))
theorem ey_r27 {post : Int32 → SY → Prop} {g w : Nat} (hg : g < 4) (hw : w < 2) (hp : post (nI (ev_ct (ev_rm (ev_U a) g w) 0 192)) (fk, ff, fl, ba, v, ev_U a, as)) : ∀ d i, i + d = 192 → wY_room_27 post (nI g) (nI w) fk ff fl ba v (ev_U a) as (d + 1) (nI (ev_ct (ev_rm (ev_U a) g w) 0 i)) (nI i) := by
  intro d
  induction d with
  | zero =>
    intro i h
    refine br_t (nI_le (a := 192) (by omega) (by omega)) ?_
    rw [show i = 192 by omega]; exact hp
  | succ d ih =>
    intro i h
    have hi := ih (i + 1) (by omega)
    have h49 : g = 3 ∨ i / 64 = g → wY_room_49 post (wY_room_27 post (nI g) (nI w) fk ff fl ba v (ev_U a) as (d + 1)) (nI g) (nI w) (nI (ev_ct (ev_rm (ev_U a) g w) 0 i)) (nI i) fk ff fl ba v (ev_U a) as := by
      intro z
      refine ey_r49 (by omega) hw z (fun y => ?_) (fun y => ?_)
      · rw [ev_ct_t (by rw [Nat.zero_add]; exact y)] at hi; exact hi
      · rw [ev_ct_f (by rw [Nat.zero_add]; exact y)] at hi; exact hi
    refine br_f (nI_ge (b := 192) (by omega) (by omega)) ?_
    by_cases z : g = 3
    · exact br_t (by rw [z]; rfl) (h49 (Or.inl z))
    · refine br_f (fun y => z (ev_inj (b := 3) y (by omega) (by omega))) ⟨ev_n64, ?_⟩
      rw [ev_d64 (by omega)]
      by_cases y : i / 64 = g
      · exact br_t (congrArg nI y) (h49 (Or.inr y))
      · refine br_f (fun x => y (ev_inj x (by omega) (by omega))) (nm_r (nI_1 i) ?_)
        have hf : ¬ ev_rm (ev_U a) g w (0 + i) = true := by
          unfold ev_rm
          rw [Nat.zero_add, decide_eq_false z, decide_eq_false y]
          exact Bool.false_ne_true
        rw [ev_ct_f hf] at hi
        exact hi
def ev_rs (u : Nat → Int32) (g w : Nat) : Nat := if g = 3 then ev_ct (ev_cW u w) 0 192 else ev_ct (ev_cW u w) (64 * g) 64
theorem ev_rs_eq {u : Nat → Int32} {g w : Nat} (hg : g < 4) : ev_ct (ev_rm u g w) 0 192 = ev_rs u g w := by
  unfold ev_rs
  by_cases z : g = 3
  · rw [if_pos z]
    refine ev_ct_congr 192 (fun j _ _ => ?_)
    unfold ev_rm
    rw [decide_eq_true z, Bool.true_or, Bool.true_and]
  · rw [if_neg z, ← ev_ct_grp (ev_cW u w) (g := g) (by omega)]
    refine ev_ct_congr 192 (fun j _ _ => ?_)
    unfold ev_rm
    rw [decide_eq_false z, Bool.false_or]
theorem ex_r49 {post : Int32 → Prop} {x y : Int32} {w : Nat} (s e : Nat) (hw : w < 2) (he : s + e ≤ 192) (hx : x = nI s) (hy : y = nI (s + e)) (hp : post (nI (ev_ct (ev_cW ua w) s e))) : wX_room_49 post (nI w) x y fk fs ba ia ua kb ki := by
  by_cases z : w = 0
  · refine br_t (by rw [z]; rfl) (ex_cfe s e he hx hy ?_)
    rw [show ev_cW ua w = fun j => decide (0 < ev_E ua j) from funext (fun j => if_pos z)] at hp
    exact hp
  · refine br_f (fun q => z ((ev_eq0 (by omega)).mp q)) (ex_cfb s e he hx hy ?_)
    rw [show ev_cW ua w = fun j => decide (ua j = 0) from funext (fun j => if_neg z)] at hp
    exact hp
theorem ex_room_t {post : Int32 → Prop} {g w : Nat} (hg : g < 4) (hw : w < 2) (hp : post (nI (ev_rs ua g w))) : wpX_room post (fk, fs, ba, ia, ua, kb, ki) (nI g) (nI w) := by
  unfold ev_rs at hp
  refine br_f (nI_pos (by omega)) (br_f (nI_nlt (a := 3) (by omega) (by omega)) (br_f (nI_pos (by omega)) (br_t (nI_le (b := 1) (by omega) (by omega)) ?_)))
  by_cases z : g = 3
  · rw [if_pos z] at hp
    have e : nI g = 3 := by rw [z]; rfl
    exact br_t e (br_t e (ex_r49 0 192 hw (by omega) rfl rfl hp))
  · rw [if_neg z] at hp
    have e : ¬ nI g = 3 := fun y => z (ev_inj (b := 3) y (by omega) (by omega))
    refine br_f e (br_f e ?_)
    exact ex_r49 (64 * g) 64 hw (by omega) (ev_x64 g) (by rw [ev_x64, ev_p64]) hp
end
theorem i_vc_room {k : Nat} {u : SX} {v : SY} (I : i_Rel k u v) (hk : k + 5 ≤ 2560) (v1 : Int32) (v2 : Int32) : wpX_room (fun r => wpY_room (fun r' v' => r' = r ∧ i_Rel (k + 5) u v') v v1 v2) u v1 v2 := by
  have I' : i_Rel (k + 5) u v := I
  obtain ⟨K, S, ff, fl, a, w, kb, ki, m, as, rfl, rfl, hK, hS, hV, hm, hR⟩ := I
  by_cases h : (∃ g, g < 4 ∧ v1 = nI g) ∧ (∃ x, x < 2 ∧ v2 = nI x)
  · obtain ⟨⟨g, hg, rfl⟩, ⟨x, hx, rfl⟩⟩ := h
    refine ex_room_t hg hx ?_
    unfold wpY_room
    dsimp only
    refine ey_in_t (n := 4) (by decide) rfl hg (br_f ev_10 (ey_in_t (n := 2) (by decide) rfl hx (br_f ev_10 (ey_count hV hm ?_))))
    refine ⟨_, ey_r27 hg hx ?_ 192 0 (by omega)⟩
    rw [ev_rs_eq hg]
    exact ⟨rfl, ev_rel hK hS hV (fun j hj => ev_U_ge (by omega)) hR⟩
  · have hy : ∀ r : Int32, r = -1 → wpY_room (fun r' v' => r' = r ∧ i_Rel (k + 5) (nI K, nI S, a, w, ev_U a, kb, ki) v') (nI K, ff, fl, a, w, m, as) v1 v2 := by
      intro r hr
      unfold wpY_room
      dsimp only
      refine ey_in (n := 4) (by decide) (fun g hg eg => br_f ev_10 ?_) (fun _ => br_t rfl ⟨hr.symm, I'⟩)
      refine ey_in (n := 2) (by decide) (fun x hx ex => ?_) (fun _ => br_t rfl ⟨hr.symm, I'⟩)
      exact absurd ⟨⟨g, hg, eg⟩, ⟨x, hx, ex⟩⟩ h
    refine br_c (fun _ => hy _ rfl) (fun z1 => br_c (fun _ => hy _ rfl) (fun z2 => br_c (fun _ => hy _ rfl) (fun z3 => br_c (fun z4 => ?_) (fun _ => hy _ rfl))))
    obtain ⟨g, hg, rfl⟩ := nI_of z1
    obtain ⟨x, hx, rfl⟩ := nI_of z3
    have y2 : ¬ 3 < g := fun q => z2 (nI_lt (a := 3) q (by omega))
    have y4 : x ≤ 1 := (nI_leI (b := 1) hx (by omega)).mp z4
    exact absurd ⟨⟨g, by omega, rfl⟩, ⟨x, by omega, rfl⟩⟩ h
end
section
/-! the free extents in their order -/
section
variable {fk fs ff fl : Int32} {ba ia ua kb ki a v m as : Nat → Int32}
def ev_sb (u : Nat → Int32) (len b j : Nat) : Bool := decide (0 < ev_E u j ∧ (ev_E u j < len ∨ (ev_E u j = len ∧ j < b)))
theorem ev_sb_f {u : Nat → Int32} {len b j : Nat} (h : ¬ (0 < ev_E u j ∧ (ev_E u j < len ∨ (ev_E u j = len ∧ j < b)))) : ¬ ev_sb u len b j = true := fun z => h (of_decide_eq_true z)
theorem ex_csb_l {post : Int32 → Prop} {g b len : Nat} (hg : g < 3) (hb : b < 192) (hlen : len ≤ 64) (hp : post (nI (ev_ct (ev_sb ua len b) (64 * g) 64))) : ∀ d i, i + d = 64 → wX_countSortedBefore_13 post (nI b) (nI len) (nI (64 * g)) fk fs ba ia ua kb ki (d + 1) (nI (ev_ct (ev_sb ua len b) (64 * g) i)) (nI (64 * g + i)) := by
  intro d
  induction d with
  | zero =>
    intro i h
    refine br_t (by rw [ev_p64]; exact nI_le (by omega) (by omega)) ?_
    rw [show i = 64 by omega]; exact hp
  | succ d ih =>
    intro i h
    have hi := ih (i + 1) (by omega)
    have hE := ev_E_le ua (64 * g + i)
    have hF := ev_F_le ua (64 * g + i)
    refine br_f (by rw [ev_p64]; exact nI_ge (by omega) (by omega)) (ex_ext (by omega) ?_)
    by_cases z1 : 0 < ev_E ua (64 * g + i)
    · refine br_f (nI_nle z1 (by omega)) ?_
      by_cases z2 : ev_E ua (64 * g + i) < len
      · rw [ev_ct_t (p := ev_sb ua len b) (decide_eq_true (by omega))] at hi
        exact br_t (nI_lt z2 (by omega)) (nm_r (nI_1 _) (nm_r (nI_1 _) hi))
      · refine br_f (nI_nlt (by omega) (by omega)) ?_
        by_cases z3 : ev_E ua (64 * g + i) = len
        · refine br_t (congrArg nI z3) ?_
          by_cases z4 : b ≤ 64 * g + i
          · rw [ev_ct_f (ev_sb_f (by omega))] at hi
            exact br_t (nI_le z4 (by omega)) (nm_r (nI_1 _) hi)
          · rw [ev_ct_t (p := ev_sb ua len b) (decide_eq_true (by omega))] at hi
            exact br_f (nI_ge (by omega) (by omega)) (nm_r (nI_1 _) (nm_r (nI_1 _) hi))
        · rw [ev_ct_f (ev_sb_f (by omega))] at hi
          exact br_f (fun y => z3 (ev_inj y (by omega) (by omega))) (nm_r (nI_1 _) hi)
    · rw [ev_ct_f (ev_sb_f (by omega))] at hi
      exact br_t (nI_le (b := 0) (by omega) (by omega)) (nm_r (nI_1 _) hi)
theorem ex_csb {post : Int32 → Prop} {g b len : Nat} (hg : g < 3) (hb : b < 192) (hlen : len ≤ 64) (hp : post (nI (ev_rk ua (64 * g) len b))) : wpX_countSortedBefore post (fk, fs, ba, ia, ua, kb, ki) (nI g) (nI b) (nI len) :=
  nm_r (ev_x64 g) ⟨_, ex_csb_l hg hb hlen hp 64 0 (by omega)⟩
theorem ex_f30 {post : Int32 → Prop} {g : Nat} {k x3 : Int32} (hg : g < 3) (hK : ∀ b, ev_isK ua (64 * g) k b → post (if x3 = 0 then nI b else nI (ev_E ua b))) (hN : (∀ b, ¬ ev_isK ua (64 * g) k b) → post (-1)) :
    ∀ d i, i + d = 64 → (∀ j, j < i → ¬ ev_isK ua (64 * g) k (64 * g + j)) → wX_free_30 post (nI g) k x3 (nI (64 * g)) fk fs ba ia ua kb ki (d + 1) (nI (64 * g + i)) := by
  intro d
  induction d with
  | zero =>
    intro i h hj
    refine br_t (by rw [ev_p64]; exact nI_le (by omega) (by omega)) (hN (fun b hb => ?_))
    have h1 := hb.1
    have h2 := hb.2.1
    refine hj (b - 64 * g) (by omega) ?_
    rw [show 64 * g + (b - 64 * g) = b by omega]
    exact hb
  | succ d ih =>
    intro i h hj
    have hE := ev_E_le ua (64 * g + i)
    have hF := ev_F_le ua (64 * g + i)
    have next : ¬ ev_isK ua (64 * g) k (64 * g + i) → wX_free_30 post (nI g) k x3 (nI (64 * g)) fk fs ba ia ua kb ki (d + 1) (nI (64 * g + i + 1)) := by
      intro z
      refine ih (i + 1) (by omega) (fun j h1 => ?_)
      by_cases e : j = i
      · rw [e]; exact z
      · exact hj j (by omega)
    refine br_f (by rw [ev_p64]; exact nI_ge (by omega) (by omega)) (ex_ext (by omega) ?_)
    by_cases z1 : 0 < ev_E ua (64 * g + i)
    · refine br_f (nI_nle z1 (by omega)) (ex_csb hg (by omega) (by omega) ?_)
      by_cases z2 : nI (ev_rk ua (64 * g) (ev_E ua (64 * g + i)) (64 * g + i)) = k
      · have := hK (64 * g + i) ⟨by omega, by omega, z1, z2⟩
        refine br_t z2 ?_
        by_cases z3 : x3 = 0
        · rw [if_pos z3] at this; exact br_t z3 this
        · rw [if_neg z3] at this; exact br_f z3 this
      · exact br_f z2 (nm_r (nI_1 _) (next (fun y => z2 y.2.2.2)))
    · exact br_t (nI_le (b := 0) (by omega) (by omega)) (nm_r (nI_1 _) (next (fun y => z1 y.2.2.1)))
/-- none of rank k yet -/
def ev_NB (u : Nat → Int32) (first : Nat) (k : Int32) (sz b : Nat) : Prop := ∀ c, ev_isK u first k c → ¬ (ev_E u c < sz ∨ (ev_E u c = sz ∧ c < b))
theorem ev_NB_s {u : Nat → Int32} {first sz b : Nat} {k : Int32} (h : ev_NB u first k sz b) (hb : ev_E u b = sz → ¬ ev_isK u first k b) : ev_NB u first k sz (b + 1) := by
  intro c hc z
  by_cases e : c = b
  · subst e
    by_cases y : ev_E u c = sz
    · exact hb y hc
    · exact h c hc (by omega)
  · exact h c hc (by omega)
theorem ey_f45 {post : Int32 → SY → Prop} {J : Int32 → Int32 → Prop} {g sz : Nat} {k x3 : Int32} (hg : g < 3) (hs : 1 ≤ sz) (hs2 : sz ≤ 64) (hK : ∀ b, ev_isK (ev_U a) (64 * g) k b → post (if x3 = 0 then nI b else nI (ev_E (ev_U a) b)) (fk, ff, fl, ba, v, ev_U a, as))
    (hJ : ev_NB (ev_U a) (64 * g) k (sz + 1) (64 * g) → J (nI (ev_rk (ev_U a) (64 * g) (sz + 1) (64 * g))) (nI (sz + 1))) :
    ∀ d i, i + d = 64 → ev_NB (ev_U a) (64 * g) k sz (64 * g + i) → wY_free_45 post J (nI g) k x3 (nI sz) fk ff fl ba v (ev_U a) as (d + 1) (nI (ev_rk (ev_U a) (64 * g) sz (64 * g + i))) (nI (64 * g + i)) := by
  intro d
  induction d with
  | zero =>
    intro i h hn
    refine br_t (by rw [ev_64x, ev_p64]; exact nI_le (by omega) (by omega)) (nm_r (nI_1 sz) ?_)
    rw [ev_rk_s] at hJ
    rw [show i = 64 by omega] at hn ⊢
    refine hJ (fun c hc z => hn c hc ?_)
    have h1 := hc.2.1
    have h2 := hc.1
    omega
  | succ d ih =>
    intro i h hn
    have hE := ev_E_le (ev_U a) (64 * g + i)
    have hF := ev_F_le (ev_U a) (64 * g + i)
    have next0 : ¬ ev_E (ev_U a) (64 * g + i) = sz → wY_free_45 post J (nI g) k x3 (nI sz) fk ff fl ba v (ev_U a) as (d + 1) (nI (ev_rk (ev_U a) (64 * g) sz (64 * g + i))) (nI (64 * g + i + 1)) := by
      intro z
      have := ih (i + 1) (by omega) (ev_NB_s (b := 64 * g + i) hn (fun y => absurd y z))
      rw [show 64 * g + (i + 1) = 64 * g + i + 1 by omega, ev_rk_f z] at this
      exact this
    refine br_f (by rw [ev_64x, ev_p64]; exact nI_ge (by omega) (by omega)) (ey_beg (by omega) (fun z1 => br_f ev_10 (ey_ff (by omega) ?_)) (fun z1 => br_t rfl (nm_r (nI_1 _) (next0 (by omega)))))
    rw [← ev_E_eq z1]
    by_cases z2 : ev_E (ev_U a) (64 * g + i) = sz
    · refine br_t (congrArg nI z2) ?_
      by_cases z3 : nI (ev_rk (ev_U a) (64 * g) sz (64 * g + i)) = k
      · have := hK (64 * g + i) ⟨by omega, by omega, z1, by rw [z2]; exact z3⟩
        refine br_t z3 ?_
        by_cases z4 : x3 = 0
        · rw [if_pos z4] at this; exact br_t z4 this
        · rw [if_neg z4, z2] at this; exact br_f z4 this
      · have := ih (i + 1) (by omega) (ev_NB_s (b := 64 * g + i) hn (fun _ y => z3 (by have := y.2.2.2; rw [z2] at this; exact this)))
        rw [show 64 * g + (i + 1) = 64 * g + i + 1 by omega, ev_rk_t (by omega) (by omega) (by omega) z2] at this
        exact br_f z3 (nm_r (nI_1 _) (nm_r (nI_1 _) this))
    · exact br_f (fun y => z2 (ev_inj y (by omega) (by omega))) (nm_r (nI_1 _) (next0 z2))
theorem ey_f32 {post : Int32 → SY → Prop} {g : Nat} {k x3 : Int32} (hg : g < 3) (hK : ∀ b, ev_isK (ev_U a) (64 * g) k b → post (if x3 = 0 then nI b else nI (ev_E (ev_U a) b)) (fk, ff, fl, ba, v, ev_U a, as)) (hN : (∀ b, ¬ ev_isK (ev_U a) (64 * g) k b) → post (-1) (fk, ff, fl, ba, v, ev_U a, as)) :
    ∀ d sz, sz + d = 65 → 1 ≤ sz → ev_NB (ev_U a) (64 * g) k sz (64 * g) → wY_free_32 post (nI g) k x3 fk ff fl ba v (ev_U a) as (d + 1) (nI (ev_rk (ev_U a) (64 * g) sz (64 * g))) (nI sz) := by
  intro d
  induction d with
  | zero =>
    intro sz h h1 hn
    refine br_t (nI_lt (a := 64) (by omega) (by omega)) (hN (fun b hb => hn b hb ?_))
    have := ev_E_le (ev_U a) b
    have := ev_F_le (ev_U a) b
    omega
  | succ d ih =>
    intro sz h h1 hn
    refine br_f (nI_nlt (a := 64) (by omega) (by omega)) (nm_r (ev_64x g) ⟨64 + 1, ?_⟩)
    exact ey_f45 hg h1 (by omega) hK (fun z => ih (sz + 1) (by omega) (by omega) z) 64 0 (by omega) hn
end
theorem i_vc_free {k : Nat} {u : SX} {v : SY} (I : i_Rel k u v) (hk : k + 5 ≤ 2560) (v1 : Int32) (v2 : Int32) (v3 : Int32) : wpX_free (fun r => wpY_free (fun r' v' => r' = r ∧ i_Rel (k + 5) u v') v v1 v2 v3) u v1 v2 v3 := by
  have I' : i_Rel (k + 5) u v := I
  obtain ⟨K, S, ff, fl, a, w, kb, ki, m, as, rfl, rfl, hK, hS, hV, hm, hR⟩ := I
  by_cases h : (∃ g, g < 3 ∧ v1 = nI g) ∧ (∃ x, x < 2 ∧ v3 = nI x)
  · obtain ⟨⟨g, hg, rfl⟩, ⟨x, hx, rfl⟩⟩ := h
    have hI2 : i_Rel (k + 5) (nI K, nI S, a, w, ev_U a, kb, ki) (nI K, ff, fl, a, w, ev_U a, as) := ev_rel hK hS hV (fun j hj => ev_U_ge (by omega)) hR
    have hyn : (∀ b, ¬ ev_isK (ev_U a) (64 * g) v2 b) → ∀ r : Int32, r = -1 → wpY_free (fun r' v' => r' = r ∧ i_Rel (k + 5) (nI K, nI S, a, w, ev_U a, kb, ki) v') (nI K, ff, fl, a, w, m, as) (nI g) v2 (nI x) := by
      intro hn r hr
      unfold wpY_free
      dsimp only
      refine ey_in_t (n := 3) (by decide) rfl hg (br_f ev_10 (ey_in_t (n := 2) (by decide) rfl hx (br_f ev_10 (br_c (fun z => ey_count hV hm ?_) (fun _ => ⟨hr.symm, I'⟩)))))
      have h32 := fun (post : Int32 → SY → Prop) h1 h2 => ey_f32 (post := post) (fk := nI K) (ff := ff) (fl := fl) (ba := a) (a := a) (v := w) (as := as) (k := v2) (x3 := nI x) hg h1 h2 64 1 (by omega) (by omega) (fun c hc => absurd hc (hn c))
      rw [ev_rk_0] at h32
      exact ⟨_, h32 _ (fun b hb => absurd hb (hn b)) (fun _ => ⟨hr.symm, hI2⟩)⟩
    have hyk : ∀ b, ev_isK (ev_U a) (64 * g) v2 b → ∀ r : Int32, r = (if nI x = 0 then nI b else nI (ev_E (ev_U a) b)) → wpY_free (fun r' v' => r' = r ∧ i_Rel (k + 5) (nI K, nI S, a, w, ev_U a, kb, ki) v') (nI K, ff, fl, a, w, m, as) (nI g) v2 (nI x) := by
      intro b hb r hr
      unfold wpY_free
      dsimp only
      refine ey_in_t (n := 3) (by decide) rfl hg (br_f ev_10 (ey_in_t (n := 2) (by decide) rfl hx (br_f ev_10 (br_t ?_ (ey_count hV hm ?_)))))
      · have h1 := ev_rk_le (ev_U a) (64 * g) (ev_E (ev_U a) b) b
        rw [← hb.2.2.2]
        exact nI_pos' (by omega)
      · have hnb : ev_NB (ev_U a) (64 * g) v2 1 (64 * g) := fun c hc z => by
          have h1 := hc.1
          have h2 := hc.2.2.1
          omega
        have h32 := fun (post : Int32 → SY → Prop) h1 h2 => ey_f32 (post := post) (fk := nI K) (ff := ff) (fl := fl) (ba := a) (a := a) (v := w) (as := as) (k := v2) (x3 := nI x) hg h1 h2 64 1 (by omega) (by omega) hnb
        rw [ev_rk_0] at h32
        refine ⟨_, h32 _ (fun c hc => ?_) (fun hn => absurd hb (hn b))⟩
        rw [ev_isK_inj hc hb]
        exact ⟨hr.symm, hI2⟩
    refine br_f (nI_pos (by omega)) (br_f (nI_ge (b := 3) hg (by omega)) (br_f (nI_pos (by omega)) (br_t (nI_le (b := 1) (by omega) (by omega)) (nm_r (ev_x64 g) ⟨64 + 1, ?_⟩))))
    exact ex_f30 hg (fun b hb => hyk b hb _ rfl) (fun hn => hyn hn _ rfl) 64 0 (by omega) (fun j hj => absurd hj (Nat.not_lt_zero j))
  · have hy : ∀ r : Int32, r = -1 → wpY_free (fun r' v' => r' = r ∧ i_Rel (k + 5) (nI K, nI S, a, w, ev_U a, kb, ki) v') (nI K, ff, fl, a, w, m, as) v1 v2 v3 := by
      intro r hr
      unfold wpY_free
      dsimp only
      refine ey_in (n := 3) (by decide) (fun g hg eg => br_f ev_10 ?_) (fun _ => br_t rfl ⟨hr.symm, I'⟩)
      refine ey_in (n := 2) (by decide) (fun x hx ex => ?_) (fun _ => br_t rfl ⟨hr.symm, I'⟩)
      exact absurd ⟨⟨g, hg, eg⟩, ⟨x, hx, ex⟩⟩ h
    refine br_c (fun _ => hy _ rfl) (fun z1 => br_c (fun _ => hy _ rfl) (fun z2 => br_c (fun _ => hy _ rfl) (fun z3 => br_c (fun z4 => ?_) (fun _ => hy _ rfl))))
    obtain ⟨g, hg, rfl⟩ := nI_of z1
    obtain ⟨x, hx, rfl⟩ := nI_of z3
    have y2 : ¬ 3 ≤ g := fun q => z2 (nI_le (a := 3) q (by omega))
    have y4 : x ≤ 1 := (nI_leI (b := 1) hx (by omega)).mp z4
    exact absurd ⟨⟨g, by omega, rfl⟩, ⟨x, by omega, rfl⟩⟩ h
end
section
/-! rows of pieces -/
def ev_rl (q : Nat → Bool) : Nat → Nat → Nat
  | 0, _ => 0
  | d + 1, s => if q s = true then ev_rl q d (s + 1) + 1 else 0
theorem ev_rl_t {q : Nat → Bool} {d s : Nat} (h : q s = true) : ev_rl q (d + 1) s = ev_rl q d (s + 1) + 1 := if_pos h
theorem ev_rl_f {q : Nat → Bool} {d s : Nat} (h : ¬ q s = true) : ev_rl q (d + 1) s = 0 := if_neg h
theorem ev_rl_le (q : Nat → Bool) : ∀ d s, ev_rl q d s ≤ d := by
  intro d
  induction d with
  | zero => intro s; exact Nat.le_refl 0
  | succ d ih =>
    intro s
    by_cases h : q s = true
    · rw [ev_rl_t h]; have := ih (s + 1); omega
    · rw [ev_rl_f h]; omega
theorem ev_rl_in (q : Nat → Bool) : ∀ d s j, j < ev_rl q d s → q (s + j) = true := by
  intro d
  induction d with
  | zero => intro s j h; exact absurd h (Nat.not_lt_zero j)
  | succ d ih =>
    intro s j h
    by_cases z : q s = true
    · rw [ev_rl_t z] at h
      cases j with
      | zero => exact z
      | succ j =>
        have := ih (s + 1) j (by omega)
        rw [show s + (j + 1) = s + 1 + j by omega]
        exact this
    · rw [ev_rl_f z] at h; exact absurd h (Nat.not_lt_zero j)
theorem ev_rl_end (q : Nat → Bool) : ∀ d s, ev_rl q d s < d → ¬ q (s + ev_rl q d s) = true := by
  intro d
  induction d with
  | zero => intro s h; exact absurd h (Nat.not_lt_zero _)
  | succ d ih =>
    intro s h
    by_cases z : q s = true
    · rw [ev_rl_t z] at h ⊢
      have := ih (s + 1) (by omega)
      rw [show s + (ev_rl q d (s + 1) + 1) = s + 1 + ev_rl q d (s + 1) by omega]
      exact this
    · rw [ev_rl_f z]; exact z
theorem ev_rl_ct (q : Nat → Bool) (d s : Nat) : ev_ct q s d = ev_rl q d s + ev_ct q (s + ev_rl q d s) (d - ev_rl q d s) := by
  have h := ev_rl_le q d s
  have h2 := ev_ct_split q s (ev_rl q d s) (d - ev_rl q d s)
  rw [show ev_rl q d s + (d - ev_rl q d s) = d by omega] at h2
  rw [h2, ev_ct_all (p := q) (ev_rl q d s) (fun j h3 h4 => by
    have := ev_rl_in q d s (j - s) (by omega)
    rw [show s + (j - s) = j by omega] at this
    exact this)]

/-! write -/
section
variable {fk fs ff fl : Int32} {ba ia ua kb ki a v m as : Nat → Int32}
theorem ex_rna_l {post : Int32 → Prop} {f p e : Nat} (hf : f < 8) (he : e ≤ 64) (hV : ev_V ba) : ∀ d j, p ≤ j → j + d = e → post (nI (j + ev_rl (ev_na ba) d (64 * f + j) - p)) → wX_rowNotAlone_3 post (nI f) (nI p) (nI e) fk fs ba ia (ev_U ba) kb ki (d + 1) (nI j) := by
  intro d
  induction d with
  | zero =>
    intro j h1 h2 hp
    refine br_t (nI_le (by omega) (by omega)) ?_
    rw [pk_sub h1]; exact hp
  | succ d ih =>
    intro j h1 h2 hp
    refine br_f (nI_ge (by omega) (by omega)) (ex_isAlone hf (by omega) hV (fun z => ?_) (fun z => ?_))
    · refine br_t rfl (nm_r (nI_1 j) (ih (j + 1) (by omega) (by omega) ?_))
      rw [ev_rl_t z] at hp
      rw [show 64 * f + (j + 1) = 64 * f + j + 1 by omega, show j + 1 + ev_rl (ev_na ba) d (64 * f + j + 1) - p = j + (ev_rl (ev_na ba) d (64 * f + j + 1) + 1) - p by omega]
      exact hp
    · refine br_f ev_10 ?_
      rw [ev_rl_f (by rw [z]; exact Bool.false_ne_true)] at hp
      rw [pk_sub h1]; exact hp
theorem ex_rna {post : Int32 → Prop} {f p e : Nat} (hf : f < 8) (he : e ≤ 64) (hp : p ≤ e) (hV : ev_V ba) (h : post (nI (ev_rl (ev_na ba) (e - p) (64 * f + p)))) : wpX_rowNotAlone post (fk, fs, ba, ia, ev_U ba, kb, ki) (nI f) (nI p) (nI e) := by
  refine ⟨_, ex_rna_l hf he hV (e - p) p (Nat.le_refl _) (by omega) ?_⟩
  rw [Nat.add_sub_cancel_left]; exact h
theorem ey_open {post : Int32 → Prop} {k : Nat} (hk : k < 512) (hV : ev_V a) (h1 : ev_na a k = true → post 1) (h0 : ev_na a k = false → post 0) : wpY_isOpen post (fk, ff, fl, a, v, ev_U a, as) (nI k) := by
  unfold wpY_isOpen
  dsimp only
  refine ⟨vp_in_nI hk (by omega), ?_⟩
  rw [nI_clamp (n := k) (by omega)]
  rcases hV k hk with e | ⟨b, hb, e⟩
  · exact br_t (by rw [e]; decide) (h1 (ev_na_h e))
  · refine br_f (by rw [e]; exact nI_pos (by omega)) ⟨vp_in_nI hk (by omega), ?_⟩
    rw [e, nI_clamp (by omega)]
    refine ⟨vp_in_nI hb (by omega), ?_⟩
    have hc := ev_cn_pos hk e
    have hc2 := ev_cn_le a (nI b)
    by_cases z : ev_U a b = 1
    · exact br_t (by rw [z]; decide) (h0 (ev_al_na ⟨b, hb, e, (ev_U1 hb).mp z⟩))
    · refine br_f ?_ (h1 (ev_na_b hb e z))
      rw [ev_U1 hb] at z
      rw [ev_U_lt hb]
      exact nI_ge (a := 1) (by omega) (by omega)
theorem ey_w91 {post : Int32 → SY → Prop} {J : Int32 → Int32 → Int32 → Int32 → (Nat → Int32) → (Nat → Int32) → (Nat → Int32) → (Nat → Int32) → Prop} {f p0 n0 e : Nat} {x4 x6 x8 : Int32} (hf : f < 8) (he : e ≤ 64) (hpn : p0 + n0 = e) (hV : ev_V a) : ∀ d j, j + d = e → wY_write_117 post J (nI f) (nI p0) (nI n0) x4 (nI (64 * f)) x6 x8 (nI (j + ev_rl (ev_na a) d (64 * f + j))) fk ff fl a v (ev_U a) as → wY_write_91 post J (nI f) (nI p0) (nI n0) x4 (nI (64 * f)) x6 x8 fk ff fl a v (ev_U a) as (d + 1) (nI j) := by
  intro d
  induction d with
  | zero =>
    intro j h hp
    exact br_t (by rw [nI_add]; exact nI_le (by omega) (by omega)) hp
  | succ d ih =>
    intro j h hp
    refine br_f (by rw [nI_add]; exact nI_ge (by omega) (by omega)) ?_
    rw [nI_add]
    refine ey_open (by omega) hV (fun z => ?_) (fun z => ?_)
    · refine br_f ev_10 (nm_r (nI_1 j) (ih (j + 1) (by omega) ?_))
      rw [ev_rl_t z] at hp
      rw [show 64 * f + (j + 1) = 64 * f + j + 1 by omega, show j + 1 + ev_rl (ev_na a) d (64 * f + j + 1) = j + (ev_rl (ev_na a) d (64 * f + j + 1) + 1) by omega]
      exact hp
    · rw [ev_rl_f (by rw [z]; exact Bool.false_ne_true)] at hp
      exact br_t rfl hp
theorem ey_w161 {post : Int32 → SY → Prop} {f p n : Nat} {x x6 : Int32} (hf : f < 8) (hpn : p + n ≤ 64) (hA : ∀ i, i < n → ∃ b, b < 192 ∧ a (64 * f + p + i) = nI b) (hp : post x6 (fk, ff, fl, a, ev_iV a v x (64 * f + p) n, m, as)) : ∀ d i, i + d = n → wY_write_161 post (nI p) (nI n) x (nI (64 * f)) x6 fk ff fl (d + 1) (nI (p + i)) a (ev_iV a v x (64 * f + p) i) m as := by
  intro d
  induction d with
  | zero =>
    intro i h
    refine br_t (by rw [nI_add]; exact nI_le (by omega) (by omega)) ?_
    rw [show i = n by omega]; exact hp
  | succ d ih =>
    intro i h
    obtain ⟨b, hb, e⟩ := hA i (by omega)
    have hi := ih (i + 1) (by omega)
    have hv : ev_iV a v x (64 * f + p) (i + 1) = upd (ev_iV a v x (64 * f + p) i) b (x + nI i) := by
      show upd (ev_iV a v x (64 * f + p) i) (a (64 * f + p + i)).toNatClampNeg (x + nI i) = _
      rw [e, nI_clamp (by omega)]
    refine br_f (by rw [nI_add]; exact nI_ge (by omega) (by omega)) ?_
    rw [nI_add (64 * f) (p + i), pk_sub (a := p + i) (b := p) (by omega), Nat.add_sub_cancel_left, show 64 * f + (p + i) = 64 * f + p + i by omega, nI_clamp (n := 64 * f + p + i) (by omega), e, nI_clamp (by omega)]
    exact ⟨vp_in_nI (by omega) (by omega), vp_in_nI hb (by omega), nm_r hv.symm (nm_r (nI_1 (p + i)) hi)⟩
/-- pieces alone are passed over -/
theorem ex_wskip {post : Int32 → SX → Prop} {f p0 n0 e : Nat} {x4 x5 : Int32} (hf : f < 8) (he : e ≤ 64) (hV : ev_V ba) : ∀ d j n, (∀ i, j ≤ i → i < j + d → ev_al ba (64 * f + i)) → j + d ≤ e → wX_write_49 post (nI f) (nI p0) (nI n0) x4 x5 (nI e) n (nI (j + d)) fk fs ba ia (ev_U ba) kb ki → wX_write_49 post (nI f) (nI p0) (nI n0) x4 x5 (nI e) (n + d) (nI j) fk fs ba ia (ev_U ba) kb ki := by
  intro d
  induction d with
  | zero => intro j n _ _ h; exact h
  | succ d ih =>
    intro j n hA hj h
    refine br_f (nI_ge (by omega) (by omega)) (ex_rna hf he (by omega) hV ?_)
    have hz := ev_al_na (hA j (Nat.le_refl _) (by omega))
    rw [show e - j = (e - j - 1) + 1 by omega, ev_rl_f (by rw [hz]; exact Bool.false_ne_true)]
    refine br_t (by decide) (nm_r (nI_1 j) ?_)
    refine ih (j + 1) n (fun i h1 h2 => hA i (by omega) (by omega)) (by omega) ?_
    rw [show j + 1 + d = j + (d + 1) by omega]
    exact h
theorem ey_put0 {post : SY → Prop} {f p r : Nat} (hf : f < 8) (hp : p < 64) (h : ∀ n, r < n → wY_putDown_31 post (nI f) (nI p) (nI r) n (nI 0) (if p = 0 then -1 else a (64 * f + p - 1)) fk ff fl a v m as) : wpY_putDown post (fk, ff, fl, a, v, m, as) (nI f) (nI p) (nI r) 0 := by
  have h' := h (r + 1) (by omega)
  refine br_t rfl ?_
  by_cases z : p = 0
  · rw [if_pos z] at h'
    exact br_t (by rw [z]; rfl) ⟨_, h'⟩
  · rw [if_neg z] at h'
    refine br_f (fun y => z ((ev_eq0 (by omega)).mp y)) ?_
    rw [ev_iy, ev_s1 (by omega), nI_clamp (by omega)]
    exact ⟨vp_in_nI (by omega) (by omega), nm_e ⟨_, h'⟩⟩
theorem ey_put1 {post : SY → Prop} {f p r : Nat} (hb : (if p = 0 then -1 else a (64 * f + p - 1)) = -1) (h : ∀ n, r < n → wY_putDown_31 post (nI f) (nI p) (nI r) n (nI 0) (if p = 0 then -1 else a (64 * f + p - 1)) fk ff fl a v m as) : wpY_putDown post (fk, ff, fl, a, v, m, as) (nI f) (nI p) (nI r) 1 := by
  have h' := h (r + 1) (by omega)
  rw [hb] at h'
  exact br_f ev_10 ⟨_, h'⟩
end
theorem ev_wloop {f e : Nat} (hf : f < 8) (he : e ≤ 64) : ∀ N p (a w : Nat → Int32), e - p ≤ N → p ≤ e → ev_V a → ev_ct (ev_na a) (64 * f + p) (e - p) ≤ ev_fr (ev_U a) →
    ∃ a' w' : Nat → Int32, ev_V a' ∧ (∀ j, p ≤ j → j < e → ev_al a' (64 * f + j)) ∧ (∀ q, q < 512 → ev_al a q → ev_al a' q) ∧
      (∀ (post : Int32 → SX → Prop) (p0 n0 n : Nat) (x4 x5 fk fs : Int32) (kb ki : Nat → Int32), e - p < n → p0 + n0 = e → (∀ i, i < n0 → ∃ b, b < 192 ∧ a' (64 * f + p0 + i) = nI b) → post x5 (fk, fs, a', ev_iV a' w' x4 (64 * f + p0) n0, ev_U a', kb, ki) → wX_write_49 post (nI f) (nI p0) (nI n0) x4 x5 (nI e) n (nI p) fk fs a w (ev_U a) kb ki) ∧
      (∀ (post : Int32 → SY → Prop) (p0 n0 n : Nat) (x4 x6 fk ff fl : Int32) (m as : Nat → Int32), e - p < n → p0 + n0 = e → (∀ j, 192 ≤ j → m j = 0) → (∀ i, i < n0 → ∃ b, b < 192 ∧ a' (64 * f + p0 + i) = nI b) → (∀ ff' fl' m', (∀ j, 192 ≤ j → m' j = 0) → post x6 (fk, ff', fl', a', ev_iV a' w' x4 (64 * f + p0) n0, m', as)) → wY_write_75 post (nI f) (nI p0) (nI n0) x4 (nI (64 * f)) x6 n (nI p) fk ff fl a w m as) := by
  intro N
  induction N with
  | zero =>
    intro p a w hN hp hV hfr
    refine ⟨a, w, hV, fun j h1 h2 => by omega, fun _ _ h => h, ?_, ?_⟩
    · intro post p0 n0 n x4 x5 fk fs kb ki hn hpn hA hpost
      obtain ⟨n, rfl⟩ : ∃ n', n = n' + 1 := ⟨n - 1, by omega⟩
      exact br_t (nI_le (by omega) (by omega)) (ex_setInts hf (by omega) hA hpost)
    · intro post p0 n0 n x4 x6 fk ff fl m as hn hpn hm hA hpost
      obtain ⟨n, rfl⟩ : ∃ n', n = n' + 1 := ⟨n - 1, by omega⟩
      exact br_t (by rw [nI_add]; exact nI_le (by omega) (by omega)) ⟨_, ey_w161 hf (by omega) hA (hpost ff fl m hm) n0 0 (by omega)⟩
  | succ N ih =>
    intro p a w hN hp hV hfr
    by_cases hpe : p = e
    · exact ih p a w (by omega) hp hV hfr
    · obtain ⟨r, hr⟩ : ∃ r, r = ev_rl (ev_na a) (e - p) (64 * f + p) := ⟨_, rfl⟩
      have hrl : r ≤ e - p := by rw [hr]; exact ev_rl_le _ _ _
      have hct := ev_rl_ct (ev_na a) (e - p) (64 * f + p)
      rw [← hr] at hct
      by_cases hr0 : r = 0
      · have hna : ¬ ev_na a (64 * f + p) = true := by
          have := ev_rl_end (ev_na a) (e - p) (64 * f + p) (by omega)
          rw [← hr, hr0] at this
          exact this
        have hal : ev_al a (64 * f + p) := ev_na_al hV (by omega) (by simpa using hna)
        have hs := ev_ct_split (ev_na a) (64 * f + p) 1 (e - p - 1)
        rw [show 1 + (e - p - 1) = e - p by omega] at hs
        obtain ⟨a', w', d1, d2, d3, hX, hY⟩ := ih (p + 1) a w (by omega) (by omega) hV (by
          rw [show 64 * f + (p + 1) = 64 * f + p + 1 by omega, show e - (p + 1) = e - p - 1 by omega]
          omega)
        refine ⟨a', w', d1, ?_, d3, ?_, ?_⟩
        · intro j h1 h2
          by_cases z : j = p
          · rw [z]; exact d3 _ (by omega) hal
          · exact d2 j (by omega) h2
        · intro post p0 n0 n x4 x5 fk fs kb ki hn hpn hA hpost
          obtain ⟨n, rfl⟩ : ∃ n', n = n' + 1 := ⟨n - 1, by omega⟩
          refine br_f (nI_ge (by omega) (by omega)) (ex_rna hf he hp hV ?_)
          rw [← hr, hr0]
          exact br_t (by decide) (nm_r (nI_1 p) (hX post p0 n0 n x4 x5 fk fs kb ki (by omega) hpn hA hpost))
        · intro post p0 n0 n x4 x6 fk ff fl m as hn hpn hm hA hpost
          obtain ⟨n, rfl⟩ : ∃ n', n = n' + 1 := ⟨n - 1, by omega⟩
          refine br_f (by rw [nI_add]; exact nI_ge (by omega) (by omega)) (ey_count hV hm ?_)
          refine ⟨_, ey_w91 hf he hpn hV (e - p) p (by omega) ?_⟩
          rw [← hr, hr0, Nat.add_zero]
          have hle : nI p ≤ nI p := nI_le (Nat.le_refl _) (by omega)
          exact br_t hle (br_t hle (nm_r (nI_1 p) (hY post p0 n0 n x4 x6 fk ff fl (ev_U a) as (by omega) hpn (fun j hj => ev_U_ge (by omega)) hA hpost)))
      · obtain ⟨a1, w1, ⟨c1, c2, c3, c4, c5⟩, gX, gY⟩ := ev_rows (e := p + r) hf (by omega) r r p a w _ (Nat.le_refl _) rfl hV (by omega) rfl
        have hmono : ev_ct (ev_na a1) (64 * f + p + r) (e - p - r) ≤ ev_ct (ev_na a) (64 * f + p + r) (e - p - r) :=
          ev_ct_mono _ (fun j h1 h2 h3 => ev_na_mono hV (by omega) (c3 j (by omega)) h3)
        obtain ⟨a', w', d1, d2, d3, hX, hY⟩ := ih (p + r) a1 w1 (by omega) (by omega) c1 (by
          rw [show 64 * f + (p + r) = 64 * f + p + r by omega, show e - (p + r) = e - p - r by omega]
          omega)
        refine ⟨a', w', d1, ?_, fun q h1 h2 => d3 q h1 (c3 q h1 h2), ?_, ?_⟩
        · intro j h1 h2
          by_cases z : p + r ≤ j
          · exact d2 j z h2
          · exact d3 _ (by omega) (c2 j h1 (by omega))
        · intro post p0 n0 n x4 x5 fk fs kb ki hn hpn hA hpost
          obtain ⟨n, rfl⟩ : ∃ n', n = n' + (r - 1) + 1 := ⟨n - r, by omega⟩
          refine br_f (nI_ge (by omega) (by omega)) (ex_rna hf he hp hV ?_)
          rw [← hr]
          refine br_f (nI_nle (by omega) (by omega)) (ev_row_X gX (by omega) (nm_r (nI_1 p) ?_))
          refine ex_wskip hf he c1 (r - 1) (p + 1) n (fun i h1 h2 => c2 i (by omega) (by omega)) (by omega) ?_
          rw [show p + 1 + (r - 1) = p + r by omega]
          exact hX post p0 n0 n x4 x5 fk fs kb ki (by omega) hpn hA hpost
        · intro post p0 n0 n x4 x6 fk ff fl m as hn hpn hm hA hpost
          obtain ⟨n, rfl⟩ : ∃ n', n = n' + 1 := ⟨n - 1, by omega⟩
          refine br_f (by rw [nI_add]; exact nI_ge (by omega) (by omega)) (ey_count hV hm ?_)
          refine ⟨_, ey_w91 hf he hpn hV (e - p) p (by omega) ?_⟩
          rw [← hr]
          have hgt : ¬ nI (p + r) ≤ nI p := nI_ge (by omega) (by omega)
          refine br_f hgt ?_
          rw [pk_sub (by omega), Nat.add_sub_cancel_left]
          refine ey_put0 hf (by omega) (fun n1 hn1 => gY _ p r 0 n1 fk ff fl (ev_U a) as hn1 rfl rfl (fun j hj => ev_U_ge (by omega)) (fun ff' fl' m' hm' => ?_))
          exact br_f hgt (hY post p0 n0 n x4 x6 fk ff' fl' m' as (by omega) hpn hm' hA hpost)
end
section
/-! pack -/
def ev_pl (a : Nat → Int32) (k : Nat) : Bool := decide (¬ a k = -1)
theorem ev_pl_f {a : Nat → Int32} {k : Nat} (h : a k = -1) : ¬ ev_pl a k = true := fun z => (of_decide_eq_true z) h
theorem ev_pl_n {a : Nat → Int32} {k : Nat} (h : ¬ ev_pl a k = true) : a k = -1 := by
  by_cases z : a k = -1
  · exact z
  · exact absurd (decide_eq_true z) h
theorem ev_al_ne {a : Nat → Int32} {k : Nat} (h : ev_al a k) : ¬ a k = -1 := by
  obtain ⟨b, hb, e, _⟩ := h
  rw [e]; exact ev_ne1 (by omega)
section
variable {fk fs ff fl : Int32} {ba ia ua kb ki a v m as : Nat → Int32}
theorem ex_cp_l {post : Int32 → Prop} {f : Nat} (hf : f < 8) (hp : post (nI (ev_ct (ev_pl ba) (64 * f) 64))) : ∀ d i, i + d = 64 → wX_countPlaced_4 post (nI f) fk fs ba ia ua kb ki (d + 1) (nI (ev_ct (ev_pl ba) (64 * f) i)) (nI i) := by
  intro d
  induction d with
  | zero =>
    intro i h
    refine br_t (nI_le (a := 64) (by omega) (by omega)) ?_
    rw [show i = 64 by omega]; exact hp
  | succ d ih =>
    intro i h
    have hi := ih (i + 1) (by omega)
    refine br_f (nI_ge (b := 64) (by omega) (by omega)) ?_
    rw [ev_ix, nI_clamp (by omega)]
    refine ⟨vp_in_nI (by omega) (by omega), ?_⟩
    by_cases z : ba (64 * f + i) = -1
    · rw [ev_ct_f (ev_pl_f z)] at hi
      exact br_t z (nm_r (nI_1 i) hi)
    · rw [ev_ct_t (p := ev_pl ba) (decide_eq_true z)] at hi
      exact br_f z (nm_r (nI_1 _) (nm_r (nI_1 i) hi))
theorem ex_cp {post : Int32 → Prop} {f : Nat} (hf : f < 8) (hp : post (nI (ev_ct (ev_pl ba) (64 * f) 64))) : wpX_countPlaced post (fk, fs, ba, ia, ua, kb, ki) (nI f) :=
  ⟨_, ex_cp_l hf hp 64 0 (by omega)⟩
theorem ex_rsa_l {post : Int32 → Prop} {f p : Nat} (hf : f < 8) : ∀ d j, p ≤ j → j + d = 64 → post (nI (j + ev_rl (ev_pl ba) d (64 * f + j) - p)) → wX_rowStartingAt_25 post (nI f) (nI p) fk fs ba ia ua kb ki (d + 1) (nI j) := by
  intro d
  induction d with
  | zero =>
    intro j h1 h2 hp
    refine br_t (nI_le (a := 64) (by omega) (by omega)) ?_
    rw [pk_sub h1]; exact hp
  | succ d ih =>
    intro j h1 h2 hp
    refine br_f (nI_ge (b := 64) (by omega) (by omega)) ?_
    rw [ev_ix, nI_clamp (by omega)]
    refine ⟨vp_in_nI (by omega) (by omega), ?_⟩
    by_cases z : ba (64 * f + j) = -1
    · rw [ev_rl_f (ev_pl_f z)] at hp
      refine br_t z ?_
      rw [pk_sub h1]; exact hp
    · rw [ev_rl_t (q := ev_pl ba) (decide_eq_true z)] at hp
      refine br_f z (nm_r (nI_1 j) (ih (j + 1) (by omega) (by omega) ?_))
      rw [show 64 * f + (j + 1) = 64 * f + j + 1 by omega, show j + 1 + ev_rl (ev_pl ba) d (64 * f + j + 1) - p = j + (ev_rl (ev_pl ba) d (64 * f + j + 1) + 1) - p by omega]
      exact hp
theorem ex_rsa_t {post : Int32 → Prop} {f p : Nat} (hf : f < 8) (hp : p < 64) (hb : p = 0 ∨ ba (64 * f + p - 1) = -1) (h : post (nI (ev_rl (ev_pl ba) (64 - p) (64 * f + p)))) : wpX_rowStartingAt post (fk, fs, ba, ia, ua, kb, ki) (nI f) (nI p) := by
  have hl : ∃ n, wX_rowStartingAt_25 post (nI f) (nI p) fk fs ba ia ua kb ki n (nI p) := by
    refine ⟨_, ex_rsa_l hf (64 - p) p (Nat.le_refl _) (by omega) ?_⟩
    rw [Nat.add_sub_cancel_left]; exact h
  unfold wpX_rowStartingAt
  dsimp only
  by_cases z : p = 0
  · exact br_t (by rw [z]; decide) hl
  · refine br_f (nI_nle (by omega) (by omega)) ?_
    rw [ev_ix, ev_s1 (by omega), nI_clamp (by omega)]
    exact ⟨vp_in_nI (by omega) (by omega), br_t (hb.resolve_left z) hl⟩
theorem ex_rsa_f {post : Int32 → Prop} {f p : Nat} (hf : f < 8) (hp : p < 64) (h0 : 0 < p) (hb : ¬ ba (64 * f + p - 1) = -1) (h : post 0) : wpX_rowStartingAt post (fk, fs, ba, ia, ua, kb, ki) (nI f) (nI p) := by
  unfold wpX_rowStartingAt
  dsimp only
  refine br_f (nI_nle (by omega) (by omega)) ?_
  rw [ev_ix, ev_s1 (by omega), nI_clamp (by omega)]
  exact ⟨vp_in_nI (by omega) (by omega), br_f hb h⟩
theorem ey_p78 {post : Int32 → SY → Prop} {J : Int32 → Int32 → Int32 → Int32 → (Nat → Int32) → (Nat → Int32) → (Nat → Int32) → (Nat → Int32) → Prop} {f : Nat} {x4 : Int32} (hf : f < 8) (hV : ev_V a) : ∀ d j, j + d = 64 → wY_pack_106 post J (nI f) x4 (nI (j + ev_rl (ev_pl a) d (64 * f + j))) fk ff fl a v m as → wY_pack_78 post J (nI f) x4 fk ff fl a v m as (d + 1) (nI j) := by
  intro d
  induction d with
  | zero =>
    intro j h hp
    exact br_t (nI_le (a := 64) (by omega) (by omega)) hp
  | succ d ih =>
    intro j h hp
    refine br_f (nI_ge (b := 64) (by omega) (by omega)) ?_
    rw [ev_iy, nI_clamp (by omega)]
    refine ⟨vp_in_nI (by omega) (by omega), ?_⟩
    rcases hV (64 * f + j) (by omega) with e | ⟨b, hb, e⟩
    · rw [ev_rl_f (ev_pl_f e)] at hp
      exact br_t (by rw [e]; decide) hp
    · have e1 : ¬ a (64 * f + j) = -1 := by rw [e]; exact ev_ne1 (by omega)
      rw [ev_rl_t (q := ev_pl a) (decide_eq_true e1)] at hp
      refine br_f (by rw [e]; exact nI_pos (by omega)) (nm_r (nI_1 j) (ih (j + 1) (by omega) ?_))
      rw [show 64 * f + (j + 1) = 64 * f + j + 1 by omega, show j + 1 + ev_rl (ev_pl a) d (64 * f + j + 1) = j + (ev_rl (ev_pl a) d (64 * f + j + 1) + 1) by omega]
      exact hp
theorem ey_p21 {post : Int32 → SY → Prop} {f c : Nat} (hf : f < 8) (hc : c ≤ 192) (hV : ev_V a) (h1 : ev_ct (ev_pl a) (64 * f) 64 ≤ c → wpY_keep (fun u => ∃ n67 : Nat, wY_pack_67 post (nI f) n67 0 u.1 u.2.1 u.2.2.1 u.2.2.2.1 u.2.2.2.2.1 u.2.2.2.2.2.1 u.2.2.2.2.2.2) (fk, ff, fl, a, v, m, as)) (h0 : ¬ ev_ct (ev_pl a) (64 * f) 64 ≤ c → post (-2) (fk, ff, fl, a, v, m, as)) : ∀ d i, i + d = 64 → wY_pack_21 post (nI f) (nI c) fk ff fl a v m as (d + 1) (nI (ev_ct (ev_pl a) (64 * f) i)) (nI i) := by
  intro d
  induction d with
  | zero =>
    intro i h
    have hl := ev_ct_le (ev_pl a) (64 * f) 64
    refine br_t (nI_le (a := 64) (by omega) (by omega)) ?_
    rw [show i = 64 by omega]
    by_cases z : ev_ct (ev_pl a) (64 * f) 64 ≤ c
    · exact br_t (nI_le z (by omega)) (h1 z)
    · exact br_f (nI_ge (by omega) (by omega)) (h0 z)
  | succ d ih =>
    intro i h
    have hi := ih (i + 1) (by omega)
    refine br_f (nI_ge (b := 64) (by omega) (by omega)) ?_
    rw [ev_iy, nI_clamp (by omega)]
    refine ⟨vp_in_nI (by omega) (by omega), ?_⟩
    rcases hV (64 * f + i) (by omega) with e | ⟨b, hb, e⟩
    · rw [ev_ct_f (ev_pl_f e)] at hi
      exact br_t (by rw [e]; decide) (nm_r (nI_1 i) hi)
    · have e1 : ¬ a (64 * f + i) = -1 := by rw [e]; exact ev_ne1 (by omega)
      rw [ev_ct_t (p := ev_pl a) (decide_eq_true e1)] at hi
      exact br_f (by rw [e]; exact nI_pos (by omega)) (nm_r (nI_1 _) (nm_r (nI_1 i) hi))
/-- pieces that were placed just now are passed over -/
theorem ex_pskip {post : Int32 → SX → Prop} {f : Nat} (hf : f < 8) : ∀ d j n, 0 < j → (∀ i, j ≤ i → i < j + d → ¬ ba (64 * f + i - 1) = -1) → j + d ≤ 64 → wX_pack_35 post (nI f) n (nI (j + d)) fk fs ba ia ua kb ki → wX_pack_35 post (nI f) (n + d) (nI j) fk fs ba ia ua kb ki := by
  intro d
  induction d with
  | zero => intro j n _ _ _ h; exact h
  | succ d ih =>
    intro j n h0 hA hj h
    refine br_f (nI_ge (b := 64) (by omega) (by omega)) (ex_rsa_f hf (by omega) h0 (hA j (Nat.le_refl _) (by omega)) ?_)
    refine br_t (by decide) (nm_r (nI_1 j) ?_)
    refine ih (j + 1) n (by omega) (fun i h1 h2 => hA i (by omega) (by omega)) (by omega) ?_
    rw [show j + 1 + d = j + (d + 1) by omega]
    exact h
end
theorem ev_ploop {f : Nat} (hf : f < 8) : ∀ N p (a w : Nat → Int32), 64 - p ≤ N → p ≤ 64 → ev_V a → ev_ct (ev_pl a) (64 * f + p) (64 - p) ≤ ev_fr (ev_U a) → (p = 0 ∨ a (64 * f + p - 1) = -1 ∨ (p < 64 → a (64 * f + p) = -1)) →
    ∃ a' w' : Nat → Int32, ev_V a' ∧
      (∀ (post : Int32 → SX → Prop) (n : Nat) (fk fs : Int32) (kb ki : Nat → Int32), 64 - p < n → post (nI (ev_ct (ev_xb a' (64 * f)) (64 * f) 64)) (fk, fs, a', w', ev_U a', kb, ki) → wX_pack_35 post (nI f) n (nI p) fk fs a w (ev_U a) kb ki) ∧
      (∀ (post : Int32 → SY → Prop) (n : Nat) (fk ff fl : Int32) (m as : Nat → Int32), 64 - p < n → (∀ j, 192 ≤ j → m j = 0) → (∀ ff' fl' m', (∀ j, 192 ≤ j → m' j = 0) → post (nI (ev_ct (ev_xb a' (64 * f)) (64 * f) 64)) (fk, ff', fl', a', w', m', as)) → wY_pack_67 post (nI f) n (nI p) fk ff fl a w m as) := by
  intro N
  induction N with
  | zero =>
    intro p a w hN hp hV hfr hJ
    refine ⟨a, w, hV, ?_, ?_⟩
    · intro post n fk fs kb ki hn hpost
      obtain ⟨n, rfl⟩ : ∃ n', n = n' + 1 := ⟨n - 1, by omega⟩
      exact br_t (nI_le (a := 64) (by omega) (by omega)) (ex_extents hf hV hpost)
    · intro post n fk ff fl m as hn hm hpost
      obtain ⟨n, rfl⟩ : ∃ n', n = n' + 1 := ⟨n - 1, by omega⟩
      exact br_t (nI_le (a := 64) (by omega) (by omega)) (ey_extents hf hV (hpost ff fl m hm))
  | succ N ih =>
    intro p a w hN hp hV hfr hJ
    by_cases hpe : p = 64
    · exact ih p a w (by omega) hp hV hfr hJ
    · obtain ⟨r, hr⟩ : ∃ r, r = ev_rl (ev_pl a) (64 - p) (64 * f + p) := ⟨_, rfl⟩
      have hrl : r ≤ 64 - p := by rw [hr]; exact ev_rl_le _ _ _
      have hct := ev_rl_ct (ev_pl a) (64 - p) (64 * f + p)
      rw [← hr] at hct
      by_cases hr0 : r = 0
      · have hna : a (64 * f + p) = -1 := by
          have := ev_rl_end (ev_pl a) (64 - p) (64 * f + p) (by omega)
          rw [← hr, hr0] at this
          exact ev_pl_n this
        have hs := ev_ct_split (ev_pl a) (64 * f + p) 1 (64 - p - 1)
        rw [show 1 + (64 - p - 1) = 64 - p by omega] at hs
        obtain ⟨a', w', d1, hX, hY⟩ := ih (p + 1) a w (by omega) (by omega) hV (by
          rw [show 64 * f + (p + 1) = 64 * f + p + 1 by omega, show 64 - (p + 1) = 64 - p - 1 by omega]
          omega) (Or.inr (Or.inl hna))
        refine ⟨a', w', d1, ?_, ?_⟩
        · intro post n fk fs kb ki hn hpost
          obtain ⟨n, rfl⟩ : ∃ n', n = n' + 1 := ⟨n - 1, by omega⟩
          have hx := hX post n fk fs kb ki (by omega) hpost
          refine br_f (nI_ge (b := 64) (by omega) (by omega)) ?_
          by_cases hb : p = 0 ∨ a (64 * f + p - 1) = -1
          · refine ex_rsa_t hf (by omega) hb ?_
            rw [← hr, hr0]
            exact br_t (by decide) (nm_r (nI_1 p) hx)
          · exact ex_rsa_f hf (by omega) (by have : ¬ p = 0 := fun z => hb (Or.inl z); omega) (fun z => hb (Or.inr z)) (br_t (by decide) (nm_r (nI_1 p) hx))
        · intro post n fk ff fl m as hn hm hpost
          obtain ⟨n, rfl⟩ : ∃ n', n = n' + 1 := ⟨n - 1, by omega⟩
          refine br_f (nI_ge (b := 64) (by omega) (by omega)) ⟨_, ey_p78 hf hV (64 - p) p (by omega) ?_⟩
          rw [← hr, hr0, Nat.add_zero]
          have hle : nI p ≤ nI p := nI_le (Nat.le_refl _) (by omega)
          exact br_t hle (br_t hle (nm_r (nI_1 p) (hY post n fk ff fl m as (by omega) hm hpost)))
      · have hcur : ¬ a (64 * f + p) = -1 := by
          have := ev_rl_in (ev_pl a) (64 - p) (64 * f + p) 0 (by omega)
          exact of_decide_eq_true this
        have hb : p = 0 ∨ a (64 * f + p - 1) = -1 := by
          rcases hJ with z | z | z
          · exact Or.inl z
          · exact Or.inr z
          · exact absurd (z (by omega)) hcur
        have hbf : (if p = 0 then -1 else a (64 * f + p - 1)) = -1 := by
          by_cases z : p = 0
          · rw [if_pos z]
          · rw [if_neg z]; exact hb.resolve_left z
        obtain ⟨a1, w1, ⟨c1, c2, c3, c4, c5⟩, gX, gY⟩ := ev_rows (e := p + r) hf (by omega) r r p a w _ (Nat.le_refl _) rfl hV (by omega) rfl
        have hcg : ev_ct (ev_pl a1) (64 * f + p + r) (64 - p - r) = ev_ct (ev_pl a) (64 * f + p + r) (64 - p - r) :=
          ev_ct_congr _ (fun j h1 h2 => by unfold ev_pl; rw [c4 j (by omega)])
        obtain ⟨a', w', d1, hX, hY⟩ := ih (p + r) a1 w1 (by omega) (by omega) c1 (by
          rw [show 64 * f + (p + r) = 64 * f + p + r by omega, show 64 - (p + r) = 64 - p - r by omega]
          omega) (Or.inr (Or.inr (fun hlt => by
            have := ev_rl_end (ev_pl a) (64 - p) (64 * f + p) (by omega)
            rw [← hr] at this
            rw [show 64 * f + (p + r) = 64 * f + p + r by omega, c4 _ (by omega)]
            exact ev_pl_n this)))
        refine ⟨a', w', d1, ?_, ?_⟩
        · intro post n fk fs kb ki hn hpost
          obtain ⟨n, rfl⟩ : ∃ n', n = n' + (r - 1) + 1 := ⟨n - r, by omega⟩
          refine br_f (nI_ge (b := 64) (by omega) (by omega)) (ex_rsa_t hf (by omega) hb ?_)
          rw [← hr]
          refine br_f (nI_nle (by omega) (by omega)) (ev_row_X gX (by omega) (nm_r (nI_1 p) ?_))
          refine ex_pskip hf (r - 1) (p + 1) n (by omega) (fun i h1 h2 => ?_) (by omega) ?_
          · have := ev_al_ne (c2 (i - 1) (by omega) (by omega))
            rw [show 64 * f + (i - 1) = 64 * f + i - 1 by omega] at this
            exact this
          · rw [show p + 1 + (r - 1) = p + r by omega]
            exact hX post n fk fs kb ki (by omega) hpost
        · intro post n fk ff fl m as hn hm hpost
          obtain ⟨n, rfl⟩ : ∃ n', n = n' + 1 := ⟨n - 1, by omega⟩
          refine br_f (nI_ge (b := 64) (by omega) (by omega)) ⟨_, ey_p78 hf hV (64 - p) p (by omega) ?_⟩
          rw [← hr]
          have hgt : ¬ nI (p + r) ≤ nI p := nI_ge (by omega) (by omega)
          refine br_f hgt ?_
          rw [pk_sub (by omega), Nat.add_sub_cancel_left]
          refine ey_put1 hbf (fun n1 hn1 => gY _ p r 0 n1 fk ff fl m as hn1 rfl rfl hm (fun ff' fl' m' hm' => ?_))
          exact br_f hgt (hY post n fk ff' fl' m' as (by omega) hm' hpost)
theorem i_vc_pack {k : Nat} {u : SX} {v : SY} (I : i_Rel k u v) (hk : k + 5 ≤ 2560) (v1 : Int32) : wpX_pack (fun r u' => wpY_pack (fun r' v' => r' = r ∧ i_Rel (k + 5) u' v') v v1) u v1 := by
  have I' : i_Rel (k + 5) u v := I
  obtain ⟨K, S, ff, fl, a, w, kb, ki, m, as, rfl, rfl, hK, hS, hV, hm, hR⟩ := I
  unfold wpX_pack wpY_pack
  dsimp only
  by_cases h : ∃ j, j < 8 ∧ v1 = nI j
  · obtain ⟨f, hf, rfl⟩ := h
    have hfr : ev_fr (ev_U a) ≤ 192 := ev_ct_le _ _ _
    have hpl := ev_ct_le (ev_pl a) (64 * f) 64
    refine ex_file_t hf (br_f ev_10 (ex_cp hf (ex_cfb 0 192 (by omega) rfl rfl ?_)))
    show (nI (ev_ct (ev_pl a) (64 * f) 64) ≤ nI (ev_fr (ev_U a)) → _) ∧ (¬ nI (ev_ct (ev_pl a) (64 * f) 64) ≤ nI (ev_fr (ev_U a)) → _)
    by_cases z : ev_ct (ev_pl a) (64 * f) 64 ≤ ev_fr (ev_U a)
    · obtain ⟨a', w', hV', hX, hY⟩ := ev_ploop hf 64 0 a w (by omega) (by omega) hV z (Or.inl rfl)
      refine br_t (nI_le z (by omega)) (ex_keep hK hS ?_)
      refine ⟨_, hX _ 65 _ _ _ _ (by omega) ?_⟩
      refine ey_in_t (n := 8) (by decide) rfl hf (br_f ev_10 (ey_fb hV hm ?_))
      refine ⟨_, ey_p21 hf hfr hV (fun _ => ey_keep hK ?_) (fun y => absurd z y) 64 0 (by omega)⟩
      refine ⟨_, hY _ 65 _ _ _ _ _ (by omega) (fun j hj => ev_U_ge (by omega)) (fun ff' fl' m' hm' => ?_)⟩
      exact ⟨rfl, ev_rel (ev_kK_le hK) (by omega) hV' hm' (ev_keep_Rg hK hS hV hR)⟩
    · refine br_f (nI_ge (by omega) (by omega)) ?_
      refine ey_in_t (n := 8) (by decide) rfl hf (br_f ev_10 (ey_fb hV hm ?_))
      exact ⟨_, ey_p21 hf hfr hV (fun y => absurd y z) (fun _ => ⟨rfl, ev_rel hK hS hV (fun j hj => ev_U_ge (by omega)) hR⟩) 64 0 (by omega)⟩
  · exact ex_file_f h (br_t rfl (ey_in_f (n := 8) (by decide) rfl h (br_t rfl ⟨rfl, I'⟩)))
end
section
/-! write, the method -/
section
variable {fk ff fl : Int32} {a v m as : Nat → Int32}
theorem ey_w29 {post : Int32 → SY → Prop} {f p n c : Nat} {x4 : Int32} (hf : f < 8) (hpn : p + n ≤ 64) (hc : c ≤ 192) (hV : ev_V a) (h1 : ev_ct (ev_na a) (64 * f + p) n ≤ c → wpY_keep (fun u => ∃ n75 : Nat, wY_write_75 post (nI f) (nI p) (nI n) x4 (nI (64 * f)) (nI (ev_ct (ev_na a) (64 * f + p) n)) n75 (nI p) u.1 u.2.1 u.2.2.1 u.2.2.2.1 u.2.2.2.2.1 u.2.2.2.2.2.1 u.2.2.2.2.2.2) (fk, ff, fl, a, v, ev_U a, as)) (h0 : ¬ ev_ct (ev_na a) (64 * f + p) n ≤ c → post (-2) (fk, ff, fl, a, v, ev_U a, as)) : ∀ d i, i + d = n → wY_write_29 post (nI f) (nI p) (nI n) x4 (nI (64 * f)) (nI c) fk ff fl a v (ev_U a) as (d + 1) (nI (ev_ct (ev_na a) (64 * f + p) i)) (nI (p + i)) := by
  intro d
  induction d with
  | zero =>
    intro i h
    have hl := ev_ct_le (ev_na a) (64 * f + p) n
    refine br_t (by rw [nI_add]; exact nI_le (by omega) (by omega)) ?_
    rw [show i = n by omega]
    by_cases z : ev_ct (ev_na a) (64 * f + p) n ≤ c
    · exact br_t (nI_le z (by omega)) (h1 z)
    · exact br_f (nI_ge (by omega) (by omega)) (h0 z)
  | succ d ih =>
    intro i h
    have hi := ih (i + 1) (by omega)
    refine br_f (by rw [nI_add]; exact nI_ge (by omega) (by omega)) ?_
    rw [nI_add (64 * f) (p + i), show 64 * f + (p + i) = 64 * f + p + i by omega]
    refine ey_open (by omega) hV (fun z => ?_) (fun z => ?_)
    · rw [ev_ct_t z] at hi
      exact br_f ev_10 (nm_r (nI_1 _) (nm_r (nI_1 (p + i)) hi))
    · rw [ev_ct_f (by rw [z]; exact Bool.false_ne_true)] at hi
      exact br_t rfl (nm_r (nI_1 (p + i)) hi)
end
theorem i_vc_write {k : Nat} {u : SX} {v : SY} (I : i_Rel k u v) (hk : k + 5 ≤ 2560) (v1 : Int32) (v2 : Int32) (v3 : Int32) (v4 : Int32) : wpX_write (fun r u' => wpY_write (fun r' v' => r' = r ∧ i_Rel (k + 5) u' v') v v1 v2 v3 v4) u v1 v2 v3 v4 := by
  have I' : i_Rel (k + 5) u v := I
  obtain ⟨K, S, ff, fl, a, w, kb, ki, m, as, rfl, rfl, hK, hS, hV, hm, hR⟩ := I
  unfold wpX_write wpY_write
  dsimp only
  by_cases h : ev_ok v1 v2 v3
  · obtain ⟨f, p, n, hf, hp, hn, hpn, rfl, rfl, rfl⟩ := h
    have hfr : ev_fr (ev_U a) ≤ 192 := ev_ct_le _ _ _
    have hna := ev_ct_le (ev_na a) (64 * f + p) n
    refine ex_rng_t hf hp hn hpn (br_f ev_10 (ex_cna hf hpn hV (ex_cfb 0 192 (by omega) rfl rfl ?_)))
    show (nI (ev_ct (ev_na a) (64 * f + p) n) ≤ nI (ev_fr (ev_U a)) → _) ∧ (¬ nI (ev_ct (ev_na a) (64 * f + p) n) ≤ nI (ev_fr (ev_U a)) → _)
    by_cases z : ev_ct (ev_na a) (64 * f + p) n ≤ ev_fr (ev_U a)
    · obtain ⟨a', w', hV', hal, _, hX, hY⟩ := ev_wloop (e := p + n) hf hpn 64 p a w (by omega) (by omega) hV (by rw [Nat.add_sub_cancel_left]; exact z)
      have hA : ∀ i, i < n → ∃ b, b < 192 ∧ a' (64 * f + p + i) = nI b := by
        intro i hi
        obtain ⟨b, hb, e, _⟩ := hal (p + i) (by omega) (by omega)
        exact ⟨b, hb, by rw [show 64 * f + p + i = 64 * f + (p + i) by omega]; exact e⟩
      refine br_t (nI_le z (by omega)) (ex_keep hK hS (nm_r (nI_add p n) ?_))
      refine ⟨_, hX _ p n 65 _ _ _ _ _ _ (by omega) rfl hA ?_⟩
      refine ey_row_t hf hp hn hpn (br_f ev_10 (nm_r (ev_64x f) (ey_fb hV hm ?_)))
      refine ⟨_, ey_w29 hf hpn hfr hV (fun _ => ey_keep hK ?_) (fun y => absurd z y) n 0 (by omega)⟩
      refine ⟨_, hY _ p n 65 _ _ _ _ _ _ _ (by omega) rfl (fun j hj => ev_U_ge (by omega)) hA (fun ff' fl' m' hm' => ?_)⟩
      exact ⟨rfl, ev_rel (ev_kK_le hK) (by omega) hV' hm' (ev_keep_Rg hK hS hV hR)⟩
    · refine br_f (nI_ge (by omega) (by omega)) ?_
      refine ey_row_t hf hp hn hpn (br_f ev_10 (nm_r (ev_64x f) (ey_fb hV hm ?_)))
      exact ⟨_, ey_w29 hf hpn hfr hV (fun y => absurd y z) (fun _ => ⟨rfl, ev_rel hK hS hV (fun j hj => ev_U_ge (by omega)) hR⟩) n 0 (by omega)⟩
  · exact ex_rng_f h (br_t rfl (ey_row_f h (br_t rfl ⟨rfl, I'⟩)))
end
