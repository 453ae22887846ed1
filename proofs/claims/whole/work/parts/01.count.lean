/-! rows pasted from kit/rows (pk_), then counting -/
theorem pk_us {f : Nat → Int32} {k : Nat} {x : Int32} : upd f k x k = x := if_pos rfl
theorem pk_un {f : Nat → Int32} {k j : Nat} {x : Int32} (h : j ≠ k) : upd f k x j = f j := if_neg h
theorem pk_sub {a b : Nat} (h : b ≤ a) : nI a - nI b = nI (a - b) := by
  obtain ⟨c, rfl⟩ : ∃ c, a = c + b := ⟨a - b, by omega⟩
  rw [← nI_add, Int32.add_sub_cancel, Nat.add_sub_cancel]
theorem pk_m1 (n : Nat) : nI (n + 1) + (-1) = nI n := by
  rw [← nI_1, Int32.add_assoc, show (1 : Int32) + (-1) = 0 from rfl, Int32.add_zero]
theorem pk_mul (a b : Nat) : nI a * nI b = nI (a * b) := (Int32.ofNat_mul a b).symm
theorem pk_div {a d : Nat} (ha : a < 2 ^ 31) (h0 : 0 < d) (hd : d < 2 ^ 31) : nI a / nI d = nI (a / d) := by
  apply Int32.toInt_inj.mp
  rw [lg_idiv_nonneg (by rw [nI_toInt ha]; omega) (by rw [nI_toInt hd]; omega), nI_toInt ha, nI_toInt hd, nI_toInt (Nat.lt_of_le_of_lt (Nat.div_le_self a d) ha)]
  first | rfl | exact (Int.natCast_ediv _ _).symm
theorem pk_rem {a d : Nat} (ha : a < 2 ^ 31) (h0 : 0 < d) (hd : d < 2 ^ 31) : nI a - nI a / nI d * nI d = nI (a % d) := by
  rw [pk_div ha h0 hd, pk_mul, pk_sub (Nat.div_mul_le_self a d)]
  exact congrArg nI (by have := Nat.div_add_mod' a d; omega)
theorem pk_ix (x : Int32) {n : Nat} (hn : n < 2 ^ 31) : x < 0 ∨ nI n ≤ x ∨ ∃ j : Nat, j < n ∧ x = nI j := by
  by_cases h : x < 0
  · exact Or.inl h
  · obtain ⟨j, hj, rfl⟩ := nI_of h
    by_cases h2 : j < n
    · exact Or.inr (Or.inr ⟨j, h2, rfl⟩)
    · exact Or.inr (Or.inl (nI_le (by omega) hj))
theorem pk_le {x y : Int32} {A B : Prop} (a b : Nat) (f : a ≤ b → A) (g : b < a → B) (hx : x = nI a := by rfl) (hy : y = nI b := by rfl) (ha : a < 2 ^ 31 := by omega) (hb : b < 2 ^ 31 := by omega) : (x ≤ y → A) ∧ (¬ x ≤ y → B) := by
  subst hx hy
  rw [nI_leI ha hb]
  exact ⟨f, fun z => g (by omega)⟩
theorem pk_lt {x y : Int32} {A B : Prop} (a b : Nat) (f : a < b → A) (g : b ≤ a → B) (hx : x = nI a := by rfl) (hy : y = nI b := by rfl) (ha : a < 2 ^ 31 := by omega) (hb : b < 2 ^ 31 := by omega) : (x < y → A) ∧ (¬ x < y → B) := by
  subst hx hy
  rw [nI_ltI ha hb]
  exact ⟨f, fun z => g (by omega)⟩
theorem pk_eq {x y : Int32} {A B : Prop} (a b : Nat) (f : a = b → A) (g : a ≠ b → B) (hx : x = nI a := by rfl) (hy : y = nI b := by rfl) (ha : a < 2 ^ 31 := by omega) (hb : b < 2 ^ 31 := by omega) : (x = y → A) ∧ (¬ x = y → B) := by
  subst hx hy
  rw [nI_eq ha hb]
  exact ⟨f, g⟩
theorem pk_in {x : Int32} (n N : Nat) (h : n < N) (hx : x = nI n := by rfl) (hN : N < 2 ^ 31 := by omega) : vp_in x N := by
  subst hx
  exact vp_in_nI h hN
theorem pk_cl {x : Int32} (n : Nat) (hx : x = nI n := by rfl) (h : n < 2 ^ 31 := by omega) : x.toNatClampNeg = n := by
  subst hx
  exact nI_clamp h
theorem pk_loop {σ : Type} (W : Nat → Nat → σ → Prop) (I : Nat → σ → Prop) (e i0 : Nat) (s : σ) (hi : i0 ≤ e) (h0 : I i0 s) (hx : ∀ n s, I e s → W (n + 1) e s)
    (hs : ∀ n i s, i < e → I i s → (∀ s', I (i + 1) s' → W n (i + 1) s') → W (n + 1) i s) : ∃ n, W n i0 s :=
  ⟨e + 1, loop_i W I e hx hs (e + 1) i0 s hi (by omega) h0⟩

/-! numbers -/
theorem ev_m1lt : (-1 : Int32) < 0 := by decide
theorem ev_m1le : ¬ (0 : Int32) ≤ -1 := by decide
theorem ev_ne1 {a : Nat} (h : a < 2 ^ 31) : ¬ nI a = -1 := by
  intro e
  have := nI_pos (n := a) h
  rw [e] at this
  exact this ev_m1lt
theorem ev_ne1' {a : Nat} (h : a < 2 ^ 31) : ¬ (-1 : Int32) = nI a := fun e => ev_ne1 h e.symm
theorem ev_eq0 {a : Nat} (h : a < 2 ^ 31) : nI a = 0 ↔ a = 0 := by
  rw [← nI_0, nI_eq h (by omega)]
theorem ev_eq1 {a : Nat} (h : a < 2 ^ 31) : nI a = 1 ↔ a = 1 := nI_eq (b := 1) h (by omega)
theorem ev_inj {a b : Nat} (h : nI a = nI b) (ha : a < 2 ^ 31) (hb : b < 2 ^ 31) : a = b := (nI_eq ha hb).mp h
theorem ev_uu (f : Nat → Int32) (k : Nat) (x y : Int32) : upd (upd f k x) k y = upd f k y := by
  funext j
  by_cases h : j = k
  · rw [h, pk_us, pk_us]
  · rw [pk_un h, pk_un h, pk_un h]
theorem ev_same (f : Nat → Int32) (k : Nat) (x : Int32) (h : f k = x) : upd f k x = f := by
  funext j
  by_cases e : j = k
  · rw [e, pk_us, h]
  · rw [pk_un e]

/-! counting the places s .. s + d - 1 -/
def ev_ct (p : Nat → Bool) (s : Nat) : Nat → Nat
  | 0 => 0
  | d + 1 => ev_ct p s d + (if p (s + d) = true then 1 else 0)
theorem ev_ctS (p : Nat → Bool) (s d : Nat) : ev_ct p s (d + 1) = ev_ct p s d + (if p (s + d) = true then 1 else 0) := rfl
theorem ev_ct_t {p : Nat → Bool} {s d : Nat} (h : p (s + d) = true) : ev_ct p s (d + 1) = ev_ct p s d + 1 := by rw [ev_ctS, if_pos h]
theorem ev_ct_f {p : Nat → Bool} {s d : Nat} (h : ¬ p (s + d) = true) : ev_ct p s (d + 1) = ev_ct p s d := by rw [ev_ctS, if_neg h]; rfl
theorem ev_ct_le (p : Nat → Bool) (s : Nat) : ∀ d, ev_ct p s d ≤ d := by
  intro d
  induction d with
  | zero => exact Nat.le_refl 0
  | succ d ih => rw [ev_ctS]; split <;> omega
theorem ev_ct_congr {p q : Nat → Bool} {s : Nat} : ∀ d, (∀ j, s ≤ j → j < s + d → p j = q j) → ev_ct p s d = ev_ct q s d := by
  intro d
  induction d with
  | zero => intro _; rfl
  | succ d ih =>
    intro h
    rw [ev_ctS, ev_ctS, ih (fun j a b => h j a (by omega)), h (s + d) (by omega) (by omega)]
theorem ev_ct_mono {p q : Nat → Bool} {s : Nat} : ∀ d, (∀ j, s ≤ j → j < s + d → p j = true → q j = true) → ev_ct p s d ≤ ev_ct q s d := by
  intro d
  induction d with
  | zero => intro _; exact Nat.le_refl 0
  | succ d ih =>
    intro h
    have i := ih (fun j a b => h j a (by omega))
    by_cases e : p (s + d) = true
    · rw [ev_ct_t e, ev_ct_t (h _ (by omega) (by omega) e)]; omega
    · rw [ev_ct_f e, ev_ctS]; split <;> omega
theorem ev_ct_mono1 {p q : Nat → Bool} {s t : Nat} : ∀ d, (∀ j, s ≤ j → j < s + d → j ≠ t → p j = true → q j = true) → ev_ct p s d ≤ ev_ct q s d + (if t < s + d then 1 else 0) := by
  intro d
  induction d with
  | zero => intro _; exact Nat.zero_le _
  | succ d ih =>
    intro h
    have i := ih (fun j a b => h j a (by omega))
    by_cases e : p (s + d) = true
    · rw [ev_ct_t e]
      by_cases t1 : t = s + d
      · rw [if_neg (by omega)] at i
        rw [if_pos (by omega), ev_ctS]
        split <;> omega
      · rw [ev_ct_t (h _ (by omega) (by omega) (fun z => t1 z.symm) e)]
        by_cases t2 : t < s + d
        · rw [if_pos t2] at i
          rw [if_pos (by omega)]
          omega
        · rw [if_neg t2] at i
          rw [if_neg (by omega)]
          omega
    · rw [ev_ct_f e, ev_ctS]
      by_cases t2 : t < s + d
      · rw [if_pos t2] at i
        rw [if_pos (show t < s + (d + 1) by omega)]
        omega
      · rw [if_neg t2] at i
        omega
theorem ev_ct_one {p q : Nat → Bool} {s k : Nat} (hp : p k = false) (hq : q k = true) (ho : ∀ j, j ≠ k → p j = q j) : ∀ d, s ≤ k → k < s + d → ev_ct q s d = ev_ct p s d + 1 := by
  intro d
  induction d with
  | zero => intro a b; omega
  | succ d ih =>
    intro a b
    by_cases e : k = s + d
    · have hc : ev_ct q s d = ev_ct p s d := ev_ct_congr d (fun j _ h => (ho j (by omega)).symm)
      rw [e] at hp hq
      rw [ev_ct_t hq, ev_ct_f (by rw [hp]; exact Bool.false_ne_true), hc]
    · rw [ev_ctS, ev_ctS, ih a (by omega), ho (s + d) (by omega)]
      exact Nat.add_right_comm _ _ _
theorem ev_ct_pos {p : Nat → Bool} {s : Nat} : ∀ d, 0 < ev_ct p s d → ∃ j, s ≤ j ∧ j < s + d ∧ p j = true := by
  intro d
  induction d with
  | zero => intro h; exact absurd h (Nat.lt_irrefl 0)
  | succ d ih =>
    intro h
    by_cases e : p (s + d) = true
    · exact ⟨s + d, by omega, by omega, e⟩
    · rw [ev_ct_f e] at h
      obtain ⟨j, a, b, c⟩ := ih h
      exact ⟨j, a, by omega, c⟩
theorem ev_ct_ge1 {p : Nat → Bool} {s j : Nat} (hj : p j = true) : ∀ d, s ≤ j → j < s + d → 0 < ev_ct p s d := by
  intro d
  induction d with
  | zero => intro a b; omega
  | succ d ih =>
    intro a b
    by_cases e : j = s + d
    · rw [e] at hj
      rw [ev_ct_t hj]; omega
    · have := ih a (by omega)
      rw [ev_ctS]; omega
theorem ev_ct_lt {p q : Nat → Bool} {s k : Nat} (hp : p k = false) (hq : q k = true) : ∀ d, (∀ j, s ≤ j → j < s + d → p j = true → q j = true) → s ≤ k → k < s + d → ev_ct p s d < ev_ct q s d := by
  intro d
  induction d with
  | zero => intro _ a b; omega
  | succ d ih =>
    intro h a b
    by_cases e : k = s + d
    · have hc : ev_ct p s d ≤ ev_ct q s d := ev_ct_mono d (fun j x y => h j x (by omega))
      rw [e] at hp hq
      rw [ev_ct_t hq, ev_ct_f (by rw [hp]; exact Bool.false_ne_true)]; omega
    · have i := ih (fun j x y => h j x (by omega)) a (by omega)
      by_cases e2 : p (s + d) = true
      · rw [ev_ct_t e2, ev_ct_t (h _ (by omega) (by omega) e2)]; omega
      · rw [ev_ct_f e2, ev_ctS]; omega
theorem ev_ct_split (p : Nat → Bool) (s d : Nat) : ∀ e, ev_ct p s (d + e) = ev_ct p s d + ev_ct p (s + d) e := by
  intro e
  induction e with
  | zero => rfl
  | succ e ih =>
    show ev_ct p s (d + e) + (if p (s + (d + e)) = true then 1 else 0) = ev_ct p s d + (ev_ct p (s + d) e + (if p (s + d + e) = true then 1 else 0))
    rw [ih, Nat.add_assoc s d e]
    exact Nat.add_assoc _ _ _
theorem ev_ct_none {p : Nat → Bool} {s : Nat} : ∀ d, (∀ j, s ≤ j → j < s + d → p j = false) → ev_ct p s d = 0 := by
  intro d
  induction d with
  | zero => intro _; rfl
  | succ d ih =>
    intro h
    rw [ev_ct_f (by rw [h (s + d) (by omega) (by omega)]; exact Bool.false_ne_true)]
    exact ih (fun j a b => h j a (by omega))
theorem ev_ct_all {p : Nat → Bool} {s : Nat} : ∀ d, (∀ j, s ≤ j → j < s + d → p j = true) → ev_ct p s d = d := by
  intro d
  induction d with
  | zero => intro _; rfl
  | succ d ih =>
    intro h
    rw [ev_ct_t (h (s + d) (by omega) (by omega)), ih (fun j a b => h j a (by omega))]
