/-! free extents in the order of their lengths -/
def ev_rk (u : Nat → Int32) (first len b : Nat) : Nat := ev_ct (fun j => decide (0 < ev_E u j ∧ (ev_E u j < len ∨ (ev_E u j = len ∧ j < b)))) first 64
theorem ev_rk_0 (u : Nat → Int32) (first : Nat) : ev_rk u first 1 first = 0 :=
  ev_ct_none 64 (fun j h1 _ => decide_eq_false (fun z => by omega))
theorem ev_rk_t {u : Nat → Int32} {first len b : Nat} (h1 : first ≤ b) (h2 : b < first + 64) (hl : 0 < len) (h : ev_E u b = len) : ev_rk u first len (b + 1) = ev_rk u first len b + 1 := by
  refine ev_ct_one (k := b) (decide_eq_false (fun z => by omega)) (decide_eq_true (by omega)) (fun j hj => ?_) 64 h1 h2
  show decide (0 < ev_E u j ∧ (ev_E u j < len ∨ (ev_E u j = len ∧ j < b))) = decide (0 < ev_E u j ∧ (ev_E u j < len ∨ (ev_E u j = len ∧ j < b + 1)))
  exact decide_eq_decide.mpr (by omega)
theorem ev_rk_f {u : Nat → Int32} {first len b : Nat} (h : ¬ ev_E u b = len) : ev_rk u first len (b + 1) = ev_rk u first len b := by
  refine ev_ct_congr 64 (fun j _ _ => ?_)
  show decide (0 < ev_E u j ∧ (ev_E u j < len ∨ (ev_E u j = len ∧ j < b + 1))) = decide (0 < ev_E u j ∧ (ev_E u j < len ∨ (ev_E u j = len ∧ j < b)))
  refine decide_eq_decide.mpr ?_
  by_cases e : j = b
  · rw [e]; omega
  · omega
theorem ev_rk_s {u : Nat → Int32} {first len : Nat} : ev_rk u first (len + 1) first = ev_rk u first len (first + 64) := by
  refine ev_ct_congr 64 (fun j _ _ => ?_)
  show decide (0 < ev_E u j ∧ (ev_E u j < len + 1 ∨ (ev_E u j = len + 1 ∧ j < first))) = decide (0 < ev_E u j ∧ (ev_E u j < len ∨ (ev_E u j = len ∧ j < first + 64)))
  exact decide_eq_decide.mpr (by omega)
theorem ev_rk_le (u : Nat → Int32) (first len b : Nat) : ev_rk u first len b ≤ 64 := ev_ct_le _ _ _
theorem ev_rk_lt {u : Nat → Int32} {first b c : Nat} (h1 : first ≤ b) (h2 : b < first + 64) (hb : 0 < ev_E u b) (h : ev_E u b < ev_E u c ∨ (ev_E u b = ev_E u c ∧ b < c)) : ev_rk u first (ev_E u b) b < ev_rk u first (ev_E u c) c := by
  refine ev_ct_lt (k := b) (decide_eq_false (fun z => by omega)) (decide_eq_true ⟨hb, h⟩) 64 (fun j _ _ z => ?_) h1 h2
  have z' := of_decide_eq_true z
  exact decide_eq_true (by omega)
/-- no two have the same rank -/
theorem ev_rk_inj {u : Nat → Int32} {first b c : Nat} (h1 : first ≤ b) (h2 : b < first + 64) (h3 : first ≤ c) (h4 : c < first + 64) (hb : 0 < ev_E u b) (hc : 0 < ev_E u c) (h : ev_rk u first (ev_E u b) b = ev_rk u first (ev_E u c) c) : b = c := by
  by_cases e : b = c
  · exact e
  · by_cases z : ev_E u b < ev_E u c ∨ (ev_E u b = ev_E u c ∧ b < c)
    · have := ev_rk_lt h1 h2 hb z; omega
    · have := ev_rk_lt (b := c) (c := b) h3 h4 hc (by omega); omega
def ev_isK (u : Nat → Int32) (first : Nat) (k : Int32) (b : Nat) : Prop := first ≤ b ∧ b < first + 64 ∧ 0 < ev_E u b ∧ nI (ev_rk u first (ev_E u b) b) = k
theorem ev_isK_inj {u : Nat → Int32} {first : Nat} {k : Int32} {b c : Nat} (hb : ev_isK u first k b) (hc : ev_isK u first k c) : b = c := by
  obtain ⟨b1, b2, b3, b4⟩ := hb
  obtain ⟨c1, c2, c3, c4⟩ := hc
  have h1 := ev_rk_le u first (ev_E u b) b
  have h2 := ev_rk_le u first (ev_E u c) c
  exact ev_rk_inj b1 b2 c1 c2 b3 c3 (ev_inj (b4.trans c4.symm) (by omega) (by omega))

/-! counting in a group -/
theorem ev_ct_grp (c : Nat → Bool) {g : Nat} (hg : g < 3) : ev_ct (fun b => decide (b / 64 = g) && c b) 0 192 = ev_ct c (64 * g) 64 := by
  have h := ev_ct_split (fun b => decide (b / 64 = g) && c b) 0 64 128
  have h2 := ev_ct_split (fun b => decide (b / 64 = g) && c b) (0 + 64) 64 64
  have key : ∀ t, ev_ct (fun b => decide (b / 64 = g) && c b) (64 * t) 64 = if t = g then ev_ct c (64 * g) 64 else 0 := by
    intro t
    by_cases e : t = g
    · rw [if_pos e, e]
      refine ev_ct_congr 64 (fun j h1 h2 => ?_)
      show (decide (j / 64 = g) && c j) = c j
      rw [decide_eq_true (by omega : j / 64 = g), Bool.true_and]
    · rw [if_neg e]
      refine ev_ct_none 64 (fun j h1 h2 => ?_)
      show (decide (j / 64 = g) && c j) = false
      rw [decide_eq_false (by omega : ¬ j / 64 = g), Bool.false_and]
  have k0 := key 0
  have k1 := key 1
  have k2 := key 2
  simp only [Nat.mul_zero, Nat.mul_one, Nat.zero_add, Nat.reduceMul, Nat.reduceAdd] at h h2 k0 k1 k2
  rw [h, h2, k0, k1, k2]
  have : g = 0 ∨ g = 1 ∨ g = 2 := by omega
  rcases this with rfl | rfl | rfl <;> simp

/-! the states that are kept -/
def ev_Rg (K S : Nat) (kb ki as : Nat → Int32) : Prop := ∀ i, i < K →
  (∀ k, k < 512 → as (704 * i + k) = kb ((S + 4 - K + i) % 4 * 512 + k)) ∧ (∀ b, b < 192 → as (704 * i + 512 + b) = ki ((S + 4 - K + i) % 4 * 192 + b)) ∧
  (∀ k, k < 512 → as (704 * i + k) = -1 ∨ ∃ b, b < 192 ∧ as (704 * i + k) = nI b)
theorem ev_Rg_0 (S : Nat) (kb ki as : Nat → Int32) : ev_Rg 0 S kb ki as := fun i h => absurd h (Nat.not_lt_zero i)
/-- one more is kept, fewer than four before -/
theorem ev_Rg_s {K S : Nat} {kb ki as kb' ki' as' a v : Nat → Int32} (hK : K < 4) (hS : S < 4) (hV : ev_V a) (h : ev_Rg K S kb ki as)
    (b1 : ∀ k, k < 512 → kb' (S * 512 + k) = a k) (b2 : ∀ k, (k < S * 512 ∨ S * 512 + 512 ≤ k) → kb' k = kb k)
    (i1 : ∀ k, k < 192 → ki' (S * 192 + k) = v k) (i2 : ∀ k, (k < S * 192 ∨ S * 192 + 192 ≤ k) → ki' k = ki k)
    (s1 : ∀ k, k < 512 → as' (704 * K + k) = a k) (s2 : ∀ k, k < 192 → as' (704 * K + 512 + k) = v k) (s3 : ∀ k, k < 704 * K → as' k = as k) :
    ev_Rg (K + 1) ((S + 1) % 4) kb' ki' as' := by
  intro i hi
  by_cases e : i = K
  · subst e
    have hs : ((S + 1) % 4 + 4 - (i + 1) + i) % 4 = S := by omega
    rw [hs]
    exact ⟨fun k hk => by rw [s1 k hk, b1 k hk], fun b hb => by rw [s2 b hb, i1 b hb], fun k hk => by rw [s1 k hk]; exact hV k hk⟩
  · obtain ⟨c1, c2, c3⟩ := h i (by omega)
    have hs : ((S + 1) % 4 + 4 - (K + 1) + i) % 4 = (S + 4 - K + i) % 4 := by omega
    have hn : (S + 4 - K + i) % 4 ≠ S := by omega
    rw [hs]
    obtain ⟨T, hT⟩ : ∃ T, T = (S + 4 - K + i) % 4 := ⟨_, rfl⟩
    rw [← hT] at c1 c2 hn ⊢
    refine ⟨fun k hk => ?_, fun b hb => ?_, fun k hk => ?_⟩
    · rw [s3 _ (by omega), c1 k hk, b2 _ (by omega)]
    · rw [s3 _ (by omega), c2 b hb, i2 _ (by omega)]
    · rw [s3 _ (by omega)]; exact c3 k hk
/-- the eldest of four goes -/
theorem ev_Rg_d {S : Nat} {kb ki as as' : Nat → Int32} (hS : S < 4) (h : ev_Rg 4 S kb ki as) (hs : ∀ k, k < 2112 → as' k = as (k + 704)) : ev_Rg 3 S kb ki as' := by
  intro i hi
  obtain ⟨c1, c2, c3⟩ := h (i + 1) (by omega)
  have e : (S + 4 - 4 + (i + 1)) % 4 = (S + 4 - 3 + i) % 4 := by omega
  rw [e] at c1 c2
  refine ⟨fun k hk => ?_, fun b hb => ?_, fun k hk => ?_⟩
  · rw [hs _ (by omega), ← c1 k hk]; exact congrArg as (by omega)
  · rw [hs _ (by omega), ← c2 b hb]; exact congrArg as (by omega)
  · rw [hs _ (by omega), show 704 * i + k + 704 = 704 * (i + 1) + k by omega]; exact c3 k hk
/-- n changes taken back -/
theorem ev_Rg_b {K S n : Nat} {kb ki as : Nat → Int32} (hK : K ≤ 4) (hS : S < 4) (h1 : 0 < n) (hn : n ≤ K) (h : ev_Rg K S kb ki as) : ev_Rg (K - n) ((S + 4 - n) % 4) kb ki as := by
  intro i hi
  have := h i (by omega)
  rw [show ((S + 4 - n) % 4 + 4 - (K - n) + i) % 4 = (S + 4 - K + i) % 4 by omega]
  exact this
theorem ev_Rg_at {K S n : Nat} {kb ki as : Nat → Int32} (hK : K ≤ 4) (hS : S < 4) (h1 : 0 < n) (hn : n ≤ K) (h : ev_Rg K S kb ki as) :
    (∀ k, k < 512 → as (704 * (K - n) + k) = kb ((S + 4 - n) % 4 * 512 + k)) ∧ (∀ b, b < 192 → as (704 * (K - n) + 512 + b) = ki ((S + 4 - n) % 4 * 192 + b)) ∧ (∀ k, k < 512 → as (704 * (K - n) + k) = -1 ∨ ∃ b, b < 192 ∧ as (704 * (K - n) + k) = nI b) := by
  have := h (K - n) (by omega)
  rw [show (S + 4 - K + (K - n)) % 4 = (S + 4 - n) % 4 by omega] at this
  exact this
