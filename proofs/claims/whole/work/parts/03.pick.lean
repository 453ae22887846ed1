/-! free runs, free extents -/
def ev_rn (u : Nat → Int32) : Nat → Nat → Nat
  | 0, _ => 0
  | d + 1, b => if u b = 0 then ev_rn u d (b + 1) + 1 else 0
theorem ev_rn_t {u : Nat → Int32} {d b : Nat} (h : u b = 0) : ev_rn u (d + 1) b = ev_rn u d (b + 1) + 1 := if_pos h
theorem ev_rn_f {u : Nat → Int32} {d b : Nat} (h : ¬ u b = 0) : ev_rn u (d + 1) b = 0 := if_neg h
theorem ev_rn_le (u : Nat → Int32) : ∀ d b, ev_rn u d b ≤ d := by
  intro d
  induction d with
  | zero => intro b; exact Nat.le_refl 0
  | succ d ih =>
    intro b
    by_cases h : u b = 0
    · rw [ev_rn_t h]; have := ih (b + 1); omega
    · rw [ev_rn_f h]; omega
theorem ev_rn_in (u : Nat → Int32) : ∀ d b j, j < ev_rn u d b → u (b + j) = 0 := by
  intro d
  induction d with
  | zero => intro b j h; exact absurd h (Nat.not_lt_zero j)
  | succ d ih =>
    intro b j h
    by_cases z : u b = 0
    · rw [ev_rn_t z] at h
      cases j with
      | zero => exact z
      | succ j =>
        have := ih (b + 1) j (by omega)
        rw [show b + (j + 1) = b + 1 + j by omega]
        exact this
    · rw [ev_rn_f z] at h; exact absurd h (Nat.not_lt_zero j)
theorem ev_rn_end (u : Nat → Int32) : ∀ d b, ev_rn u d b < d → ¬ u (b + ev_rn u d b) = 0 := by
  intro d
  induction d with
  | zero => intro b h; exact absurd h (Nat.not_lt_zero _)
  | succ d ih =>
    intro b h
    by_cases z : u b = 0
    · rw [ev_rn_t z] at h ⊢
      have := ih (b + 1) (by omega)
      rw [show b + (ev_rn u d (b + 1) + 1) = b + 1 + ev_rn u d (b + 1) by omega]
      exact this
    · rw [ev_rn_f z]; exact z
def ev_F (u : Nat → Int32) (b : Nat) : Nat := ev_rn u (64 - b % 64) b
def ev_E (u : Nat → Int32) (b : Nat) : Nat := if b % 64 ≠ 0 ∧ u (b - 1) = 0 then 0 else ev_F u b
theorem ev_F_le (u : Nat → Int32) (b : Nat) : ev_F u b ≤ 64 - b % 64 := ev_rn_le u _ _
theorem ev_F_f {u : Nat → Int32} {b : Nat} (h : ¬ u b = 0) : ev_F u b = 0 := by
  unfold ev_F
  rw [show 64 - b % 64 = (63 - b % 64) + 1 by omega, ev_rn_f h]
theorem ev_F_t {u : Nat → Int32} {b : Nat} (h : u b = 0) : 0 < ev_F u b := by
  unfold ev_F
  rw [show 64 - b % 64 = (63 - b % 64) + 1 by omega, ev_rn_t h]; omega
theorem ev_F_s {u : Nat → Int32} {b : Nat} (h : u b = 0) (h2 : (b + 1) % 64 ≠ 0) : ev_F u b = ev_F u (b + 1) + 1 := by
  unfold ev_F
  rw [show 64 - b % 64 = (64 - (b + 1) % 64) + 1 by omega, ev_rn_t h]
theorem ev_F_in {u : Nat → Int32} {b j : Nat} (h : j < ev_F u b) : u (b + j) = 0 := ev_rn_in u _ b j h
theorem ev_F_end {u : Nat → Int32} {b : Nat} (h : (b + ev_F u b) % 64 ≠ 0 ∨ ev_F u b = 0) : ¬ u (b + ev_F u b) = 0 := by
  have := ev_F_le u b
  refine ev_rn_end u _ b ?_
  show ev_F u b < 64 - b % 64
  omega
theorem ev_E_0 {u : Nat → Int32} {b : Nat} (h : b % 64 ≠ 0) (h2 : u (b - 1) = 0) : ev_E u b = 0 := if_pos ⟨h, h2⟩
theorem ev_E_F {u : Nat → Int32} {b : Nat} (h : b % 64 = 0 ∨ ¬ u (b - 1) = 0) : ev_E u b = ev_F u b := if_neg (fun z => h.elim z.1 (fun y => y z.2))
theorem ev_E_F' {u : Nat → Int32} {b : Nat} (h : ¬ u b = 0) : ev_E u b = ev_F u b := by
  by_cases z : b % 64 ≠ 0 ∧ u (b - 1) = 0
  · rw [ev_E_0 z.1 z.2, ev_F_f h]
  · exact if_neg z
theorem ev_E_le (u : Nat → Int32) (b : Nat) : ev_E u b ≤ ev_F u b := by
  unfold ev_E
  split
  · exact Nat.zero_le _
  · exact Nat.le_refl _
theorem ev_E_eq {u : Nat → Int32} {b : Nat} (h : 0 < ev_E u b) : ev_E u b = ev_F u b := by
  unfold ev_E at h ⊢
  split at h
  · omega
  · rename_i z; rw [if_neg z]
theorem ev_E_pos {u : Nat → Int32} {b : Nat} : 0 < ev_E u b ↔ u b = 0 ∧ (b % 64 = 0 ∨ ¬ u (b - 1) = 0) := by
  constructor
  · intro h
    have h1 := ev_E_eq h
    refine ⟨?_, ?_⟩
    · by_cases z : u b = 0
      · exact z
      · have := ev_F_f z; omega
    · by_cases z : b % 64 = 0
      · exact Or.inl z
      · refine Or.inr (fun y => ?_)
        have := ev_E_0 z y
        omega
  · intro h
    rw [ev_E_F h.2]; exact ev_F_t h.1

/-! BEST in a group: the shortest that is long enough, the first such -/
def ev_sf (u : Nat → Int32) (left first : Nat) : Nat → Int32 × Nat
  | 0 => (-1, 65)
  | d + 1 => if left ≤ ev_E u (first + d) ∧ ev_E u (first + d) < (ev_sf u left first d).2 then (nI (first + d), ev_E u (first + d)) else ev_sf u left first d
theorem ev_sf_t {u : Nat → Int32} {left first d : Nat} (h : left ≤ ev_E u (first + d)) (h2 : ev_E u (first + d) < (ev_sf u left first d).2) : ev_sf u left first (d + 1) = (nI (first + d), ev_E u (first + d)) := if_pos ⟨h, h2⟩
theorem ev_sf_f {u : Nat → Int32} {left first d : Nat} (h : ¬ (left ≤ ev_E u (first + d) ∧ ev_E u (first + d) < (ev_sf u left first d).2)) : ev_sf u left first (d + 1) = ev_sf u left first d := if_neg h
theorem ev_sf_ok (u : Nat → Int32) (left first : Nat) : ∀ d, (ev_sf u left first d = (-1, 65) ∧ ∀ j, j < d → ¬ left ≤ ev_E u (first + j)) ∨ (∃ j, j < d ∧ ev_sf u left first d = (nI (first + j), ev_E u (first + j)) ∧ left ≤ ev_E u (first + j)) := by
  intro d
  induction d with
  | zero => exact Or.inl ⟨rfl, fun j h => absurd h (Nat.not_lt_zero j)⟩
  | succ d ih =>
    by_cases h : left ≤ ev_E u (first + d) ∧ ev_E u (first + d) < (ev_sf u left first d).2
    · exact Or.inr ⟨d, by omega, ev_sf_t h.1 h.2, h.1⟩
    · rw [ev_sf_f h]
      cases ih with
      | inl y =>
        refine Or.inl ⟨y.1, fun j hj hl => ?_⟩
        by_cases e : j = d
        · subst e
          refine h ⟨hl, ?_⟩
          rw [y.1]
          have := ev_E_le u (first + j)
          have := ev_F_le u (first + j)
          show ev_E u (first + j) < 65
          omega
        · exact y.2 j (by omega) hl
      | inr y =>
        obtain ⟨j, a, b, c⟩ := y
        exact Or.inr ⟨j, by omega, b, c⟩
/-- the blocks of an extent behind its first change nothing -/
theorem ev_sf_hop {u : Nat → Int32} {left first d : Nat} (hl : 0 < left) (hg : first % 64 = 0) : ∀ m, m + 1 ≤ ev_F u (first + d) → d < 64 → ev_sf u left first (d + 1 + m) = ev_sf u left first (d + 1) := by
  intro m
  induction m with
  | zero => intro _ _; rfl
  | succ m ih =>
    intro h hd
    have hF := ev_F_le u (first + d)
    rw [show d + 1 + (m + 1) = (d + 1 + m) + 1 by omega, ev_sf_f, ih (by omega) hd]
    intro z
    have h0 : ev_E u (first + (d + 1 + m)) = 0 := by
      refine ev_E_0 (by omega) ?_
      rw [show first + (d + 1 + m) - 1 = first + d + m by omega]
      exact ev_F_in (by omega)
    omega

/-! LONGEST -/
def ev_lg (u : Nat → Int32) : Nat → Int32 × Nat
  | 0 => (-1, 0)
  | d + 1 => if (ev_lg u d).2 < ev_E u d then (nI d, ev_E u d) else ev_lg u d
theorem ev_lg_t {u : Nat → Int32} {d : Nat} (h : (ev_lg u d).2 < ev_E u d) : ev_lg u (d + 1) = (nI d, ev_E u d) := if_pos h
theorem ev_lg_f {u : Nat → Int32} {d : Nat} (h : ¬ (ev_lg u d).2 < ev_E u d) : ev_lg u (d + 1) = ev_lg u d := if_neg h
theorem ev_lg_ok (u : Nat → Int32) : ∀ d, (∀ j, j < d → ev_F u j ≤ (ev_lg u d).2) ∧ (ev_lg u d = (-1, 0) ∨ ∃ j, j < d ∧ ev_lg u d = (nI j, ev_E u j) ∧ 0 < ev_E u j) := by
  intro d
  induction d with
  | zero => exact ⟨fun j h => absurd h (Nat.not_lt_zero j), Or.inl rfl⟩
  | succ d ih =>
    have hF : ev_F u d ≤ ev_E u d ∨ ev_F u d ≤ (ev_lg u d).2 := by
      by_cases z : d % 64 ≠ 0 ∧ u (d - 1) = 0
      · right
        have h1 := ih.1 (d - 1) (by omega)
        have h2 := ev_F_s (u := u) (b := d - 1) z.2 (by omega)
        rw [show d - 1 + 1 = d by omega] at h2
        omega
      · left
        have : ev_E u d = ev_F u d := if_neg z
        omega
    by_cases h : (ev_lg u d).2 < ev_E u d
    · rw [ev_lg_t h]
      refine ⟨fun j hj => ?_, Or.inr ⟨d, by omega, rfl, by omega⟩⟩
      show ev_F u j ≤ ev_E u d
      by_cases e : j = d
      · rw [e]; omega
      · have := ih.1 j (by omega); omega
    · rw [ev_lg_f h]
      refine ⟨fun j hj => ?_, ?_⟩
      · by_cases e : j = d
        · rw [e]; omega
        · exact ih.1 j (by omega)
      · cases ih.2 with
        | inl y => exact Or.inl y
        | inr y =>
          obtain ⟨j, a, b, c⟩ := y
          exact Or.inr ⟨j, by omega, b, c⟩
/-- the reference's step, by runs -/
theorem ev_lg_F (u : Nat → Int32) (d : Nat) : ((ev_lg u d).2 < ev_F u d → ev_lg u (d + 1) = (nI d, ev_F u d)) ∧ (¬ (ev_lg u d).2 < ev_F u d → ev_lg u (d + 1) = ev_lg u d) := by
  have hle := ev_E_le u d
  have key : (ev_lg u d).2 < ev_F u d → ev_E u d = ev_F u d := by
    intro h
    by_cases z : d % 64 ≠ 0 ∧ u (d - 1) = 0
    · have h1 := (ev_lg_ok u d).1 (d - 1) (by omega)
      have h2 := ev_F_s (u := u) (b := d - 1) z.2 (by omega)
      rw [show d - 1 + 1 = d by omega] at h2
      omega
    · exact if_neg z
  constructor
  · intro h
    rw [ev_lg_t (by rw [key h]; exact h), key h]
  · intro h
    exact ev_lg_f (by omega)

/-! the place of the next pieces -/
def ev_near (u : Nat → Int32) (bf : Int32) : Int32 := if bf = -1 then -1 else if bf.toNatClampNeg % 64 = 63 then -1 else if u (bf.toNatClampNeg + 1) = 0 then nI (bf.toNatClampNeg + 1) else -1
def ev_g (u : Nat → Int32) (file left t : Nat) : Int32 := (ev_sf u left (64 * ((file + t) % 3)) 64).1
def ev_best (u : Nat → Int32) (file left : Nat) : Int32 := if ev_g u file left 0 = -1 then (if ev_g u file left 1 = -1 then ev_g u file left 2 else ev_g u file left 1) else ev_g u file left 0
def ev_st (u : Nat → Int32) (bf : Int32) (file left : Nat) : Int32 := if ev_near u bf = -1 then (if ev_best u file left = -1 then (ev_lg u 192).1 else ev_best u file left) else ev_near u bf
theorem ev_g_ok {u : Nat → Int32} {file left t : Nat} : (ev_g u file left t = -1 ∧ ∀ j, j < 64 → ¬ left ≤ ev_E u (64 * ((file + t) % 3) + j)) ∨ (∃ s, s < 192 ∧ ev_g u file left t = nI s ∧ left ≤ ev_F u s) := by
  cases ev_sf_ok u left (64 * ((file + t) % 3)) 64 with
  | inl h => exact Or.inl ⟨congrArg Prod.fst h.1, h.2⟩
  | inr h =>
    obtain ⟨j, a, b, c⟩ := h
    have := ev_E_le u (64 * ((file + t) % 3) + j)
    exact Or.inr ⟨64 * ((file + t) % 3) + j, by omega, congrArg Prod.fst b, by omega⟩
theorem ev_best_ok {u : Nat → Int32} {file left : Nat} (hl : 0 < left) : (ev_best u file left = -1 ∧ ∀ j, j < 192 → ev_E u j < left) ∨ (∃ s, s < 192 ∧ ev_best u file left = nI s ∧ left ≤ ev_F u s) := by
  unfold ev_best
  rcases ev_g_ok (u := u) (file := file) (left := left) (t := 0) with ⟨h0, n0⟩ | ⟨s, h1, h2, h3⟩
  · rw [if_pos h0]
    rcases ev_g_ok (u := u) (file := file) (left := left) (t := 1) with ⟨h1, n1⟩ | ⟨s, h1, h2, h3⟩
    · rw [if_pos h1]
      rcases ev_g_ok (u := u) (file := file) (left := left) (t := 2) with ⟨h2, n2⟩ | ⟨s, h1, h2, h3⟩
      · refine Or.inl ⟨h2, fun j hj => ?_⟩
        have a0 := n0 (j % 64) (by omega)
        have a1 := n1 (j % 64) (by omega)
        have a2 := n2 (j % 64) (by omega)
        have hd : j / 64 = (file + 0) % 3 ∨ j / 64 = (file + 1) % 3 ∨ j / 64 = (file + 2) % 3 := by omega
        rcases hd with z | z | z
        · rw [← z, show 64 * (j / 64) + j % 64 = j by omega] at a0; omega
        · rw [← z, show 64 * (j / 64) + j % 64 = j by omega] at a1; omega
        · rw [← z, show 64 * (j / 64) + j % 64 = j by omega] at a2; omega
      · exact Or.inr ⟨s, h1, h2, h3⟩
    · rw [if_neg (by rw [h2]; exact ev_ne1 (by omega))]
      exact Or.inr ⟨s, h1, h2, h3⟩
  · rw [if_neg (by rw [h2]; exact ev_ne1 (by omega))]
    exact Or.inr ⟨s, h1, h2, h3⟩
theorem ev_near_ok {u : Nat → Int32} {b : Nat} (hb : b < 192) : (ev_near u (nI b) = -1 ∧ (b % 64 = 63 ∨ ¬ u (b + 1) = 0)) ∨ (b % 64 ≠ 63 ∧ u (b + 1) = 0 ∧ ev_near u (nI b) = nI (b + 1)) := by
  unfold ev_near
  rw [if_neg (ev_ne1 (a := b) (by omega)), nI_clamp (by omega)]
  by_cases h1 : b % 64 = 63
  · rw [if_pos h1]; exact Or.inl ⟨rfl, Or.inl h1⟩
  · rw [if_neg h1]
    by_cases h2 : u (b + 1) = 0
    · rw [if_pos h2]; exact Or.inr ⟨h1, h2, rfl⟩
    · rw [if_neg h2]; exact Or.inl ⟨rfl, Or.inr h2⟩
theorem ev_near_h (u : Nat → Int32) : ev_near u (-1) = -1 := if_pos rfl
def ev_mn (a b : Nat) : Nat := if a < b then a else b
theorem ev_mn_le (a b : Nat) : ev_mn a b ≤ a ∧ ev_mn a b ≤ b := by
  unfold ev_mn; split <;> omega
theorem ev_near_ok2 {u : Nat → Int32} {bf : Int32} (hb : bf = -1 ∨ ∃ b, b < 192 ∧ bf = nI b) : ev_near u bf = -1 ∨ ∃ s, s < 192 ∧ ev_near u bf = nI s ∧ 0 < ev_F u s := by
  rcases hb with rfl | ⟨b, hb, rfl⟩
  · exact Or.inl (ev_near_h u)
  · rcases ev_near_ok (u := u) hb with ⟨h, _⟩ | ⟨h1, h2, h3⟩
    · exact Or.inl h
    · exact Or.inr ⟨b + 1, by omega, h3, ev_F_t h2⟩
/-- LONGEST finds a block where one is free -/
theorem ev_lg_found {u : Nat → Int32} (hf : 0 < ev_fr u) : ∃ s, s < 192 ∧ ev_lg u 192 = (nI s, ev_F u s) ∧ 0 < ev_F u s ∧ ev_E u s = ev_F u s := by
  obtain ⟨j, _, h1, h2⟩ := ev_ct_pos 192 hf
  have h3 : u j = 0 := of_decide_eq_true h2
  have h4 := ev_F_t h3
  obtain ⟨c1, c2⟩ := ev_lg_ok u 192
  have h5 := c1 j (by omega)
  rcases c2 with z | ⟨s, a, b, c⟩
  · rw [z] at h5
    have h5' : ev_F u j ≤ 0 := h5
    omega
  · have := ev_E_eq c
    exact ⟨s, a, by rw [b, this], by omega, this⟩
/-- what is chosen: a free block s; as many pieces as are free from there on, or all that are left -/
theorem ev_st_ok {u : Nat → Int32} {bf : Int32} {file left : Nat} (hl : 0 < left) (hf : 0 < ev_fr u) (hb : bf = -1 ∨ ∃ b, b < 192 ∧ bf = nI b) :
    ∃ s, s < 192 ∧ ev_st u bf file left = nI s ∧ 0 < ev_F u s ∧ (ev_near u bf = -1 → ¬ ev_best u file left = -1 → left ≤ ev_F u s) ∧ (ev_near u bf = -1 → ev_best u file left = -1 → ev_lg u 192 = (nI s, ev_F u s) ∧ ev_F u s < left) := by
  unfold ev_st
  rcases ev_near_ok2 (u := u) hb with h | ⟨s, h1, h2, h3⟩
  · rw [if_pos h]
    rcases ev_best_ok (u := u) (file := file) hl with ⟨g1, g2⟩ | ⟨s, g1, g2, g3⟩
    · rw [if_pos g1]
      obtain ⟨s, a, b, c, d⟩ := ev_lg_found hf
      have := g2 s a
      exact ⟨s, a, by rw [b], c, fun _ z => absurd g1 z, fun _ _ => ⟨b, by omega⟩⟩
    · have n : ¬ ev_best u file left = -1 := by rw [g2]; exact ev_ne1 (by omega)
      rw [if_neg n]
      exact ⟨s, g1, g2, by omega, fun _ _ => g3, fun _ z => absurd z n⟩
  · have n : ¬ ev_near u bf = -1 := by rw [h2]; exact ev_ne1 (by omega)
    rw [if_neg n]
    exact ⟨s, h1, h2, h3, fun z => absurd z n, fun z => absurd z n⟩
