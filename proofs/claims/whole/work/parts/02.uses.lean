/-! how many pieces a block has; blocks of pieces are within; a piece alone at its block -/
def ev_cn (a : Nat → Int32) (x : Int32) : Nat := ev_ct (fun j => decide (a j = x)) 0 512
def ev_U (a : Nat → Int32) : Nat → Int32 := fun j => if j < 192 then nI (ev_cn a (nI j)) else 0
def ev_V (a : Nat → Int32) : Prop := ∀ k, k < 512 → a k = -1 ∨ ∃ b, b < 192 ∧ a k = nI b
def ev_fr (u : Nat → Int32) : Nat := ev_ct (fun j => decide (u j = 0)) 0 192
def ev_al (a : Nat → Int32) (k : Nat) : Prop := ∃ b, b < 192 ∧ a k = nI b ∧ ev_cn a (nI b) = 1
def ev_na (a : Nat → Int32) (k : Nat) : Bool := decide (a k = -1) || !decide (ev_U a (a k).toNatClampNeg = 1)
theorem ev_U_lt {a : Nat → Int32} {j : Nat} (h : j < 192) : ev_U a j = nI (ev_cn a (nI j)) := if_pos h
theorem ev_U_ge {a : Nat → Int32} {j : Nat} (h : ¬ j < 192) : ev_U a j = 0 := if_neg h
theorem ev_cn_le (a : Nat → Int32) (x : Int32) : ev_cn a x ≤ 512 := ev_ct_le _ _ _
theorem ev_cn_pos {a : Nat → Int32} {k : Nat} {x : Int32} (hk : k < 512) (h : a k = x) : 0 < ev_cn a x :=
  ev_ct_ge1 (j := k) (decide_eq_true h) 512 (Nat.zero_le _) (by omega)
theorem ev_cn_upd (a : Nat → Int32) {k : Nat} (x y : Int32) (hk : k < 512) : ev_cn (upd a k x) y + (if a k = y then 1 else 0) = ev_cn a y + (if x = y then 1 else 0) := by
  by_cases h1 : a k = y
  · by_cases h2 : x = y
    · rw [if_pos h1, if_pos h2]
      have : ev_cn (upd a k x) y = ev_cn a y := ev_ct_congr 512 (fun j _ _ => by
        show decide (upd a k x j = y) = decide (a j = y)
        by_cases e : j = k
        · rw [e, pk_us, h1, h2]
        · rw [pk_un e])
      rw [this]
    · rw [if_pos h1, if_neg h2]
      have : ev_cn a y = ev_cn (upd a k x) y + 1 := ev_ct_one (k := k)
        (by show decide (upd a k x k = y) = false
            rw [pk_us]; exact decide_eq_false h2)
        (decide_eq_true h1)
        (fun j hj => by
          show decide (upd a k x j = y) = decide (a j = y)
          rw [pk_un hj]) 512 (Nat.zero_le _) (by omega)
      omega
  · by_cases h2 : x = y
    · rw [if_neg h1, if_pos h2]
      have : ev_cn (upd a k x) y = ev_cn a y + 1 := ev_ct_one (k := k)
        (decide_eq_false h1)
        (by show decide (upd a k x k = y) = true
            rw [pk_us]; exact decide_eq_true h2)
        (fun j hj => by
          show decide (a j = y) = decide (upd a k x j = y)
          rw [pk_un hj]) 512 (Nat.zero_le _) (by omega)
      omega
    · rw [if_neg h1, if_neg h2]
      have : ev_cn (upd a k x) y = ev_cn a y := ev_ct_congr 512 (fun j _ _ => by
        show decide (upd a k x j = y) = decide (a j = y)
        by_cases e : j = k
        · rw [e, pk_us, decide_eq_false h1, decide_eq_false h2]
        · rw [pk_un e])
      rw [this]
theorem ev_U0 {a : Nat → Int32} {j : Nat} (h : j < 192) : ev_U a j = 0 ↔ ev_cn a (nI j) = 0 := by
  have := ev_cn_le a (nI j)
  rw [ev_U_lt h, ev_eq0 (by omega)]
theorem ev_U1 {a : Nat → Int32} {j : Nat} (h : j < 192) : ev_U a j = 1 ↔ ev_cn a (nI j) = 1 := by
  have := ev_cn_le a (nI j)
  rw [ev_U_lt h, ev_eq1 (by omega)]
theorem ev_Unn (a : Nat → Int32) (j : Nat) : ∃ c, c ≤ 512 ∧ ev_U a j = nI c := by
  by_cases h : j < 192
  · exact ⟨_, ev_cn_le a (nI j), ev_U_lt h⟩
  · exact ⟨0, by omega, by rw [ev_U_ge h, nI_0]⟩
/-- a piece leaves its block -/
theorem ev_U_out {a : Nat → Int32} {k b : Nat} (hk : k < 512) (hb : b < 192) (h : a k = nI b) : ev_U (upd a k (-1)) = upd (ev_U a) b (ev_U a b - 1) := by
  funext j
  by_cases hj : j < 192
  · have e := ev_cn_upd a (-1) (nI j) hk
    rw [if_neg (ev_ne1' (a := j) (by omega))] at e
    by_cases z : j = b
    · subst z
      rw [if_pos h] at e
      rw [pk_us, ev_U_lt hj, ev_U_lt hj, show ev_cn a (nI j) = ev_cn (upd a k (-1)) (nI j) + 1 by omega, nI_pred]
    · have hne : ¬ a k = nI j := fun y => z (ev_inj (y.symm.trans h) (by omega) (by omega))
      rw [if_neg hne] at e
      rw [pk_un z, ev_U_lt hj, ev_U_lt hj]
      exact congrArg nI (by omega)
  · rw [pk_un (by omega), ev_U_ge hj, ev_U_ge hj]
/-- a hole gets a block -/
theorem ev_U_in {a : Nat → Int32} {k t : Nat} (hk : k < 512) (ht : t < 192) (h : a k = -1) : ev_U (upd a k (nI t)) = upd (ev_U a) t (ev_U a t + 1) := by
  funext j
  by_cases hj : j < 192
  · have e := ev_cn_upd a (nI t) (nI j) hk
    rw [if_neg (show ¬ a k = nI j by rw [h]; exact ev_ne1' (by omega))] at e
    by_cases z : j = t
    · subst z
      rw [if_pos rfl] at e
      rw [pk_us, ev_U_lt hj, ev_U_lt hj, nI_1]
      exact congrArg nI (by omega)
    · have hne : ¬ nI t = nI j := fun y => z (ev_inj y.symm (by omega) (by omega))
      rw [if_neg hne] at e
      rw [pk_un z, ev_U_lt hj, ev_U_lt hj]
      exact congrArg nI (by omega)
  · rw [pk_un (by omega), ev_U_ge hj, ev_U_ge hj]
theorem ev_U_mv {a : Nat → Int32} {k b t : Nat} (hk : k < 512) (hb : b < 192) (ht : t < 192) (h : a k = nI b) : ev_U (upd a k (nI t)) = upd (upd (ev_U a) b (ev_U a b - 1)) t (upd (ev_U a) b (ev_U a b - 1) t + 1) := by
  rw [← ev_U_out hk hb h, ← ev_U_in hk ht (a := upd a k (-1)) pk_us, ev_uu]
theorem ev_V_upd {a : Nat → Int32} {k : Nat} {x : Int32} (hV : ev_V a) (hx : x = -1 ∨ ∃ b, b < 192 ∧ x = nI b) : ev_V (upd a k x) := by
  intro j hj
  by_cases e : j = k
  · rw [e, pk_us]; exact hx
  · rw [pk_un e]; exact hV j hj
/-- punching: free blocks -/
theorem ev_fr_out {a : Nat → Int32} {k b : Nat} (hk : k < 512) (hb : b < 192) (h : a k = nI b) : ev_fr (ev_U (upd a k (-1))) = ev_fr (ev_U a) + (if ev_U (upd a k (-1)) b = 0 then 1 else 0) := by
  have h0 : ¬ ev_U a b = 0 := by
    rw [ev_U0 hb]
    have := ev_cn_pos hk h
    omega
  have ho : ∀ j, j ≠ b → decide (ev_U a j = 0) = decide (ev_U (upd a k (-1)) j = 0) := by
    intro j hj
    rw [ev_U_out hk hb h, pk_un hj]
  by_cases z : ev_U (upd a k (-1)) b = 0
  · rw [if_pos z]
    exact ev_ct_one (k := b) (decide_eq_false h0) (decide_eq_true z) ho 192 (Nat.zero_le _) (by omega)
  · rw [if_neg z, Nat.add_zero]
    unfold ev_fr
    refine ev_ct_congr 192 (fun j _ _ => ?_)
    show decide (ev_U (upd a k (-1)) j = 0) = decide (ev_U a j = 0)
    by_cases e : j = b
    · rw [e, decide_eq_false h0, decide_eq_false z]
    · exact (ho j e).symm
/-- a piece goes to a free block t -/
theorem ev_to_cn {a : Nat → Int32} {k t j : Nat} (hk : k < 512) (ht : t < 192) (hj : j < 192) (hne : j ≠ t) : ev_cn (upd a k (nI t)) (nI j) + (if a k = nI j then 1 else 0) = ev_cn a (nI j) := by
  have e := ev_cn_upd a (nI t) (nI j) hk
  rw [if_neg (c := nI t = nI j) (fun y => hne (ev_inj y.symm (by omega) (by omega)))] at e
  exact e
theorem ev_to_free {a : Nat → Int32} {k t j : Nat} (hk : k < 512) (ht : t < 192) (hj : j < 192) (hne : j ≠ t) (h : ev_U a j = 0) : ev_U (upd a k (nI t)) j = 0 := by
  rw [ev_U0 hj] at h ⊢
  have := ev_to_cn (a := a) hk ht hj hne
  omega
theorem ev_to_fr {a : Nat → Int32} {k t : Nat} (hk : k < 512) (ht : t < 192) : ev_fr (ev_U a) ≤ ev_fr (ev_U (upd a k (nI t))) + 1 := by
  have := ev_ct_mono1 (p := fun j => decide (ev_U a j = 0)) (q := fun j => decide (ev_U (upd a k (nI t)) j = 0)) (s := 0) (t := t) 192
    (fun j _ h2 h3 h4 => decide_eq_true (ev_to_free hk ht (by omega) h3 (of_decide_eq_true h4)))
  rw [if_pos (by omega)] at this
  exact this
theorem ev_to_al {a : Nat → Int32} {k t : Nat} (hk : k < 512) (ht : t < 192) (h0 : ev_U a t = 0) : ev_al (upd a k (nI t)) k := by
  refine ⟨t, ht, pk_us, ?_⟩
  rw [ev_U0 ht] at h0
  have e := ev_cn_upd a (nI t) (nI t) hk
  have hne : ¬ a k = nI t := fun z => by
    have := ev_cn_pos hk z
    omega
  rw [if_neg hne, if_pos rfl] at e
  omega
theorem ev_to_al2 {a : Nat → Int32} {k t q : Nat} (hk : k < 512) (ht : t < 192) (h0 : ev_U a t = 0) (hq : q < 512) (h : ev_al a q) : ev_al (upd a k (nI t)) q := by
  by_cases e : q = k
  · rw [e]; exact ev_to_al hk ht h0
  · obtain ⟨b, hb, e1, e2⟩ := h
    have hbt : b ≠ t := by
      intro z
      rw [ev_U0 ht, ← z] at h0
      omega
    have hne : ¬ a k = nI b := by
      intro z
      have c := ev_cn_upd a (-1) (nI b) hk
      rw [if_pos z, if_neg (ev_ne1' (a := b) (by omega))] at c
      have p : 0 < ev_cn (upd a k (-1)) (nI b) := ev_cn_pos hq (by rw [pk_un e]; exact e1)
      omega
    have c := ev_to_cn (a := a) hk ht hb hbt
    rw [if_neg hne] at c
    exact ⟨b, hb, by rw [pk_un e]; exact e1, by omega⟩
theorem ev_al_na {a : Nat → Int32} {k : Nat} (h : ev_al a k) : ev_na a k = false := by
  obtain ⟨b, hb, e1, e2⟩ := h
  unfold ev_na
  rw [e1, nI_clamp (by omega), decide_eq_false (ev_ne1 (a := b) (by omega)), decide_eq_true ((ev_U1 hb).mpr e2)]
  rfl
theorem ev_na_al {a : Nat → Int32} {k : Nat} (hV : ev_V a) (hk : k < 512) (h : ev_na a k = false) : ev_al a k := by
  unfold ev_na at h
  cases hV k hk with
  | inl z => rw [decide_eq_true z] at h; exact absurd h (by simp)
  | inr z =>
    obtain ⟨b, hb, e⟩ := z
    rw [e, nI_clamp (by omega), decide_eq_false (ev_ne1 (a := b) (by omega))] at h
    have h2 : ev_U a b = 1 := by
      by_cases y : ev_U a b = 1
      · exact y
      · rw [decide_eq_false y] at h; exact absurd h (by simp)
    exact ⟨b, hb, e, (ev_U1 hb).mp h2⟩
theorem ev_na_mono {a a' : Nat → Int32} (hV : ev_V a) {k : Nat} (hk : k < 512) (h : ev_al a k → ev_al a' k) (hn : ev_na a' k = true) : ev_na a k = true := by
  by_cases z : ev_na a k = true
  · exact z
  · have := ev_al_na (h (ev_na_al hV hk (by simpa using z)))
    rw [this] at hn
    exact absurd hn (by simp)

/-! pieces k0 .. moved to the blocks s .. -/
def ev_mA (a : Nat → Int32) (k0 s : Nat) : Nat → (Nat → Int32)
  | 0 => a
  | i + 1 => upd (ev_mA a k0 s i) (k0 + i) (nI (s + i))
def ev_mV (a v : Nat → Int32) (k0 s : Nat) : Nat → (Nat → Int32)
  | 0 => v
  | i + 1 => if ev_mA a k0 s i (k0 + i) = -1 then ev_mV a v k0 s i else upd (ev_mV a v k0 s i) (s + i) (ev_mV a v k0 s i (ev_mA a k0 s i (k0 + i)).toNatClampNeg)
def ev_MF (a a' : Nat → Int32) (k0 s i : Nat) : Prop :=
  ev_V a' ∧ (∀ j, j < i → ev_al a' (k0 + j)) ∧ (∀ q, q < 512 → ev_al a q → ev_al a' q) ∧ (∀ q, (q < k0 ∨ k0 + i ≤ q) → a' q = a q) ∧ (∀ j, j < i → a' (k0 + j) = nI (s + j)) ∧ ev_fr (ev_U a) ≤ ev_fr (ev_U a') + i ∧ (∀ j, j < 192 → (j < s ∨ s + i ≤ j) → ev_U a j = 0 → ev_U a' j = 0)
theorem ev_mA_MF {a : Nat → Int32} {k0 s m : Nat} (hV : ev_V a) (hk : k0 + m ≤ 512) (hs : s + m ≤ 192) (hf : ∀ j, j < m → ev_U a (s + j) = 0) : ∀ i, i ≤ m → ev_MF a (ev_mA a k0 s i) k0 s i := by
  intro i
  induction i with
  | zero => exact fun _ => ⟨hV, fun j h => absurd h (Nat.not_lt_zero j), fun _ _ h => h, fun _ _ => rfl, fun j h => absurd h (Nat.not_lt_zero j), Nat.le_refl _, fun _ _ _ h => h⟩
  | succ i ih =>
    intro hi
    obtain ⟨c1, c2, c3, c4, c5, c6, c7⟩ := ih (by omega)
    have hu : ev_U (ev_mA a k0 s i) (s + i) = 0 := c7 (s + i) (by omega) (by omega) (hf i (by omega))
    refine ⟨ev_V_upd c1 (Or.inr ⟨s + i, by omega, rfl⟩), ?_, ?_, ?_, ?_, ?_, ?_⟩
    · intro j hj
      by_cases e : j = i
      · rw [e]; exact ev_to_al (by omega) (by omega) hu
      · exact ev_to_al2 (by omega) (by omega) hu (by omega) (c2 j (by omega))
    · intro q hq h
      exact ev_to_al2 (by omega) (by omega) hu hq (c3 q hq h)
    · intro q hq
      show upd (ev_mA a k0 s i) (k0 + i) (nI (s + i)) q = a q
      rw [pk_un (by omega)]
      exact c4 q (by omega)
    · intro j hj
      show upd (ev_mA a k0 s i) (k0 + i) (nI (s + i)) (k0 + j) = nI (s + j)
      by_cases e : j = i
      · rw [e, pk_us]
      · rw [pk_un (by omega)]; exact c5 j (by omega)
    · have := ev_to_fr (a := ev_mA a k0 s i) (k := k0 + i) (t := s + i) (by omega) (by omega)
      show ev_fr (ev_U a) ≤ ev_fr (ev_U (upd (ev_mA a k0 s i) (k0 + i) (nI (s + i)))) + (i + 1)
      omega
    · intro j hj h1 h2
      exact ev_to_free (by omega) (by omega) hj (by omega) (c7 j hj (by omega) h2)
