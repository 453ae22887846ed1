/-! ranges: what both ask first -/
theorem ev_inb {A B : Prop} {x : Int32} {n : Nat} (hn : n < 2 ^ 31) (h1 : ∀ j, j < n → x = nI j → B) (h0 : (¬ ∃ j, j < n ∧ x = nI j) → A) : (x < 0 → A) ∧ (¬ x < 0 → ((nI n ≤ x → A) ∧ (¬ nI n ≤ x → B))) := by
  refine br_c (fun a => h0 ?_) (fun b => br_c (fun a => h0 ?_) (fun c => ?_))
  · intro ⟨j, hj, e⟩
    rw [e] at a
    exact nI_pos (n := j) (by omega) a
  · intro ⟨j, hj, e⟩
    rw [e] at a
    exact nI_ge hj hn a
  · obtain ⟨j, hj, rfl⟩ := nI_of b
    refine h1 j ?_ rfl
    rw [nI_leI hn hj] at c
    omega
theorem ev_tail {A B : Prop} {p : Nat} {z : Int32} (hp : p < 64) (h1 : ∀ n, 1 ≤ n → p + n ≤ 64 → z = nI n → B) (h0 : (¬ ∃ n, 1 ≤ n ∧ p + n ≤ 64 ∧ z = nI n) → A) : (z < 1 → A) ∧ (¬ z < 1 → ((64 - nI p < z → A) ∧ (¬ 64 - nI p < z → B))) := by
  rw [ev_s64 (by omega)]
  refine br_c (fun a => h0 ?_) (fun b => ?_)
  · intro ⟨n, hn, h2, e⟩
    rw [e] at a
    exact nI_nlt (b := 1) hn (by omega) a
  · have hz : ¬ z < 0 := fun y => b (Int32.lt_trans y (by decide))
    obtain ⟨n, hn, rfl⟩ := nI_of hz
    have h1' : 1 ≤ n := by
      by_cases y : n = 0
      · rw [y] at b; exact absurd (by decide) b
      · omega
    exact pk_lt (64 - p) n (fun y => h0 (fun ⟨n', a, b', e⟩ => by have := ev_inj e hn (by omega); omega)) (fun y => h1 n h1' (by omega) rfl)
def ev_ok (x y z : Int32) : Prop := ∃ f p n : Nat, f < 8 ∧ p < 64 ∧ 1 ≤ n ∧ p + n ≤ 64 ∧ x = nI f ∧ y = nI p ∧ z = nI n
theorem ey_in {post : Int32 → Prop} {x : Int32} (n : Nat) (hn : n < 2 ^ 31) (h1 : ∀ j, j < n → x = nI j → post 1) (h0 : (¬ ∃ j, j < n ∧ x = nI j) → post 0) : wpY_in post x (nI n) := ev_inb hn h1 h0
theorem ey_isRow {post : Int32 → Prop} {x y z : Int32} (h1 : ev_ok x y z → post 1) (h0 : ¬ ev_ok x y z → post 0) : wpY_isRow post x y z := by
  refine ey_in (post := fun r_1 => _) 8 (by decide) (fun f hf ef => br_f ev_10 ?_) (fun hn => br_t rfl (h0 ?_))
  · refine ey_in (post := fun r_3 => _) 64 (by decide) (fun p hp ep => br_f ev_10 ?_) (fun hn => br_t rfl (h0 ?_))
    · rw [ep]
      exact ev_tail hp (fun n a b c => h1 ⟨f, p, n, hf, hp, a, b, ef, ep, c⟩) (fun hn => h0 (fun ⟨f', p', n', a, b, c, d, e1, e2, e3⟩ => hn ⟨n', c, by have := ev_inj (ep.symm.trans e2) (by omega) (by omega); omega, e3⟩))
    · exact fun ⟨f', p', n', a, b, c, d, e1, e2, e3⟩ => hn ⟨p', b, e2⟩
  · exact fun ⟨f', p', n', a, b, c, d, e1, e2, e3⟩ => hn ⟨f', a, e1⟩
section
variable {fk fs : Int32} {ba ia ua kb ki : Nat → Int32}
theorem ex_isFile {post : Int32 → Prop} {x : Int32} (h1 : ∀ j, j < 8 → x = nI j → post 1) (h0 : (¬ ∃ j, j < 8 ∧ x = nI j) → post 0) : wpX_isFile post (fk, fs, ba, ia, ua, kb, ki) x := ev_inb (n := 8) (by decide) h1 h0
theorem ex_isRange {post : Int32 → Prop} {x y z : Int32} (h1 : ev_ok x y z → post 1) (h0 : ¬ ev_ok x y z → post 0) : wpX_isRange post (fk, fs, ba, ia, ua, kb, ki) x y z := by
  unfold wpX_isRange
  dsimp only
  refine ex_isFile (fun f hf ef => br_f ev_10 ?_) (fun hn => br_t rfl (h0 ?_))
  · refine ev_inb (n := 64) (by decide) (fun p hp ep => ?_) (fun hn => h0 ?_)
    · rw [ep]
      exact ev_tail hp (fun n a b c => h1 ⟨f, p, n, hf, hp, a, b, ef, ep, c⟩) (fun hn => h0 (fun ⟨f', p', n', a, b, c, d, e1, e2, e3⟩ => hn ⟨n', c, by have := ev_inj (ep.symm.trans e2) (by omega) (by omega); omega, e3⟩))
    · exact fun ⟨f', p', n', a, b, c, d, e1, e2, e3⟩ => hn ⟨p', b, e2⟩
  · exact fun ⟨f', p', n', a, b, c, d, e1, e2, e3⟩ => hn ⟨f', a, e1⟩
end

/-! the reference counts and keeps -/
section
variable {fk ff fl : Int32} {a v m as : Nat → Int32}
theorem ey_c24 {post : SY → Prop} (hV : ev_V a) (hp : post (fk, ff, fl, a, v, ev_U a, as)) : ∀ d i, i + d = 512 → wY_count_24 post fk ff fl (d + 1) (nI i) a v (ev_Un a i) as := by
  intro d
  induction d with
  | zero =>
    intro i h
    refine br_t (nI_le (a := 512) (by omega) (by omega)) ?_
    rw [show i = 512 by omega]; exact hp
  | succ d ih =>
    intro i h
    refine br_f (nI_ge (b := 512) (by omega) (by omega)) ⟨vp_in_nI (by omega) (by omega), ?_⟩
    rw [nI_clamp (by omega)]
    rcases hV i (by omega) with e | ⟨b, hb, e⟩
    · refine br_t (by rw [e]; decide) (nm_r (nI_1 i) ?_)
      rw [← ev_Un_h e]
      exact ih (i + 1) (by omega)
    · refine br_f (by rw [e]; exact nI_pos (by omega)) ?_
      rw [e, nI_clamp (by omega)]
      refine ⟨vp_in_nI (by omega) (by omega), vp_in_nI hb (by omega), vp_in_nI hb (by omega), nm_r (ev_Un_b hb e).symm (nm_r (nI_1 i) (ih (i + 1) (by omega)))⟩
theorem ey_c2 {post : SY → Prop} (hV : ev_V a) (hm : ∀ j, 192 ≤ j → m j = 0) (hp : post (fk, ff, fl, a, v, ev_U a, as)) : ∀ d i, i + d = 192 → wY_count_2 post fk ff fl (d + 1) (nI i) a v (ev_fl m (fun _ => 0) 0 i) as := by
  intro d
  induction d with
  | zero =>
    intro i h
    refine br_t (nI_le (a := 192) (by omega) (by omega)) ?_
    have e : ev_fl m (fun _ => 0) 0 i = ev_Un a 0 := by
      rw [ev_Un_0]
      funext j
      by_cases z : j < 192
      · exact if_pos (by omega)
      · rw [ev_fl_out (by omega)]; exact hm j (by omega)
    rw [e]
    exact ⟨_, ey_c24 hV hp 512 0 (by omega)⟩
  | succ d ih =>
    intro i h
    refine br_f (nI_ge (b := 192) (by omega) (by omega)) ⟨vp_in_nI (by omega) (by omega), ?_⟩
    rw [nI_clamp (by omega)]
    refine nm_r (e' := ev_fl m (fun _ => 0) 0 (i + 1)) ?_ (nm_r (nI_1 i) (ih (i + 1) (by omega)))
    have := ev_fl_s m (fun _ => 0) 0 i
    rw [Nat.zero_add] at this
    exact this
theorem ey_count {post : SY → Prop} (hV : ev_V a) (hm : ∀ j, 192 ≤ j → m j = 0) (hp : post (fk, ff, fl, a, v, ev_U a, as)) : wpY_count post (fk, ff, fl, a, v, m, as) := by
  have h := ey_c2 hV hm hp 192 0 (by omega)
  rw [ev_fl_0] at h
  exact ⟨_, h⟩
theorem ey_fb8 {post : Int32 → SY → Prop} (hp : post (nI (ev_fr m)) (fk, ff, fl, a, v, m, as)) : ∀ d i, i + d = 192 → wY_freeBlocks_8 post fk ff fl a v m as (d + 1) (nI (ev_ct (fun j => decide (m j = 0)) 0 i)) (nI i) := by
  intro d
  induction d with
  | zero =>
    intro i h
    refine br_t (nI_le (a := 192) (by omega) (by omega)) ?_
    rw [show i = 192 by omega]; exact hp
  | succ d ih =>
    intro i h
    refine br_f (nI_ge (b := 192) (by omega) (by omega)) ⟨vp_in_nI (by omega) (by omega), ?_⟩
    rw [nI_clamp (by omega)]
    by_cases z : m i = 0
    · refine br_t z (nm_r (nI_1 _) (nm_r (nI_1 _) ?_))
      rw [← ev_ct_t (p := fun j => decide (m j = 0)) (s := 0) (d := i) (by rw [Nat.zero_add]; exact decide_eq_true z)]
      exact ih (i + 1) (by omega)
    · refine br_f z (nm_r (nI_1 _) ?_)
      rw [← ev_ct_f (p := fun j => decide (m j = 0)) (s := 0) (d := i) (by rw [Nat.zero_add]; exact fun y => z (of_decide_eq_true y))]
      exact ih (i + 1) (by omega)
theorem ey_fb {post : Int32 → SY → Prop} (hV : ev_V a) (hm : ∀ j, 192 ≤ j → m j = 0) (hp : post (nI (ev_fr (ev_U a))) (fk, ff, fl, a, v, ev_U a, as)) : wpY_freeBlocks post (fk, ff, fl, a, v, m, as) := by
  unfold wpY_freeBlocks
  dsimp only
  refine ey_count hV hm ?_
  exact ⟨_, ey_fb8 hp 192 0 (by omega)⟩
theorem ey_k82 {post : SY → Prop} {K : Nat} (hK : K < 4) (hp : post (nI (K + 1), ff, fl, a, v, m, ev_fl as v (704 * K + 512) 192)) : ∀ d i, i + d = 192 → wY_keep_82 post (nI K) ff fl (d + 1) (nI i) a v m (ev_fl as v (704 * K + 512) i) := by
  intro d
  induction d with
  | zero =>
    intro i h
    refine br_t (nI_le (a := 192) (by omega) (by omega)) (nm_r (nI_1 K) ?_)
    rw [show i = 192 by omega]; exact hp
  | succ d ih =>
    intro i h
    refine br_f (nI_ge (b := 192) (by omega) (by omega)) ⟨vp_in_nI (by omega) (by omega), ?_⟩
    rw [ev_704x, ev_p512, nI_add, nI_clamp (n := i) (by omega), nI_clamp (by omega)]
    exact ⟨vp_in_nI (by omega) (by omega), nm_r (ev_fl_s as v (704 * K + 512) i) (nm_r (nI_1 i) (ih (i + 1) (by omega)))⟩
theorem ey_k46 {post : SY → Prop} {K : Nat} (hK : K < 4) (hp : post (nI (K + 1), ff, fl, a, v, m, ev_fl (ev_fl as a (704 * K) 512) v (704 * K + 512) 192)) : ∀ d i, i + d = 512 → wY_keep_46 post (nI K) ff fl (d + 1) (nI i) a v m (ev_fl as a (704 * K) i) := by
  intro d
  induction d with
  | zero =>
    intro i h
    refine br_t (nI_le (a := 512) (by omega) (by omega)) ?_
    rw [show i = 512 by omega]
    have := ey_k82 hK hp 192 0 (by omega)
    rw [ev_fl_0] at this
    exact ⟨_, this⟩
  | succ d ih =>
    intro i h
    refine br_f (nI_ge (b := 512) (by omega) (by omega)) ⟨vp_in_nI (by omega) (by omega), ?_⟩
    rw [ev_704x, nI_add, nI_clamp (n := i) (by omega), nI_clamp (by omega)]
    exact ⟨vp_in_nI (by omega) (by omega), nm_r (ev_fl_s as a (704 * K) i) (nm_r (nI_1 i) (ih (i + 1) (by omega)))⟩
def ev_kS (as : Nat → Int32) (K : Nat) (a v : Nat → Int32) : Nat → Int32 := ev_fl (ev_fl as a (704 * K) 512) v (704 * K + 512) 192
def ev_kD (as : Nat → Int32) : Nat → Int32 := ev_fl as (fun j => as (j + 704)) 0 2112
def ev_kK (K : Nat) : Nat := if K = 4 then 4 else K + 1
def ev_kA (as : Nat → Int32) (K : Nat) (a v : Nat → Int32) : Nat → Int32 := if K = 4 then ev_kS (ev_kD as) 3 a v else ev_kS as K a v
theorem ey_k46w {post : SY → Prop} {K : Nat} (hK : K < 4) (hp : post (nI (K + 1), ff, fl, a, v, m, ev_kS as K a v)) : ∃ n, wY_keep_46 post (nI K) ff fl n 0 a v m as := by
  have h := ey_k46 (as := as) hK hp 512 0 (by omega)
  rw [ev_fl_0] at h
  exact ⟨_, h⟩
theorem ey_k15 {post : SY → Prop} (hp : post (nI (3 + 1), ff, fl, a, v, m, ev_kS (ev_kD as) 3 a v)) : ∀ d i, i + d = 2112 → wY_keep_15 post 3 ff fl (d + 1) (nI i) a v m (ev_fl as (fun j => as (j + 704)) 0 i) := by
  intro d
  induction d with
  | zero =>
    intro i h
    refine br_t (nI_le (a := 2112) (by omega) (by omega)) ?_
    rw [show i = 2112 by omega]
    exact ey_k46w (K := 3) (by omega) hp
  | succ d ih =>
    intro i h
    refine br_f (nI_ge (b := 2112) (by omega) (by omega)) ?_
    rw [ev_p704, nI_clamp (n := i) (by omega), nI_clamp (by omega)]
    refine ⟨vp_in_nI (by omega) (by omega), vp_in_nI (by omega) (by omega), nm_r (e' := ev_fl as (fun j => as (j + 704)) 0 (i + 1)) ?_ (nm_r (nI_1 i) (ih (i + 1) (by omega)))⟩
    rw [ev_fl_out (j := i + 704) (by omega)]
    have := ev_fl_s as (fun j => as (j + 704)) 0 i
    rw [Nat.zero_add] at this
    exact this
theorem ey_keep {post : SY → Prop} {K : Nat} (hK : K ≤ 4) (hp : post (nI (ev_kK K), ff, fl, a, v, m, ev_kA as K a v)) : wpY_keep post (nI K, ff, fl, a, v, m, as) := by
  unfold ev_kK ev_kA at hp
  by_cases z : K = 4
  · rw [if_pos z, if_pos z] at hp
    refine br_t (by rw [z]; rfl) ?_
    have h := ey_k15 (as := as) hp 2112 0 (by omega)
    rw [ev_fl_0] at h
    exact ⟨_, h⟩
  · rw [if_neg z, if_neg z] at hp
    exact br_f (fun y => z (ev_inj (b := 4) y (by omega) (by omega))) (ey_k46w (by omega) hp)

/-! the reference's choice of a place -/
theorem ey_run {post : Int32 → Prop} {b : Nat} (hb : b < 192) : ∀ d j, b ≤ j → j + d = (b / 64 + 1) * 64 → post (nI (j + ev_rn m d j - b)) → wY_freeFrom_2 post (nI b) fk ff fl a v m as (d + 1) (nI j) := by
  intro d
  induction d with
  | zero =>
    intro j h1 h2 hp
    have hp' : post (nI j - nI b) := by rw [pk_sub h1]; exact hp
    by_cases z : j = 192
    · exact br_t (nI_le (a := 192) (by omega) (by omega)) hp'
    · refine br_f (nI_ge (b := 192) (by omega) (by omega)) ⟨ev_n64, ev_n64, ?_⟩
      rw [ev_d64 (b := j) (by omega), ev_d64 (b := b) (by omega)]
      exact br_f (fun y => by have := ev_inj y (by omega) (by omega); omega) hp'
  | succ d ih =>
    intro j h1 h2 hp
    refine br_f (nI_ge (b := 192) (by omega) (by omega)) ⟨ev_n64, ev_n64, ?_⟩
    rw [ev_d64 (b := j) (by omega), ev_d64 (b := b) (by omega)]
    refine br_t (congrArg nI (by omega)) ⟨vp_in_nI (by omega) (by omega), ?_⟩
    rw [nI_clamp (by omega)]
    by_cases z : m j = 0
    · refine br_t z (nm_r (nI_1 j) ?_)
      refine ih (j + 1) (by omega) (by omega) ?_
      rw [ev_rn_t z] at hp
      rw [show j + 1 + ev_rn m d (j + 1) - b = j + (ev_rn m d (j + 1) + 1) - b by omega]
      exact hp
    · refine br_f z ?_
      rw [ev_rn_f z] at hp
      rw [pk_sub h1]; exact hp
theorem ey_ff {post : Int32 → Prop} {b : Nat} (hb : b < 192) (hp : post (nI (ev_F m b))) : wpY_freeFrom post (fk, ff, fl, a, v, m, as) (nI b) := by
  refine ⟨_, ey_run hb (64 - b % 64) b (Nat.le_refl _) (by omega) ?_⟩
  rw [Nat.add_sub_cancel_left]; exact hp
theorem ey_52 {post : Int32 → Prop} {J : Int32 → Int32 → Int32 → Prop} {x1 x2 x3 x4 : Int32} {i F : Nat} (hF : F ≤ 64) (h0 : F = 0 → J x3 x4 (nI (i + 1))) (h1 : 0 < F → J x3 x4 (nI (i + F))) : wY_shortest_52 post J x1 x2 x3 x4 (nI i) (nI F) fk ff fl a v m as := by
  by_cases z : F = 0
  · exact br_t (by rw [z]; rfl) (nm_r (nI_1 i) (h0 z))
  · exact br_f (nI_ne0 (by omega) (by omega)) (nm_r (nI_add i F) (h1 (by omega)))
theorem ey_sf_l {post : Int32 → Prop} {g left : Nat} (hg : g < 3) (hl : left ≤ 64) (hl0 : 0 < left) (hp : post (ev_sf m left (64 * g) 64).1) : ∀ n i, 64 - i < n → i ≤ 64 → (i < 64 → ev_E m (64 * g + i) = ev_F m (64 * g + i)) → wY_shortest_12 post (nI g) (nI left) fk ff fl a v m as n (ev_sf m left (64 * g) i).1 (nI (ev_sf m left (64 * g) i).2) (nI (64 * g + i)) := by
  intro n
  induction n with
  | zero => intro i h; omega
  | succ n ih =>
    intro i h hi hE
    by_cases e : i = 64
    · refine br_t (by rw [ev_64x, ev_p64]; exact nI_le (by omega) (by omega)) ?_
      rw [e]; exact hp
    · refine br_f (by rw [ev_64x, ev_p64]; exact nI_ge (by omega) (by omega)) (ey_ff (by omega) ?_)
      have hE' := hE (by omega)
      have hF := ev_F_le m (64 * g + i)
      have h65 : (ev_sf m left (64 * g) i).2 ≤ 65 := by
        rcases ev_sf_ok m left (64 * g) i with ⟨y, _⟩ | ⟨j, _, y, _⟩
        · rw [y]; exact Nat.le_refl _
        · have := ev_E_le m (64 * g + j)
          have := ev_F_le m (64 * g + j)
          rw [y]
          show ev_E m (64 * g + j) ≤ 65
          omega
      have n0 : ev_F m (64 * g + i) = 0 → wY_shortest_12 post (nI g) (nI left) fk ff fl a v m as n (ev_sf m left (64 * g) (i + 1)).1 (nI (ev_sf m left (64 * g) (i + 1)).2) (nI (64 * g + i + 1)) := by
        intro z
        refine ih (i + 1) (by omega) (by omega) (fun _ => ev_E_F (Or.inr ?_))
        rw [show 64 * g + (i + 1) - 1 = 64 * g + i by omega]
        intro y
        have := ev_F_t y
        omega
      have n1 : 0 < ev_F m (64 * g + i) → wY_shortest_12 post (nI g) (nI left) fk ff fl a v m as n (ev_sf m left (64 * g) (i + 1)).1 (nI (ev_sf m left (64 * g) (i + 1)).2) (nI (64 * g + i + ev_F m (64 * g + i))) := by
        intro z
        have hh := ev_sf_hop (u := m) (left := left) (first := 64 * g) (d := i) hl0 (by omega) (ev_F m (64 * g + i) - 1) (by omega) (by omega)
        have := ih (i + 1 + (ev_F m (64 * g + i) - 1)) (by omega) (by omega) (fun hlt => ev_E_F' (by
          rw [show 64 * g + (i + 1 + (ev_F m (64 * g + i) - 1)) = 64 * g + i + ev_F m (64 * g + i) by omega]
          exact ev_F_end (Or.inl (by omega))))
        rw [hh, show 64 * g + (i + 1 + (ev_F m (64 * g + i) - 1)) = 64 * g + i + ev_F m (64 * g + i) by omega] at this
        exact this
      by_cases z1 : left ≤ ev_F m (64 * g + i)
      · refine br_f (nI_nlt z1 (by omega)) ?_
        by_cases z2 : ev_F m (64 * g + i) < (ev_sf m left (64 * g) i).2
        · rw [ev_sf_t (by omega) (by omega), hE'] at n0 n1
          exact br_f (nI_ge z2 (by omega)) (ey_52 (by omega) n0 n1)
        · rw [ev_sf_f (fun y => z2 (by omega))] at n0 n1
          exact br_t (nI_le (by omega) (by omega)) (ey_52 (by omega) n0 n1)
      · rw [ev_sf_f (fun y => z1 (by omega))] at n0 n1
        exact br_t (nI_lt (by omega) (by omega)) (ey_52 (by omega) n0 n1)
theorem ey_sf {post : Int32 → Prop} {g left : Nat} (hg : g < 3) (hl : left ≤ 64) (hl0 : 0 < left) (hp : post (ev_sf m left (64 * g) 64).1) : wpY_shortest post (fk, ff, fl, a, v, m, as) (nI g) (nI left) :=
  nm_r (ev_64x g) ⟨_, ey_sf_l hg hl hl0 hp 65 0 (by omega) (by omega) (fun _ => ev_E_F (Or.inl (by omega)))⟩
theorem ey_125 {post : SY → Prop} (hp : post (fk, (ev_lg m 192).1, nI (ev_lg m 192).2, a, v, m, as)) : ∀ d i, i + d = 192 → wY_find_125 post fk a v m as (d + 1) (nI i) (ev_lg m i).1 (nI (ev_lg m i).2) := by
  intro d
  induction d with
  | zero =>
    intro i h
    refine br_t (nI_le (a := 192) (by omega) (by omega)) ?_
    rw [show i = 192 by omega]; exact hp
  | succ d ih =>
    intro i h
    refine br_f (nI_ge (b := 192) (by omega) (by omega)) (ey_ff (by omega) ?_)
    have hF := ev_F_le m i
    have h65 : (ev_lg m i).2 ≤ 64 := by
      rcases (ev_lg_ok m i).2 with y | ⟨j, _, y, _⟩
      · rw [y]; exact Nat.zero_le _
      · have := ev_E_le m j
        have := ev_F_le m j
        rw [y]
        show ev_E m j ≤ 64
        omega
    have := ih (i + 1) (by omega)
    by_cases z : (ev_lg m i).2 < ev_F m i
    · refine br_t (nI_lt z (by omega)) (ey_ff (by omega) (nm_r (nI_1 _) ?_))
      rw [(ev_lg_F m i).1 z] at this
      exact this
    · refine br_f (nI_nlt (by omega) (by omega)) (nm_r (nI_1 _) ?_)
      rw [(ev_lg_F m i).2 z] at this
      exact this
theorem ey_77_s {post : SY → Prop} {f left t n : Nat} (hf : f < 8) (hl : left ≤ 64) (hl0 : 0 < left) (ht : t < 3) (h1 : ¬ ev_g m f left t = -1 → post (fk, ev_g m f left t, nI left, a, v, m, as)) (h2 : ev_g m f left t = -1 → wY_find_77 post (nI f) (nI left) fk a v m as n (nI (t + 1)) (-1) (nI left)) : wY_find_77 post (nI f) (nI left) fk a v m as (n + 1) (nI t) ff fl := by
  refine br_f (nI_ge (b := 3) ht (by omega)) ⟨ev_n3, ?_⟩
  rw [nI_add, ev_r3 (by omega)]
  refine ey_sf (by omega) hl hl0 ?_
  show (ev_g m f left t < 0 → _) ∧ (¬ ev_g m f left t < 0 → _)
  rcases ev_g_ok (u := m) (file := f) (left := left) (t := t) with ⟨z, _⟩ | ⟨s, hs, z, _⟩
  · refine br_t (by rw [z]; decide) (nm_r (nI_1 _) ?_)
    have := h2 z
    rw [← z] at this
    exact this
  · exact br_f (by rw [z]; exact nI_pos (by omega)) (h1 (by rw [z]; exact ev_ne1 (by omega)))
theorem ey_77 {post : SY → Prop} {f left : Nat} (hf : f < 8) (hl : left ≤ 64) (hl0 : 0 < left) (h1 : ¬ ev_best m f left = -1 → post (fk, ev_best m f left, nI left, a, v, m, as)) (h2 : ev_best m f left = -1 → post (fk, (ev_lg m 192).1, nI (ev_lg m 192).2, a, v, m, as)) : ∃ n, wY_find_77 post (nI f) (nI left) fk a v m as n 0 ff fl := by
  refine ⟨4, ?_⟩
  unfold ev_best at h1 h2
  refine ey_77_s (t := 0) hf hl hl0 (by omega) (fun z => ?_) (fun z => ?_)
  · rw [if_neg z] at h1; exact h1 z
  · rw [if_pos z] at h1 h2
    refine ey_77_s (t := 1) hf hl hl0 (by omega) (fun y => ?_) (fun y => ?_)
    · rw [if_neg y] at h1; exact h1 y
    · rw [if_pos y] at h1 h2
      refine ey_77_s (t := 2) hf hl hl0 (by omega) h1 (fun x => ?_)
      exact br_t (nI_le (a := 3) (b := 2 + 1) (by omega) (by omega)) ⟨_, ey_125 (h2 x) 192 0 (by omega)⟩
end
