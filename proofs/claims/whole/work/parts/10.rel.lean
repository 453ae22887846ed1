/-! the relation -/
def i_Rel (_ : Nat) (u : SX) (v : SY) : Prop := ∃ (K S : Nat) (ff fl : Int32) (a w kb ki m as : Nat → Int32), u = (nI K, nI S, a, w, ev_U a, kb, ki) ∧ v = (nI K, ff, fl, a, w, m, as) ∧ K ≤ 4 ∧ S < 4 ∧ ev_V a ∧ (∀ j, 192 ≤ j → m j = 0) ∧ ev_Rg K S kb ki as
theorem i_up {k : Nat} {u : SX} {v : SY} (h : i_Rel k u v) : i_Rel (k + 5) u v := h
theorem ev_rel {k K S : Nat} {ff fl : Int32} {a w kb ki m as : Nat → Int32} (hK : K ≤ 4) (hS : S < 4) (hV : ev_V a) (hm : ∀ j, 192 ≤ j → m j = 0) (hR : ev_Rg K S kb ki as) : i_Rel k (nI K, nI S, a, w, ev_U a, kb, ki) (nI K, ff, fl, a, w, m, as) :=
  ⟨K, S, ff, fl, a, w, kb, ki, m, as, rfl, rfl, hK, hS, hV, hm, hR⟩
theorem ev_kK_le {K : Nat} (h : K ≤ 4) : ev_kK K ≤ 4 := by
  unfold ev_kK; split <;> omega
theorem ev_kS_1 {as a v : Nat → Int32} {K k : Nat} (h : k < 512) : ev_kS as K a v (704 * K + k) = a k := by
  unfold ev_kS
  rw [ev_fl_out (by omega), ev_fl_in h]
theorem ev_kS_2 {as a v : Nat → Int32} {K k : Nat} (h : k < 192) : ev_kS as K a v (704 * K + 512 + k) = v k := by
  unfold ev_kS
  rw [ev_fl_in h]
theorem ev_kS_3 {as a v : Nat → Int32} {K k : Nat} (h : k < 704 * K) : ev_kS as K a v k = as k := by
  unfold ev_kS
  rw [ev_fl_out (by omega), ev_fl_out (by omega)]
theorem ev_keep_Rg {K S : Nat} {kb ki as a w : Nat → Int32} (hK : K ≤ 4) (hS : S < 4) (hV : ev_V a) (h : ev_Rg K S kb ki as) : ev_Rg (ev_kK K) ((S + 1) % 4) (ev_fl kb a (S * 512) 512) (ev_fl ki w (S * 192) 192) (ev_kA as K a w) := by
  unfold ev_kK ev_kA
  by_cases z : K = 4
  · rw [if_pos z, if_pos z]
    subst z
    have hd : ev_Rg 3 S kb ki (ev_kD as) := ev_Rg_d hS h (fun k hk => by
      have := ev_fl_in (f := as) (g := fun j => as (j + 704)) (o := 0) hk
      rw [Nat.zero_add] at this
      exact this)
    exact ev_Rg_s (K := 3) (by omega) hS hV hd (fun k hk => ev_fl_in hk) (fun k hk => ev_fl_out hk) (fun k hk => ev_fl_in hk) (fun k hk => ev_fl_out hk) (fun k hk => ev_kS_1 hk) (fun k hk => ev_kS_2 hk) (fun k hk => ev_kS_3 hk)
  · rw [if_neg z, if_neg z]
    exact ev_Rg_s (by omega) hS hV h (fun k hk => ev_fl_in hk) (fun k hk => ev_fl_out hk) (fun k hk => ev_fl_in hk) (fun k hk => ev_fl_out hk) (fun k hk => ev_kS_1 hk) (fun k hk => ev_kS_2 hk) (fun k hk => ev_kS_3 hk)

/-! new objects -/
theorem ex_init_l {post : SX → Prop} {x y z w : Nat → Int32} {b : Nat → Int32} (hp : post (0, 0, ev_fl b (fun _ => -1) 0 512, x, y, z, w)) : ∀ d i, i + d = 512 → wX_init_61 post 0 0 (d + 1) (nI i) (ev_fl b (fun _ => -1) 0 i) x y z w := by
  intro d
  induction d with
  | zero =>
    intro i h
    refine br_t (nI_le (a := 512) (by omega) (by omega)) ?_
    rw [show i = 512 by omega]; exact hp
  | succ d ih =>
    intro i h
    refine br_f (nI_ge (b := 512) (by omega) (by omega)) ⟨vp_in_nI (by omega) (by omega), ?_⟩
    rw [nI_clamp (by omega)]
    have e := ev_fl_s b (fun _ => -1) 0 i
    rw [Nat.zero_add] at e
    exact nm_r e (nm_r (nI_1 i) (ih (i + 1) (by omega)))
theorem ey_init_l {post : SY → Prop} {x y z : Nat → Int32} {b : Nat → Int32} (hp : post (0, 0, 0, ev_fl b (fun _ => -1) 0 512, x, y, z)) : ∀ d i, i + d = 512 → wY_init_42 post 0 0 0 (d + 1) (nI i) (ev_fl b (fun _ => -1) 0 i) x y z := by
  intro d
  induction d with
  | zero =>
    intro i h
    refine br_t (nI_le (a := 512) (by omega) (by omega)) ?_
    rw [show i = 512 by omega]; exact hp
  | succ d ih =>
    intro i h
    refine br_f (nI_ge (b := 512) (by omega) (by omega)) ⟨vp_in_nI (by omega) (by omega), ?_⟩
    rw [nI_clamp (by omega)]
    have e := ev_fl_s b (fun _ => -1) 0 i
    rw [Nat.zero_add] at e
    exact nm_r e (nm_r (nI_1 i) (ih (i + 1) (by omega)))
theorem ex_init {post : SX → Prop} (hp : post (0, 0, ev_fl (fun _ => 0) (fun _ => -1) 0 512, fun _ => 0, fun _ => 0, fun _ => 0, fun _ => 0)) : wpX_init post := by
  have h := ex_init_l hp 512 0 (by omega)
  rw [ev_fl_0] at h
  exact ⟨_, h⟩
theorem ey_init {post : SY → Prop} (hp : post (0, 0, 0, ev_fl (fun _ => 0) (fun _ => -1) 0 512, fun _ => 0, fun _ => 0, fun _ => 0)) : wpY_init post := by
  have h := ey_init_l hp 512 0 (by omega)
  rw [ev_fl_0] at h
  exact ⟨_, h⟩
theorem i_vc0 : wpX_init (fun u => wpY_init (fun v => i_Rel 0 u v)) := by
  refine ex_init (ey_init ?_)
  have h1 : ∀ k, k < 512 → ev_fl (fun _ => 0) (fun _ => -1) 0 512 k = -1 := by
    intro k hk
    have := ev_fl_in (f := fun _ => 0) (g := fun _ => -1) (o := 0) hk
    rw [Nat.zero_add] at this
    exact this
  have hV : ev_V (ev_fl (fun _ => 0) (fun _ => -1) 0 512) := fun k hk => Or.inl (h1 k hk)
  have := ev_rel (k := 0) (K := 0) (S := 0) (ff := 0) (fl := 0) (w := fun _ => 0) (kb := fun _ => 0) (ki := fun _ => 0) (m := fun _ => 0) (as := fun _ => 0) (by omega) (by omega) hV (fun _ _ => rfl) (ev_Rg_0 _ _ _ _)
  rw [ev_U_m1 h1] at this
  exact this

/-! the short methods -/
theorem i_vc_changes {k : Nat} {u : SX} {v : SY} (I : i_Rel k u v) (hk : k + 5 ≤ 2560) : wpX_changes (fun r => wpY_changes (fun r' => r' = r ∧ i_Rel (k + 5) u v) v) u := by
  have I' : i_Rel (k + 5) u v := I
  obtain ⟨K, S, ff, fl, a, w, kb, ki, m, as, rfl, rfl, hK, hS, hV, hm, hR⟩ := I
  exact ⟨rfl, I'⟩
theorem i_vc_settle {k : Nat} {u : SX} {v : SY} (I : i_Rel k u v) (hk : k + 5 ≤ 2560) : wpX_settle (fun r u' => wpY_settle (fun r' v' => r' = r ∧ i_Rel (k + 5) u' v') v) u := by
  obtain ⟨K, S, ff, fl, a, w, kb, ki, m, as, rfl, rfl, hK, hS, hV, hm, hR⟩ := I
  exact ⟨rfl, ev_rel (K := 0) (by omega) hS hV hm (ev_Rg_0 _ _ _ _)⟩
def ev_ok2 (x y : Int32) : Prop := ∃ f p : Nat, f < 8 ∧ p < 64 ∧ x = nI f ∧ y = nI p
theorem ev_ok_2 {x y : Int32} (h : ev_ok x y 1) : ev_ok2 x y := by
  obtain ⟨f, p, n, a, b, c, d, e1, e2, e3⟩ := h
  exact ⟨f, p, a, b, e1, e2⟩
section
variable {fk fs ff fl : Int32} {ba ia ua kb ki a v m as : Nat → Int32}
theorem ex_rng_t {post : Int32 → Prop} {f p n : Nat} (hf : f < 8) (hp : p < 64) (hn : 1 ≤ n) (hpn : p + n ≤ 64) (h : post 1) : wpX_isRange post (fk, fs, ba, ia, ua, kb, ki) (nI f) (nI p) (nI n) :=
  ex_isRange (fun _ => h) (fun z => absurd ⟨f, p, n, hf, hp, hn, hpn, rfl, rfl, rfl⟩ z)
theorem ex_rng_f {post : Int32 → Prop} {x y z : Int32} (hn : ¬ ev_ok x y z) (h : post 0) : wpX_isRange post (fk, fs, ba, ia, ua, kb, ki) x y z :=
  ex_isRange (fun z => absurd z hn) (fun _ => h)
theorem ey_row_t {post : Int32 → Prop} {f p n : Nat} (hf : f < 8) (hp : p < 64) (hn : 1 ≤ n) (hpn : p + n ≤ 64) (h : post 1) : wpY_isRow post (nI f) (nI p) (nI n) :=
  ey_isRow (fun _ => h) (fun z => absurd ⟨f, p, n, hf, hp, hn, hpn, rfl, rfl, rfl⟩ z)
theorem ey_row_f {post : Int32 → Prop} {x y z : Int32} (hn : ¬ ev_ok x y z) (h : post 0) : wpY_isRow post x y z :=
  ey_isRow (fun z => absurd z hn) (fun _ => h)
theorem ex_file_t {post : Int32 → Prop} {f : Nat} (hf : f < 8) (h : post 1) : wpX_isFile post (fk, fs, ba, ia, ua, kb, ki) (nI f) :=
  ex_isFile (fun _ _ _ => h) (fun z => absurd ⟨f, hf, rfl⟩ z)
theorem ex_file_f {post : Int32 → Prop} {x : Int32} (hn : ¬ ∃ j, j < 8 ∧ x = nI j) (h : post 0) : wpX_isFile post (fk, fs, ba, ia, ua, kb, ki) x :=
  ex_isFile (fun j hj e => absurd ⟨j, hj, e⟩ hn) (fun _ => h)
theorem ey_in_t {post : Int32 → Prop} {y : Int32} {f n : Nat} (hn : n < 2 ^ 31) (hy : y = nI n) (hf : f < n) (h : post 1) : wpY_in post (nI f) y := by
  subst hy
  exact ey_in n hn (fun _ _ _ => h) (fun z => absurd ⟨f, hf, rfl⟩ z)
theorem ey_in_f {post : Int32 → Prop} {x y : Int32} {n : Nat} (hn : n < 2 ^ 31) (hy : y = nI n) (hx : ¬ ∃ j, j < n ∧ x = nI j) (h : post 0) : wpY_in post x y := by
  subst hy
  exact ey_in n hn (fun j hj e => absurd ⟨j, hj, e⟩ hx) (fun _ => h)
theorem ex_place_t {post : Int32 → Prop} {f p : Nat} (hf : f < 8) (hp : p < 64) (h : post (ba (64 * f + p))) : wpX_place post (fk, fs, ba, ia, ua, kb, ki) (nI f) (nI p) := by
  unfold wpX_place
  dsimp only
  refine ex_rng_t (n := 1) hf hp (by omega) (by omega) (br_f ev_10 ?_)
  rw [ev_ix, nI_clamp (by omega)]
  exact ⟨vp_in_nI (by omega) (by omega), h⟩
theorem ex_place_f {post : Int32 → Prop} {x y : Int32} (hn : ¬ ev_ok2 x y) (h : post (-1)) : wpX_place post (fk, fs, ba, ia, ua, kb, ki) x y := by
  unfold wpX_place
  dsimp only
  exact ex_rng_f (fun z => hn (ev_ok_2 z)) (br_t rfl h)
theorem ey_place_t {post : Int32 → Prop} {f p : Nat} (hf : f < 8) (hp : p < 64) (h : post (a (64 * f + p))) : wpY_place post (fk, ff, fl, a, v, m, as) (nI f) (nI p) := by
  unfold wpY_place
  dsimp only
  refine ey_in_t (n := 8) (by decide) rfl hf (br_f ev_10 (ey_in_t (n := 64) (by decide) rfl hp (br_f ev_10 ?_)))
  rw [ev_iy, nI_clamp (by omega)]
  exact ⟨vp_in_nI (by omega) (by omega), h⟩
theorem ey_place_f {post : Int32 → Prop} {x y : Int32} (hn : ¬ ev_ok2 x y) (h : post (-1)) : wpY_place post (fk, ff, fl, a, v, m, as) x y := by
  unfold wpY_place
  dsimp only
  refine ey_in (n := 8) (by decide) (fun f hf ef => br_f ev_10 ?_) (fun _ => br_t rfl h)
  refine ey_in (n := 64) (by decide) (fun p hp ep => ?_) (fun _ => br_t rfl h)
  exact absurd ⟨f, p, hf, hp, ef, ep⟩ hn
end
theorem i_vc_place {k : Nat} {u : SX} {v : SY} (I : i_Rel k u v) (hk : k + 5 ≤ 2560) (v1 : Int32) (v2 : Int32) : wpX_place (fun r => wpY_place (fun r' => r' = r ∧ i_Rel (k + 5) u v) v v1 v2) u v1 v2 := by
  have I' : i_Rel (k + 5) u v := I
  obtain ⟨K, S, ff, fl, a, w, kb, ki, m, as, rfl, rfl, hK, hS, hV, hm, hR⟩ := I
  by_cases h : ev_ok2 v1 v2
  · obtain ⟨f, p, hf, hp, rfl, rfl⟩ := h
    exact ex_place_t hf hp (ey_place_t hf hp ⟨rfl, I'⟩)
  · exact ex_place_f h (ey_place_f h ⟨rfl, I'⟩)
theorem i_vc_read {k : Nat} {u : SX} {v : SY} (I : i_Rel k u v) (hk : k + 5 ≤ 2560) (v1 : Int32) (v2 : Int32) : wpX_read (fun r => wpY_read (fun r' => r' = r ∧ i_Rel (k + 5) u v) v v1 v2) u v1 v2 := by
  have I' : i_Rel (k + 5) u v := I
  obtain ⟨K, S, ff, fl, a, w, kb, ki, m, as, rfl, rfl, hK, hS, hV, hm, hR⟩ := I
  unfold wpX_read wpY_read
  dsimp only
  by_cases h : ev_ok2 v1 v2
  · obtain ⟨f, p, hf, hp, rfl, rfl⟩ := h
    refine ex_place_t hf hp ?_
    rcases hV (64 * f + p) (by omega) with e | ⟨b, hb, e⟩
    · refine br_t e (ey_place_t hf hp ?_)
      rw [e]
      exact br_f ev_m1le ⟨rfl, I'⟩
    · refine br_f (by rw [e]; exact ev_ne1 (by omega)) ?_
      rw [e, nI_clamp (by omega)]
      refine ⟨vp_in_nI hb (by omega), ey_place_t hf hp ?_⟩
      rw [e, nI_clamp (by omega)]
      exact br_t (nI_pos' (by omega)) ⟨vp_in_nI hb (by omega), rfl, I'⟩
  · exact ex_place_f h (br_t rfl (ey_place_f h (br_f ev_m1le ⟨rfl, I'⟩)))
theorem i_vc_uses {k : Nat} {u : SX} {v : SY} (I : i_Rel k u v) (hk : k + 5 ≤ 2560) (v1 : Int32) : wpX_uses (fun r => wpY_uses (fun r' v' => r' = r ∧ i_Rel (k + 5) u v') v v1) u v1 := by
  have I' : i_Rel (k + 5) u v := I
  obtain ⟨K, S, ff, fl, a, w, kb, ki, m, as, rfl, rfl, hK, hS, hV, hm, hR⟩ := I
  unfold wpX_uses wpY_uses
  dsimp only
  by_cases h : ∃ j, j < 192 ∧ v1 = nI j
  · obtain ⟨j, hj, rfl⟩ := h
    refine br_f (nI_pos (by omega)) (br_t (nI_lt (b := 192) hj (by omega)) ⟨vp_in_nI hj (by omega), ?_⟩)
    refine ey_in_t (n := 192) (by decide) rfl hj (br_f ev_10 (ey_count hV hm ?_))
    exact ⟨vp_in_nI hj (by omega), rfl, ev_rel hK hS hV (fun j hj => ev_U_ge (by omega)) hR⟩
  · refine br_c (fun _ => ey_in_f (n := 192) (by decide) rfl h (br_t rfl ⟨rfl, I'⟩)) (fun z => br_c (fun y => ?_) (fun _ => ey_in_f (n := 192) (by decide) rfl h (br_t rfl ⟨rfl, I'⟩)))
    obtain ⟨j, hj, rfl⟩ := nI_of z
    exact absurd ⟨j, (nI_ltI (b := 192) hj (by omega)).mp y, rfl⟩ h
