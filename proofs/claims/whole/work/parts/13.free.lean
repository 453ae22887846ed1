/-! the free extents in their order -/
section
variable {fk fs ff fl : Int32} {ba ia ua kb ki a v m as : Nat → Int32}
def ev_sb (u : Nat → Int32) (len b j : Nat) : Bool := decide (0 < ev_E u j ∧ (ev_E u j < len ∨ (ev_E u j = len ∧ j < b)))
theorem ev_sb_f {u : Nat → Int32} {len b j : Nat} (h : ¬ (0 < ev_E u j ∧ (ev_E u j < len ∨ (ev_E u j = len ∧ j < b)))) : ¬ ev_sb u len b j = true := fun z => h (of_decide_eq_true z)
theorem ex_csb_l {post : Int32 → Prop} {g b len : Nat} (hg : g < 3) (hb : b < 192) (hlen : len ≤ 64) (hp : post (nI (ev_ct (ev_sb ua len b) (64 * g) 64))) : ∀ d i, i + d = 64 → wX_countSortedBefore_13 post (nI b) (nI len) (nI (64 * g)) fk fs ba ia ua kb ki (d + 1) (nI (ev_ct (ev_sb ua len b) (64 * g) i)) (nI (64 * g + i)) := by
  intro d
  induction d with
  | zero =>
    intro i h
    refine br_t (by rw [ev_p64]; exact nI_le (by omega) (by omega)) ?_
    rw [show i = 64 by omega]; exact hp
  | succ d ih =>
    intro i h
    have hi := ih (i + 1) (by omega)
    have hE := ev_E_le ua (64 * g + i)
    have hF := ev_F_le ua (64 * g + i)
    refine br_f (by rw [ev_p64]; exact nI_ge (by omega) (by omega)) (ex_ext (by omega) ?_)
    by_cases z1 : 0 < ev_E ua (64 * g + i)
    · refine br_f (nI_nle z1 (by omega)) ?_
      by_cases z2 : ev_E ua (64 * g + i) < len
      · rw [ev_ct_t (p := ev_sb ua len b) (decide_eq_true (by omega))] at hi
        exact br_t (nI_lt z2 (by omega)) (nm_r (nI_1 _) (nm_r (nI_1 _) hi))
      · refine br_f (nI_nlt (by omega) (by omega)) ?_
        by_cases z3 : ev_E ua (64 * g + i) = len
        · refine br_t (congrArg nI z3) ?_
          by_cases z4 : b ≤ 64 * g + i
          · rw [ev_ct_f (ev_sb_f (by omega))] at hi
            exact br_t (nI_le z4 (by omega)) (nm_r (nI_1 _) hi)
          · rw [ev_ct_t (p := ev_sb ua len b) (decide_eq_true (by omega))] at hi
            exact br_f (nI_ge (by omega) (by omega)) (nm_r (nI_1 _) (nm_r (nI_1 _) hi))
        · rw [ev_ct_f (ev_sb_f (by omega))] at hi
          exact br_f (fun y => z3 (ev_inj y (by omega) (by omega))) (nm_r (nI_1 _) hi)
    · rw [ev_ct_f (ev_sb_f (by omega))] at hi
      exact br_t (nI_le (b := 0) (by omega) (by omega)) (nm_r (nI_1 _) hi)
theorem ex_csb {post : Int32 → Prop} {g b len : Nat} (hg : g < 3) (hb : b < 192) (hlen : len ≤ 64) (hp : post (nI (ev_rk ua (64 * g) len b))) : wpX_countSortedBefore post (fk, fs, ba, ia, ua, kb, ki) (nI g) (nI b) (nI len) :=
  nm_r (ev_x64 g) ⟨_, ex_csb_l hg hb hlen hp 64 0 (by omega)⟩
theorem ex_f30 {post : Int32 → Prop} {g : Nat} {k x3 : Int32} (hg : g < 3) (hK : ∀ b, ev_isK ua (64 * g) k b → post (if x3 = 0 then nI b else nI (ev_E ua b))) (hN : (∀ b, ¬ ev_isK ua (64 * g) k b) → post (-1)) :
    ∀ d i, i + d = 64 → (∀ j, j < i → ¬ ev_isK ua (64 * g) k (64 * g + j)) → wX_free_30 post (nI g) k x3 (nI (64 * g)) fk fs ba ia ua kb ki (d + 1) (nI (64 * g + i)) := by
  intro d
  induction d with
  | zero =>
    intro i h hj
    refine br_t (by rw [ev_p64]; exact nI_le (by omega) (by omega)) (hN (fun b hb => ?_))
    have h1 := hb.1
    have h2 := hb.2.1
    refine hj (b - 64 * g) (by omega) ?_
    rw [show 64 * g + (b - 64 * g) = b by omega]
    exact hb
  | succ d ih =>
    intro i h hj
    have hE := ev_E_le ua (64 * g + i)
    have hF := ev_F_le ua (64 * g + i)
    have next : ¬ ev_isK ua (64 * g) k (64 * g + i) → wX_free_30 post (nI g) k x3 (nI (64 * g)) fk fs ba ia ua kb ki (d + 1) (nI (64 * g + i + 1)) := by
      intro z
      refine ih (i + 1) (by omega) (fun j h1 => ?_)
      by_cases e : j = i
      · rw [e]; exact z
      · exact hj j (by omega)
    refine br_f (by rw [ev_p64]; exact nI_ge (by omega) (by omega)) (ex_ext (by omega) ?_)
    by_cases z1 : 0 < ev_E ua (64 * g + i)
    · refine br_f (nI_nle z1 (by omega)) (ex_csb hg (by omega) (by omega) ?_)
      by_cases z2 : nI (ev_rk ua (64 * g) (ev_E ua (64 * g + i)) (64 * g + i)) = k
      · have := hK (64 * g + i) ⟨by omega, by omega, z1, z2⟩
        refine br_t z2 ?_
        by_cases z3 : x3 = 0
        · rw [if_pos z3] at this; exact br_t z3 this
        · rw [if_neg z3] at this; exact br_f z3 this
      · exact br_f z2 (nm_r (nI_1 _) (next (fun y => z2 y.2.2.2)))
    · exact br_t (nI_le (b := 0) (by omega) (by omega)) (nm_r (nI_1 _) (next (fun y => z1 y.2.2.1)))
/-- none of rank k yet -/
def ev_NB (u : Nat → Int32) (first : Nat) (k : Int32) (sz b : Nat) : Prop := ∀ c, ev_isK u first k c → ¬ (ev_E u c < sz ∨ (ev_E u c = sz ∧ c < b))
theorem ev_NB_s {u : Nat → Int32} {first sz b : Nat} {k : Int32} (h : ev_NB u first k sz b) (hb : ev_E u b = sz → ¬ ev_isK u first k b) : ev_NB u first k sz (b + 1) := by
  intro c hc z
  by_cases e : c = b
  · subst e
    by_cases y : ev_E u c = sz
    · exact hb y hc
    · exact h c hc (by omega)
  · exact h c hc (by omega)
theorem ey_f45 {post : Int32 → SY → Prop} {J : Int32 → Int32 → Prop} {g sz : Nat} {k x3 : Int32} (hg : g < 3) (hs : 1 ≤ sz) (hs2 : sz ≤ 64) (hK : ∀ b, ev_isK (ev_U a) (64 * g) k b → post (if x3 = 0 then nI b else nI (ev_E (ev_U a) b)) (fk, ff, fl, ba, v, ev_U a, as))
    (hJ : ev_NB (ev_U a) (64 * g) k (sz + 1) (64 * g) → J (nI (ev_rk (ev_U a) (64 * g) (sz + 1) (64 * g))) (nI (sz + 1))) :
    ∀ d i, i + d = 64 → ev_NB (ev_U a) (64 * g) k sz (64 * g + i) → wY_free_45 post J (nI g) k x3 (nI sz) fk ff fl ba v (ev_U a) as (d + 1) (nI (ev_rk (ev_U a) (64 * g) sz (64 * g + i))) (nI (64 * g + i)) := by
  intro d
  induction d with
  | zero =>
    intro i h hn
    refine br_t (by rw [ev_64x, ev_p64]; exact nI_le (by omega) (by omega)) (nm_r (nI_1 sz) ?_)
    rw [ev_rk_s] at hJ
    rw [show i = 64 by omega] at hn ⊢
    refine hJ (fun c hc z => hn c hc ?_)
    have h1 := hc.2.1
    have h2 := hc.1
    omega
  | succ d ih =>
    intro i h hn
    have hE := ev_E_le (ev_U a) (64 * g + i)
    have hF := ev_F_le (ev_U a) (64 * g + i)
    have next0 : ¬ ev_E (ev_U a) (64 * g + i) = sz → wY_free_45 post J (nI g) k x3 (nI sz) fk ff fl ba v (ev_U a) as (d + 1) (nI (ev_rk (ev_U a) (64 * g) sz (64 * g + i))) (nI (64 * g + i + 1)) := by
      intro z
      have := ih (i + 1) (by omega) (ev_NB_s (b := 64 * g + i) hn (fun y => absurd y z))
      rw [show 64 * g + (i + 1) = 64 * g + i + 1 by omega, ev_rk_f z] at this
      exact this
    refine br_f (by rw [ev_64x, ev_p64]; exact nI_ge (by omega) (by omega)) (ey_beg (by omega) (fun z1 => br_f ev_10 (ey_ff (by omega) ?_)) (fun z1 => br_t rfl (nm_r (nI_1 _) (next0 (by omega)))))
    rw [← ev_E_eq z1]
    by_cases z2 : ev_E (ev_U a) (64 * g + i) = sz
    · refine br_t (congrArg nI z2) ?_
      by_cases z3 : nI (ev_rk (ev_U a) (64 * g) sz (64 * g + i)) = k
      · have := hK (64 * g + i) ⟨by omega, by omega, z1, by rw [z2]; exact z3⟩
        refine br_t z3 ?_
        by_cases z4 : x3 = 0
        · rw [if_pos z4] at this; exact br_t z4 this
        · rw [if_neg z4, z2] at this; exact br_f z4 this
      · have := ih (i + 1) (by omega) (ev_NB_s (b := 64 * g + i) hn (fun _ y => z3 (by have := y.2.2.2; rw [z2] at this; exact this)))
        rw [show 64 * g + (i + 1) = 64 * g + i + 1 by omega, ev_rk_t (by omega) (by omega) (by omega) z2] at this
        exact br_f z3 (nm_r (nI_1 _) (nm_r (nI_1 _) this))
    · exact br_f (fun y => z2 (ev_inj y (by omega) (by omega))) (nm_r (nI_1 _) (next0 z2))
theorem ey_f32 {post : Int32 → SY → Prop} {g : Nat} {k x3 : Int32} (hg : g < 3) (hK : ∀ b, ev_isK (ev_U a) (64 * g) k b → post (if x3 = 0 then nI b else nI (ev_E (ev_U a) b)) (fk, ff, fl, ba, v, ev_U a, as)) (hN : (∀ b, ¬ ev_isK (ev_U a) (64 * g) k b) → post (-1) (fk, ff, fl, ba, v, ev_U a, as)) :
    ∀ d sz, sz + d = 65 → 1 ≤ sz → ev_NB (ev_U a) (64 * g) k sz (64 * g) → wY_free_32 post (nI g) k x3 fk ff fl ba v (ev_U a) as (d + 1) (nI (ev_rk (ev_U a) (64 * g) sz (64 * g))) (nI sz) := by
  intro d
  induction d with
  | zero =>
    intro sz h h1 hn
    refine br_t (nI_lt (a := 64) (by omega) (by omega)) (hN (fun b hb => hn b hb ?_))
    have := ev_E_le (ev_U a) b
    have := ev_F_le (ev_U a) b
    omega
  | succ d ih =>
    intro sz h h1 hn
    refine br_f (nI_nlt (a := 64) (by omega) (by omega)) (nm_r (ev_64x g) ⟨64 + 1, ?_⟩)
    exact ey_f45 hg h1 (by omega) hK (fun z => ih (sz + 1) (by omega) (by omega) z) 64 0 (by omega) hn
end
theorem i_vc_free {k : Nat} {u : SX} {v : SY} (I : i_Rel k u v) (hk : k + 5 ≤ 2560) (v1 : Int32) (v2 : Int32) (v3 : Int32) : wpX_free (fun r => wpY_free (fun r' v' => r' = r ∧ i_Rel (k + 5) u v') v v1 v2 v3) u v1 v2 v3 := by
  have I' : i_Rel (k + 5) u v := I
  obtain ⟨K, S, ff, fl, a, w, kb, ki, m, as, rfl, rfl, hK, hS, hV, hm, hR⟩ := I
  by_cases h : (∃ g, g < 3 ∧ v1 = nI g) ∧ (∃ x, x < 2 ∧ v3 = nI x)
  · obtain ⟨⟨g, hg, rfl⟩, ⟨x, hx, rfl⟩⟩ := h
    have hI2 : i_Rel (k + 5) (nI K, nI S, a, w, ev_U a, kb, ki) (nI K, ff, fl, a, w, ev_U a, as) := ev_rel hK hS hV (fun j hj => ev_U_ge (by omega)) hR
    have hyn : (∀ b, ¬ ev_isK (ev_U a) (64 * g) v2 b) → ∀ r : Int32, r = -1 → wpY_free (fun r' v' => r' = r ∧ i_Rel (k + 5) (nI K, nI S, a, w, ev_U a, kb, ki) v') (nI K, ff, fl, a, w, m, as) (nI g) v2 (nI x) := by
      intro hn r hr
      unfold wpY_free
      dsimp only
      refine ey_in_t (n := 3) (by decide) rfl hg (br_f ev_10 (ey_in_t (n := 2) (by decide) rfl hx (br_f ev_10 (br_c (fun z => ey_count hV hm ?_) (fun _ => ⟨hr.symm, I'⟩)))))
      have h32 := fun (post : Int32 → SY → Prop) h1 h2 => ey_f32 (post := post) (fk := nI K) (ff := ff) (fl := fl) (ba := a) (a := a) (v := w) (as := as) (k := v2) (x3 := nI x) hg h1 h2 64 1 (by omega) (by omega) (fun c hc => absurd hc (hn c))
      rw [ev_rk_0] at h32
      exact ⟨_, h32 _ (fun b hb => absurd hb (hn b)) (fun _ => ⟨hr.symm, hI2⟩)⟩
    have hyk : ∀ b, ev_isK (ev_U a) (64 * g) v2 b → ∀ r : Int32, r = (if nI x = 0 then nI b else nI (ev_E (ev_U a) b)) → wpY_free (fun r' v' => r' = r ∧ i_Rel (k + 5) (nI K, nI S, a, w, ev_U a, kb, ki) v') (nI K, ff, fl, a, w, m, as) (nI g) v2 (nI x) := by
      intro b hb r hr
      unfold wpY_free
      dsimp only
      refine ey_in_t (n := 3) (by decide) rfl hg (br_f ev_10 (ey_in_t (n := 2) (by decide) rfl hx (br_f ev_10 (br_t ?_ (ey_count hV hm ?_)))))
      · have h1 := ev_rk_le (ev_U a) (64 * g) (ev_E (ev_U a) b) b
        rw [← hb.2.2.2]
        exact nI_pos' (by omega)
      · have hnb : ev_NB (ev_U a) (64 * g) v2 1 (64 * g) := fun c hc z => by
          have h1 := hc.1
          have h2 := hc.2.2.1
          omega
        have h32 := fun (post : Int32 → SY → Prop) h1 h2 => ey_f32 (post := post) (fk := nI K) (ff := ff) (fl := fl) (ba := a) (a := a) (v := w) (as := as) (k := v2) (x3 := nI x) hg h1 h2 64 1 (by omega) (by omega) hnb
        rw [ev_rk_0] at h32
        refine ⟨_, h32 _ (fun c hc => ?_) (fun hn => absurd hb (hn b))⟩
        rw [ev_isK_inj hc hb]
        exact ⟨hr.symm, hI2⟩
    refine br_f (nI_pos (by omega)) (br_f (nI_ge (b := 3) hg (by omega)) (br_f (nI_pos (by omega)) (br_t (nI_le (b := 1) (by omega) (by omega)) (nm_r (ev_x64 g) ⟨64 + 1, ?_⟩))))
    exact ex_f30 hg (fun b hb => hyk b hb _ rfl) (fun hn => hyn hn _ rfl) 64 0 (by omega) (fun j hj => absurd hj (Nat.not_lt_zero j))
  · have hy : ∀ r : Int32, r = -1 → wpY_free (fun r' v' => r' = r ∧ i_Rel (k + 5) (nI K, nI S, a, w, ev_U a, kb, ki) v') (nI K, ff, fl, a, w, m, as) v1 v2 v3 := by
      intro r hr
      unfold wpY_free
      dsimp only
      refine ey_in (n := 3) (by decide) (fun g hg eg => br_f ev_10 ?_) (fun _ => br_t rfl ⟨hr.symm, I'⟩)
      refine ey_in (n := 2) (by decide) (fun x hx ex => ?_) (fun _ => br_t rfl ⟨hr.symm, I'⟩)
      exact absurd ⟨⟨g, hg, eg⟩, ⟨x, hx, ex⟩⟩ h
    refine br_c (fun _ => hy _ rfl) (fun z1 => br_c (fun _ => hy _ rfl) (fun z2 => br_c (fun _ => hy _ rfl) (fun z3 => br_c (fun z4 => ?_) (fun _ => hy _ rfl))))
    obtain ⟨g, hg, rfl⟩ := nI_of z1
    obtain ⟨x, hx, rfl⟩ := nI_of z3
    have y2 : ¬ 3 ≤ g := fun q => z2 (nI_le (a := 3) q (by omega))
    have y4 : x ≤ 1 := (nI_leI (b := 1) hx (by omega)).mp z4
    exact absurd ⟨⟨g, by omega, rfl⟩, ⟨x, by omega, rfl⟩⟩ h
