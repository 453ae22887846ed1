/-! pack -/
def ev_pl (a : Nat → Int32) (k : Nat) : Bool := decide (¬ a k = -1)
theorem ev_pl_f {a : Nat → Int32} {k : Nat} (h : a k = -1) : ¬ ev_pl a k = true := fun z => (of_decide_eq_true z) h
theorem ev_pl_n {a : Nat → Int32} {k : Nat} (h : ¬ ev_pl a k = true) : a k = -1 := by
  by_cases z : a k = -1
  · exact z
  · exact absurd (decide_eq_true z) h
theorem ev_al_ne {a : Nat → Int32} {k : Nat} (h : ev_al a k) : ¬ a k = -1 := by
  obtain ⟨b, hb, e, _⟩ := h
  rw [e]; exact ev_ne1 (by omega)
section
variable {fk fs ff fl : Int32} {ba ia ua kb ki a v m as : Nat → Int32}
theorem ex_cp_l {post : Int32 → Prop} {f : Nat} (hf : f < 8) (hp : post (nI (ev_ct (ev_pl ba) (64 * f) 64))) : ∀ d i, i + d = 64 → wX_countPlaced_4 post (nI f) fk fs ba ia ua kb ki (d + 1) (nI (ev_ct (ev_pl ba) (64 * f) i)) (nI i) := by
  intro d
  induction d with
  | zero =>
    intro i h
    refine br_t (nI_le (a := 64) (by omega) (by omega)) ?_
    rw [show i = 64 by omega]; exact hp
  | succ d ih =>
    intro i h
    have hi := ih (i + 1) (by omega)
    refine br_f (nI_ge (b := 64) (by omega) (by omega)) ?_
    rw [ev_ix, nI_clamp (by omega)]
    refine ⟨vp_in_nI (by omega) (by omega), ?_⟩
    by_cases z : ba (64 * f + i) = -1
    · rw [ev_ct_f (ev_pl_f z)] at hi
      exact br_t z (nm_r (nI_1 i) hi)
    · rw [ev_ct_t (p := ev_pl ba) (decide_eq_true z)] at hi
      exact br_f z (nm_r (nI_1 _) (nm_r (nI_1 i) hi))
theorem ex_cp {post : Int32 → Prop} {f : Nat} (hf : f < 8) (hp : post (nI (ev_ct (ev_pl ba) (64 * f) 64))) : wpX_countPlaced post (fk, fs, ba, ia, ua, kb, ki) (nI f) :=
  ⟨_, ex_cp_l hf hp 64 0 (by omega)⟩
theorem ex_rsa_l {post : Int32 → Prop} {f p : Nat} (hf : f < 8) : ∀ d j, p ≤ j → j + d = 64 → post (nI (j + ev_rl (ev_pl ba) d (64 * f + j) - p)) → wX_rowStartingAt_25 post (nI f) (nI p) fk fs ba ia ua kb ki (d + 1) (nI j) := by
  intro d
  induction d with
  | zero =>
    intro j h1 h2 hp
    refine br_t (nI_le (a := 64) (by omega) (by omega)) ?_
    rw [pk_sub h1]; exact hp
  | succ d ih =>
    intro j h1 h2 hp
    refine br_f (nI_ge (b := 64) (by omega) (by omega)) ?_
    rw [ev_ix, nI_clamp (by omega)]
    refine ⟨vp_in_nI (by omega) (by omega), ?_⟩
    by_cases z : ba (64 * f + j) = -1
    · rw [ev_rl_f (ev_pl_f z)] at hp
      refine br_t z ?_
      rw [pk_sub h1]; exact hp
    · rw [ev_rl_t (q := ev_pl ba) (decide_eq_true z)] at hp
      refine br_f z (nm_r (nI_1 j) (ih (j + 1) (by omega) (by omega) ?_))
      rw [show 64 * f + (j + 1) = 64 * f + j + 1 by omega, show j + 1 + ev_rl (ev_pl ba) d (64 * f + j + 1) - p = j + (ev_rl (ev_pl ba) d (64 * f + j + 1) + 1) - p by omega]
      exact hp
theorem ex_rsa_t {post : Int32 → Prop} {f p : Nat} (hf : f < 8) (hp : p < 64) (hb : p = 0 ∨ ba (64 * f + p - 1) = -1) (h : post (nI (ev_rl (ev_pl ba) (64 - p) (64 * f + p)))) : wpX_rowStartingAt post (fk, fs, ba, ia, ua, kb, ki) (nI f) (nI p) := by
  have hl : ∃ n, wX_rowStartingAt_25 post (nI f) (nI p) fk fs ba ia ua kb ki n (nI p) := by
    refine ⟨_, ex_rsa_l hf (64 - p) p (Nat.le_refl _) (by omega) ?_⟩
    rw [Nat.add_sub_cancel_left]; exact h
  unfold wpX_rowStartingAt
  dsimp only
  by_cases z : p = 0
  · exact br_t (by rw [z]; decide) hl
  · refine br_f (nI_nle (by omega) (by omega)) ?_
    rw [ev_ix, ev_s1 (by omega), nI_clamp (by omega)]
    exact ⟨vp_in_nI (by omega) (by omega), br_t (hb.resolve_left z) hl⟩
theorem ex_rsa_f {post : Int32 → Prop} {f p : Nat} (hf : f < 8) (hp : p < 64) (h0 : 0 < p) (hb : ¬ ba (64 * f + p - 1) = -1) (h : post 0) : wpX_rowStartingAt post (fk, fs, ba, ia, ua, kb, ki) (nI f) (nI p) := by
  unfold wpX_rowStartingAt
  dsimp only
  refine br_f (nI_nle (by omega) (by omega)) ?_
  rw [ev_ix, ev_s1 (by omega), nI_clamp (by omega)]
  exact ⟨vp_in_nI (by omega) (by omega), br_f hb h⟩
theorem ey_p78 {post : Int32 → SY → Prop} {J : Int32 → Int32 → Int32 → Int32 → (Nat → Int32) → (Nat → Int32) → (Nat → Int32) → (Nat → Int32) → Prop} {f : Nat} {x4 : Int32} (hf : f < 8) (hV : ev_V a) : ∀ d j, j + d = 64 → wY_pack_106 post J (nI f) x4 (nI (j + ev_rl (ev_pl a) d (64 * f + j))) fk ff fl a v m as → wY_pack_78 post J (nI f) x4 fk ff fl a v m as (d + 1) (nI j) := by
  intro d
  induction d with
  | zero =>
    intro j h hp
    exact br_t (nI_le (a := 64) (by omega) (by omega)) hp
  | succ d ih =>
    intro j h hp
    refine br_f (nI_ge (b := 64) (by omega) (by omega)) ?_
    rw [ev_iy, nI_clamp (by omega)]
    refine ⟨vp_in_nI (by omega) (by omega), ?_⟩
    rcases hV (64 * f + j) (by omega) with e | ⟨b, hb, e⟩
    · rw [ev_rl_f (ev_pl_f e)] at hp
      exact br_t (by rw [e]; decide) hp
    · have e1 : ¬ a (64 * f + j) = -1 := by rw [e]; exact ev_ne1 (by omega)
      rw [ev_rl_t (q := ev_pl a) (decide_eq_true e1)] at hp
      refine br_f (by rw [e]; exact nI_pos (by omega)) (nm_r (nI_1 j) (ih (j + 1) (by omega) ?_))
      rw [show 64 * f + (j + 1) = 64 * f + j + 1 by omega, show j + 1 + ev_rl (ev_pl a) d (64 * f + j + 1) = j + (ev_rl (ev_pl a) d (64 * f + j + 1) + 1) by omega]
      exact hp
theorem ey_p21 {post : Int32 → SY → Prop} {f c : Nat} (hf : f < 8) (hc : c ≤ 192) (hV : ev_V a) (h1 : ev_ct (ev_pl a) (64 * f) 64 ≤ c → wpY_keep (fun u => ∃ n67 : Nat, wY_pack_67 post (nI f) n67 0 u.1 u.2.1 u.2.2.1 u.2.2.2.1 u.2.2.2.2.1 u.2.2.2.2.2.1 u.2.2.2.2.2.2) (fk, ff, fl, a, v, m, as)) (h0 : ¬ ev_ct (ev_pl a) (64 * f) 64 ≤ c → post (-2) (fk, ff, fl, a, v, m, as)) : ∀ d i, i + d = 64 → wY_pack_21 post (nI f) (nI c) fk ff fl a v m as (d + 1) (nI (ev_ct (ev_pl a) (64 * f) i)) (nI i) := by
  intro d
  induction d with
  | zero =>
    intro i h
    have hl := ev_ct_le (ev_pl a) (64 * f) 64
    refine br_t (nI_le (a := 64) (by omega) (by omega)) ?_
    rw [show i = 64 by omega]
    by_cases z : ev_ct (ev_pl a) (64 * f) 64 ≤ c
    · exact br_t (nI_le z (by omega)) (h1 z)
    · exact br_f (nI_ge (by omega) (by omega)) (h0 z)
  | succ d ih =>
    intro i h
    have hi := ih (i + 1) (by omega)
    refine br_f (nI_ge (b := 64) (by omega) (by omega)) ?_
    rw [ev_iy, nI_clamp (by omega)]
    refine ⟨vp_in_nI (by omega) (by omega), ?_⟩
    rcases hV (64 * f + i) (by omega) with e | ⟨b, hb, e⟩
    · rw [ev_ct_f (ev_pl_f e)] at hi
      exact br_t (by rw [e]; decide) (nm_r (nI_1 i) hi)
    · have e1 : ¬ a (64 * f + i) = -1 := by rw [e]; exact ev_ne1 (by omega)
      rw [ev_ct_t (p := ev_pl a) (decide_eq_true e1)] at hi
      exact br_f (by rw [e]; exact nI_pos (by omega)) (nm_r (nI_1 _) (nm_r (nI_1 i) hi))
/-- pieces that were placed just now are passed over -/
theorem ex_pskip {post : Int32 → SX → Prop} {f : Nat} (hf : f < 8) : ∀ d j n, 0 < j → (∀ i, j ≤ i → i < j + d → ¬ ba (64 * f + i - 1) = -1) → j + d ≤ 64 → wX_pack_35 post (nI f) n (nI (j + d)) fk fs ba ia ua kb ki → wX_pack_35 post (nI f) (n + d) (nI j) fk fs ba ia ua kb ki := by
  intro d
  induction d with
  | zero => intro j n _ _ _ h; exact h
  | succ d ih =>
    intro j n h0 hA hj h
    refine br_f (nI_ge (b := 64) (by omega) (by omega)) (ex_rsa_f hf (by omega) h0 (hA j (Nat.le_refl _) (by omega)) ?_)
    refine br_t (by decide) (nm_r (nI_1 j) ?_)
    refine ih (j + 1) n (by omega) (fun i h1 h2 => hA i (by omega) (by omega)) (by omega) ?_
    rw [show j + 1 + d = j + (d + 1) by omega]
    exact h
end
theorem ev_ploop {f : Nat} (hf : f < 8) : ∀ N p (a w : Nat → Int32), 64 - p ≤ N → p ≤ 64 → ev_V a → ev_ct (ev_pl a) (64 * f + p) (64 - p) ≤ ev_fr (ev_U a) → (p = 0 ∨ a (64 * f + p - 1) = -1 ∨ (p < 64 → a (64 * f + p) = -1)) →
    ∃ a' w' : Nat → Int32, ev_V a' ∧
      (∀ (post : Int32 → SX → Prop) (n : Nat) (fk fs : Int32) (kb ki : Nat → Int32), 64 - p < n → post (nI (ev_ct (ev_xb a' (64 * f)) (64 * f) 64)) (fk, fs, a', w', ev_U a', kb, ki) → wX_pack_35 post (nI f) n (nI p) fk fs a w (ev_U a) kb ki) ∧
      (∀ (post : Int32 → SY → Prop) (n : Nat) (fk ff fl : Int32) (m as : Nat → Int32), 64 - p < n → (∀ j, 192 ≤ j → m j = 0) → (∀ ff' fl' m', (∀ j, 192 ≤ j → m' j = 0) → post (nI (ev_ct (ev_xb a' (64 * f)) (64 * f) 64)) (fk, ff', fl', a', w', m', as)) → wY_pack_67 post (nI f) n (nI p) fk ff fl a w m as) := by
  intro N
  induction N with
  | zero =>
    intro p a w hN hp hV hfr hJ
    refine ⟨a, w, hV, ?_, ?_⟩
    · intro post n fk fs kb ki hn hpost
      obtain ⟨n, rfl⟩ : ∃ n', n = n' + 1 := ⟨n - 1, by omega⟩
      exact br_t (nI_le (a := 64) (by omega) (by omega)) (ex_extents hf hV hpost)
    · intro post n fk ff fl m as hn hm hpost
      obtain ⟨n, rfl⟩ : ∃ n', n = n' + 1 := ⟨n - 1, by omega⟩
      exact br_t (nI_le (a := 64) (by omega) (by omega)) (ey_extents hf hV (hpost ff fl m hm))
  | succ N ih =>
    intro p a w hN hp hV hfr hJ
    by_cases hpe : p = 64
    · exact ih p a w (by omega) hp hV hfr hJ
    · obtain ⟨r, hr⟩ : ∃ r, r = ev_rl (ev_pl a) (64 - p) (64 * f + p) := ⟨_, rfl⟩
      have hrl : r ≤ 64 - p := by rw [hr]; exact ev_rl_le _ _ _
      have hct := ev_rl_ct (ev_pl a) (64 - p) (64 * f + p)
      rw [← hr] at hct
      by_cases hr0 : r = 0
      · have hna : a (64 * f + p) = -1 := by
          have := ev_rl_end (ev_pl a) (64 - p) (64 * f + p) (by omega)
          rw [← hr, hr0] at this
          exact ev_pl_n this
        have hs := ev_ct_split (ev_pl a) (64 * f + p) 1 (64 - p - 1)
        rw [show 1 + (64 - p - 1) = 64 - p by omega] at hs
        obtain ⟨a', w', d1, hX, hY⟩ := ih (p + 1) a w (by omega) (by omega) hV (by
          rw [show 64 * f + (p + 1) = 64 * f + p + 1 by omega, show 64 - (p + 1) = 64 - p - 1 by omega]
          omega) (Or.inr (Or.inl hna))
        refine ⟨a', w', d1, ?_, ?_⟩
        · intro post n fk fs kb ki hn hpost
          obtain ⟨n, rfl⟩ : ∃ n', n = n' + 1 := ⟨n - 1, by omega⟩
          have hx := hX post n fk fs kb ki (by omega) hpost
          refine br_f (nI_ge (b := 64) (by omega) (by omega)) ?_
          by_cases hb : p = 0 ∨ a (64 * f + p - 1) = -1
          · refine ex_rsa_t hf (by omega) hb ?_
            rw [← hr, hr0]
            exact br_t (by decide) (nm_r (nI_1 p) hx)
          · exact ex_rsa_f hf (by omega) (by have : ¬ p = 0 := fun z => hb (Or.inl z); omega) (fun z => hb (Or.inr z)) (br_t (by decide) (nm_r (nI_1 p) hx))
        · intro post n fk ff fl m as hn hm hpost
          obtain ⟨n, rfl⟩ : ∃ n', n = n' + 1 := ⟨n - 1, by omega⟩
          refine br_f (nI_ge (b := 64) (by omega) (by omega)) ⟨_, ey_p78 hf hV (64 - p) p (by omega) ?_⟩
          rw [← hr, hr0, Nat.add_zero]
          have hle : nI p ≤ nI p := nI_le (Nat.le_refl _) (by omega)
          exact br_t hle (br_t hle (nm_r (nI_1 p) (hY post n fk ff fl m as (by omega) hm hpost)))
      · have hcur : ¬ a (64 * f + p) = -1 := by
          have := ev_rl_in (ev_pl a) (64 - p) (64 * f + p) 0 (by omega)
          exact of_decide_eq_true this
        have hb : p = 0 ∨ a (64 * f + p - 1) = -1 := by
          rcases hJ with z | z | z
          · exact Or.inl z
          · exact Or.inr z
          · exact absurd (z (by omega)) hcur
        have hbf : (if p = 0 then -1 else a (64 * f + p - 1)) = -1 := by
          by_cases z : p = 0
          · rw [if_pos z]
          · rw [if_neg z]; exact hb.resolve_left z
        obtain ⟨a1, w1, ⟨c1, c2, c3, c4, c5⟩, gX, gY⟩ := ev_rows (e := p + r) hf (by omega) r r p a w _ (Nat.le_refl _) rfl hV (by omega) rfl
        have hcg : ev_ct (ev_pl a1) (64 * f + p + r) (64 - p - r) = ev_ct (ev_pl a) (64 * f + p + r) (64 - p - r) :=
          ev_ct_congr _ (fun j h1 h2 => by unfold ev_pl; rw [c4 j (by omega)])
        obtain ⟨a', w', d1, hX, hY⟩ := ih (p + r) a1 w1 (by omega) (by omega) c1 (by
          rw [show 64 * f + (p + r) = 64 * f + p + r by omega, show 64 - (p + r) = 64 - p - r by omega]
          omega) (Or.inr (Or.inr (fun hlt => by
            have := ev_rl_end (ev_pl a) (64 - p) (64 * f + p) (by omega)
            rw [← hr] at this
            rw [show 64 * f + (p + r) = 64 * f + p + r by omega, c4 _ (by omega)]
            exact ev_pl_n this)))
        refine ⟨a', w', d1, ?_, ?_⟩
        · intro post n fk fs kb ki hn hpost
          obtain ⟨n, rfl⟩ : ∃ n', n = n' + (r - 1) + 1 := ⟨n - r, by omega⟩
          refine br_f (nI_ge (b := 64) (by omega) (by omega)) (ex_rsa_t hf (by omega) hb ?_)
          rw [← hr]
          refine br_f (nI_nle (by omega) (by omega)) (ev_row_X gX (by omega) (nm_r (nI_1 p) ?_))
          refine ex_pskip hf (r - 1) (p + 1) n (by omega) (fun i h1 h2 => ?_) (by omega) ?_
          · have := ev_al_ne (c2 (i - 1) (by omega) (by omega))
            rw [show 64 * f + (i - 1) = 64 * f + i - 1 by omega] at this
            exact this
          · rw [show p + 1 + (r - 1) = p + r by omega]
            exact hX post n fk fs kb ki (by omega) hpost
        · intro post n fk ff fl m as hn hm hpost
          obtain ⟨n, rfl⟩ : ∃ n', n = n' + 1 := ⟨n - 1, by omega⟩
          refine br_f (nI_ge (b := 64) (by omega) (by omega)) ⟨_, ey_p78 hf hV (64 - p) p (by omega) ?_⟩
          rw [← hr]
          have hgt : ¬ nI (p + r) ≤ nI p := nI_ge (by omega) (by omega)
          refine br_f hgt ?_
          rw [pk_sub (by omega), Nat.add_sub_cancel_left]
          refine ey_put1 hbf (fun n1 hn1 => gY _ p r 0 n1 fk ff fl m as hn1 rfl rfl hm (fun ff' fl' m' hm' => ?_))
          exact br_f hgt (hY post n fk ff' fl' m' as (by omega) hm' hpost)
theorem i_vc_pack {k : Nat} {u : SX} {v : SY} (I : i_Rel k u v) (hk : k + 5 ≤ 2560) (v1 : Int32) : wpX_pack (fun r u' => wpY_pack (fun r' v' => r' = r ∧ i_Rel (k + 5) u' v') v v1) u v1 := by
  have I' : i_Rel (k + 5) u v := I
  obtain ⟨K, S, ff, fl, a, w, kb, ki, m, as, rfl, rfl, hK, hS, hV, hm, hR⟩ := I
  unfold wpX_pack wpY_pack
  dsimp only
  by_cases h : ∃ j, j < 8 ∧ v1 = nI j
  · obtain ⟨f, hf, rfl⟩ := h
    have hfr : ev_fr (ev_U a) ≤ 192 := ev_ct_le _ _ _
    have hpl := ev_ct_le (ev_pl a) (64 * f) 64
    refine ex_file_t hf (br_f ev_10 (ex_cp hf (ex_cfb 0 192 (by omega) rfl rfl ?_)))
    show (nI (ev_ct (ev_pl a) (64 * f) 64) ≤ nI (ev_fr (ev_U a)) → _) ∧ (¬ nI (ev_ct (ev_pl a) (64 * f) 64) ≤ nI (ev_fr (ev_U a)) → _)
    by_cases z : ev_ct (ev_pl a) (64 * f) 64 ≤ ev_fr (ev_U a)
    · obtain ⟨a', w', hV', hX, hY⟩ := ev_ploop hf 64 0 a w (by omega) (by omega) hV z (Or.inl rfl)
      refine br_t (nI_le z (by omega)) (ex_keep hK hS ?_)
      refine ⟨_, hX _ 65 _ _ _ _ (by omega) ?_⟩
      refine ey_in_t (n := 8) (by decide) rfl hf (br_f ev_10 (ey_fb hV hm ?_))
      refine ⟨_, ey_p21 hf hfr hV (fun _ => ey_keep hK ?_) (fun y => absurd z y) 64 0 (by omega)⟩
      refine ⟨_, hY _ 65 _ _ _ _ _ (by omega) (fun j hj => ev_U_ge (by omega)) (fun ff' fl' m' hm' => ?_)⟩
      exact ⟨rfl, ev_rel (ev_kK_le hK) (by omega) hV' hm' (ev_keep_Rg hK hS hV hR)⟩
    · refine br_f (nI_ge (by omega) (by omega)) ?_
      refine ey_in_t (n := 8) (by decide) rfl hf (br_f ev_10 (ey_fb hV hm ?_))
      exact ⟨_, ey_p21 hf hfr hV (fun y => absurd y z) (fun _ => ⟨rfl, ev_rel hK hS hV (fun j hj => ev_U_ge (by omega)) hR⟩) 64 0 (by omega)⟩
  · exact ex_file_f h (br_t rfl (ey_in_f (n := 8) (by decide) rfl h (br_t rfl ⟨rfl, I'⟩)))
