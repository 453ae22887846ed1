/-! extents of a file -/
section
variable {fk fs ff fl : Int32} {ba ia ua kb ki a v m as : Nat → Int32}
theorem ev_xb_t {o j : Nat} (h1 : ¬ a j = -1) (h2 : ev_pv a o j = -1 ∨ ¬ a j = ev_nx (ev_pv a o j)) : ev_xb a o j = true := decide_eq_true ⟨h1, h2⟩
theorem ev_xb_f {o j : Nat} (h : a j = -1 ∨ (¬ ev_pv a o j = -1 ∧ a j = ev_nx (ev_pv a o j))) : ¬ ev_xb a o j = true := by
  intro z
  have y := of_decide_eq_true z
  rcases h with h | ⟨h1, h2⟩
  · exact y.1 h
  · exact y.2.elim h1 (fun x => x h2)
theorem ex_e17 {post : Int32 → Prop} {f : Nat} (hf : f < 8) (hV : ev_V ba) (hp : post (nI (ev_ct (ev_xb ba (64 * f)) (64 * f) 64))) : ∀ d i, i + d = 64 → wX_extents_17 post (nI f) fk fs ba ia ua kb ki (d + 1) (nI (ev_ct (ev_xb ba (64 * f)) (64 * f) i)) (ev_pv ba (64 * f) (64 * f + i)) (nI i) := by
  intro d
  induction d with
  | zero =>
    intro i h
    refine br_t (nI_le (a := 64) (by omega) (by omega)) ?_
    rw [show i = 64 by omega]; exact hp
  | succ d ih =>
    intro i h
    have hi := ih (i + 1) (by omega)
    rw [ev_pv_s] at hi
    refine br_f (nI_ge (b := 64) (by omega) (by omega)) ?_
    rw [ev_ix, nI_clamp (by omega)]
    refine ⟨vp_in_nI (by omega) (by omega), nm_e ?_⟩
    by_cases e : ba (64 * f + i) = -1
    · rw [ev_ct_f (ev_xb_f (Or.inl e))] at hi
      exact br_t e (nm_r (nI_1 i) hi)
    · refine br_f e ?_
      rcases ev_pv_V (o := 64 * f) (j := 64 * f + i) hV (by omega) (by omega) with z | ⟨c, hc, z⟩
      · rw [ev_ct_t (ev_xb_t e (Or.inl z))] at hi
        exact br_t z (nm_r (nI_1 _) (nm_r (nI_1 i) hi))
      · refine br_f (by rw [z]; exact ev_ne1 (by omega)) ?_
        rw [z]
        refine ex_next hc ?_
        by_cases y : ba (64 * f + i) = ev_nx (nI c)
        · rw [ev_ct_f (ev_xb_f (Or.inr ⟨by rw [z]; exact ev_ne1 (by omega), by rw [z]; exact y⟩))] at hi
          exact br_t y (nm_r (nI_1 i) hi)
        · rw [ev_ct_t (ev_xb_t e (Or.inr (by rw [z]; exact y)))] at hi
          exact br_f y (nm_r (nI_1 _) (nm_r (nI_1 i) hi))
theorem ex_extents {post : Int32 → Prop} {f : Nat} (hf : f < 8) (hV : ev_V ba) (hp : post (nI (ev_ct (ev_xb ba (64 * f)) (64 * f) 64))) : wpX_extents post (fk, fs, ba, ia, ua, kb, ki) (nI f) := by
  unfold wpX_extents
  dsimp only
  have h := ex_e17 (fk := fk) (fs := fs) (ia := ia) (ua := ua) (kb := kb) (ki := ki) hf hV hp 64 0 (by omega)
  rw [show ev_pv ba (64 * f) (64 * f + 0) = -1 from if_pos (Nat.add_zero _)] at h
  exact ex_file_t hf (br_f ev_10 ⟨_, h⟩)
theorem ey_e55 {post : Int32 → Prop} {J : Int32 → Int32 → Prop} {x1 : Int32} {f i : Nat} (hf : f < 8) (hi : i < 64) (hV : ev_V a) (hp : J (nI (ev_ct (ev_xb a (64 * f)) (64 * f) (i + 1))) (nI (i + 1))) : wY_extents_55 post J x1 (nI (ev_ct (ev_xb a (64 * f)) (64 * f) i)) (nI i) (a (64 * f + i)) (ev_pv a (64 * f) (64 * f + i)) fk ff fl a v m as := by
  rcases hV (64 * f + i) (by omega) with e | ⟨b, hb, e⟩
  · rw [ev_ct_f (ev_xb_f (Or.inl e))] at hp
    exact br_t (by rw [e]; decide) (nm_r (nI_1 i) hp)
  · have e1 : ¬ a (64 * f + i) = -1 := by rw [e]; exact ev_ne1 (by omega)
    refine br_f (by rw [e]; exact nI_pos (by omega)) ?_
    rcases ev_pv_V (o := 64 * f) (j := 64 * f + i) hV (by omega) (by omega) with z | ⟨c, hc, z⟩
    · rw [ev_ct_t (ev_xb_t e1 (Or.inl z))] at hp
      exact br_t (by rw [z]; decide) (nm_r (nI_1 _) (nm_r (nI_1 i) hp))
    · have hz : ¬ ev_pv a (64 * f) (64 * f + i) = -1 := by rw [z]; exact ev_ne1 (by omega)
      refine br_f (by rw [z]; exact nI_pos (by omega)) ?_
      have hnx := ev_nx_nI hc
      by_cases y : b = c + 1
      · refine br_t (by rw [e, z, nI_1, y]) ⟨ev_n64, ev_n64, ?_⟩
        rw [e, z, ev_d64 (b := b) (by omega), ev_d64 (b := c) (by omega)]
        by_cases x : b / 64 = c / 64
        · rw [ev_ct_f (ev_xb_f (Or.inr ⟨hz, by rw [e, z, hnx, if_neg (by omega), y]⟩))] at hp
          exact br_t (congrArg nI x) (nm_r (nI_1 i) hp)
        · rw [ev_ct_t (ev_xb_t e1 (Or.inr (by rw [z, hnx, if_pos (by omega)]; exact e1)))] at hp
          exact br_f (fun q => x (ev_inj q (by omega) (by omega))) (nm_r (nI_1 _) (nm_r (nI_1 i) hp))
      · have hne : ¬ a (64 * f + i) = ev_nx (ev_pv a (64 * f) (64 * f + i)) := by
          rw [z, hnx]
          by_cases x : c % 64 = 63
          · rw [if_pos x]; exact e1
          · rw [if_neg x, e]
            exact fun q => y (ev_inj q (by omega) (by omega))
        rw [ev_ct_t (ev_xb_t e1 (Or.inr hne))] at hp
        exact br_f (by rw [e, z, nI_1]; exact fun q => y (ev_inj q (by omega) (by omega))) (nm_r (nI_1 _) (nm_r (nI_1 i) hp))
theorem ey_e15 {post : Int32 → Prop} {f : Nat} (hf : f < 8) (hV : ev_V a) (hp : post (nI (ev_ct (ev_xb a (64 * f)) (64 * f) 64))) : ∀ d i, i + d = 64 → wY_extents_15 post (nI f) fk ff fl a v m as (d + 1) (nI (ev_ct (ev_xb a (64 * f)) (64 * f) i)) (nI i) := by
  intro d
  induction d with
  | zero =>
    intro i h
    refine br_t (nI_le (a := 64) (by omega) (by omega)) ?_
    rw [show i = 64 by omega]; exact hp
  | succ d ih =>
    intro i h
    have hi := ih (i + 1) (by omega)
    have h55 := ey_e55 (post := post) (x1 := nI f) (fk := fk) (ff := ff) (fl := fl) (v := v) (m := m) (as := as) (J := wY_extents_15 post (nI f) fk ff fl a v m as (d + 1)) hf (by omega) hV hi
    refine br_f (nI_ge (b := 64) (by omega) (by omega)) ?_
    rw [ev_iy]
    refine ⟨vp_in_nI (by omega) (by omega), ?_⟩
    rw [nI_clamp (n := 64 * f + i) (by omega)]
    refine nm_e ?_
    by_cases z : i = 0
    · subst z
      rw [show ev_pv a (64 * f) (64 * f + 0) = -1 from if_pos (Nat.add_zero _)] at h55
      exact br_t rfl h55
    · refine br_f (fun y => z ((ev_eq0 (by omega)).mp y)) ?_
      rw [ev_s1 (by omega), nI_clamp (by omega)]
      have hpv : ev_pv a (64 * f) (64 * f + i) = a (64 * f + i - 1) := if_neg (by omega)
      rw [hpv] at h55
      exact ⟨vp_in_nI (by omega) (by omega), h55⟩
theorem ey_extents {post : Int32 → Prop} {f : Nat} (hf : f < 8) (hV : ev_V a) (hp : post (nI (ev_ct (ev_xb a (64 * f)) (64 * f) 64))) : wpY_extents post (fk, ff, fl, a, v, m, as) (nI f) := by
  unfold wpY_extents
  dsimp only
  exact ey_in_t (n := 8) (by decide) rfl hf (br_f ev_10 ⟨_, ey_e15 hf hV hp 64 0 (by omega)⟩)
end
theorem i_vc_extents {k : Nat} {u : SX} {v : SY} (I : i_Rel k u v) (hk : k + 5 ≤ 2560) (v1 : Int32) : wpX_extents (fun r => wpY_extents (fun r' => r' = r ∧ i_Rel (k + 5) u v) v v1) u v1 := by
  have I' : i_Rel (k + 5) u v := I
  obtain ⟨K, S, ff, fl, a, w, kb, ki, m, as, rfl, rfl, hK, hS, hV, hm, hR⟩ := I
  by_cases h : ∃ j, j < 8 ∧ v1 = nI j
  · obtain ⟨f, hf, rfl⟩ := h
    exact ex_extents hf hV (ey_extents hf hV ⟨rfl, I'⟩)
  · unfold wpX_extents wpY_extents
    dsimp only
    exact ex_file_f h (br_t rfl (ey_in_f (n := 8) (by decide) rfl h (br_t rfl ⟨rfl, I'⟩)))

/-! room -/
section
variable {fk fs ff fl : Int32} {ba ia ua kb ki a v m as : Nat → Int32}
theorem ey_beg {post : Int32 → Prop} {b : Nat} (hb : b < 192) (h1 : 0 < ev_E (ev_U a) b → post 1) (h0 : ¬ 0 < ev_E (ev_U a) b → post 0) : wpY_begins post (fk, ff, fl, ba, v, ev_U a, as) (nI b) := by
  unfold wpY_begins
  dsimp only
  refine ⟨vp_in_nI hb (by omega), ?_⟩
  rw [nI_clamp (n := b) (by omega)]
  by_cases z : ev_U a b = 0
  · refine br_t z ⟨ev_n64, ?_⟩
    rw [ev_r64 (by omega)]
    by_cases y : b % 64 = 0
    · exact br_t (by rw [y]; rfl) (h1 (ev_E_pos.mpr ⟨z, Or.inl y⟩))
    · refine br_f (fun x => y ((ev_eq0 (by omega)).mp x)) ?_
      rw [ev_s1 (by omega)]
      refine ⟨vp_in_nI (by omega) (by omega), ?_⟩
      rw [nI_clamp (by omega)]
      by_cases x : ev_U a (b - 1) = 0
      · exact br_t (by rw [x]; decide) (h0 (fun q => (ev_E_pos.mp q).2.elim y (fun p => p x)))
      · refine br_f ?_ (h1 (ev_E_pos.mpr ⟨z, Or.inr x⟩))
        obtain ⟨c, hc, e⟩ := ev_Unn a (b - 1)
        rw [e] at x ⊢
        exact nI_nle (by have : ¬ c = 0 := fun q => x (by rw [q, nI_0]); omega) (by omega)
  · exact br_f z (h0 (fun q => z (ev_E_pos.mp q).1))
def ev_cW (u : Nat → Int32) (w b : Nat) : Bool := if w = 0 then decide (0 < ev_E u b) else decide (u b = 0)
def ev_rm (u : Nat → Int32) (g w b : Nat) : Bool := (decide (g = 3) || decide (b / 64 = g)) && ev_cW u w b
theorem ey_r49 {post : Int32 → SY → Prop} {J : Int32 → Int32 → Prop} {x1 : Int32} {g w i c : Nat} (hi : i < 192) (hw : w < 2) (hg : g = 3 ∨ i / 64 = g) (h1 : ev_rm (ev_U a) g w i = true → J (nI (c + 1)) (nI (i + 1))) (h0 : ¬ ev_rm (ev_U a) g w i = true → J (nI c) (nI (i + 1))) : wY_room_49 post J x1 (nI w) (nI c) (nI i) fk ff fl ba v (ev_U a) as := by
  have hb : (decide (g = 3) || decide (i / 64 = g)) = true := by
    rcases hg with z | z
    · rw [decide_eq_true z, Bool.true_or]
    · rw [decide_eq_true z, Bool.or_true]
  unfold ev_rm at h1 h0
  rw [hb, Bool.true_and] at h1 h0
  unfold ev_cW at h1 h0
  by_cases z : w = 0
  · rw [if_pos z] at h1 h0
    refine br_t (by rw [z]; rfl) (ey_beg hi (fun y => ?_) (fun y => ?_))
    · exact br_f ev_10 (nm_r (nI_1 c) (nm_r (nI_1 i) (h1 (decide_eq_true y))))
    · exact br_t rfl (nm_r (nI_1 i) (h0 (fun x => y (of_decide_eq_true x))))
  · rw [if_neg z] at h1 h0
    refine br_f (fun y => z ((ev_eq0 (by omega)).mp y)) ⟨vp_in_nI hi (by omega), ?_⟩
    rw [nI_clamp (by omega)]
    by_cases y : ev_U a i = 0
    · exact br_t y (nm_r (nI_1 c) (nm_r (nI_1 i) (h1 (decide_eq_true y))))
    · exact br_f y (nm_r (nI_1 i) (h0 (fun x => y (of_decide_eq_true x))))
theorem ey_r27 {post : Int32 → SY → Prop} {g w : Nat} (hg : g < 4) (hw : w < 2) (hp : post (nI (ev_ct (ev_rm (ev_U a) g w) 0 192)) (fk, ff, fl, ba, v, ev_U a, as)) : ∀ d i, i + d = 192 → wY_room_27 post (nI g) (nI w) fk ff fl ba v (ev_U a) as (d + 1) (nI (ev_ct (ev_rm (ev_U a) g w) 0 i)) (nI i) := by
  intro d
  induction d with
  | zero =>
    intro i h
    refine br_t (nI_le (a := 192) (by omega) (by omega)) ?_
    rw [show i = 192 by omega]; exact hp
  | succ d ih =>
    intro i h
    have hi := ih (i + 1) (by omega)
    have h49 : g = 3 ∨ i / 64 = g → wY_room_49 post (wY_room_27 post (nI g) (nI w) fk ff fl ba v (ev_U a) as (d + 1)) (nI g) (nI w) (nI (ev_ct (ev_rm (ev_U a) g w) 0 i)) (nI i) fk ff fl ba v (ev_U a) as := by
      intro z
      refine ey_r49 (by omega) hw z (fun y => ?_) (fun y => ?_)
      · rw [ev_ct_t (by rw [Nat.zero_add]; exact y)] at hi; exact hi
      · rw [ev_ct_f (by rw [Nat.zero_add]; exact y)] at hi; exact hi
    refine br_f (nI_ge (b := 192) (by omega) (by omega)) ?_
    by_cases z : g = 3
    · exact br_t (by rw [z]; rfl) (h49 (Or.inl z))
    · refine br_f (fun y => z (ev_inj (b := 3) y (by omega) (by omega))) ⟨ev_n64, ?_⟩
      rw [ev_d64 (by omega)]
      by_cases y : i / 64 = g
      · exact br_t (congrArg nI y) (h49 (Or.inr y))
      · refine br_f (fun x => y (ev_inj x (by omega) (by omega))) (nm_r (nI_1 i) ?_)
        have hf : ¬ ev_rm (ev_U a) g w (0 + i) = true := by
          unfold ev_rm
          rw [Nat.zero_add, decide_eq_false z, decide_eq_false y]
          exact Bool.false_ne_true
        rw [ev_ct_f hf] at hi
        exact hi
def ev_rs (u : Nat → Int32) (g w : Nat) : Nat := if g = 3 then ev_ct (ev_cW u w) 0 192 else ev_ct (ev_cW u w) (64 * g) 64
theorem ev_rs_eq {u : Nat → Int32} {g w : Nat} (hg : g < 4) : ev_ct (ev_rm u g w) 0 192 = ev_rs u g w := by
  unfold ev_rs
  by_cases z : g = 3
  · rw [if_pos z]
    refine ev_ct_congr 192 (fun j _ _ => ?_)
    unfold ev_rm
    rw [decide_eq_true z, Bool.true_or, Bool.true_and]
  · rw [if_neg z, ← ev_ct_grp (ev_cW u w) (g := g) (by omega)]
    refine ev_ct_congr 192 (fun j _ _ => ?_)
    unfold ev_rm
    rw [decide_eq_false z, Bool.false_or]
theorem ex_r49 {post : Int32 → Prop} {x y : Int32} {w : Nat} (s e : Nat) (hw : w < 2) (he : s + e ≤ 192) (hx : x = nI s) (hy : y = nI (s + e)) (hp : post (nI (ev_ct (ev_cW ua w) s e))) : wX_room_49 post (nI w) x y fk fs ba ia ua kb ki := by
  by_cases z : w = 0
  · refine br_t (by rw [z]; rfl) (ex_cfe s e he hx hy ?_)
    rw [show ev_cW ua w = fun j => decide (0 < ev_E ua j) from funext (fun j => if_pos z)] at hp
    exact hp
  · refine br_f (fun q => z ((ev_eq0 (by omega)).mp q)) (ex_cfb s e he hx hy ?_)
    rw [show ev_cW ua w = fun j => decide (ua j = 0) from funext (fun j => if_neg z)] at hp
    exact hp
theorem ex_room_t {post : Int32 → Prop} {g w : Nat} (hg : g < 4) (hw : w < 2) (hp : post (nI (ev_rs ua g w))) : wpX_room post (fk, fs, ba, ia, ua, kb, ki) (nI g) (nI w) := by
  unfold ev_rs at hp
  refine br_f (nI_pos (by omega)) (br_f (nI_nlt (a := 3) (by omega) (by omega)) (br_f (nI_pos (by omega)) (br_t (nI_le (b := 1) (by omega) (by omega)) ?_)))
  by_cases z : g = 3
  · rw [if_pos z] at hp
    have e : nI g = 3 := by rw [z]; rfl
    exact br_t e (br_t e (ex_r49 0 192 hw (by omega) rfl rfl hp))
  · rw [if_neg z] at hp
    have e : ¬ nI g = 3 := fun y => z (ev_inj (b := 3) y (by omega) (by omega))
    refine br_f e (br_f e ?_)
    exact ex_r49 (64 * g) 64 hw (by omega) (ev_x64 g) (by rw [ev_x64, ev_p64]) hp
end
theorem i_vc_room {k : Nat} {u : SX} {v : SY} (I : i_Rel k u v) (hk : k + 5 ≤ 2560) (v1 : Int32) (v2 : Int32) : wpX_room (fun r => wpY_room (fun r' v' => r' = r ∧ i_Rel (k + 5) u v') v v1 v2) u v1 v2 := by
  have I' : i_Rel (k + 5) u v := I
  obtain ⟨K, S, ff, fl, a, w, kb, ki, m, as, rfl, rfl, hK, hS, hV, hm, hR⟩ := I
  by_cases h : (∃ g, g < 4 ∧ v1 = nI g) ∧ (∃ x, x < 2 ∧ v2 = nI x)
  · obtain ⟨⟨g, hg, rfl⟩, ⟨x, hx, rfl⟩⟩ := h
    refine ex_room_t hg hx ?_
    unfold wpY_room
    dsimp only
    refine ey_in_t (n := 4) (by decide) rfl hg (br_f ev_10 (ey_in_t (n := 2) (by decide) rfl hx (br_f ev_10 (ey_count hV hm ?_))))
    refine ⟨_, ey_r27 hg hx ?_ 192 0 (by omega)⟩
    rw [ev_rs_eq hg]
    exact ⟨rfl, ev_rel hK hS hV (fun j hj => ev_U_ge (by omega)) hR⟩
  · have hy : ∀ r : Int32, r = -1 → wpY_room (fun r' v' => r' = r ∧ i_Rel (k + 5) (nI K, nI S, a, w, ev_U a, kb, ki) v') (nI K, ff, fl, a, w, m, as) v1 v2 := by
      intro r hr
      unfold wpY_room
      dsimp only
      refine ey_in (n := 4) (by decide) (fun g hg eg => br_f ev_10 ?_) (fun _ => br_t rfl ⟨hr.symm, I'⟩)
      refine ey_in (n := 2) (by decide) (fun x hx ex => ?_) (fun _ => br_t rfl ⟨hr.symm, I'⟩)
      exact absurd ⟨⟨g, hg, eg⟩, ⟨x, hx, ex⟩⟩ h
    refine br_c (fun _ => hy _ rfl) (fun z1 => br_c (fun _ => hy _ rfl) (fun z2 => br_c (fun _ => hy _ rfl) (fun z3 => br_c (fun z4 => ?_) (fun _ => hy _ rfl))))
    obtain ⟨g, hg, rfl⟩ := nI_of z1
    obtain ⟨x, hx, rfl⟩ := nI_of z3
    have y2 : ¬ 3 < g := fun q => z2 (nI_lt (a := 3) q (by omega))
    have y4 : x ≤ 1 := (nI_leI (b := 1) hx (by omega)).mp z4
    exact absurd ⟨⟨g, by omega, rfl⟩, ⟨x, by omega, rfl⟩⟩ h
