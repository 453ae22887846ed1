/-! taking back -/
section
variable {fk fs ff fl : Int32} {ba ia ua kb ki a v m as : Nat → Int32}
theorem ey_b63 {post : Int32 → SY → Prop} {K : Nat} (hK : K < 4) (hp : post 1 (nI K, ff, fl, a, ev_fl v (fun b => as (704 * K + 512 + b)) 0 192, m, as)) : ∀ d i, i + d = 192 → wY_back_63 post (nI K) ff fl (d + 1) (nI i) a (ev_fl v (fun b => as (704 * K + 512 + b)) 0 i) m as := by
  intro d
  induction d with
  | zero =>
    intro i h
    refine br_t (nI_le (a := 192) (by omega) (by omega)) ?_
    rw [show i = 192 by omega]; exact hp
  | succ d ih =>
    intro i h
    refine br_f (nI_ge (b := 192) (by omega) (by omega)) ?_
    rw [ev_704x, ev_p512, nI_add, nI_clamp (n := i) (by omega), nI_clamp (by omega)]
    have e := ev_fl_s v (fun b => as (704 * K + 512 + b)) 0 i
    rw [Nat.zero_add] at e
    exact ⟨vp_in_nI (by omega) (by omega), vp_in_nI (by omega) (by omega), nm_r e (nm_r (nI_1 i) (ih (i + 1) (by omega)))⟩
theorem ey_b27 {post : Int32 → SY → Prop} {K : Nat} (hK : K < 4) (hp : post 1 (nI K, ff, fl, ev_fl a (fun k => as (704 * K + k)) 0 512, ev_fl v (fun b => as (704 * K + 512 + b)) 0 192, m, as)) : ∀ d i, i + d = 512 → wY_back_27 post (nI K) ff fl (d + 1) (nI i) (ev_fl a (fun k => as (704 * K + k)) 0 i) v m as := by
  intro d
  induction d with
  | zero =>
    intro i h
    refine br_t (nI_le (a := 512) (by omega) (by omega)) ?_
    rw [show i = 512 by omega]
    have := ey_b63 hK hp 192 0 (by omega)
    rw [ev_fl_0] at this
    exact ⟨_, this⟩
  | succ d ih =>
    intro i h
    refine br_f (nI_ge (b := 512) (by omega) (by omega)) ?_
    rw [ev_704x, nI_add, nI_clamp (n := i) (by omega), nI_clamp (by omega)]
    have e := ev_fl_s a (fun k => as (704 * K + k)) 0 i
    rw [Nat.zero_add] at e
    exact ⟨vp_in_nI (by omega) (by omega), vp_in_nI (by omega) (by omega), nm_r e (nm_r (nI_1 i) (ih (i + 1) (by omega)))⟩
end
theorem i_vc_back {k : Nat} {u : SX} {v : SY} (I : i_Rel k u v) (hk : k + 5 ≤ 2560) (v1 : Int32) : wpX_back (fun r u' => wpY_back (fun r' v' => r' = r ∧ i_Rel (k + 5) u' v') v v1) u v1 := by
  have I' : i_Rel (k + 5) u v := I
  obtain ⟨K, S, ff, fl, a, w, kb, ki, m, as, rfl, rfl, hK, hS, hV, hm, hR⟩ := I
  unfold wpX_back wpY_back
  dsimp only
  refine br_c (fun z => br_t z ⟨rfl, I'⟩) (fun z => ?_)
  have hz : ¬ v1 < 0 := fun y => z (Int32.lt_trans y (by decide))
  obtain ⟨n, hn, rfl⟩ := nI_of hz
  have h1 : 1 ≤ n := by
    by_cases y : n = 0
    · rw [y] at z; exact absurd (by decide) z
    · omega
  by_cases y : n ≤ K
  · refine br_t (nI_le y (by omega)) ⟨ev_n4, ?_⟩
    rw [ev_p4, pk_sub (a := S + 4) (by omega), ev_r4 (by omega), pk_sub (a := K) y]
    refine nm_e (nm_e ?_)
    obtain ⟨q1, q2, q3⟩ := ev_Rg_at hK hS h1 y hR
    have hR' := ev_Rg_b hK hS h1 y hR
    have hg : ∀ j, j < 512 → kb ((S + 4 - n) % 4 * 512 + j) = -1 ∨ ∃ b, b < 192 ∧ kb ((S + 4 - n) % 4 * 512 + j) = nI b := by
      intro j hj
      rw [← q1 j hj]
      exact q3 j hj
    refine ex_restore (by omega) hV hg ?_
    refine br_f z (br_t (nI_le y (by omega)) (nm_e ?_))
    have hb := ey_b27 (K := K - n) (ff := ff) (fl := fl) (a := a) (v := w) (m := m) (as := as) (post := fun r' v' => r' = 1 ∧ i_Rel (k + 5) (nI (K - n), nI ((S + 4 - n) % 4), ev_fl a (fun k => kb ((S + 4 - n) % 4 * 512 + k)) 0 512, ev_fl w (fun b => ki ((S + 4 - n) % 4 * 192 + b)) 0 192, ev_U (ev_fl a (fun k => kb ((S + 4 - n) % 4 * 512 + k)) 0 512), kb, ki) v') (by omega) (by
        refine ⟨rfl, ?_⟩
        rw [ev_fl_congr q1, ev_fl_congr q2]
        exact ev_rel (by omega) (by omega) (ev_fl_V hV hg) hm hR') 512 0 (by omega)
    rw [ev_fl_0] at hb
    exact ⟨_, hb⟩
  · exact br_f (nI_ge (by omega) (by omega)) (br_f z (br_f (nI_ge (by omega) (by omega)) ⟨rfl, I'⟩))

/-! punching -/
section
variable {fk fs ff fl : Int32} {ba ia ua kb ki a v m as : Nat → Int32}
theorem ev_pA_c {o n : Nat} (ho : o + n ≤ 512) (hV : ev_V a) : ∀ i, i ≤ n → ev_fr (ev_U a) ≤ ev_fr (ev_U (ev_pA a o i)) := by
  intro i
  induction i with
  | zero => exact fun _ => Nat.le_refl _
  | succ i ih =>
    intro hi
    have := ih (by omega)
    show ev_fr (ev_U a) ≤ ev_fr (ev_U (upd (ev_pA a o i) (o + i) (-1)))
    rcases ev_pA_V hV o i (o + i) (by omega) with e | ⟨b, hb, e⟩
    · rw [ev_same _ _ _ e]; exact this
    · rw [ev_fr_out (by omega) hb e]; omega
theorem ex_p22 {post : Int32 → SX → Prop} {f p n : Nat} (hf : f < 8) (hpn : p + n ≤ 64) (hV : ev_V ba)
    (hp : post (nI (ev_fr (ev_U (ev_pA ba (64 * f + p) n)) - ev_fr (ev_U ba))) (fk, fs, ev_pA ba (64 * f + p) n, ia, ev_U (ev_pA ba (64 * f + p) n), kb, ki)) :
    ∀ d i, i + d = n → wX_punch_22 post (nI f) (nI p) (nI n) (d + 1) (nI (ev_fr (ev_U (ev_pA ba (64 * f + p) i)) - ev_fr (ev_U ba))) (nI i) fk fs (ev_pA ba (64 * f + p) i) ia (ev_U (ev_pA ba (64 * f + p) i)) kb ki := by
  intro d
  induction d with
  | zero =>
    intro i h
    refine br_t (nI_le (by omega) (by omega)) ?_
    rw [show i = n by omega]; exact hp
  | succ d ih =>
    intro i h
    have hVi := ev_pA_V hV (64 * f + p) i
    have hi := ih (i + 1) (by omega)
    have hc := ev_pA_c (o := 64 * f + p) (n := n) (by omega) hV i (by omega)
    refine br_f (nI_ge (by omega) (by omega)) (nm_r (e' := nI (64 * f + p + i)) (by rw [ev_ix, nI_add]) ⟨vp_in_nI (by omega) (by omega), ?_⟩)
    rw [nI_clamp (by omega)]
    refine nm_e (ex_setBlock (by omega) hVi (Or.inl rfl) ?_)
    have hs : ev_pA ba (64 * f + p) (i + 1) = upd (ev_pA ba (64 * f + p) i) (64 * f + p + i) (-1) := rfl
    rcases hVi (64 * f + p + i) (by omega) with e | ⟨b, hb, e⟩
    · refine br_t e (nm_r (nI_1 i) ?_)
      rw [hs, ev_same _ _ _ e] at hi
      rw [ev_same _ _ _ e]
      exact hi
    · refine br_f (by rw [e]; exact ev_ne1 (by omega)) ?_
      rw [e, nI_clamp (by omega)]
      refine ⟨vp_in_nI hb (by omega), ?_⟩
      have ho := ev_fr_out (a := ev_pA ba (64 * f + p) i) (k := 64 * f + p + i) (by omega) hb e
      rw [hs] at hi
      by_cases z : ev_U (upd (ev_pA ba (64 * f + p) i) (64 * f + p + i) (-1)) b = 0
      · rw [if_pos z] at ho
        rw [ho, show ev_fr (ev_U (ev_pA ba (64 * f + p) i)) + 1 - ev_fr (ev_U ba) = ev_fr (ev_U (ev_pA ba (64 * f + p) i)) - ev_fr (ev_U ba) + 1 by omega] at hi
        exact br_t z (nm_r (nI_1 _) (nm_r (nI_1 i) hi))
      · rw [if_neg z] at ho
        rw [ho, Nat.add_zero] at hi
        exact br_f z (nm_r (nI_1 i) hi)
theorem ey_p24 {post : Int32 → SY → Prop} {f p n c : Nat} (hf : f < 8) (hpn : p + n ≤ 64) (hV : ev_V a) (hm : ∀ j, 192 ≤ j → m j = 0) (hc : c ≤ ev_fr (ev_U (ev_pA a (64 * f + p) n)))
    (hp : post (nI (ev_fr (ev_U (ev_pA a (64 * f + p) n)) - c)) (fk, ff, fl, ev_pA a (64 * f + p) n, v, ev_U (ev_pA a (64 * f + p) n), as)) :
    ∀ d i, i + d = n → wY_punch_24 post (nI f) (nI p) (nI n) (nI c) fk ff fl (d + 1) (nI (p + i)) (ev_pA a (64 * f + p) i) v m as := by
  intro d
  induction d with
  | zero =>
    intro i h
    refine br_t (by rw [nI_add]; exact nI_le (by omega) (by omega)) ?_
    rw [show i = n by omega]
    refine ey_fb (ev_pA_V hV _ _) hm ?_
    dsimp only
    rw [pk_sub hc]; exact hp
  | succ d ih =>
    intro i h
    refine br_f (by rw [nI_add]; exact nI_ge (by omega) (by omega)) ?_
    rw [ev_iy, nI_clamp (by omega), show 64 * f + (p + i) = 64 * f + p + i by omega]
    exact ⟨vp_in_nI (by omega) (by omega), nm_e (nm_r (nI_1 (p + i)) (ih (i + 1) (by omega)))⟩
end
theorem i_vc_punch {k : Nat} {u : SX} {v : SY} (I : i_Rel k u v) (hk : k + 5 ≤ 2560) (v1 : Int32) (v2 : Int32) (v3 : Int32) : wpX_punch (fun r u' => wpY_punch (fun r' v' => r' = r ∧ i_Rel (k + 5) u' v') v v1 v2 v3) u v1 v2 v3 := by
  have I' : i_Rel (k + 5) u v := I
  obtain ⟨K, S, ff, fl, a, w, kb, ki, m, as, rfl, rfl, hK, hS, hV, hm, hR⟩ := I
  unfold wpX_punch wpY_punch
  dsimp only
  by_cases h : ev_ok v1 v2 v3
  · obtain ⟨f, p, n, hf, hp, hn, hpn, rfl, rfl, rfl⟩ := h
    refine ex_rng_t hf hp hn hpn (br_f ev_10 (ex_keep hK hS ?_))
    have h0 : nI (ev_fr (ev_U (ev_pA a (64 * f + p) 0)) - ev_fr (ev_U a)) = 0 := by
      show nI (ev_fr (ev_U a) - ev_fr (ev_U a)) = 0
      rw [Nat.sub_self, nI_0]
    have hx := fun (post : Int32 → SX → Prop) hp => ex_p22 (post := post) (fk := nI (ev_kK K)) (fs := nI ((S + 1) % 4)) (ia := w) (kb := ev_fl kb a (S * 512) 512) (ki := ev_fl ki w (S * 192) 192) hf hpn hV hp n 0 (by omega)
    rw [h0] at hx
    refine ⟨_, hx _ ?_⟩
    refine ey_row_t hf hp hn hpn (br_f ev_10 (ey_fb hV hm (ey_keep hK ?_)))
    refine ⟨_, ey_p24 hf hpn hV (fun j hj => ev_U_ge (a := a) (j := j) (by omega)) (ev_pA_c (by omega) hV n (Nat.le_refl _)) ?_ n 0 (by omega)⟩
    exact ⟨rfl, ev_rel (ev_kK_le hK) (by omega) (ev_pA_V hV _ _) (fun j hj => ev_U_ge (by omega)) (ev_keep_Rg hK hS hV hR)⟩
  · exact ex_rng_f h (br_t rfl (ey_row_f h (br_t rfl ⟨rfl, I'⟩)))

/-! sharing -/
section
variable {fk fs ff fl : Int32} {ba ia ua kb ki a v m as : Nat → Int32}
theorem ex_s36 {post : Int32 → SX → Prop} {f t p n : Nat} (hf : f < 8) (ht : t < 8) (hpn : p + n ≤ 64) (hV : ev_V ba) :
    ∀ d i c, i + d = n → ∃ c', (∀ (fk fs : Int32) (ia kb ki : Nat → Int32) (post : Int32 → SX → Prop), post (nI c') (fk, fs, ev_sA ba (64 * f + p) (64 * t + p) n, ia, ev_U (ev_sA ba (64 * f + p) (64 * t + p) n), kb, ki) → wX_share_36 post (nI f) (nI t) (nI p) (nI n) (d + 1) (nI c) (nI i) fk fs (ev_sA ba (64 * f + p) (64 * t + p) i) ia (ev_U (ev_sA ba (64 * f + p) (64 * t + p) i)) kb ki) ∧
      (∀ (fk ff fl : Int32) (v m as : Nat → Int32) (post : Int32 → SY → Prop), post (nI c') (fk, ff, fl, ev_sA ba (64 * f + p) (64 * t + p) n, v, m, as) → wY_share_36 post (nI f) (nI t) (nI p) (nI n) fk ff fl (d + 1) (nI c) (nI (p + i)) (ev_sA ba (64 * f + p) (64 * t + p) i) v m as) := by
  intro d
  induction d with
  | zero =>
    intro i c h
    refine ⟨c, fun fk fs ia kb ki post hp => br_t (nI_le (by omega) (by omega)) ?_, fun fk ff fl v m as post hp => br_t (by rw [nI_add]; exact nI_le (by omega) (by omega)) ?_⟩
    · rw [show i = n by omega]; exact hp
    · rw [show i = n by omega]; exact hp
  | succ d ih =>
    intro i c h
    have hVi := ev_sA_V (o := 64 * f + p) (t := 64 * t + p) (n := n) hV (by omega) i (by omega)
    have hx := hVi (64 * f + p + i) (by omega)
    have hs : ev_sA ba (64 * f + p) (64 * t + p) (i + 1) = upd (ev_sA ba (64 * f + p) (64 * t + p) i) (64 * t + p + i) (ev_sA ba (64 * f + p) (64 * t + p) i (64 * f + p + i)) := rfl
    obtain ⟨c0, hX0, hY0⟩ := ih (i + 1) c (by omega)
    obtain ⟨c1, hX1, hY1⟩ := ih (i + 1) (c + 1) (by omega)
    rw [hs] at hX0 hY0 hX1 hY1
    by_cases z : ev_sA ba (64 * f + p) (64 * t + p) i (64 * f + p + i) = -1
    · refine ⟨c0, fun fk fs ia kb ki post hp => br_f (nI_ge (by omega) (by omega)) ?_, fun fk ff fl v m as post hp => br_f (by rw [nI_add]; exact nI_ge (by omega) (by omega)) ?_⟩
      · rw [ev_ix, nI_add, ev_ix, nI_add, nI_clamp (by omega)]
        refine ⟨vp_in_nI (by omega) (by omega), nm_e (ex_setBlock (by omega) hVi hx ?_)⟩
        exact br_t z (nm_r (nI_1 i) (hX0 fk fs ia kb ki post hp))
      · rw [ev_iy, ev_iy, nI_clamp (n := 64 * f + (p + i)) (by omega), nI_clamp (n := 64 * t + (p + i)) (by omega), show 64 * f + (p + i) = 64 * f + p + i by omega, show 64 * t + (p + i) = 64 * t + p + i by omega]
        refine ⟨vp_in_nI (by omega) (by omega), vp_in_nI (by omega) (by omega), nm_e ⟨vp_in_nI (by omega) (by omega), ?_⟩⟩
        rw [pk_us]
        exact br_t (by rw [z]; decide) (nm_r (nI_1 (p + i)) (hY0 fk ff fl v m as post hp))
    · refine ⟨c1, fun fk fs ia kb ki post hp => br_f (nI_ge (by omega) (by omega)) ?_, fun fk ff fl v m as post hp => br_f (by rw [nI_add]; exact nI_ge (by omega) (by omega)) ?_⟩
      · rw [ev_ix, nI_add, ev_ix, nI_add, nI_clamp (by omega)]
        refine ⟨vp_in_nI (by omega) (by omega), nm_e (ex_setBlock (by omega) hVi hx ?_)⟩
        exact br_f z (nm_r (nI_1 c) (nm_r (nI_1 i) (hX1 fk fs ia kb ki post hp)))
      · rw [ev_iy, ev_iy, nI_clamp (n := 64 * f + (p + i)) (by omega), nI_clamp (n := 64 * t + (p + i)) (by omega), show 64 * f + (p + i) = 64 * f + p + i by omega, show 64 * t + (p + i) = 64 * t + p + i by omega]
        refine ⟨vp_in_nI (by omega) (by omega), vp_in_nI (by omega) (by omega), nm_e ⟨vp_in_nI (by omega) (by omega), ?_⟩⟩
        rw [pk_us]
        refine br_f ?_ (nm_r (nI_1 c) (nm_r (nI_1 (p + i)) (hY1 fk ff fl v m as post hp)))
        rcases hx with y | ⟨b, hb, y⟩
        · exact absurd y z
        · rw [y]; exact nI_pos (by omega)
end
theorem i_vc_share {k : Nat} {u : SX} {v : SY} (I : i_Rel k u v) (hk : k + 5 ≤ 2560) (v1 : Int32) (v2 : Int32) (v3 : Int32) (v4 : Int32) : wpX_share (fun r u' => wpY_share (fun r' v' => r' = r ∧ i_Rel (k + 5) u' v') v v1 v2 v3 v4) u v1 v2 v3 v4 := by
  have I' : i_Rel (k + 5) u v := I
  obtain ⟨K, S, ff, fl, a, w, kb, ki, m, as, rfl, rfl, hK, hS, hV, hm, hR⟩ := I
  unfold wpX_share wpY_share
  dsimp only
  by_cases h : ev_ok v1 v3 v4
  · obtain ⟨f, p, n, hf, hp, hn, hpn, rfl, rfl, rfl⟩ := h
    refine ex_rng_t hf hp hn hpn (br_f ev_10 ?_)
    by_cases h2 : ∃ j, j < 8 ∧ v2 = nI j
    · obtain ⟨t, ht, rfl⟩ := h2
      refine ex_file_t ht (br_f ev_10 ?_)
      by_cases e : f = t
      · subst e
        exact br_t rfl (ey_row_t hf hp hn hpn (br_f ev_10 (ey_in_t (n := 8) (by decide) rfl ht (br_f ev_10 (br_t rfl ⟨rfl, I'⟩)))))
      · refine br_f (fun y => e (ev_inj y (by omega) (by omega))) (ex_keep hK hS ?_)
        obtain ⟨c, hX, hY⟩ := ex_s36 (post := fun _ _ => True) hf ht hpn hV n 0 0 (by omega)
        refine ⟨_, hX _ _ _ _ _ _ ?_⟩
        refine ey_row_t hf hp hn hpn (br_f ev_10 (ey_in_t (n := 8) (by decide) rfl ht (br_f ev_10 (br_f (fun y => e (ev_inj y.symm (by omega) (by omega))) (ey_keep hK ?_)))))
        refine ⟨_, hY _ _ _ _ _ _ _ ?_⟩
        exact ⟨rfl, ev_rel (ev_kK_le hK) (by omega) (ev_sA_V (n := n) hV (by omega) n (Nat.le_refl _)) hm (ev_keep_Rg hK hS hV hR)⟩
    · exact ex_file_f h2 (br_t rfl (ey_row_t hf hp hn hpn (br_f ev_10 (ey_in_f (n := 8) (by decide) rfl h2 (br_t rfl ⟨rfl, I'⟩)))))
  · exact ex_rng_f h (br_t rfl (ey_row_f h (br_t rfl ⟨rfl, I'⟩)))
