/-! write, the method -/
section
variable {fk ff fl : Int32} {a v m as : Nat → Int32}
theorem ey_w29 {post : Int32 → SY → Prop} {f p n c : Nat} {x4 : Int32} (hf : f < 8) (hpn : p + n ≤ 64) (hc : c ≤ 192) (hV : ev_V a) (h1 : ev_ct (ev_na a) (64 * f + p) n ≤ c → wpY_keep (fun u => ∃ n75 : Nat, wY_write_75 post (nI f) (nI p) (nI n) x4 (nI (64 * f)) (nI (ev_ct (ev_na a) (64 * f + p) n)) n75 (nI p) u.1 u.2.1 u.2.2.1 u.2.2.2.1 u.2.2.2.2.1 u.2.2.2.2.2.1 u.2.2.2.2.2.2) (fk, ff, fl, a, v, ev_U a, as)) (h0 : ¬ ev_ct (ev_na a) (64 * f + p) n ≤ c → post (-2) (fk, ff, fl, a, v, ev_U a, as)) : ∀ d i, i + d = n → wY_write_29 post (nI f) (nI p) (nI n) x4 (nI (64 * f)) (nI c) fk ff fl a v (ev_U a) as (d + 1) (nI (ev_ct (ev_na a) (64 * f + p) i)) (nI (p + i)) := by
  intro d
  induction d with
  | zero =>
    intro i h
    have hl := ev_ct_le (ev_na a) (64 * f + p) n
    refine br_t (by rw [nI_add]; exact nI_le (by omega) (by omega)) ?_
    rw [show i = n by omega]
    by_cases z : ev_ct (ev_na a) (64 * f + p) n ≤ c
    · exact br_t (nI_le z (by omega)) (h1 z)
    · exact br_f (nI_ge (by omega) (by omega)) (h0 z)
  | succ d ih =>
    intro i h
    have hi := ih (i + 1) (by omega)
    refine br_f (by rw [nI_add]; exact nI_ge (by omega) (by omega)) ?_
    rw [nI_add (64 * f) (p + i), show 64 * f + (p + i) = 64 * f + p + i by omega]
    refine ey_open (by omega) hV (fun z => ?_) (fun z => ?_)
    · rw [ev_ct_t z] at hi
      exact br_f ev_10 (nm_r (nI_1 _) (nm_r (nI_1 (p + i)) hi))
    · rw [ev_ct_f (by rw [z]; exact Bool.false_ne_true)] at hi
      exact br_t rfl (nm_r (nI_1 (p + i)) hi)
end
theorem i_vc_write {k : Nat} {u : SX} {v : SY} (I : i_Rel k u v) (hk : k + 5 ≤ 2560) (v1 : Int32) (v2 : Int32) (v3 : Int32) (v4 : Int32) : wpX_write (fun r u' => wpY_write (fun r' v' => r' = r ∧ i_Rel (k + 5) u' v') v v1 v2 v3 v4) u v1 v2 v3 v4 := by
  have I' : i_Rel (k + 5) u v := I
  obtain ⟨K, S, ff, fl, a, w, kb, ki, m, as, rfl, rfl, hK, hS, hV, hm, hR⟩ := I
  unfold wpX_write wpY_write
  dsimp only
  by_cases h : ev_ok v1 v2 v3
  · obtain ⟨f, p, n, hf, hp, hn, hpn, rfl, rfl, rfl⟩ := h
    have hfr : ev_fr (ev_U a) ≤ 192 := ev_ct_le _ _ _
    have hna := ev_ct_le (ev_na a) (64 * f + p) n
    refine ex_rng_t hf hp hn hpn (br_f ev_10 (ex_cna hf hpn hV (ex_cfb 0 192 (by omega) rfl rfl ?_)))
    show (nI (ev_ct (ev_na a) (64 * f + p) n) ≤ nI (ev_fr (ev_U a)) → _) ∧ (¬ nI (ev_ct (ev_na a) (64 * f + p) n) ≤ nI (ev_fr (ev_U a)) → _)
    by_cases z : ev_ct (ev_na a) (64 * f + p) n ≤ ev_fr (ev_U a)
    · obtain ⟨a', w', hV', hal, _, hX, hY⟩ := ev_wloop (e := p + n) hf hpn 64 p a w (by omega) (by omega) hV (by rw [Nat.add_sub_cancel_left]; exact z)
      have hA : ∀ i, i < n → ∃ b, b < 192 ∧ a' (64 * f + p + i) = nI b := by
        intro i hi
        obtain ⟨b, hb, e, _⟩ := hal (p + i) (by omega) (by omega)
        exact ⟨b, hb, by rw [show 64 * f + p + i = 64 * f + (p + i) by omega]; exact e⟩
      refine br_t (nI_le z (by omega)) (ex_keep hK hS (nm_r (nI_add p n) ?_))
      refine ⟨_, hX _ p n 65 _ _ _ _ _ _ (by omega) rfl hA ?_⟩
      refine ey_row_t hf hp hn hpn (br_f ev_10 (nm_r (ev_64x f) (ey_fb hV hm ?_)))
      refine ⟨_, ey_w29 hf hpn hfr hV (fun _ => ey_keep hK ?_) (fun y => absurd z y) n 0 (by omega)⟩
      refine ⟨_, hY _ p n 65 _ _ _ _ _ _ _ (by omega) rfl (fun j hj => ev_U_ge (by omega)) hA (fun ff' fl' m' hm' => ?_)⟩
      exact ⟨rfl, ev_rel (ev_kK_le hK) (by omega) hV' hm' (ev_keep_Rg hK hS hV hR)⟩
    · refine br_f (nI_ge (by omega) (by omega)) ?_
      refine ey_row_t hf hp hn hpn (br_f ev_10 (nm_r (ev_64x f) (ey_fb hV hm ?_)))
      exact ⟨_, ey_w29 hf hpn hfr hV (fun y => absurd y z) (fun _ => ⟨rfl, ev_rel hK hS hV (fun j hj => ev_U_ge (by omega)) hR⟩) n 0 (by omega)⟩
  · exact ex_rng_f h (br_t rfl (ey_row_f h (br_t rfl ⟨rfl, I'⟩)))
