/-! a row of pieces gets its blocks, on both sides alike -/
theorem ev_near_m1 {u : Nat → Int32} {b : Nat} (hb : b < 192) (h : b % 64 = 63 ∨ ¬ u (b + 1) = 0) : ev_near u (nI b) = -1 := by
  rcases ev_near_ok (u := u) hb with ⟨h1, _⟩ | ⟨h1, h2, _⟩
  · exact h1
  · rcases h with z | z
    · exact absurd z h1
    · exact absurd h2 z
theorem ev_near_p1 {u : Nat → Int32} {b : Nat} (hb : b < 192) (h : b % 64 ≠ 63) (h2 : u (b + 1) = 0) : ev_near u (nI b) = nI (b + 1) := by
  rcases ev_near_ok (u := u) hb with ⟨_, z | z⟩ | ⟨_, _, h3⟩
  · exact absurd z h
  · exact absurd h2 z
  · exact h3
/-- the choice: s is where, of left pieces -/
def ev_CH (u : Nat → Int32) (bf : Int32) (f left s : Nat) : Prop := s < 192 ∧ ev_st u bf f left = nI s ∧ 0 < ev_F u s ∧ (ev_near u bf = -1 → ¬ ev_best u f left = -1 → left ≤ ev_F u s) ∧ (ev_near u bf = -1 → ev_best u f left = -1 → ev_lg u 192 = (nI s, ev_F u s) ∧ ev_F u s < left)
section
variable {fk ff fl : Int32} {a v m as : Nat → Int32}
theorem ey_find {post : SY → Prop} {f left s : Nat} {bf : Int32} (hf : f < 8) (hl : left ≤ 64) (hl0 : 0 < left) (hV : ev_V a) (hm : ∀ j, 192 ≤ j → m j = 0) (hb : bf = -1 ∨ ∃ b, b < 192 ∧ bf = nI b) (hC : ev_CH (ev_U a) bf f left s)
    (hp : post (fk, nI s, nI (ev_mn (ev_F (ev_U a) s) left), a, v, ev_U a, as)) : wpY_find post (fk, ff, fl, a, v, m, as) (nI f) bf (nI left) := by
  obtain ⟨hs, hst, hF0, hbst, hlg⟩ := hC
  have hF := ev_F_le (ev_U a) s
  have h77 : ev_near (ev_U a) bf = -1 → ∃ n, wY_find_77 post (nI f) (nI left) fk a v (ev_U a) as n 0 ff fl := by
    intro hn
    refine ey_77 hf hl hl0 (fun z => ?_) (fun z => ?_)
    · have e : ev_best (ev_U a) f left = nI s := by
        unfold ev_st at hst
        rw [if_pos hn, if_neg z] at hst
        exact hst
      have := hbst hn z
      rw [e]
      unfold ev_mn at hp
      rw [if_neg (by omega)] at hp
      exact hp
    · obtain ⟨h1, h2⟩ := hlg hn z
      rw [h1]
      unfold ev_mn at hp
      rw [if_pos h2] at hp
      exact hp
  unfold wpY_find
  dsimp only
  refine ey_count hV hm ?_
  dsimp only
  refine nm_e ?_
  rcases hb with rfl | ⟨b, hb, rfl⟩
  · exact br_t (by decide) (h77 (ev_near_h _))
  · refine br_f (nI_pos (by omega)) ?_
    rw [nI_1]
    by_cases z1 : 192 ≤ b + 1
    · exact br_t (nI_le (a := 192) z1 (by omega)) (h77 (ev_near_m1 hb (Or.inl (by omega))))
    · refine br_f (nI_ge (b := 192) (by omega) (by omega)) ⟨ev_n64, ev_n64, ?_⟩
      rw [ev_d64 (b := b + 1) (by omega), ev_d64 (b := b) (by omega)]
      by_cases z2 : (b + 1) / 64 = b / 64
      · refine br_t (congrArg nI z2) ⟨vp_in_nI (by omega) (by omega), ?_⟩
        rw [nI_clamp (by omega)]
        by_cases z3 : ev_U a (b + 1) = 0
        · have hn := ev_near_p1 hb (by omega) z3
          have hsb : s = b + 1 := by
            unfold ev_st at hst
            rw [hn, if_neg (ev_ne1 (a := b + 1) (by omega))] at hst
            exact ev_inj hst.symm (by omega) (by omega)
          subst hsb
          refine br_t z3 (ey_ff (by omega) ?_)
          unfold ev_mn at hp
          by_cases z4 : left ≤ ev_F (ev_U a) (b + 1)
          · rw [if_neg (by omega)] at hp
            exact br_t (nI_le z4 (by omega)) hp
          · rw [if_pos (by omega)] at hp
            exact br_f (nI_ge (by omega) (by omega)) (ey_ff (by omega) hp)
        · exact br_f z3 (h77 (ev_near_m1 hb (Or.inr z3)))
      · exact br_f (fun y => z2 (ev_inj y (by omega) (by omega))) (h77 (ev_near_m1 hb (Or.inl (by omega))))
/-- the reference moves the pieces -/
theorem ey_63 {post : SY → Prop} {J : Int32 → Int32 → Int32 → Int32 → Int32 → (Nat → Int32) → (Nat → Int32) → (Nat → Int32) → (Nat → Int32) → Prop} {f p0 dn s n : Nat} {x3 : Int32} (hf : f < 8) (hpn : p0 + dn + n ≤ 64) (hs : s + n ≤ 192) (hn : 0 < n) (hV : ev_V a) (hfree : ∀ j, j < n → ev_U a (s + j) = 0)
    (hp : J (nI (dn + n)) (nI (s + n - 1)) fk ff fl (ev_mA a (64 * f + p0 + dn) s n) (ev_mV a v (64 * f + p0 + dn) s n) m as) :
    ∀ d i, i + d = n → wY_putDown_63 post J (nI f) (nI p0) x3 (nI dn) (nI s) (nI n) fk ff fl (d + 1) (nI i) (ev_mA a (64 * f + p0 + dn) s i) (ev_mV a v (64 * f + p0 + dn) s i) m as := by
  intro d
  induction d with
  | zero =>
    intro i h
    refine br_t (nI_le (by omega) (by omega)) (nm_r (nI_add dn n) (nm_r (e' := nI (s + n - 1)) (by rw [nI_add, ev_s1 (by omega)]) ?_))
    rw [show i = n by omega]; exact hp
  | succ d ih =>
    intro i h
    have hVi := (ev_mA_MF (k0 := 64 * f + p0 + dn) hV (by omega) hs hfree i (by omega)).1
    have hi := ih (i + 1) (by omega)
    refine br_f (nI_ge (by omega) (by omega)) (nm_r (e' := nI (64 * f + p0 + dn + i)) (by rw [ev_iy, nI_add, nI_add]) ⟨vp_in_nI (by omega) (by omega), ?_⟩)
    rw [nI_clamp (by omega), nI_add s i]
    refine nm_e ⟨vp_in_nI (by omega) (by omega), nm_e ?_⟩
    rcases hVi (64 * f + p0 + dn + i) (by omega) with e | ⟨b, hb, e⟩
    · have hv : ev_mV a v (64 * f + p0 + dn) s (i + 1) = ev_mV a v (64 * f + p0 + dn) s i := if_pos e
      rw [hv] at hi
      exact br_t (by rw [e]; decide) (nm_r (nI_1 i) hi)
    · have hv : ev_mV a v (64 * f + p0 + dn) s (i + 1) = upd (ev_mV a v (64 * f + p0 + dn) s i) (s + i) (ev_mV a v (64 * f + p0 + dn) s i b) := by
        have : ev_mV a v (64 * f + p0 + dn) s (i + 1) = upd (ev_mV a v (64 * f + p0 + dn) s i) (s + i) (ev_mV a v (64 * f + p0 + dn) s i (ev_mA a (64 * f + p0 + dn) s i (64 * f + p0 + dn + i)).toNatClampNeg) := if_neg (by rw [e]; exact ev_ne1 (by omega))
        rw [this, e, nI_clamp (by omega)]
      refine br_f (by rw [e]; exact nI_pos (by omega)) ?_
      rw [e, nI_clamp (n := b) (by omega), nI_clamp (n := s + i) (by omega)]
      exact ⟨vp_in_nI hb (by omega), vp_in_nI (by omega) (by omega), nm_r hv.symm (nm_r (nI_1 i) hi)⟩
end
section
variable {fk fs : Int32} {a v kb ki : Nat → Int32}
/-- one round of the component's placing -/
theorem ex_11 {post : SX → Prop} {f p e left s n rnd x3 : Nat} (hf : f < 8) (he : e ≤ 64) (hp : p + left = e) (hl0 : 0 < left) (hx : rnd < x3) (hx2 : x3 ≤ 64) (hV : ev_V a) (hC : ev_CH (ev_U a) (if p = 0 then -1 else a (64 * f + p - 1)) f left s)
    (h : wX_placeRow_11 post (nI f) (nI x3) (nI e) n (nI (p + ev_mn (ev_F (ev_U a) s) left)) (nI (rnd + 1)) fk fs (ev_mA a (64 * f + p) s (ev_mn (ev_F (ev_U a) s) left)) (ev_mV a v (64 * f + p) s (ev_mn (ev_F (ev_U a) s) left)) (ev_U (ev_mA a (64 * f + p) s (ev_mn (ev_F (ev_U a) s) left))) kb ki) :
    wX_placeRow_11 post (nI f) (nI x3) (nI e) (n + 1) (nI p) (nI rnd) fk fs a v (ev_U a) kb ki := by
  obtain ⟨hs, hst, hF0, hbst, hlg⟩ := hC
  have hF := ev_F_le (ev_U a) s
  obtain ⟨hm1, hm2⟩ := ev_mn_le (ev_F (ev_U a) s) left
  have h96 : wX_placeRow_96 post (wX_placeRow_11 post (nI f) (nI x3) (nI e) n) (nI f) (nI x3) (nI e) (nI p) (nI rnd) (nI s) (nI (ev_mn (ev_F (ev_U a) s) left)) fk fs a v (ev_U a) kb ki := by
    unfold wX_placeRow_96
    refine ex_mv hf (by omega) (by omega) hV (fun j hj => ev_F_in (by omega)) ?_
    exact nm_r (nI_add p _) (nm_r (nI_1 rnd) h)
  have h67 : wX_placeRow_67 post (wX_placeRow_11 post (nI f) (nI x3) (nI e) n) (nI f) (nI x3) (nI e) (nI p) (nI rnd) (nI left) (nI s) fk fs a v (ev_U a) kb ki := by
    refine br_f (ev_ne1 (by omega)) (ex_freeRun hs ?_)
    unfold ev_mn at h96
    by_cases z : left ≤ ev_F (ev_U a) s
    · rw [if_neg (by omega)] at h96
      exact br_t (nI_le z (by omega)) h96
    · rw [if_pos (by omega)] at h96
      exact br_f (nI_ge (by omega) (by omega)) h96
  refine br_f (nI_ge hx (by omega)) (br_f (nI_ge (by omega) (by omega)) (nm_r (e' := nI left) (by rw [pk_sub (by omega)]; exact congrArg nI (by omega)) ?_))
  refine ex_near hf (by omega) hV ?_
  unfold ev_st at hst
  by_cases z : ev_near (ev_U a) (if p = 0 then -1 else a (64 * f + p - 1)) = -1
  · rw [if_pos z] at hst
    refine br_t z (ex_best hf (by omega) ?_)
    by_cases y : ev_best (ev_U a) f left = -1
    · rw [if_pos y] at hst
      refine br_t y (ex_lg ?_)
      rw [hst]; exact h67
    · rw [if_neg y] at hst
      refine br_f y ?_
      rw [hst]; exact h67
  · rw [if_neg z] at hst
    refine br_f z ?_
    refine br_f z ?_
    rw [hst]; exact h67
end
/-- what a row's placing leaves behind -/
def ev_RW (f p e left : Nat) (a a' : Nat → Int32) : Prop := ev_V a' ∧ (∀ j, p ≤ j → j < e → ev_al a' (64 * f + j)) ∧ (∀ q, q < 512 → ev_al a q → ev_al a' q) ∧ (∀ q, (q < 64 * f + p ∨ 64 * f + e ≤ q) → a' q = a q) ∧ ev_fr (ev_U a) ≤ ev_fr (ev_U a') + left
theorem ev_rows {f e : Nat} (hf : f < 8) (he : e ≤ 64) : ∀ N left p (a v : Nat → Int32) (bf : Int32), left ≤ N → p + left = e → ev_V a → left ≤ ev_fr (ev_U a) → bf = (if p = 0 then -1 else a (64 * f + p - 1)) →
    ∃ a' v' : Nat → Int32, ev_RW f p e left a a' ∧
      (∀ (post : SX → Prop) (x3 n rnd : Nat) (fk fs : Int32) (kb ki : Nat → Int32), left < n → rnd + left ≤ x3 → x3 ≤ 64 → post (fk, fs, a', v', ev_U a', kb, ki) → wX_placeRow_11 post (nI f) (nI x3) (nI e) n (nI p) (nI rnd) fk fs a v (ev_U a) kb ki) ∧
      (∀ (post : SY → Prop) (p0 cn dn n : Nat) (fk ff fl : Int32) (m as : Nat → Int32), left < n → p0 + cn = e → p0 + dn = p → (∀ j, 192 ≤ j → m j = 0) → (∀ ff' fl' m', (∀ j, 192 ≤ j → m' j = 0) → post (fk, ff', fl', a', v', m', as)) → wY_putDown_31 post (nI f) (nI p0) (nI cn) n (nI dn) bf fk ff fl a v m as) := by
  intro N
  induction N with
  | zero =>
    intro left p a v bf hN hp hV hfr hbf
    refine ⟨a, v, ⟨hV, fun j h1 h2 => by omega, fun _ _ h => h, fun _ _ => rfl, by omega⟩, ?_, ?_⟩
    · intro post x3 n rnd fk fs kb ki hn hr hx hpost
      obtain ⟨n, rfl⟩ : ∃ n', n = n' + 1 := ⟨n - 1, by omega⟩
      exact br_c (fun _ => hpost) (fun _ => br_t (nI_le (by omega) (by omega)) hpost)
    · intro post p0 cn dn n fk ff fl m as hn h1 h2 hm hpost
      obtain ⟨n, rfl⟩ : ∃ n', n = n' + 1 := ⟨n - 1, by omega⟩
      exact br_t (nI_le (by omega) (by omega)) (hpost ff fl m hm)
  | succ N ih =>
    intro left p a v bf hN hp hV hfr hbf
    by_cases hl : left = 0
    · exact ih left p a v bf (by omega) hp hV hfr hbf
    · have hbv : bf = -1 ∨ ∃ b, b < 192 ∧ bf = nI b := by
        rw [hbf]
        by_cases z : p = 0
        · rw [if_pos z]; exact Or.inl rfl
        · rw [if_neg z]; exact hV _ (by omega)
      obtain ⟨s, hC⟩ : ∃ s, ev_CH (ev_U a) bf f left s := ev_st_ok (by omega) (by omega) hbv
      have hs := hC.1
      have hF0 := hC.2.2.1
      have hF := ev_F_le (ev_U a) s
      obtain ⟨M, hM⟩ : ∃ M, M = ev_mn (ev_F (ev_U a) s) left := ⟨_, rfl⟩
      have hm1 : M ≤ ev_F (ev_U a) s := by rw [hM]; exact (ev_mn_le _ _).1
      have hm2 : M ≤ left := by rw [hM]; exact (ev_mn_le _ _).2
      have hm0 : 0 < M := by rw [hM]; unfold ev_mn; split <;> omega
      have hfree : ∀ j, j < M → ev_U a (s + j) = 0 := fun j hj => ev_F_in (by omega)
      obtain ⟨c1, c2, c3, c4, c5, c6, c7⟩ := ev_mA_MF (k0 := 64 * f + p) (m := M) hV (by omega) (by omega) hfree M (Nat.le_refl _)
      have hb1 : nI (s + M - 1) = (if p + M = 0 then -1 else ev_mA a (64 * f + p) s M (64 * f + (p + M) - 1)) := by
        rw [if_neg (by omega), show 64 * f + (p + M) - 1 = 64 * f + p + (M - 1) by omega, c5 (M - 1) (by omega)]
        exact congrArg nI (by omega)
      obtain ⟨a', v', ⟨d1, d2, d3, d4, d5⟩, hX, hY⟩ := ih (left - M) (p + M) (ev_mA a (64 * f + p) s M) (ev_mV a v (64 * f + p) s M) (nI (s + M - 1)) (by omega) (by omega) c1 (by omega) hb1
      refine ⟨a', v', ⟨d1, ?_, ?_, ?_, by omega⟩, ?_, ?_⟩
      · intro j h1 h2
        by_cases z : p + M ≤ j
        · exact d2 j z h2
        · have := c2 (j - p) (by omega)
          rw [show 64 * f + p + (j - p) = 64 * f + j by omega] at this
          exact d3 _ (by omega) this
      · exact fun q h1 h2 => d3 q h1 (c3 q h1 h2)
      · intro q hq
        rw [d4 q (by omega), c4 q (by omega)]
      · intro post x3 n rnd fk fs kb ki hn hr hx hpost
        obtain ⟨n, rfl⟩ : ∃ n', n = n' + 1 := ⟨n - 1, by omega⟩
        refine ex_11 hf he hp (by omega) (by omega) hx hV (hbf ▸ hC) ?_
        rw [← hM]
        exact hX post x3 n (rnd + 1) fk fs kb ki (by omega) (by omega) hx hpost
      · intro post p0 cn dn n fk ff fl m as hn h1 h2 hm hpost
        obtain ⟨n, rfl⟩ : ∃ n', n = n' + 1 := ⟨n - 1, by omega⟩
        refine br_f (nI_ge (by omega) (by omega)) ?_
        rw [pk_sub (by omega), show cn - dn = left by omega]
        refine ey_find hf (by omega) (by omega) hV hm hbv hC ?_
        rw [← hM]
        have hidx : 64 * f + p0 + dn = 64 * f + p := by omega
        refine ⟨_, ey_63 (s := s) (n := M) (dn := dn) (p0 := p0) hf (by omega) (by omega) hm0 hV hfree ?_ M 0 (by omega)⟩
        rw [hidx]
        exact hY post p0 cn (dn + M) n fk (nI s) (nI M) (ev_U a) as (by omega) h1 (by omega) (fun j hj => ev_U_ge (by omega)) hpost
theorem ev_row_X {f p r : Nat} {a v a' v' : Nat → Int32} (hX : ∀ (post : SX → Prop) (x3 n rnd : Nat) (fk fs : Int32) (kb ki : Nat → Int32), r < n → rnd + r ≤ x3 → x3 ≤ 64 → post (fk, fs, a', v', ev_U a', kb, ki) → wX_placeRow_11 post (nI f) (nI x3) (nI (p + r)) n (nI p) (nI rnd) fk fs a v (ev_U a) kb ki) (hr : r ≤ 64) {post : SX → Prop} {fk fs : Int32} {kb ki : Nat → Int32} (hp : post (fk, fs, a', v', ev_U a', kb, ki)) :
    wpX_placeRow post (fk, fs, a, v, ev_U a, kb, ki) (nI f) (nI p) (nI r) :=
  nm_r (nI_add p r) ⟨_, hX post r (r + 1) 0 fk fs kb ki (by omega) (by omega) hr hp⟩
