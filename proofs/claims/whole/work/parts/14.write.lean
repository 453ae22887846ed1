/-! rows of pieces -/
def ev_rl (q : Nat → Bool) : Nat → Nat → Nat
  | 0, _ => 0
  | d + 1, s => if q s = true then ev_rl q d (s + 1) + 1 else 0
theorem ev_rl_t {q : Nat → Bool} {d s : Nat} (h : q s = true) : ev_rl q (d + 1) s = ev_rl q d (s + 1) + 1 := if_pos h
theorem ev_rl_f {q : Nat → Bool} {d s : Nat} (h : ¬ q s = true) : ev_rl q (d + 1) s = 0 := if_neg h
theorem ev_rl_le (q : Nat → Bool) : ∀ d s, ev_rl q d s ≤ d := by
  intro d
  induction d with
  | zero => intro s; exact Nat.le_refl 0
  | succ d ih =>
    intro s
    by_cases h : q s = true
    · rw [ev_rl_t h]; have := ih (s + 1); omega
    · rw [ev_rl_f h]; omega
theorem ev_rl_in (q : Nat → Bool) : ∀ d s j, j < ev_rl q d s → q (s + j) = true := by
  intro d
  induction d with
  | zero => intro s j h; exact absurd h (Nat.not_lt_zero j)
  | succ d ih =>
    intro s j h
    by_cases z : q s = true
    · rw [ev_rl_t z] at h
      cases j with
      | zero => exact z
      | succ j =>
        have := ih (s + 1) j (by omega)
        rw [show s + (j + 1) = s + 1 + j by omega]
        exact this
    · rw [ev_rl_f z] at h; exact absurd h (Nat.not_lt_zero j)
theorem ev_rl_end (q : Nat → Bool) : ∀ d s, ev_rl q d s < d → ¬ q (s + ev_rl q d s) = true := by
  intro d
  induction d with
  | zero => intro s h; exact absurd h (Nat.not_lt_zero _)
  | succ d ih =>
    intro s h
    by_cases z : q s = true
    · rw [ev_rl_t z] at h ⊢
      have := ih (s + 1) (by omega)
      rw [show s + (ev_rl q d (s + 1) + 1) = s + 1 + ev_rl q d (s + 1) by omega]
      exact this
    · rw [ev_rl_f z]; exact z
theorem ev_rl_ct (q : Nat → Bool) (d s : Nat) : ev_ct q s d = ev_rl q d s + ev_ct q (s + ev_rl q d s) (d - ev_rl q d s) := by
  have h := ev_rl_le q d s
  have h2 := ev_ct_split q s (ev_rl q d s) (d - ev_rl q d s)
  rw [show ev_rl q d s + (d - ev_rl q d s) = d by omega] at h2
  rw [h2, ev_ct_all (p := q) (ev_rl q d s) (fun j h3 h4 => by
    have := ev_rl_in q d s (j - s) (by omega)
    rw [show s + (j - s) = j by omega] at this
    exact this)]

/-! write -/
section
variable {fk fs ff fl : Int32} {ba ia ua kb ki a v m as : Nat → Int32}
theorem ex_rna_l {post : Int32 → Prop} {f p e : Nat} (hf : f < 8) (he : e ≤ 64) (hV : ev_V ba) : ∀ d j, p ≤ j → j + d = e → post (nI (j + ev_rl (ev_na ba) d (64 * f + j) - p)) → wX_rowNotAlone_3 post (nI f) (nI p) (nI e) fk fs ba ia (ev_U ba) kb ki (d + 1) (nI j) := by
  intro d
  induction d with
  | zero =>
    intro j h1 h2 hp
    refine br_t (nI_le (by omega) (by omega)) ?_
    rw [pk_sub h1]; exact hp
  | succ d ih =>
    intro j h1 h2 hp
    refine br_f (nI_ge (by omega) (by omega)) (ex_isAlone hf (by omega) hV (fun z => ?_) (fun z => ?_))
    · refine br_t rfl (nm_r (nI_1 j) (ih (j + 1) (by omega) (by omega) ?_))
      rw [ev_rl_t z] at hp
      rw [show 64 * f + (j + 1) = 64 * f + j + 1 by omega, show j + 1 + ev_rl (ev_na ba) d (64 * f + j + 1) - p = j + (ev_rl (ev_na ba) d (64 * f + j + 1) + 1) - p by omega]
      exact hp
    · refine br_f ev_10 ?_
      rw [ev_rl_f (by rw [z]; exact Bool.false_ne_true)] at hp
      rw [pk_sub h1]; exact hp
theorem ex_rna {post : Int32 → Prop} {f p e : Nat} (hf : f < 8) (he : e ≤ 64) (hp : p ≤ e) (hV : ev_V ba) (h : post (nI (ev_rl (ev_na ba) (e - p) (64 * f + p)))) : wpX_rowNotAlone post (fk, fs, ba, ia, ev_U ba, kb, ki) (nI f) (nI p) (nI e) := by
  refine ⟨_, ex_rna_l hf he hV (e - p) p (Nat.le_refl _) (by omega) ?_⟩
  rw [Nat.add_sub_cancel_left]; exact h
theorem ey_open {post : Int32 → Prop} {k : Nat} (hk : k < 512) (hV : ev_V a) (h1 : ev_na a k = true → post 1) (h0 : ev_na a k = false → post 0) : wpY_isOpen post (fk, ff, fl, a, v, ev_U a, as) (nI k) := by
  unfold wpY_isOpen
  dsimp only
  refine ⟨vp_in_nI hk (by omega), ?_⟩
  rw [nI_clamp (n := k) (by omega)]
  rcases hV k hk with e | ⟨b, hb, e⟩
  · exact br_t (by rw [e]; decide) (h1 (ev_na_h e))
  · refine br_f (by rw [e]; exact nI_pos (by omega)) ⟨vp_in_nI hk (by omega), ?_⟩
    rw [e, nI_clamp (by omega)]
    refine ⟨vp_in_nI hb (by omega), ?_⟩
    have hc := ev_cn_pos hk e
    have hc2 := ev_cn_le a (nI b)
    by_cases z : ev_U a b = 1
    · exact br_t (by rw [z]; decide) (h0 (ev_al_na ⟨b, hb, e, (ev_U1 hb).mp z⟩))
    · refine br_f ?_ (h1 (ev_na_b hb e z))
      rw [ev_U1 hb] at z
      rw [ev_U_lt hb]
      exact nI_ge (a := 1) (by omega) (by omega)
theorem ey_w91 {post : Int32 → SY → Prop} {J : Int32 → Int32 → Int32 → Int32 → (Nat → Int32) → (Nat → Int32) → (Nat → Int32) → (Nat → Int32) → Prop} {f p0 n0 e : Nat} {x4 x6 x8 : Int32} (hf : f < 8) (he : e ≤ 64) (hpn : p0 + n0 = e) (hV : ev_V a) : ∀ d j, j + d = e → wY_write_117 post J (nI f) (nI p0) (nI n0) x4 (nI (64 * f)) x6 x8 (nI (j + ev_rl (ev_na a) d (64 * f + j))) fk ff fl a v (ev_U a) as → wY_write_91 post J (nI f) (nI p0) (nI n0) x4 (nI (64 * f)) x6 x8 fk ff fl a v (ev_U a) as (d + 1) (nI j) := by
  intro d
  induction d with
  | zero =>
    intro j h hp
    exact br_t (by rw [nI_add]; exact nI_le (by omega) (by omega)) hp
  | succ d ih =>
    intro j h hp
    refine br_f (by rw [nI_add]; exact nI_ge (by omega) (by omega)) ?_
    rw [nI_add]
    refine ey_open (by omega) hV (fun z => ?_) (fun z => ?_)
    · refine br_f ev_10 (nm_r (nI_1 j) (ih (j + 1) (by omega) ?_))
      rw [ev_rl_t z] at hp
      rw [show 64 * f + (j + 1) = 64 * f + j + 1 by omega, show j + 1 + ev_rl (ev_na a) d (64 * f + j + 1) = j + (ev_rl (ev_na a) d (64 * f + j + 1) + 1) by omega]
      exact hp
    · rw [ev_rl_f (by rw [z]; exact Bool.false_ne_true)] at hp
      exact br_t rfl hp
theorem ey_w161 {post : Int32 → SY → Prop} {f p n : Nat} {x x6 : Int32} (hf : f < 8) (hpn : p + n ≤ 64) (hA : ∀ i, i < n → ∃ b, b < 192 ∧ a (64 * f + p + i) = nI b) (hp : post x6 (fk, ff, fl, a, ev_iV a v x (64 * f + p) n, m, as)) : ∀ d i, i + d = n → wY_write_161 post (nI p) (nI n) x (nI (64 * f)) x6 fk ff fl (d + 1) (nI (p + i)) a (ev_iV a v x (64 * f + p) i) m as := by
  intro d
  induction d with
  | zero =>
    intro i h
    refine br_t (by rw [nI_add]; exact nI_le (by omega) (by omega)) ?_
    rw [show i = n by omega]; exact hp
  | succ d ih =>
    intro i h
    obtain ⟨b, hb, e⟩ := hA i (by omega)
    have hi := ih (i + 1) (by omega)
    have hv : ev_iV a v x (64 * f + p) (i + 1) = upd (ev_iV a v x (64 * f + p) i) b (x + nI i) := by
      show upd (ev_iV a v x (64 * f + p) i) (a (64 * f + p + i)).toNatClampNeg (x + nI i) = _
      rw [e, nI_clamp (by omega)]
    refine br_f (by rw [nI_add]; exact nI_ge (by omega) (by omega)) ?_
    rw [nI_add (64 * f) (p + i), pk_sub (a := p + i) (b := p) (by omega), Nat.add_sub_cancel_left, show 64 * f + (p + i) = 64 * f + p + i by omega, nI_clamp (n := 64 * f + p + i) (by omega), e, nI_clamp (by omega)]
    exact ⟨vp_in_nI (by omega) (by omega), vp_in_nI hb (by omega), nm_r hv.symm (nm_r (nI_1 (p + i)) hi)⟩
/-- pieces alone are passed over -/
theorem ex_wskip {post : Int32 → SX → Prop} {f p0 n0 e : Nat} {x4 x5 : Int32} (hf : f < 8) (he : e ≤ 64) (hV : ev_V ba) : ∀ d j n, (∀ i, j ≤ i → i < j + d → ev_al ba (64 * f + i)) → j + d ≤ e → wX_write_49 post (nI f) (nI p0) (nI n0) x4 x5 (nI e) n (nI (j + d)) fk fs ba ia (ev_U ba) kb ki → wX_write_49 post (nI f) (nI p0) (nI n0) x4 x5 (nI e) (n + d) (nI j) fk fs ba ia (ev_U ba) kb ki := by
  intro d
  induction d with
  | zero => intro j n _ _ h; exact h
  | succ d ih =>
    intro j n hA hj h
    refine br_f (nI_ge (by omega) (by omega)) (ex_rna hf he (by omega) hV ?_)
    have hz := ev_al_na (hA j (Nat.le_refl _) (by omega))
    rw [show e - j = (e - j - 1) + 1 by omega, ev_rl_f (by rw [hz]; exact Bool.false_ne_true)]
    refine br_t (by decide) (nm_r (nI_1 j) ?_)
    refine ih (j + 1) n (fun i h1 h2 => hA i (by omega) (by omega)) (by omega) ?_
    rw [show j + 1 + d = j + (d + 1) by omega]
    exact h
theorem ey_put0 {post : SY → Prop} {f p r : Nat} (hf : f < 8) (hp : p < 64) (h : ∀ n, r < n → wY_putDown_31 post (nI f) (nI p) (nI r) n (nI 0) (if p = 0 then -1 else a (64 * f + p - 1)) fk ff fl a v m as) : wpY_putDown post (fk, ff, fl, a, v, m, as) (nI f) (nI p) (nI r) 0 := by
  have h' := h (r + 1) (by omega)
  refine br_t rfl ?_
  by_cases z : p = 0
  · rw [if_pos z] at h'
    exact br_t (by rw [z]; rfl) ⟨_, h'⟩
  · rw [if_neg z] at h'
    refine br_f (fun y => z ((ev_eq0 (by omega)).mp y)) ?_
    rw [ev_iy, ev_s1 (by omega), nI_clamp (by omega)]
    exact ⟨vp_in_nI (by omega) (by omega), nm_e ⟨_, h'⟩⟩
theorem ey_put1 {post : SY → Prop} {f p r : Nat} (hb : (if p = 0 then -1 else a (64 * f + p - 1)) = -1) (h : ∀ n, r < n → wY_putDown_31 post (nI f) (nI p) (nI r) n (nI 0) (if p = 0 then -1 else a (64 * f + p - 1)) fk ff fl a v m as) : wpY_putDown post (fk, ff, fl, a, v, m, as) (nI f) (nI p) (nI r) 1 := by
  have h' := h (r + 1) (by omega)
  rw [hb] at h'
  exact br_f ev_10 ⟨_, h'⟩
end
theorem ev_wloop {f e : Nat} (hf : f < 8) (he : e ≤ 64) : ∀ N p (a w : Nat → Int32), e - p ≤ N → p ≤ e → ev_V a → ev_ct (ev_na a) (64 * f + p) (e - p) ≤ ev_fr (ev_U a) →
    ∃ a' w' : Nat → Int32, ev_V a' ∧ (∀ j, p ≤ j → j < e → ev_al a' (64 * f + j)) ∧ (∀ q, q < 512 → ev_al a q → ev_al a' q) ∧
      (∀ (post : Int32 → SX → Prop) (p0 n0 n : Nat) (x4 x5 fk fs : Int32) (kb ki : Nat → Int32), e - p < n → p0 + n0 = e → (∀ i, i < n0 → ∃ b, b < 192 ∧ a' (64 * f + p0 + i) = nI b) → post x5 (fk, fs, a', ev_iV a' w' x4 (64 * f + p0) n0, ev_U a', kb, ki) → wX_write_49 post (nI f) (nI p0) (nI n0) x4 x5 (nI e) n (nI p) fk fs a w (ev_U a) kb ki) ∧
      (∀ (post : Int32 → SY → Prop) (p0 n0 n : Nat) (x4 x6 fk ff fl : Int32) (m as : Nat → Int32), e - p < n → p0 + n0 = e → (∀ j, 192 ≤ j → m j = 0) → (∀ i, i < n0 → ∃ b, b < 192 ∧ a' (64 * f + p0 + i) = nI b) → (∀ ff' fl' m', (∀ j, 192 ≤ j → m' j = 0) → post x6 (fk, ff', fl', a', ev_iV a' w' x4 (64 * f + p0) n0, m', as)) → wY_write_75 post (nI f) (nI p0) (nI n0) x4 (nI (64 * f)) x6 n (nI p) fk ff fl a w m as) := by
  intro N
  induction N with
  | zero =>
    intro p a w hN hp hV hfr
    refine ⟨a, w, hV, fun j h1 h2 => by omega, fun _ _ h => h, ?_, ?_⟩
    · intro post p0 n0 n x4 x5 fk fs kb ki hn hpn hA hpost
      obtain ⟨n, rfl⟩ : ∃ n', n = n' + 1 := ⟨n - 1, by omega⟩
      exact br_t (nI_le (by omega) (by omega)) (ex_setInts hf (by omega) hA hpost)
    · intro post p0 n0 n x4 x6 fk ff fl m as hn hpn hm hA hpost
      obtain ⟨n, rfl⟩ : ∃ n', n = n' + 1 := ⟨n - 1, by omega⟩
      exact br_t (by rw [nI_add]; exact nI_le (by omega) (by omega)) ⟨_, ey_w161 hf (by omega) hA (hpost ff fl m hm) n0 0 (by omega)⟩
  | succ N ih =>
    intro p a w hN hp hV hfr
    by_cases hpe : p = e
    · exact ih p a w (by omega) hp hV hfr
    · obtain ⟨r, hr⟩ : ∃ r, r = ev_rl (ev_na a) (e - p) (64 * f + p) := ⟨_, rfl⟩
      have hrl : r ≤ e - p := by rw [hr]; exact ev_rl_le _ _ _
      have hct := ev_rl_ct (ev_na a) (e - p) (64 * f + p)
      rw [← hr] at hct
      by_cases hr0 : r = 0
      · have hna : ¬ ev_na a (64 * f + p) = true := by
          have := ev_rl_end (ev_na a) (e - p) (64 * f + p) (by omega)
          rw [← hr, hr0] at this
          exact this
        have hal : ev_al a (64 * f + p) := ev_na_al hV (by omega) (by simpa using hna)
        have hs := ev_ct_split (ev_na a) (64 * f + p) 1 (e - p - 1)
        rw [show 1 + (e - p - 1) = e - p by omega] at hs
        obtain ⟨a', w', d1, d2, d3, hX, hY⟩ := ih (p + 1) a w (by omega) (by omega) hV (by
          rw [show 64 * f + (p + 1) = 64 * f + p + 1 by omega, show e - (p + 1) = e - p - 1 by omega]
          omega)
        refine ⟨a', w', d1, ?_, d3, ?_, ?_⟩
        · intro j h1 h2
          by_cases z : j = p
          · rw [z]; exact d3 _ (by omega) hal
          · exact d2 j (by omega) h2
        · intro post p0 n0 n x4 x5 fk fs kb ki hn hpn hA hpost
          obtain ⟨n, rfl⟩ : ∃ n', n = n' + 1 := ⟨n - 1, by omega⟩
          refine br_f (nI_ge (by omega) (by omega)) (ex_rna hf he hp hV ?_)
          rw [← hr, hr0]
          exact br_t (by decide) (nm_r (nI_1 p) (hX post p0 n0 n x4 x5 fk fs kb ki (by omega) hpn hA hpost))
        · intro post p0 n0 n x4 x6 fk ff fl m as hn hpn hm hA hpost
          obtain ⟨n, rfl⟩ : ∃ n', n = n' + 1 := ⟨n - 1, by omega⟩
          refine br_f (by rw [nI_add]; exact nI_ge (by omega) (by omega)) (ey_count hV hm ?_)
          refine ⟨_, ey_w91 hf he hpn hV (e - p) p (by omega) ?_⟩
          rw [← hr, hr0, Nat.add_zero]
          have hle : nI p ≤ nI p := nI_le (Nat.le_refl _) (by omega)
          exact br_t hle (br_t hle (nm_r (nI_1 p) (hY post p0 n0 n x4 x6 fk ff fl (ev_U a) as (by omega) hpn (fun j hj => ev_U_ge (by omega)) hA hpost)))
      · obtain ⟨a1, w1, ⟨c1, c2, c3, c4, c5⟩, gX, gY⟩ := ev_rows (e := p + r) hf (by omega) r r p a w _ (Nat.le_refl _) rfl hV (by omega) rfl
        have hmono : ev_ct (ev_na a1) (64 * f + p + r) (e - p - r) ≤ ev_ct (ev_na a) (64 * f + p + r) (e - p - r) :=
          ev_ct_mono _ (fun j h1 h2 h3 => ev_na_mono hV (by omega) (c3 j (by omega)) h3)
        obtain ⟨a', w', d1, d2, d3, hX, hY⟩ := ih (p + r) a1 w1 (by omega) (by omega) c1 (by
          rw [show 64 * f + (p + r) = 64 * f + p + r by omega, show e - (p + r) = e - p - r by omega]
          omega)
        refine ⟨a', w', d1, ?_, fun q h1 h2 => d3 q h1 (c3 q h1 h2), ?_, ?_⟩
        · intro j h1 h2
          by_cases z : p + r ≤ j
          · exact d2 j z h2
          · exact d3 _ (by omega) (c2 j h1 (by omega))
        · intro post p0 n0 n x4 x5 fk fs kb ki hn hpn hA hpost
          obtain ⟨n, rfl⟩ : ∃ n', n = n' + (r - 1) + 1 := ⟨n - r, by omega⟩
          refine br_f (nI_ge (by omega) (by omega)) (ex_rna hf he hp hV ?_)
          rw [← hr]
          refine br_f (nI_nle (by omega) (by omega)) (ev_row_X gX (by omega) (nm_r (nI_1 p) ?_))
          refine ex_wskip hf he c1 (r - 1) (p + 1) n (fun i h1 h2 => c2 i (by omega) (by omega)) (by omega) ?_
          rw [show p + 1 + (r - 1) = p + r by omega]
          exact hX post p0 n0 n x4 x5 fk fs kb ki (by omega) hpn hA hpost
        · intro post p0 n0 n x4 x6 fk ff fl m as hn hpn hm hA hpost
          obtain ⟨n, rfl⟩ : ∃ n', n = n' + 1 := ⟨n - 1, by omega⟩
          refine br_f (by rw [nI_add]; exact nI_ge (by omega) (by omega)) (ey_count hV hm ?_)
          refine ⟨_, ey_w91 hf he hpn hV (e - p) p (by omega) ?_⟩
          rw [← hr]
          have hgt : ¬ nI (p + r) ≤ nI p := nI_ge (by omega) (by omega)
          refine br_f hgt ?_
          rw [pk_sub (by omega), Nat.add_sub_cancel_left]
          refine ey_put0 hf (by omega) (fun n1 hn1 => gY _ p r 0 n1 fk ff fl (ev_U a) as hn1 rfl rfl (fun j hj => ev_U_ge (by omega)) (fun ff' fl' m' hm' => ?_))
          exact br_f hgt (hY post p0 n0 n x4 x6 fk ff' fl' m' as (by omega) hpn hm' hA hpost)
