/-! numbers of the walks -/
theorem ev_d64 {b : Nat} (hb : b < 2 ^ 31) : nI b / 64 = nI (b / 64) := pk_div (d := 64) hb (by decide) (by decide)
theorem ev_r64 {b : Nat} (hb : b < 2 ^ 31) : nI b - nI b / 64 * 64 = nI (b % 64) := pk_rem (d := 64) hb (by decide) (by decide)
theorem ev_r3 {b : Nat} (hb : b < 2 ^ 31) : nI b - nI b / 3 * 3 = nI (b % 3) := pk_rem (d := 3) hb (by decide) (by decide)
theorem ev_r4 {b : Nat} (hb : b < 2 ^ 31) : nI b - nI b / 4 * 4 = nI (b % 4) := pk_rem (d := 4) hb (by decide) (by decide)
theorem ev_x64 (a : Nat) : nI a * 64 = nI (64 * a) := by rw [Nat.mul_comm]; exact pk_mul a 64
theorem ev_64x (a : Nat) : 64 * nI a = nI (64 * a) := pk_mul 64 a
theorem ev_704x (a : Nat) : 704 * nI a = nI (704 * a) := pk_mul 704 a
theorem ev_x512 (a : Nat) : nI a * 512 = nI (a * 512) := pk_mul a 512
theorem ev_x192 (a : Nat) : nI a * 192 = nI (a * 192) := pk_mul a 192
theorem ev_p64 (a : Nat) : nI a + 64 = nI (a + 64) := nI_add a 64
theorem ev_p512 (a : Nat) : nI a + 512 = nI (a + 512) := nI_add a 512
theorem ev_p704 (a : Nat) : nI a + 704 = nI (a + 704) := nI_add a 704
theorem ev_p4 (a : Nat) : nI a + 4 = nI (a + 4) := nI_add a 4
theorem ev_s64 {a : Nat} (h : a ≤ 64) : 64 - nI a = nI (64 - a) := pk_sub (a := 64) h
theorem ev_s1 {a : Nat} (h : 0 < a) : nI a - 1 = nI (a - 1) := pk_sub (b := 1) h
theorem ev_ix (f p : Nat) : nI f * 64 + nI p = nI (64 * f + p) := by rw [ev_x64, nI_add]
theorem ev_iy (f p : Nat) : 64 * nI f + nI p = nI (64 * f + p) := by rw [ev_64x, nI_add]
theorem ev_10 : ¬ (1 : Int32) = 0 := by decide
theorem ev_n64 : ¬ (64 : Int32) = 0 := by decide
theorem ev_n3 : ¬ (3 : Int32) = 0 := by decide
theorem ev_n4 : ¬ (4 : Int32) = 0 := by decide
theorem ev_na_h {a : Nat → Int32} {k : Nat} (h : a k = -1) : ev_na a k = true := by
  unfold ev_na
  rw [decide_eq_true h]
  rfl
theorem ev_na_b {a : Nat → Int32} {k b : Nat} (hb : b < 192) (h : a k = nI b) (z : ¬ ev_U a b = 1) : ev_na a k = true := by
  unfold ev_na
  rw [h, nI_clamp (by omega), decide_eq_false z, decide_eq_false (ev_ne1 (a := b) (by omega))]
  rfl

/-! the component's methods that only read -/
section
variable {fk fs : Int32} {ba ia ua kb ki : Nat → Int32}
theorem ex_run {post : Int32 → Prop} {b : Nat} (hb : b < 192) : ∀ d j, b ≤ j → j + d = (b / 64 + 1) * 64 → post (nI (j + ev_rn ua d j - b)) → wX_freeRun_12 post (nI b) (nI ((b / 64 + 1) * 64)) fk fs ba ia ua kb ki (d + 1) (nI j) := by
  intro d
  induction d with
  | zero =>
    intro j h1 h2 hp
    refine br_t (nI_le (by omega) (by omega)) ?_
    rw [pk_sub h1]; exact hp
  | succ d ih =>
    intro j h1 h2 hp
    refine br_f (nI_ge (by omega) (by omega)) ⟨vp_in_nI (by omega) (by omega), ?_⟩
    rw [nI_clamp (by omega)]
    by_cases z : ua j = 0
    · refine br_t z (nm_r (nI_1 j) ?_)
      refine ih (j + 1) (by omega) (by omega) ?_
      rw [ev_rn_t z] at hp
      rw [show j + 1 + ev_rn ua d (j + 1) - b = j + (ev_rn ua d (j + 1) + 1) - b by omega]
      exact hp
    · refine br_f z ?_
      rw [ev_rn_f z] at hp
      rw [pk_sub h1]; exact hp
theorem ex_freeRun {post : Int32 → Prop} {b : Nat} (hb : b < 192) (hp : post (nI (ev_F ua b))) : wpX_freeRun post (fk, fs, ba, ia, ua, kb, ki) (nI b) := by
  refine ⟨ev_n64, nm_r (e' := nI ((b / 64 + 1) * 64)) ?_ ⟨_, ex_run hb (64 - b % 64) b (Nat.le_refl _) (by omega) ?_⟩⟩
  · rw [ev_d64 (by omega), nI_1, ev_x64, Nat.mul_comm]
  · rw [Nat.add_sub_cancel_left]; exact hp
theorem ex_ext {post : Int32 → Prop} {b : Nat} (hb : b < 192) (hp : post (nI (ev_E ua b))) : wpX_extentLength post (fk, fs, ba, ia, ua, kb, ki) (nI b) := by
  refine ⟨ev_n64, ?_⟩
  rw [ev_r64 (by omega)]
  by_cases z : b % 64 = 0
  · refine br_t (by rw [z]; rfl) ?_
    rw [ev_E_F (Or.inl z)] at hp
    exact ex_freeRun hb hp
  · refine br_f (fun y => z ((ev_eq0 (by omega)).mp y)) ?_
    rw [ev_s1 (by omega), nI_clamp (by omega)]
    refine ⟨vp_in_nI (by omega) (by omega), ?_⟩
    by_cases y : ua (b - 1) = 0
    · refine br_t y ?_
      rw [ev_E_0 z y] at hp
      exact hp
    · refine br_f y ?_
      rw [ev_E_F (Or.inr y)] at hp
      exact ex_freeRun hb hp
theorem ex_isAlone {post : Int32 → Prop} {f p : Nat} (hf : f < 8) (hp : p < 64) (hV : ev_V ba) (h0 : ev_na ba (64 * f + p) = true → post 0) (h1 : ev_na ba (64 * f + p) = false → post 1) : wpX_isAlone post (fk, fs, ba, ia, ev_U ba, kb, ki) (nI f) (nI p) := by
  unfold wpX_isAlone
  dsimp only
  rw [ev_ix, nI_clamp (by omega)]
  refine ⟨vp_in_nI (by omega) (by omega), nm_e ?_⟩
  rcases hV (64 * f + p) (by omega) with e | ⟨b, hb, e⟩
  · exact br_t e (h0 (ev_na_h e))
  · refine br_f (by rw [e]; exact ev_ne1 (by omega)) ?_
    rw [e, nI_clamp (by omega)]
    refine ⟨vp_in_nI hb (by omega), ?_⟩
    by_cases z : ev_U ba b = 1
    · exact br_t z (h1 (ev_al_na ⟨b, hb, e, (ev_U1 hb).mp z⟩))
    · exact br_f z (h0 (ev_na_b hb e z))
theorem ex_cna_l {post : Int32 → Prop} {f p n : Nat} (hf : f < 8) (hpn : p + n ≤ 64) (hV : ev_V ba) (hp : post (nI (ev_ct (ev_na ba) (64 * f + p) n))) : ∀ d i, i + d = n → wX_countNotAlone_6 post (nI f) (nI p) (nI n) fk fs ba ia (ev_U ba) kb ki (d + 1) (nI (ev_ct (ev_na ba) (64 * f + p) i)) (nI (p + i)) := by
  intro d
  induction d with
  | zero =>
    intro i h
    refine br_t (by rw [nI_add]; exact nI_le (by omega) (by omega)) ?_
    rw [show i = n by omega]; exact hp
  | succ d ih =>
    intro i h
    refine br_f (by rw [nI_add]; exact nI_ge (by omega) (by omega)) ?_
    refine ex_isAlone hf (by omega) hV (fun z => ?_) (fun z => ?_)
    · refine br_t rfl (nm_r (nI_1 _) (nm_r (nI_1 _) ?_))
      rw [← ev_ct_t (by rw [Nat.add_assoc]; exact z)]
      exact ih (i + 1) (by omega)
    · refine br_f ev_10 (nm_r (nI_1 _) ?_)
      rw [← ev_ct_f (p := ev_na ba) (s := 64 * f + p) (d := i) (by rw [Nat.add_assoc, z]; exact Bool.false_ne_true)]
      exact ih (i + 1) (by omega)
theorem ex_cna {post : Int32 → Prop} {f p n : Nat} (hf : f < 8) (hpn : p + n ≤ 64) (hV : ev_V ba) (hp : post (nI (ev_ct (ev_na ba) (64 * f + p) n))) : wpX_countNotAlone post (fk, fs, ba, ia, ev_U ba, kb, ki) (nI f) (nI p) (nI n) :=
  ⟨_, ex_cna_l hf hpn hV hp n 0 (by omega)⟩
theorem ex_cfb_l {post : Int32 → Prop} {s e : Nat} (he : s + e ≤ 192) (hp : post (nI (ev_ct (fun j => decide (ua j = 0)) s e))) : ∀ d i, i + d = e → wX_countFreeBlocks_5 post (nI (s + e)) fk fs ba ia ua kb ki (d + 1) (nI (ev_ct (fun j => decide (ua j = 0)) s i)) (nI (s + i)) := by
  intro d
  induction d with
  | zero =>
    intro i h
    refine br_t (nI_le (by omega) (by omega)) ?_
    rw [show i = e by omega]; exact hp
  | succ d ih =>
    intro i h
    refine br_f (nI_ge (by omega) (by omega)) ?_
    refine ⟨vp_in_nI (by omega) (by omega), ?_⟩
    rw [nI_clamp (by omega)]
    by_cases z : ua (s + i) = 0
    · refine br_t z (nm_r (nI_1 _) (nm_r (nI_1 _) ?_))
      rw [← ev_ct_t (p := fun j => decide (ua j = 0)) (decide_eq_true z)]
      exact ih (i + 1) (by omega)
    · refine br_f z (nm_r (nI_1 _) ?_)
      rw [← ev_ct_f (p := fun j => decide (ua j = 0)) (s := s) (d := i) (fun y => z (of_decide_eq_true y))]
      exact ih (i + 1) (by omega)
theorem ex_cfb {post : Int32 → Prop} {x y : Int32} (s e : Nat) (he : s + e ≤ 192) (hx : x = nI s) (hy : y = nI (s + e)) (hp : post (nI (ev_ct (fun j => decide (ua j = 0)) s e))) : wpX_countFreeBlocks post (fk, fs, ba, ia, ua, kb, ki) x y := by
  subst hx hy
  exact ⟨_, ex_cfb_l he hp e 0 (by omega)⟩
theorem ex_cfe_l {post : Int32 → Prop} {s e : Nat} (he : s + e ≤ 192) (hp : post (nI (ev_ct (fun j => decide (0 < ev_E ua j)) s e))) : ∀ d i, i + d = e → wX_countFreeExtents_5 post (nI (s + e)) fk fs ba ia ua kb ki (d + 1) (nI (ev_ct (fun j => decide (0 < ev_E ua j)) s i)) (nI (s + i)) := by
  intro d
  induction d with
  | zero =>
    intro i h
    refine br_t (nI_le (by omega) (by omega)) ?_
    rw [show i = e by omega]; exact hp
  | succ d ih =>
    intro i h
    refine br_f (nI_ge (by omega) (by omega)) (ex_ext (by omega) ?_)
    have hl := ev_E_le ua (s + i)
    have hl2 := ev_F_le ua (s + i)
    by_cases z : 0 < ev_E ua (s + i)
    · refine br_f (nI_nle z (by omega)) (nm_r (nI_1 _) (nm_r (nI_1 _) ?_))
      rw [← ev_ct_t (p := fun j => decide (0 < ev_E ua j)) (decide_eq_true z)]
      exact ih (i + 1) (by omega)
    · refine br_t (nI_le (b := 0) (by omega) (by omega)) (nm_r (nI_1 _) ?_)
      rw [← ev_ct_f (p := fun j => decide (0 < ev_E ua j)) (s := s) (d := i) (fun y => z (of_decide_eq_true y))]
      exact ih (i + 1) (by omega)
theorem ex_cfe {post : Int32 → Prop} {x y : Int32} (s e : Nat) (he : s + e ≤ 192) (hx : x = nI s) (hy : y = nI (s + e)) (hp : post (nI (ev_ct (fun j => decide (0 < ev_E ua j)) s e))) : wpX_countFreeExtents post (fk, fs, ba, ia, ua, kb, ki) x y := by
  subst hx hy
  exact ⟨_, ex_cfe_l he hp e 0 (by omega)⟩
theorem ex_next {post : Int32 → Prop} {b : Nat} (hb : b < 192) (hp : post (ev_nx (nI b))) : wpX_nextInGroup post (fk, fs, ba, ia, ua, kb, ki) (nI b) := by
  refine ⟨ev_n64, ?_⟩
  rw [ev_r64 (by omega)]
  rw [ev_nx_nI hb] at hp
  by_cases z : b % 64 = 63
  · rw [if_pos z] at hp
    exact br_t (by rw [z]; rfl) hp
  · rw [if_neg z] at hp
    refine br_f (fun y => z (ev_inj (b := 63) y (by omega) (by omega))) ?_
    rw [nI_1]; exact hp
theorem ev_near_nx {u : Nat → Int32} {b : Nat} (hb : b < 192) : ev_near u (nI b) = if ev_nx (nI b) = -1 then -1 else if u (b + 1) = 0 then nI (b + 1) else -1 := by
  unfold ev_near
  rw [if_neg (ev_ne1 (a := b) (by omega)), nI_clamp (by omega), ev_nx_nI hb]
  by_cases z : b % 64 = 63
  · rw [if_pos z, if_pos z, if_pos rfl]
  · rw [if_neg z, if_neg z, if_neg (ev_ne1 (a := b + 1) (by omega))]
theorem ex_near {post : Int32 → Prop} {f p : Nat} (hf : f < 8) (hp : p < 64) (hV : ev_V ba) (h : post (ev_near ua (if p = 0 then -1 else ba (64 * f + p - 1)))) : wpX_nearBlock post (fk, fs, ba, ia, ua, kb, ki) (nI f) (nI p) := by
  unfold wpX_nearBlock
  dsimp only
  by_cases z : p = 0
  · rw [if_pos z, ev_near_h] at h
    exact br_t (by rw [z]; rfl) h
  · rw [if_neg z] at h
    refine br_f (fun y => z ((ev_eq0 (by omega)).mp y)) ?_
    rw [ev_ix, ev_s1 (by omega), nI_clamp (by omega)]
    refine ⟨vp_in_nI (by omega) (by omega), nm_e ?_⟩
    rcases hV (64 * f + p - 1) (by omega) with e | ⟨b, hb, e⟩
    · rw [e, ev_near_h] at h
      exact br_t e h
    · refine br_f (by rw [e]; exact ev_ne1 (by omega)) ?_
      rw [e] at h ⊢
      refine ex_next hb ?_
      rw [ev_near_nx hb] at h
      by_cases y : ev_nx (nI b) = -1
      · rw [if_pos y] at h
        exact br_t y h
      · rw [if_neg y] at h
        refine br_f y ?_
        have hn : ev_nx (nI b) = nI (b + 1) := by
          rw [ev_nx_nI hb] at y ⊢
          by_cases w : b % 64 = 63
          · rw [if_pos w] at y; exact absurd rfl y
          · rw [if_neg w]
        have hm : b % 64 ≠ 63 := by
          intro w
          rw [ev_nx_nI hb, if_pos w] at y
          exact y rfl
        rw [hn, nI_clamp (by omega)]
        refine ⟨vp_in_nI (by omega) (by omega), ?_⟩
        by_cases w : ua (b + 1) = 0
        · rw [if_pos w] at h
          exact br_t w h
        · rw [if_neg w] at h
          exact br_f w h
theorem ex_sf_l {post : Int32 → Prop} {g left : Nat} (hg : g < 3) (hl : left ≤ 64) (hp : post (ev_sf ua left (64 * g) 64).1) : ∀ d i, i + d = 64 → wX_shortestFit_16 post (nI left) (nI (64 * g)) fk fs ba ia ua kb ki (d + 1) (ev_sf ua left (64 * g) i).1 (nI (ev_sf ua left (64 * g) i).2) (nI (64 * g + i)) := by
  intro d
  induction d with
  | zero =>
    intro i h
    refine br_t (by rw [ev_p64]; exact nI_le (by omega) (by omega)) ?_
    rw [show i = 64 by omega]; exact hp
  | succ d ih =>
    intro i h
    refine br_f (by rw [ev_p64]; exact nI_ge (by omega) (by omega)) (ex_ext (by omega) ?_)
    have hE := ev_E_le ua (64 * g + i)
    have hF := ev_F_le ua (64 * g + i)
    have h65 : (ev_sf ua left (64 * g) i).2 ≤ 65 := by
      rcases ev_sf_ok ua left (64 * g) i with ⟨y, _⟩ | ⟨j, _, y, _⟩
      · rw [y]; exact Nat.le_refl _
      · have := ev_E_le ua (64 * g + j)
        have := ev_F_le ua (64 * g + j)
        rw [y]
        show ev_E ua (64 * g + j) ≤ 65
        omega
    by_cases z1 : left ≤ ev_E ua (64 * g + i)
    · refine br_f (nI_nlt z1 (by omega)) ?_
      by_cases z2 : ev_E ua (64 * g + i) < (ev_sf ua left (64 * g) i).2
      · refine br_f (nI_ge z2 (by omega)) (nm_r (nI_1 _) ?_)
        have := ih (i + 1) (by omega)
        rw [ev_sf_t z1 z2] at this
        exact this
      · refine br_t (nI_le (by omega) (by omega)) (nm_r (nI_1 _) ?_)
        have := ih (i + 1) (by omega)
        rw [ev_sf_f (fun y => z2 y.2)] at this
        exact this
    · refine br_t (nI_lt (by omega) (by omega)) (nm_r (nI_1 _) ?_)
      have := ih (i + 1) (by omega)
      rw [ev_sf_f (fun y => z1 y.1)] at this
      exact this
theorem ex_sf {post : Int32 → Prop} {g left : Nat} (hg : g < 3) (hl : left ≤ 64) (hp : post (ev_sf ua left (64 * g) 64).1) : wpX_shortestFit post (fk, fs, ba, ia, ua, kb, ki) (nI g) (nI left) :=
  nm_r (ev_x64 g) ⟨_, ex_sf_l hg hl hp 64 0 (by omega)⟩
theorem ex_best_s {post : Int32 → Prop} {f left t n : Nat} (hf : f < 8) (hl : left ≤ 64) (ht : t < 3) (h1 : ¬ ev_g ua f left t = -1 → post (ev_g ua f left t)) (h2 : ev_g ua f left t = -1 → wX_bestBlock_2 post (nI f) (nI left) fk fs ba ia ua kb ki n (nI (t + 1))) : wX_bestBlock_2 post (nI f) (nI left) fk fs ba ia ua kb ki (n + 1) (nI t) := by
  refine br_f (nI_ge (b := 3) ht (by omega)) ⟨ev_n3, ?_⟩
  rw [nI_add, ev_r3 (by omega)]
  refine ex_sf (by omega) hl ?_
  exact br_c (fun z => nm_r (nI_1 _) (h2 z)) h1
theorem ex_best {post : Int32 → Prop} {f left : Nat} (hf : f < 8) (hl : left ≤ 64) (hp : post (ev_best ua f left)) : wpX_bestBlock post (fk, fs, ba, ia, ua, kb, ki) (nI f) (nI left) := by
  refine ⟨4, ?_⟩
  unfold ev_best at hp
  refine ex_best_s (t := 0) hf hl (by omega) (fun z => ?_) (fun z => ?_)
  · rw [if_neg z] at hp; exact hp
  · rw [if_pos z] at hp
    refine ex_best_s (t := 1) hf hl (by omega) (fun y => ?_) (fun y => ?_)
    · rw [if_neg y] at hp; exact hp
    · rw [if_pos y] at hp
      refine ex_best_s (t := 2) hf hl (by omega) (fun _ => hp) (fun x => ?_)
      rw [x] at hp
      exact br_t (nI_le (a := 3) (b := 2 + 1) (by omega) (by omega)) hp
theorem ex_lg_l {post : Int32 → Prop} (hp : post (ev_lg ua 192).1) : ∀ d i, i + d = 192 → wX_longestBlock_6 post fk fs ba ia ua kb ki (d + 1) (ev_lg ua i).1 (nI (ev_lg ua i).2) (nI i) := by
  intro d
  induction d with
  | zero =>
    intro i h
    refine br_t (nI_le (a := 192) (by omega) (by omega)) ?_
    rw [show i = 192 by omega]; exact hp
  | succ d ih =>
    intro i h
    refine br_f (nI_ge (b := 192) (by omega) (by omega)) (ex_ext (by omega) ?_)
    have hE := ev_E_le ua i
    have hF := ev_F_le ua i
    have h65 : (ev_lg ua i).2 ≤ 64 := by
      rcases (ev_lg_ok ua i).2 with y | ⟨j, _, y, _⟩
      · rw [y]; exact Nat.zero_le _
      · have := ev_E_le ua j
        have := ev_F_le ua j
        rw [y]
        show ev_E ua j ≤ 64
        omega
    have := ih (i + 1) (by omega)
    by_cases z : (ev_lg ua i).2 < ev_E ua i
    · refine br_f (nI_ge z (by omega)) (nm_r (nI_1 _) ?_)
      rw [ev_lg_t z] at this
      exact this
    · refine br_t (nI_le (by omega) (by omega)) (nm_r (nI_1 _) ?_)
      rw [ev_lg_f z] at this
      exact this
theorem ex_lg {post : Int32 → Prop} (hp : post (ev_lg ua 192).1) : wpX_longestBlock post (fk, fs, ba, ia, ua, kb, ki) :=
  ⟨_, ex_lg_l hp 192 0 (by omega)⟩
end
