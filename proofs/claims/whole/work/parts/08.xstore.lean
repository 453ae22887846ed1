/-! the component's stores -/
section
variable {fk fs : Int32} {ba ia ua kb ki : Nat → Int32}
theorem ex_setBlock {post : SX → Prop} {k : Nat} {x : Int32} (hk : k < 512) (hV : ev_V ba) (hx : x = -1 ∨ ∃ t, t < 192 ∧ x = nI t) (hp : post (fk, fs, upd ba k x, ia, ev_U (upd ba k x), kb, ki)) : wpX_setBlock post (fk, fs, ba, ia, ev_U ba, kb, ki) (nI k) x := by
  unfold wpX_setBlock
  dsimp only
  rw [nI_clamp (by omega)]
  refine ⟨vp_in_nI hk (by omega), nm_e ?_⟩
  rcases hV k hk with e | ⟨b, hb, e⟩
  · refine br_t e ?_
    unfold wX_setBlock_22
    rw [nI_clamp (n := k) (by omega)]
    rcases hx with rfl | ⟨t, ht, rfl⟩
    · refine br_t rfl ⟨vp_in_nI hk (by omega), nm_e ?_⟩
      rw [ev_same ba k (-1) e] at hp ⊢
      exact hp
    · refine br_f (ev_ne1 (by omega)) ?_
      rw [nI_clamp (by omega)]
      exact ⟨vp_in_nI ht (by omega), vp_in_nI ht (by omega), nm_r (ev_U_in hk ht e).symm ⟨vp_in_nI hk (by omega), nm_e hp⟩⟩
  · refine br_f (by rw [e]; exact ev_ne1 (by omega)) ?_
    rw [e, nI_clamp (by omega)]
    refine ⟨vp_in_nI hb (by omega), vp_in_nI hb (by omega), nm_r (ev_U_out hk hb e).symm ?_⟩
    unfold wX_setBlock_22
    rw [nI_clamp (n := k) (by omega)]
    rcases hx with rfl | ⟨t, ht, rfl⟩
    · exact br_t rfl ⟨vp_in_nI hk (by omega), nm_e hp⟩
    · refine br_f (ev_ne1 (by omega)) ?_
      rw [nI_clamp (by omega)]
      refine ⟨vp_in_nI ht (by omega), vp_in_nI ht (by omega), nm_r (e' := ev_U (upd ba k (nI t))) ?_ ⟨vp_in_nI hk (by omega), nm_e hp⟩⟩
      rw [← ev_U_in hk ht (a := upd ba k (-1)) pk_us, ev_uu]
theorem ex_mv_l {post : SX → Prop} {f p s n : Nat} (hf : f < 8) (hpn : p + n ≤ 64) (hs : s + n ≤ 192) (hV : ev_V ba) (hfree : ∀ j, j < n → ev_U ba (s + j) = 0)
    (hp : post (fk, fs, ev_mA ba (64 * f + p) s n, ev_mV ba ia (64 * f + p) s n, ev_U (ev_mA ba (64 * f + p) s n), kb, ki)) :
    ∀ d i, i + d = n → wX_movePieces_3 post (nI f) (nI p) (nI n) (nI s) (d + 1) (nI i) fk fs (ev_mA ba (64 * f + p) s i) (ev_mV ba ia (64 * f + p) s i) (ev_U (ev_mA ba (64 * f + p) s i)) kb ki := by
  intro d
  induction d with
  | zero =>
    intro i h
    refine br_t (nI_le (by omega) (by omega)) ?_
    rw [show i = n by omega]; exact hp
  | succ d ih =>
    intro i h
    have hVi := (ev_mA_MF (k0 := 64 * f + p) hV (by omega) hs hfree i (by omega)).1
    have hi := ih (i + 1) (by omega)
    refine br_f (nI_ge (by omega) (by omega)) (nm_r (e' := nI (64 * f + p + i)) (by rw [ev_ix, nI_add]) ⟨vp_in_nI (by omega) (by omega), ?_⟩)
    rw [nI_clamp (by omega)]
    refine nm_e ?_
    rcases hVi (64 * f + p + i) (by omega) with e | ⟨b, hb, e⟩
    · have hv : ev_mV ba ia (64 * f + p) s (i + 1) = ev_mV ba ia (64 * f + p) s i := if_pos e
      rw [hv] at hi
      refine br_t e ?_
      unfold wX_movePieces_52
      rw [nI_add s i]
      refine ex_setBlock (by omega) hVi (Or.inr ⟨s + i, by omega, rfl⟩) ?_
      exact nm_r (nI_1 i) hi
    · have hv : ev_mV ba ia (64 * f + p) s (i + 1) = upd (ev_mV ba ia (64 * f + p) s i) (s + i) (ev_mV ba ia (64 * f + p) s i b) := by
        have : ev_mV ba ia (64 * f + p) s (i + 1) = upd (ev_mV ba ia (64 * f + p) s i) (s + i) (ev_mV ba ia (64 * f + p) s i (ev_mA ba (64 * f + p) s i (64 * f + p + i)).toNatClampNeg) := if_neg (by rw [e]; exact ev_ne1 (by omega))
        rw [this, e, nI_clamp (by omega)]
      refine br_f (by rw [e]; exact ev_ne1 (by omega)) ?_
      unfold wX_movePieces_52
      rw [e, nI_add s i, nI_clamp (n := b) (by omega), nI_clamp (n := s + i) (by omega)]
      refine ⟨vp_in_nI hb (by omega), vp_in_nI (by omega) (by omega), nm_r hv.symm ?_⟩
      refine ex_setBlock (by omega) hVi (Or.inr ⟨s + i, by omega, rfl⟩) ?_
      exact nm_r (nI_1 i) hi
theorem ex_mv {post : SX → Prop} {f p s n : Nat} (hf : f < 8) (hpn : p + n ≤ 64) (hs : s + n ≤ 192) (hV : ev_V ba) (hfree : ∀ j, j < n → ev_U ba (s + j) = 0)
    (hp : post (fk, fs, ev_mA ba (64 * f + p) s n, ev_mV ba ia (64 * f + p) s n, ev_U (ev_mA ba (64 * f + p) s n), kb, ki)) :
    wpX_movePieces post (fk, fs, ba, ia, ev_U ba, kb, ki) (nI f) (nI p) (nI n) (nI s) :=
  ⟨_, ex_mv_l hf hpn hs hV hfree hp n 0 (by omega)⟩
theorem ex_k38 {post : SX → Prop} {K S : Nat} (hK : K ≤ 4) (hS : S < 4) (hp : post (nI (ev_kK K), nI ((S + 1) % 4), ba, ia, ua, kb, ev_fl ki ia (S * 192) 192)) : ∀ d i, i + d = 192 → wX_keepState_38 post (nI K) (nI S) (d + 1) (nI i) ba ia ua kb (ev_fl ki ia (S * 192) i) := by
  intro d
  induction d with
  | zero =>
    intro i h
    refine br_t (nI_le (a := 192) (by omega) (by omega)) ⟨ev_n4, ?_⟩
    rw [nI_1, ev_r4 (by omega)]
    refine nm_e ?_
    rw [show i = 192 by omega]
    unfold ev_kK at hp
    by_cases z : K = 4
    · rw [if_pos z] at hp
      refine br_t (nI_le (a := 4) (by omega) (by omega)) ?_
      rw [z]; exact hp
    · rw [if_neg z] at hp
      exact br_f (nI_ge (b := 4) (by omega) (by omega)) (nm_r (nI_1 K) hp)
  | succ d ih =>
    intro i h
    refine br_f (nI_ge (b := 192) (by omega) (by omega)) ⟨vp_in_nI (by omega) (by omega), ?_⟩
    rw [ev_x192, nI_add, nI_clamp (n := i) (by omega), nI_clamp (by omega)]
    exact ⟨vp_in_nI (by omega) (by omega), nm_r (ev_fl_s ki ia (S * 192) i) (nm_r (nI_1 i) (ih (i + 1) (by omega)))⟩
theorem ex_k2 {post : SX → Prop} {K S : Nat} (hK : K ≤ 4) (hS : S < 4) (hp : post (nI (ev_kK K), nI ((S + 1) % 4), ba, ia, ua, ev_fl kb ba (S * 512) 512, ev_fl ki ia (S * 192) 192)) : ∀ d i, i + d = 512 → wX_keepState_2 post (nI K) (nI S) (d + 1) (nI i) ba ia ua (ev_fl kb ba (S * 512) i) ki := by
  intro d
  induction d with
  | zero =>
    intro i h
    refine br_t (nI_le (a := 512) (by omega) (by omega)) ?_
    rw [show i = 512 by omega]
    have := ex_k38 hK hS hp 192 0 (by omega)
    rw [ev_fl_0] at this
    exact ⟨_, this⟩
  | succ d ih =>
    intro i h
    refine br_f (nI_ge (b := 512) (by omega) (by omega)) ⟨vp_in_nI (by omega) (by omega), ?_⟩
    rw [ev_x512, nI_add, nI_clamp (n := i) (by omega), nI_clamp (by omega)]
    exact ⟨vp_in_nI (by omega) (by omega), nm_r (ev_fl_s kb ba (S * 512) i) (nm_r (nI_1 i) (ih (i + 1) (by omega)))⟩
theorem ex_keep {post : SX → Prop} {K S : Nat} (hK : K ≤ 4) (hS : S < 4) (hp : post (nI (ev_kK K), nI ((S + 1) % 4), ba, ia, ua, ev_fl kb ba (S * 512) 512, ev_fl ki ia (S * 192) 192)) : wpX_keepState post (nI K, nI S, ba, ia, ua, kb, ki) := by
  have h := ex_k2 hK hS hp 512 0 (by omega)
  rw [ev_fl_0] at h
  exact ⟨_, h⟩
theorem ex_r35 {post : SX → Prop} {T : Nat} (hT : T < 4) (hV : ev_V ba) (hg : ∀ k, k < 512 → kb (T * 512 + k) = -1 ∨ ∃ b, b < 192 ∧ kb (T * 512 + k) = nI b)
    (hp : post (fk, fs, ev_fl ba (fun k => kb (T * 512 + k)) 0 512, ia, ev_U (ev_fl ba (fun k => kb (T * 512 + k)) 0 512), kb, ki)) : ∀ d i, i + d = 512 → wX_restoreState_35 post (nI T) (d + 1) (nI i) fk fs (ev_fl ba (fun k => kb (T * 512 + k)) 0 i) ia (ev_U (ev_fl ba (fun k => kb (T * 512 + k)) 0 i)) kb ki := by
  intro d
  induction d with
  | zero =>
    intro i h
    refine br_t (nI_le (a := 512) (by omega) (by omega)) ?_
    rw [show i = 512 by omega]; exact hp
  | succ d ih =>
    intro i h
    refine br_f (nI_ge (b := 512) (by omega) (by omega)) ?_
    rw [ev_x512, nI_add, nI_clamp (by omega)]
    refine ⟨vp_in_nI (by omega) (by omega), ex_setBlock (by omega) (ev_fl_V hV hg) (hg i (by omega)) ?_⟩
    have e := ev_fl_s ba (fun k => kb (T * 512 + k)) 0 i
    rw [Nat.zero_add] at e
    rw [e]
    exact nm_r (nI_1 i) (ih (i + 1) (by omega))
theorem ex_r2 {post : SX → Prop} {T : Nat} (hT : T < 4) (hV : ev_V ba) (hg : ∀ k, k < 512 → kb (T * 512 + k) = -1 ∨ ∃ b, b < 192 ∧ kb (T * 512 + k) = nI b)
    (hp : post (fk, fs, ev_fl ba (fun k => kb (T * 512 + k)) 0 512, ev_fl ia (fun b => ki (T * 192 + b)) 0 192, ev_U (ev_fl ba (fun k => kb (T * 512 + k)) 0 512), kb, ki)) : ∀ d i, i + d = 192 → wX_restoreState_2 post (nI T) fk fs (d + 1) (nI i) ba (ev_fl ia (fun b => ki (T * 192 + b)) 0 i) (ev_U ba) kb ki := by
  intro d
  induction d with
  | zero =>
    intro i h
    refine br_t (nI_le (a := 192) (by omega) (by omega)) ?_
    rw [show i = 192 by omega]
    have := ex_r35 hT hV hg hp 512 0 (by omega)
    rw [ev_fl_0] at this
    exact ⟨_, this⟩
  | succ d ih =>
    intro i h
    refine br_f (nI_ge (b := 192) (by omega) (by omega)) ?_
    rw [ev_x192, nI_add, nI_clamp (n := i) (by omega), nI_clamp (by omega)]
    have e := ev_fl_s ia (fun b => ki (T * 192 + b)) 0 i
    rw [Nat.zero_add] at e
    exact ⟨vp_in_nI (by omega) (by omega), vp_in_nI (by omega) (by omega), nm_r e (nm_r (nI_1 i) (ih (i + 1) (by omega)))⟩
theorem ex_restore {post : SX → Prop} {T : Nat} (hT : T < 4) (hV : ev_V ba) (hg : ∀ k, k < 512 → kb (T * 512 + k) = -1 ∨ ∃ b, b < 192 ∧ kb (T * 512 + k) = nI b)
    (hp : post (fk, fs, ev_fl ba (fun k => kb (T * 512 + k)) 0 512, ev_fl ia (fun b => ki (T * 192 + b)) 0 192, ev_U (ev_fl ba (fun k => kb (T * 512 + k)) 0 512), kb, ki)) : wpX_restoreState post (fk, fs, ba, ia, ev_U ba, kb, ki) (nI T) := by
  have h := ex_r2 hT hV hg hp 192 0 (by omega)
  rw [ev_fl_0] at h
  exact ⟨_, h⟩
theorem ex_si {post : SX → Prop} {f p n : Nat} {x : Int32} (hf : f < 8) (hpn : p + n ≤ 64) (hA : ∀ i, i < n → ∃ b, b < 192 ∧ ba (64 * f + p + i) = nI b) (hp : post (fk, fs, ba, ev_iV ba ia x (64 * f + p) n, ua, kb, ki)) : ∀ d i, i + d = n → wX_setInts_3 post (nI f) (nI p) (nI n) x fk fs (d + 1) (nI i) ba (ev_iV ba ia x (64 * f + p) i) ua kb ki := by
  intro d
  induction d with
  | zero =>
    intro i h
    refine br_t (nI_le (by omega) (by omega)) ?_
    rw [show i = n by omega]; exact hp
  | succ d ih =>
    intro i h
    refine br_f (nI_ge (by omega) (by omega)) ?_
    rw [ev_ix, nI_add, nI_clamp (by omega)]
    refine ⟨vp_in_nI (by omega) (by omega), nm_e ?_⟩
    obtain ⟨b, hb, e⟩ := hA i (by omega)
    have hi := ih (i + 1) (by omega)
    have hv : ev_iV ba ia x (64 * f + p) (i + 1) = upd (ev_iV ba ia x (64 * f + p) i) b (x + nI i) := by
      show upd (ev_iV ba ia x (64 * f + p) i) (ba (64 * f + p + i)).toNatClampNeg (x + nI i) = _
      rw [e, nI_clamp (by omega)]
    refine br_f (by rw [e]; exact ev_ne1 (by omega)) ?_
    rw [e, nI_clamp (by omega)]
    exact ⟨vp_in_nI hb (by omega), nm_r hv.symm (nm_r (nI_1 i) hi)⟩
theorem ex_setInts {post : SX → Prop} {f p n : Nat} {x : Int32} (hf : f < 8) (hpn : p + n ≤ 64) (hA : ∀ i, i < n → ∃ b, b < 192 ∧ ba (64 * f + p + i) = nI b) (hp : post (fk, fs, ba, ev_iV ba ia x (64 * f + p) n, ua, kb, ki)) : wpX_setInts post (fk, fs, ba, ia, ua, kb, ki) (nI f) (nI p) (nI n) x :=
  ⟨_, ex_si hf hpn hA hp n 0 (by omega)⟩
end
