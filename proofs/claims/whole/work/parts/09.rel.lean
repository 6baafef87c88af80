def rc_ (n m e : Nat) (pp kk ff ss : Nat → Nat) (ew : Nat → Bool) (ep : Int32) (hd nd kd fd sd : Nat → Int32) : Prop :=
  n ≤ 4 ∧ m ≤ 3 ∧ (∀ i, i < 4 → nd i = nI (pp i) ∧ pp i < 1728) ∧ (∀ i, i < 3 → kd i = nI (kk i) ∧ kk i < 3) ∧ (∀ i, i < 3 → fd i = nI (ff i) ∧ ff i < 12) ∧ (∀ i, i < 3 → sd i = nI (ss i) ∧ ss i < 12) ∧
  ((ep = nI e ∧ e < 1728 ∧ ew = vq_ e) ∨ (ep = -1 ∧ ew = fun _ => false)) ∧ (∀ s, hd s = 0 ∨ hd s = 1)
/-- the same set, query and counts; the class's two masks are those of the query; its scratch, and the reference's, are free -/
def i_Rel (_ : Nat) (u : SX) (v : SY) : Prop := ∃ (pc ep bs mo : Int32) (n m e : Nat) (pp kk ff ss : Nat → Nat) (ew : Nat → Bool) (hd nd kd fd sd ps gn sl : Nat → Int32),
  u = (pc, nI n, ep, nI m, mb_I (nb_ pp n), mb_I ew, hd, nd, kd, fd, sd, ps) ∧ v = (pc, nI n, ep, nI m, bs, mo, hd, nd, kd, fd, sd, gn, sl) ∧ rc_ n m e pp kk ff ss ew ep hd nd kd fd sd
section
variable (pc nc ep cc nv ev bs mo : Int32) (hd nd kd fd sd ps gn sl : Nat → Int32)
theorem re_mk {k n m e : Nat} {pp kk ff ss : Nat → Nat} {ew : Nat → Bool} (R : rc_ n m e pp kk ff ss ew ep hd nd kd fd sd) : i_Rel k (pc, nI n, ep, nI m, mb_I (nb_ pp n), mb_I ew, hd, nd, kd, fd, sd, ps) (pc, nI n, ep, nI m, bs, mo, hd, nd, kd, fd, sd, gn, sl) :=
  ⟨pc, ep, bs, mo, n, m, e, pp, kk, ff, ss, ew, hd, nd, kd, fd, sd, ps, gn, sl, rfl, rfl, R⟩
/-! refusals -/
theorem rx_isS {post : Int32 → Prop} {j : Nat} (hj : j < 2 ^ 31) (h1 : j < 256 → post 1) (h0 : 256 ≤ j → post 0) : wpX_isStatement post (nI j) := pk_lt j 0 (fun z => absurd z (by omega)) (fun _ => pk_le 256 j h0 h1)
theorem rx_isP {post : Int32 → Prop} {j : Nat} (hj : j < 2 ^ 31) (h1 : j < 1728 → post 1) (h0 : 1728 ≤ j → post 0) : wpX_isPattern post (nI j) := pk_lt j 0 (fun z => absurd z (by omega)) (fun _ => pk_le 1728 j h0 h1)
theorem rx_isE {post : Int32 → Prop} {j : Nat} (hj : j < 2 ^ 31) (h1 : j < 12 → post 1) (h0 : 12 ≤ j → post 0) : wpX_isEntry post (nI j) := pk_lt j 0 (fun z => absurd z (by omega)) (fun _ => pk_le 12 j h0 h1)
theorem rx_isV {post : Int32 → Prop} {j : Nat} (hj : j < 2 ^ 31) (h1 : j < 4 → post 1) (h0 : 4 ≤ j → post 0) : wpX_isVariable post (nI j) := pk_lt j 0 (fun z => absurd z (by omega)) (fun _ => pk_le 4 j h0 h1)
theorem ry_bS {post : Int32 → Prop} {j : Nat} (hj : j < 2 ^ 31) (h0 : j < 256 → post 0) (h1 : 256 ≤ j → post 1) : wpY_badStatement post (pc, nc, ep, cc, bs, mo, hd, nd, kd, fd, sd, gn, sl) (nI j) := pk_lt j 0 (fun z => absurd z (by omega)) (fun _ => pk_le j 255 (fun z => h0 (by omega)) (fun z => h1 (by omega)))
theorem ry_bP {post : Int32 → Prop} {j : Nat} (hj : j < 2 ^ 31) (h0 : j < 1728 → post 0) (h1 : 1728 ≤ j → post 1) : wpY_badPattern post (pc, nc, ep, cc, bs, mo, hd, nd, kd, fd, sd, gn, sl) (nI j) := pk_lt j 0 (fun z => absurd z (by omega)) (fun _ => pk_le j 1727 (fun z => h0 (by omega)) (fun z => h1 (by omega)))
theorem ry_bV {post : Int32 → Prop} {j : Nat} (hj : j < 2 ^ 31) (h0 : j < 4 → post 0) (h1 : 4 ≤ j → post 1) : wpY_badVariable post (pc, nc, ep, cc, bs, mo, hd, nd, kd, fd, sd, gn, sl) (nI j) := pk_lt j 0 (fun z => absurd z (by omega)) (fun _ => pk_le j 3 (fun z => h0 (by omega)) (fun z => h1 (by omega)))
theorem re_48 (x : Int32) : x < 48 ↔ x ≤ 47 := by
  rw [Int32.lt_iff_toInt_lt, Int32.le_iff_toInt_le, show (48 : Int32).toInt = 48 from by decide, show (47 : Int32).toInt = 47 from by decide]
  omega
theorem re_48n (x : Int32) : 48 ≤ x ↔ ¬ x < 48 := Int32.not_lt.symm
/-! state and sow -/
def pu_ (s : Int32 × (Nat → Int32)) (j : Nat) : Int32 × (Nat → Int32) := if s.2 j = 0 then (if s.1 < 48 then (s.1 + 1, upd s.2 j 1) else s) else s
def ps_ (s : Int32 × (Nat → Int32)) (j : Nat) : Int32 := if s.2 j = 0 then (if s.1 < 48 then 1 else -2) else 0
theorem pu_h {s : Int32 × (Nat → Int32)} {j : Nat} (h : ¬ s.2 j = 0) : pu_ s j = s ∧ ps_ s j = 0 := ⟨if_neg h, if_neg h⟩
theorem pu_f {s : Int32 × (Nat → Int32)} {j : Nat} (h : s.2 j = 0) (h2 : ¬ s.1 < 48) : pu_ s j = s ∧ ps_ s j = -2 := by
  unfold pu_ ps_; rw [if_pos h, if_neg h2, if_pos h, if_neg h2]; exact ⟨rfl, rfl⟩
theorem pu_n {s : Int32 × (Nat → Int32)} {j : Nat} (h : s.2 j = 0) (h2 : s.1 < 48) : pu_ s j = (s.1 + 1, upd s.2 j 1) ∧ ps_ s j = 1 := by
  unfold pu_ ps_; rw [if_pos h, if_pos h2, if_pos h, if_pos h2]; exact ⟨rfl, rfl⟩
theorem pu_01 {s : Int32 × (Nat → Int32)} {j : Nat} (h : ∀ t, s.2 t = 0 ∨ s.2 t = 1) : ∀ t, (pu_ s j).2 t = 0 ∨ (pu_ s j).2 t = 1 := by
  by_cases h0 : s.2 j = 0
  · by_cases h2 : s.1 < 48
    · rw [(pu_n h0 h2).1]
      intro t
      by_cases e : t = j
      · subst e; right; exact pk_us
      · show upd s.2 j 1 t = 0 ∨ _
        rw [show (s.1 + 1, upd s.2 j 1).2 t = upd s.2 j 1 t from rfl, pk_un e]; exact h t
    · rw [(pu_f h0 h2).1]; exact h
  · rw [(pu_h h0).1]; exact h
theorem rx_put {post : SX → Prop} {j : Nat} (hj : j < 256) (h : post ((pu_ (pc, hd) j).1, nc, ep, cc, nv, ev, (pu_ (pc, hd) j).2, nd, kd, fd, sd, ps)) : wpX_putIn post (pc, nc, ep, cc, nv, ev, hd, nd, kd, fd, sd, ps) (nI j) := by
  have hin : vp_in (nI j) 256 := vp_in_nI hj (by decide)
  refine And.intro hin ?_
  rw [nI_clamp (by omega), ar_v1]
  refine br_c (fun t => br_c (fun q => ?_) (fun q => ⟨hin, ?_⟩)) (fun t => ?_)
  · rw [(pu_f (s := (pc, hd)) t ((re_48n _).mp q)).1] at h; exact h
  · rw [(pu_n (s := (pc, hd)) t (Int32.not_le.mp q)).1] at h; exact nm_e (nm_e h)
  · rw [(pu_h (s := (pc, hd)) t).1] at h; exact h
theorem rx_state {post : Int32 → SX → Prop} {j : Nat} (hj : j < 256) (h : post (ps_ (pc, hd) j) ((pu_ (pc, hd) j).1, nc, ep, cc, nv, ev, (pu_ (pc, hd) j).2, nd, kd, fd, sd, ps)) : wpX_state post (pc, nc, ep, cc, nv, ev, hd, nd, kd, fd, sd, ps) (nI j) := by
  have hin : vp_in (nI j) 256 := vp_in_nI hj (by decide)
  unfold wpX_state
  dsimp only
  refine rx_isS (by omega) (fun _ => br_f ar_n0 ⟨hin, ?_⟩) (fun z => absurd z (by omega))
  rw [nI_clamp (by omega)]
  refine br_c (fun t => br_c (fun q => rx_put _ _ _ _ _ _ _ _ _ _ _ _ hj ?_) (fun q => ?_)) (fun t => ?_)
  · rw [(pu_n (s := (pc, hd)) t q).2] at h; exact h
  · rw [(pu_f (s := (pc, hd)) t q).1, (pu_f (s := (pc, hd)) t q).2] at h; exact h
  · rw [(pu_h (s := (pc, hd)) t).1, (pu_h (s := (pc, hd)) t).2] at h; exact h
theorem ry_state {post : Int32 → SY → Prop} {j : Nat} (hj : j < 256) (h : post (ps_ (pc, hd) j) ((pu_ (pc, hd) j).1, nc, ep, cc, bs, mo, (pu_ (pc, hd) j).2, nd, kd, fd, sd, gn, sl)) : wpY_state post (pc, nc, ep, cc, bs, mo, hd, nd, kd, fd, sd, gn, sl) (nI j) := by
  have hin : vp_in (nI j) 256 := vp_in_nI hj (by decide)
  unfold wpY_state
  dsimp only
  refine ry_bS _ _ _ _ _ _ _ _ _ _ _ _ _ (by omega) (fun _ => br_t rfl ⟨hin, ?_⟩) (fun z => absurd z (by omega))
  rw [nI_clamp (by omega), ar_v1]
  refine br_c (fun t => ar_if (re_48 _).symm (fun q => ⟨hin, ?_⟩) (fun q => ?_)) (fun t => ?_)
  · rw [(pu_n (s := (pc, hd)) t q).1, (pu_n (s := (pc, hd)) t q).2] at h; exact nm_e (nm_e h)
  · rw [(pu_f (s := (pc, hd)) t q).1, (pu_f (s := (pc, hd)) t q).2] at h; exact h
  · rw [(pu_h (s := (pc, hd)) t).1, (pu_h (s := (pc, hd)) t).2] at h; exact h
def sw_ (a b : Nat) (s : Int32 × (Nat → Int32)) : Nat → Int32 × (Nat → Int32)
  | 0 => s
  | k + 1 => pu_ (sw_ a b s k) ((a + k * b) % 256)
theorem sw_01 {a b : Nat} {s : Int32 × (Nat → Int32)} (h : ∀ t, s.2 t = 0 ∨ s.2 t = 1) : ∀ k, ∀ t, (sw_ a b s k).2 t = 0 ∨ (sw_ a b s k).2 t = 1 := by
  intro k
  induction k with
  | zero => exact h
  | succ k ih => exact pu_01 ih
theorem sw_i {a b k : Nat} (ha : a < 256) (hb : b < 256) (hk : k < 48) : (nI a + nI k * nI b) - (nI a + nI k * nI b) / 256 * 256 = nI ((a + k * b) % 256) := by
  rw [pk_mul, nI_add]
  have : k * b ≤ 48 * 256 := Nat.mul_le_mul (by omega) (by omega)
  exact ar_rem 256 (by omega)
theorem rx_sw {post : Int32 → SX → Prop} {a b c : Nat} {s : Int32 × (Nat → Int32)} (ha : a < 256) (hb : b < 256) (hc : c ≤ 48) (h : post (sw_ a b s c).1 ((sw_ a b s c).1, nc, ep, cc, nv, ev, (sw_ a b s c).2, nd, kd, fd, sd, ps)) :
    ∀ d k, k + d = c → wX_sow_40 post (nI a) (nI b) (nI c) (d + 1) (nI k) ((sw_ a b s k).1) nc ep cc nv ev ((sw_ a b s k).2) nd kd fd sd ps := by
  intro d
  induction d with
  | zero =>
    intro k hk
    have e : k = c := by omega
    subst e
    exact pk_le k k (fun _ => h) (fun q => absurd q (by omega))
  | succ d ih =>
    intro k hk
    refine pk_le c k (fun q => absurd q (by omega)) (fun q => ⟨by decide, nm_r (sw_i ha hb (by omega)) ?_⟩)
    exact rx_put _ _ _ _ _ _ _ _ _ _ _ _ (Nat.mod_lt _ (by decide)) (nm_r (nI_1 k) (ih (k + 1) (by omega)))
theorem ry_sw {post : Int32 → SY → Prop} {a b c : Nat} {s : Int32 × (Nat → Int32)} (ha : a < 256) (hb : b < 256) (hc : c ≤ 48) (h : post (sw_ a b s c).1 ((sw_ a b s c).1, nc, ep, cc, bs, mo, (sw_ a b s c).2, nd, kd, fd, sd, gn, sl)) :
    ∀ d k, k + d = c → wY_sow_41 post (nI a) (nI b) (nI c) (d + 1) (nI k) ((sw_ a b s k).1) nc ep cc bs mo ((sw_ a b s k).2) nd kd fd sd gn sl := by
  intro d
  induction d with
  | zero =>
    intro k hk
    have e : k = c := by omega
    subst e
    exact pk_le k k (fun _ => h) (fun q => absurd q (by omega))
  | succ d ih =>
    intro k hk
    refine pk_le c k (fun q => absurd q (by omega)) (fun q => ⟨by decide, ?_⟩)
    rw [sw_i ha hb (by omega)]
    exact ry_state _ _ _ _ _ _ _ _ _ _ _ _ _ (Nat.mod_lt _ (by decide)) (nm_r (nI_1 k) (ih (k + 1) (by omega)))
/-! the masks of the query -/
theorem ax_var1 {post : Int32 → Prop} {e : Nat} (he : e < 12) (h : post (mb_I (fun v => e == 8 + v))) : wpX_variableOf post (nI e) := by
  refine pk_le 8 e (fun z => ?_) (fun z => ?_)
  · rw [ar_x8 z, mb_one _ (by omega)]
    refine ar_p (P := post) (mb_congr (fun v hv => ?_)) h
    rw [Bool.eq_iff_iff, beq_iff_eq, beq_iff_eq]; omega
  · refine ar_p (P := post) (mb_0.symm.trans (mb_congr (fun v hv => ?_))) h
    symm; rw [beq_eq_false_iff_ne]; omega
theorem ax_vars {post : Int32 → Prop} {p : Nat} (hp : p < 1728) (h : post (mb_I (vq_ p))) : wpX_variablesOf post (nI p) := by
  unfold wpX_variablesOf
  refine ax_subj hp (ax_link hp (ax_obj hp (ax_var1 (en_lt hp 0) (ax_var1 (en_lt hp 1) (ax_var1 (en_lt hp 2) ?_)))))
  rw [mb_or, mb_or]
  exact h
theorem rx_nl {post : SX → Prop} {n : Nat} {pp : Nat → Nat} (hn : n ≤ 4) (hnd : ∀ i, i < 4 → nd i = nI (pp i) ∧ pp i < 1728) (h : post (pc, nI n, ep, cc, mb_I (nb_ pp n), ev, hd, nd, kd, fd, sd, ps)) :
    ∀ d i, i + d = n → wX_noteNeededVariables_7 post pc (nI n) ep cc ev hd nd kd fd sd ps (d + 1) (nI i) (mb_I (nb_ pp i)) := by
  intro d
  induction d with
  | zero =>
    intro i hi
    have e : i = n := by omega
    subst e
    exact pk_le i i (fun _ => h) (fun q => absurd q (by omega))
  | succ d ih =>
    intro i hi
    refine pk_le n i (fun q => absurd q (by omega)) (fun q => ⟨vp_in_nI (by omega) (by decide), ?_⟩)
    rw [nI_clamp (by omega), (hnd i (by omega)).1]
    exact ax_vars (hnd i (by omega)).2 (nm_r (mb_or _ _) (nm_r (nI_1 i) (ih (i + 1) (by omega))))
theorem rx_note {post : SX → Prop} {n : Nat} {pp : Nat → Nat} (hn : n ≤ 4) (hnd : ∀ i, i < 4 → nd i = nI (pp i) ∧ pp i < 1728) (h : post (pc, nI n, ep, cc, mb_I (nb_ pp n), ev, hd, nd, kd, fd, sd, ps)) : wpX_noteNeededVariables post (pc, nI n, ep, cc, nv, ev, hd, nd, kd, fd, sd, ps) := by
  refine Exists.intro (n + 1) ?_
  have k := rx_nl pc ep cc ev hd nd kd fd sd ps hn hnd h n 0 (by omega)
  have e0 : mb_I (nb_ pp 0) = 0 := mb_0
  rw [e0] at k
  exact k
/-! matching -/
theorem rx_ml {post : Int32 → Prop} {p : Nat} (hp : p < 1728) (h : post (nI (cn_ (fun s => ¬ hd s = 0 ∧ fy_ s p) 0 256))) :
    ∀ d i, i + d = 256 → wX_matching_13 post (nI p) pc nc ep cc nv ev hd nd kd fd sd ps (d + 1) (nI (cn_ (fun s => ¬ hd s = 0 ∧ fy_ s p) 0 i)) (nI i) := by
  intro d
  induction d with
  | zero =>
    intro i hi
    have e : i = 256 := by omega
    subst e
    exact pk_le 256 256 (fun _ => h) (fun q => absurd q (by omega))
  | succ d ih =>
    intro i hi
    have k := ih (i + 1) (by omega)
    refine pk_le 256 i (fun q => absurd q (by omega)) (fun q => ⟨vp_in_nI (by omega) (by decide), ?_⟩)
    rw [nI_clamp (by omega)]
    refine br_c (fun t => ?_) (fun t => ax_fits (c := 6560) (by omega) hp (by decide) (fun w => br_f ar_n0 ?_) (fun w => br_t rfl ?_))
    · rw [cn_f0 (fun z => z.1 t)] at k
      exact nm_r (nI_1 i) k
    · rw [cn_t0 ⟨t, (pu_match hp (by omega)).mp w⟩] at k
      exact nm_r (nI_1 _) (nm_r (nI_1 i) k)
    · rw [cn_f0 (fun z => w ((pu_match hp (by omega)).mpr z.2))] at k
      exact nm_r (nI_1 i) k
theorem ry_ml {post : Int32 → Prop} {p : Nat} (hp : p < 1728) (h : post (nI (cn_ (fun s => ¬ hd s = 0 ∧ fy_ s p) 0 256))) :
    ∀ d i, i + d = 256 → wY_matching_14 post (nI p) pc nc ep cc bs mo hd nd kd fd sd gn sl (d + 1) (nI (cn_ (fun s => ¬ hd s = 0 ∧ fy_ s p) 0 i)) (nI i) := by
  intro d
  induction d with
  | zero =>
    intro i hi
    have e : i = 256 := by omega
    subst e
    exact pk_le 256 256 (fun _ => h) (fun q => absurd q (by omega))
  | succ d ih =>
    intro i hi
    have k := ih (i + 1) (by omega)
    refine pk_le 256 i (fun q => absurd q (by omega)) (fun q => ⟨vp_in_nI (by omega) (by decide), ?_⟩)
    rw [nI_clamp (by omega)]
    refine br_c (fun t => ?_) (fun t => ay_fits _ _ _ _ _ _ _ _ _ _ _ _ _ (by omega) hp (fun w => br_f ar_n0 ?_) (fun w => br_t rfl ?_))
    · rw [cn_f0 (fun z => z.1 t)] at k
      exact nm_r (nI_1 i) k
    · rw [cn_t0 ⟨t, w⟩] at k
      exact nm_r (nI_1 _) (nm_r (nI_1 i) k)
    · rw [cn_f0 (fun z => w z.2)] at k
      exact nm_r (nI_1 i) k
/-! the class's solves is the reference's table -/
theorem rx_sol {wo : Int32} {hd' : Nat → Int32} {n m e : Nat} {pp kk ff ss : Nat → Nat} {ew : Nat → Bool} (R : rc_ n m e pp kk ff ss ew ep hd nd kd fd sd) (hb : ∀ s, s < 256 → (eb_ hd wo s ↔ hb_ hd' s)) :
    xs_ (pc, nI n, ep, nI m, mb_I (nb_ pp n), mb_I ew, hd, nd, kd, fd, sd, ps) wo (sF_ hd' n pp m kk ff ss ew e) := by
  obtain ⟨hn, hm, hnd, hk, hf, hs, hex, h01⟩ := R
  intro c hc post h1 h0
  have i : sx_ (eb_ hd wo) n pp m kk ff ss (nb_ pp n) ew e c ↔ sF_ hd' n pp m kk ff ss ew e c := (pu_sx hb).trans (pu_main hc (hex.imp (fun h => h.2) (fun h => h.2)))
  refine ax_solves _ _ _ _ _ _ _ _ hn hnd hm hk hf hs hc (fun q => ?_) (fun w => h1 (i.mp w)) (fun w => h0 (fun z => w (i.mpr z)))
  rcases hex with h | ⟨_, rfl⟩
  · exact ⟨h.1, h.2.1⟩
  · exact absurd (mb_congr (fun v hv => by show (!nb_ pp n v) = (!nb_ pp n v && true); rw [Bool.and_true])) q
theorem rx_m1 (s : Nat) (h : s < 256) : eb_ hd (-1) s ↔ hb_ hd s := ⟨fun k => k.1, fun k => ⟨k, ar_ne (by omega)⟩⟩
theorem rx_ws {t : Nat} (ht : t < 256) (s : Nat) (h : s < 256) : eb_ hd (nI t) s ↔ hb_ (upd hd t 0) s := by
  unfold eb_ hb_
  rw [nI_eq (by omega) (by omega)]
  by_cases e : s = t
  · subst e; rw [pk_us]; exact ⟨fun k => absurd rfl k.2, fun k => absurd rfl k⟩
  · rw [pk_un e]; exact ⟨fun k => k.1, fun k => ⟨k, e⟩⟩
theorem ry_work {post : Int32 → SY → Prop} {n m e : Nat} {pp kk ff ss : Nat → Nat} {ew : Nat → Bool} {hd' : Nat → Int32} (R : rc_ n m e pp kk ff ss ew ep hd nd kd fd sd)
    (hp : ∀ bs mo gn sl, sz_ (sF_ hd' n pp m kk ff ss ew e) sl → post (nI (cn_ (sF_ hd' n pp m kk ff ss ew e) 0 6561)) (pc, nI n, ep, nI m, bs, mo, hd', nd, kd, fd, sd, gn, sl)) : wpY_work post (pc, nI n, ep, nI m, bs, mo, hd', nd, kd, fd, sd, gn, sl) := by
  obtain ⟨hn, hm, hnd, hk, hf, hs, hex, h01⟩ := R
  exact ay_work _ _ _ _ _ _ _ _ _ _ _ hn hnd hm hk hf hs hex (fun bs mo gn sl h => hp bs mo gn sl (sz_iv h))
end
