theorem i_up {k : Nat} {u : SX} {v : SY} (h : i_Rel k u v) : i_Rel (k + 4) u v := h
theorem i_vc0 : wpX_init (fun u => wpY_init (fun v => i_Rel 0 u v)) := by
  refine ⟨0, -1, 0, 0, 0, 0, 0, fun _ => 0, fun _ => 0, fun _ => 0, fun _ => 0, fun _ => false, fun _ => 0, fun _ => 0, fun _ => 0, fun _ => 0, fun _ => 0, fun _ => 0, fun _ => 0, fun _ => 0, ?_, rfl, by decide, by decide, fun _ _ => ⟨rfl, Nat.zero_lt_succ 1727⟩, fun _ _ => ⟨rfl, Nat.zero_lt_succ 2⟩, fun _ _ => ⟨rfl, Nat.zero_lt_succ 11⟩, fun _ _ => ⟨rfl, Nat.zero_lt_succ 11⟩, Or.inr ⟨rfl, rfl⟩, fun _ => Or.inl rfl⟩
  rw [show mb_I (nb_ (fun _ => 0) 0) = 0 from mb_0, show mb_I (fun _ => false) = 0 from mb_0]
  rfl
theorem i_vc_state {k : Nat} {u : SX} {v : SY} (I : i_Rel k u v) (hk : k + 4 ≤ 2048) (v1 : Int32) : wpX_state (fun r u' => wpY_state (fun r' v' => r' = r ∧ i_Rel (k + 4) u' v') v v1) u v1 := by
  obtain ⟨pc, ep, bs, mo, n, m, e, pp, kk, ff, ss, ew, hd, nd, kd, fd, sd, ps, gn, sl, rfl, rfl, R⟩ := I
  have J := re_mk (k := k + 4) pc ep bs mo hd nd kd fd sd ps gn sl R
  by_cases h : v1 < 0
  · unfold wpX_state wpY_state
    dsimp only
    exact br_t h (br_t rfl (br_t h (br_f ar_n0 ⟨rfl, J⟩)))
  · obtain ⟨j, hj, rfl⟩ := nI_of h
    by_cases h2 : j < 256
    · refine rx_state _ _ _ _ _ _ _ _ _ _ _ _ h2 (ry_state _ _ _ _ _ _ _ _ _ _ _ _ _ h2 ⟨rfl, re_mk (e := e) (kk := kk) (ff := ff) (ss := ss) _ _ _ _ _ _ _ _ _ _ _ _ ?_⟩)
      obtain ⟨a1, a2, a3, a4, a5, a6, a7, a8⟩ := R
      exact ⟨a1, a2, a3, a4, a5, a6, a7, pu_01 a8⟩
    · unfold wpX_state wpY_state
      dsimp only
      exact rx_isS hj (fun z => absurd z h2) (fun _ => br_t rfl (ry_bS _ _ _ _ _ _ _ _ _ _ _ _ _ hj (fun z => absurd z h2) (fun _ => br_f ar_n0 ⟨rfl, J⟩)))
theorem i_vc_sow {k : Nat} {u : SX} {v : SY} (I : i_Rel k u v) (hk : k + 4 ≤ 2048) (v1 : Int32) (v2 : Int32) (v3 : Int32) : wpX_sow (fun r u' => wpY_sow (fun r' v' => r' = r ∧ i_Rel (k + 4) u' v') v v1 v2 v3) u v1 v2 v3 := by
  obtain ⟨pc, ep, bs, mo, n, m, e, pp, kk, ff, ss, ew, hd, nd, kd, fd, sd, ps, gn, sl, rfl, rfl, R⟩ := I
  have J := re_mk (k := k + 4) pc ep bs mo hd nd kd fd sd ps gn sl R
  unfold wpX_sow wpY_sow
  dsimp only
  by_cases h : v1 < 0
  · exact br_t h (br_t rfl (br_t h (br_f ar_n0 ⟨rfl, J⟩)))
  obtain ⟨a, ha, rfl⟩ := nI_of h
  by_cases h2 : a < 256
  · refine rx_isS ha (fun _ => br_f ar_n0 ?_) (fun z => absurd h2 (by omega))
    by_cases g : v2 < 0
    · exact br_t g (ry_bS _ _ _ _ _ _ _ _ _ _ _ _ _ ha (fun _ => br_t rfl (br_t g ⟨rfl, J⟩)) (fun z => absurd h2 (by omega)))
    obtain ⟨b, hb, rfl⟩ := nI_of g
    refine br_f g (pk_lt b 256 (fun b2 => ?_) (fun b2 => ry_bS _ _ _ _ _ _ _ _ _ _ _ _ _ ha (fun _ => br_t rfl (br_f g (pk_le b 255 (fun z => absurd z (by omega)) (fun _ => ⟨rfl, J⟩)))) (fun z => absurd h2 (by omega))))
    have Y2 : ∀ A : Prop, A → ((nI b ≤ 255 → A) ∧ (¬ nI b ≤ 255 → ((-2 : Int32) = -3 ∧ False))) := fun A x => pk_le b 255 (fun _ => x) (fun z => absurd b2 (by omega))
    by_cases c1 : v3 < 1
    · exact br_t c1 (ry_bS _ _ _ _ _ _ _ _ _ _ _ _ _ ha (fun _ => br_t rfl (br_f g (pk_le b 255 (fun _ => br_t c1 ⟨rfl, J⟩) (fun z => absurd b2 (by omega))))) (fun z => absurd h2 (by omega)))
    by_cases c2 : v3 ≤ 48
    · have c0 : ¬ v3 < 0 := fun z => c1 (Int32.lt_trans z (by decide))
      obtain ⟨c, hc, rfl⟩ := nI_of c0
      have c3 : c ≤ 48 := (nI_leI hc (by decide)).mp c2
      refine br_f c1 (br_t c2 ⟨c + 1, rx_sw _ _ _ _ _ _ _ _ _ _ (s := (pc, hd)) h2 b2 c3 ?_ c 0 (by omega)⟩)
      refine ry_bS _ _ _ _ _ _ _ _ _ _ _ _ _ ha (fun _ => br_t rfl (br_f g (pk_le b 255 (fun _ => br_f c1 (br_t c2 ⟨c + 1, ry_sw _ _ _ _ _ _ _ _ _ _ _ (s := (pc, hd)) h2 b2 c3 ?_ c 0 (by omega)⟩)) (fun z => absurd b2 (by omega))))) (fun z => absurd h2 (by omega))
      refine ⟨rfl, re_mk (e := e) (kk := kk) (ff := ff) (ss := ss) _ _ _ _ _ _ _ _ _ _ _ _ ?_⟩
      obtain ⟨a1, a2, a3, a4, a5, a6, a7, a8⟩ := R
      exact ⟨a1, a2, a3, a4, a5, a6, a7, sw_01 a8 c⟩
    · exact br_f c1 (br_f c2 (ry_bS _ _ _ _ _ _ _ _ _ _ _ _ _ ha (fun _ => br_t rfl (br_f g (pk_le b 255 (fun _ => br_f c1 (br_f c2 ⟨rfl, J⟩)) (fun z => absurd b2 (by omega))))) (fun z => absurd h2 (by omega))))
  · exact rx_isS ha (fun z => absurd z h2) (fun _ => br_t rfl (ry_bS _ _ _ _ _ _ _ _ _ _ _ _ _ ha (fun z => absurd z h2) (fun _ => br_f ar_n0 ⟨rfl, J⟩)))
theorem i_vc_retract {k : Nat} {u : SX} {v : SY} (I : i_Rel k u v) (hk : k + 4 ≤ 2048) (v1 : Int32) : wpX_retract (fun r u' => wpY_retract (fun r' v' => r' = r ∧ i_Rel (k + 4) u' v') v v1) u v1 := by
  obtain ⟨pc, ep, bs, mo, n, m, e, pp, kk, ff, ss, ew, hd, nd, kd, fd, sd, ps, gn, sl, rfl, rfl, R⟩ := I
  have J := re_mk (k := k + 4) pc ep bs mo hd nd kd fd sd ps gn sl R
  unfold wpX_retract wpY_retract
  dsimp only
  by_cases h : v1 < 0
  · exact br_t h (br_t rfl (br_t h (br_f ar_n0 ⟨rfl, J⟩)))
  obtain ⟨j, hj, rfl⟩ := nI_of h
  by_cases h2 : j < 256
  · have hin : vp_in (nI j) 256 := vp_in_nI h2 (by decide)
    rw [nI_clamp (by omega), ar_v0]
    refine rx_isS hj (fun _ => br_f ar_n0 ⟨hin, br_c (fun t => ?_) (fun t => ⟨hin, nm_e (nm_e ?_)⟩)⟩) (fun z => absurd h2 (by omega))
    · exact ry_bS _ _ _ _ _ _ _ _ _ _ _ _ _ hj (fun _ => br_t rfl ⟨hin, br_t t ⟨rfl, J⟩⟩) (fun z => absurd h2 (by omega))
    · refine ry_bS _ _ _ _ _ _ _ _ _ _ _ _ _ hj (fun _ => br_t rfl ⟨hin, br_f t ⟨hin, nm_e (nm_e ⟨rfl, re_mk (e := e) (kk := kk) (ff := ff) (ss := ss) _ _ _ _ _ _ _ _ _ _ _ _ ?_⟩)⟩⟩) (fun z => absurd h2 (by omega))
      obtain ⟨a1, a2, a3, a4, a5, a6, a7, a8⟩ := R
      refine ⟨a1, a2, a3, a4, a5, a6, a7, fun s => ?_⟩
      by_cases e : s = j
      · subst e; exact Or.inl pk_us
      · rw [pk_un e]; exact a8 s
  · exact rx_isS hj (fun z => absurd z h2) (fun _ => br_t rfl (ry_bS _ _ _ _ _ _ _ _ _ _ _ _ _ hj (fun z => absurd z h2) (fun _ => br_f ar_n0 ⟨rfl, J⟩)))
theorem re_upd {a : Nat → Int32} {f : Nat → Nat} {N B n x : Nat} (h : ∀ i, i < N → a i = nI (f i) ∧ f i < B) (hx : x < B) : ∀ i, i < N → upd a n (nI x) i = nI (if i = n then x else f i) ∧ (if i = n then x else f i) < B := by
  intro i hi
  by_cases e : i = n
  · subst e; rw [pk_us, if_pos rfl]; exact ⟨rfl, hx⟩
  · rw [pk_un e, if_neg e]; exact h i hi
theorem i_vc_need {k : Nat} {u : SX} {v : SY} (I : i_Rel k u v) (hk : k + 4 ≤ 2048) (v1 : Int32) : wpX_need (fun r u' => wpY_need (fun r' v' => r' = r ∧ i_Rel (k + 4) u' v') v v1) u v1 := by
  obtain ⟨pc, ep, bs, mo, n, m, e, pp, kk, ff, ss, ew, hd, nd, kd, fd, sd, ps, gn, sl, rfl, rfl, R⟩ := I
  have J := re_mk (k := k + 4) pc ep bs mo hd nd kd fd sd ps gn sl R
  obtain ⟨a1, a2, a3, a4, a5, a6, a7, a8⟩ := R
  unfold wpX_need wpY_need
  dsimp only
  by_cases h : v1 < 0
  · exact br_t h (br_t rfl (br_t h (br_f ar_n0 ⟨rfl, J⟩)))
  obtain ⟨j, hj, rfl⟩ := nI_of h
  by_cases h2 : j < 1728
  · refine rx_isP hj (fun _ => br_f ar_n0 ?_) (fun z => absurd h2 (by omega))
    refine pk_lt n 4 (fun n4 => ?_) (fun n4 => ry_bP _ _ _ _ _ _ _ _ _ _ _ _ _ hj (fun _ => br_t rfl (pk_le n 3 (fun z => absurd n4 (by omega)) (fun _ => ⟨rfl, J⟩))) (fun z => absurd h2 (by omega)))
    have hin : vp_in (nI n) 4 := vp_in_nI n4 (by decide)
    rw [nI_clamp (by omega)]
    have a3' := re_upd (n := n) a3 h2
    refine ⟨hin, nm_e (nm_r (nI_1 n) (rx_note _ _ _ _ _ _ _ _ _ _ _ (by omega) a3' ?_))⟩
    refine ry_bP _ _ _ _ _ _ _ _ _ _ _ _ _ hj (fun _ => br_t rfl (pk_le n 3 (fun z => ⟨hin, nm_e (nm_r (nI_1 n) ⟨rfl, ?_⟩)⟩) (fun z => absurd n4 (by omega)))) (fun z => absurd h2 (by omega))
    exact re_mk _ _ _ _ _ _ _ _ _ _ _ _ ⟨by omega, a2, a3', a4, a5, a6, a7, a8⟩
  · exact rx_isP hj (fun z => absurd z h2) (fun _ => br_t rfl (ry_bP _ _ _ _ _ _ _ _ _ _ _ _ _ hj (fun z => absurd z h2) (fun _ => br_f ar_n0 ⟨rfl, J⟩)))
theorem i_vc_extra {k : Nat} {u : SX} {v : SY} (I : i_Rel k u v) (hk : k + 4 ≤ 2048) (v1 : Int32) : wpX_extra (fun r u' => wpY_extra (fun r' v' => r' = r ∧ i_Rel (k + 4) u' v') v v1) u v1 := by
  obtain ⟨pc, ep, bs, mo, n, m, e, pp, kk, ff, ss, ew, hd, nd, kd, fd, sd, ps, gn, sl, rfl, rfl, R⟩ := I
  have J := re_mk (k := k + 4) pc ep bs mo hd nd kd fd sd ps gn sl R
  obtain ⟨a1, a2, a3, a4, a5, a6, a7, a8⟩ := R
  unfold wpX_extra wpY_extra
  dsimp only
  by_cases h : v1 < 0
  · exact br_t h (br_t rfl (br_t h (br_f ar_n0 ⟨rfl, J⟩)))
  obtain ⟨j, hj, rfl⟩ := nI_of h
  by_cases h2 : j < 1728
  · refine rx_isP hj (fun _ => br_f ar_n0 ?_) (fun z => absurd h2 (by omega))
    have E : i_Rel (k + 4) (pc, nI n, nI j, nI m, mb_I (nb_ pp n), mb_I (vq_ j), hd, nd, kd, fd, sd, ps) (pc, nI n, nI j, nI m, bs, mo, hd, nd, kd, fd, sd, gn, sl) :=
      re_mk _ _ _ _ _ _ _ _ _ _ _ _ ⟨a1, a2, a3, a4, a5, a6, Or.inl ⟨rfl, h2, rfl⟩, a8⟩
    rcases a7 with ⟨rfl, he, _⟩ | ⟨rfl, _⟩
    · refine br_f (ar_ne (by omega)) (ax_vars h2 ?_)
      exact ry_bP _ _ _ _ _ _ _ _ _ _ _ _ _ hj (fun _ => br_t rfl (br_t (nI_pos' (by omega)) ⟨rfl, E⟩)) (fun z => absurd h2 (by omega))
    · refine br_t rfl (ax_vars h2 ?_)
      exact ry_bP _ _ _ _ _ _ _ _ _ _ _ _ _ hj (fun _ => br_t rfl (br_f (by decide) ⟨rfl, E⟩)) (fun z => absurd h2 (by omega))
  · exact rx_isP hj (fun z => absurd z h2) (fun _ => br_t rfl (ry_bP _ _ _ _ _ _ _ _ _ _ _ _ _ hj (fun z => absurd z h2) (fun _ => br_f ar_n0 ⟨rfl, J⟩)))
theorem i_vc_condition {k : Nat} {u : SX} {v : SY} (I : i_Rel k u v) (hk : k + 4 ≤ 2048) (v1 : Int32) (v2 : Int32) (v3 : Int32) : wpX_condition (fun r u' => wpY_condition (fun r' v' => r' = r ∧ i_Rel (k + 4) u' v') v v1 v2 v3) u v1 v2 v3 := by
  obtain ⟨pc, ep, bs, mo, n, m, e, pp, kk, ff, ss, ew, hd, nd, kd, fd, sd, ps, gn, sl, rfl, rfl, R⟩ := I
  have J := re_mk (k := k + 4) pc ep bs mo hd nd kd fd sd ps gn sl R
  obtain ⟨a1, a2, a3, a4, a5, a6, a7, a8⟩ := R
  unfold wpX_condition wpY_condition
  dsimp only
  by_cases h : v1 < 0
  · exact br_t h (br_t h ⟨rfl, J⟩)
  obtain ⟨x, hx, rfl⟩ := nI_of h
  refine br_f h (pk_lt x 3 (fun x3 => ?_) (fun x3 => br_f h (pk_le x 2 (fun z => absurd z (by omega)) (fun _ => ⟨rfl, J⟩))))
  by_cases g : v2 < 0
  · exact br_t g (br_t rfl (br_f h (pk_le x 2 (fun _ => br_t g ⟨rfl, J⟩) (fun z => absurd x3 (by omega)))))
  obtain ⟨y, hy, rfl⟩ := nI_of g
  by_cases y2 : y < 12
  · refine rx_isE hy (fun _ => br_f ar_n0 ?_) (fun z => absurd y2 (by omega))
    by_cases f : v3 < 0
    · exact br_t f (br_t rfl (br_f h (pk_le x 2 (fun _ => br_f g (pk_lt 11 y (fun z => absurd y2 (by omega)) (fun _ => br_t f ⟨rfl, J⟩))) (fun z => absurd x3 (by omega)))))
    obtain ⟨w, hw, rfl⟩ := nI_of f
    by_cases w2 : w < 12
    · refine rx_isE hw (fun _ => br_f ar_n0 ?_) (fun z => absurd w2 (by omega))
      refine pk_lt m 3 (fun m3 => ?_) (fun m3 => br_f h (pk_le x 2 (fun _ => br_f g (pk_lt 11 y (fun z => absurd y2 (by omega)) (fun _ => br_f f (pk_le w 11 (fun _ => pk_le m 2 (fun z => absurd z (by omega)) (fun _ => ⟨rfl, J⟩)) (fun z => absurd w2 (by omega)))))) (fun z => absurd x3 (by omega))))
      have hin : vp_in (nI m) 3 := vp_in_nI m3 (by decide)
      rw [nI_clamp (by omega)]
      refine ⟨hin, nm_e ⟨hin, nm_e ⟨hin, nm_e (nm_r (nI_1 m) ?_)⟩⟩⟩
      refine br_f h (pk_le x 2 (fun _ => br_f g (pk_lt 11 y (fun z => absurd y2 (by omega)) (fun _ => br_f f (pk_le w 11 (fun _ => pk_le m 2 (fun z => ⟨hin, nm_e ⟨hin, nm_e ⟨hin, nm_e (nm_r (nI_1 m) ⟨rfl, ?_⟩)⟩⟩⟩) (fun z => absurd m3 (by omega))) (fun z => absurd w2 (by omega)))))) (fun z => absurd x3 (by omega)))
      exact re_mk _ _ _ _ _ _ _ _ _ _ _ _ ⟨a1, by omega, a3, re_upd a4 x3, re_upd a5 y2, re_upd a6 w2, a7, a8⟩
    · exact rx_isE hw (fun z => absurd z w2) (fun _ => br_t rfl (br_f h (pk_le x 2 (fun _ => br_f g (pk_lt 11 y (fun z => absurd y2 (by omega)) (fun _ => br_f f (pk_le w 11 (fun z => absurd z (by omega)) (fun _ => ⟨rfl, J⟩))))) (fun z => absurd x3 (by omega)))))
  · exact rx_isE hy (fun z => absurd z y2) (fun _ => br_t rfl (br_f h (pk_le x 2 (fun _ => br_f g (pk_lt 11 y (fun _ => ⟨rfl, J⟩) (fun z => absurd z (by omega)))) (fun z => absurd x3 (by omega)))))
theorem i_vc_drop {k : Nat} {u : SX} {v : SY} (I : i_Rel k u v) (hk : k + 4 ≤ 2048) : wpX_drop (fun r u' => wpY_drop (fun r' v' => r' = r ∧ i_Rel (k + 4) u' v') v) u := by
  obtain ⟨pc, ep, bs, mo, n, m, e, pp, kk, ff, ss, ew, hd, nd, kd, fd, sd, ps, gn, sl, rfl, rfl, R⟩ := I
  have J := re_mk (k := k + 4) pc ep bs mo hd nd kd fd sd ps gn sl R
  obtain ⟨a1, a2, a3, a4, a5, a6, a7, a8⟩ := R
  unfold wpX_drop wpY_drop
  dsimp only
  cases n with
  | zero => exact br_t rfl (br_t rfl ⟨rfl, J⟩)
  | succ n =>
    have n0 : ¬ nI (n + 1) = 0 := nI_ne0 (by omega) (by omega)
    refine br_f n0 (nm_r (nI_pred n) (rx_note _ _ _ _ _ _ _ _ _ _ _ (by omega) a3 ?_))
    exact br_f n0 (nm_r (nI_pred n) ⟨rfl, re_mk _ _ _ _ _ _ _ _ _ _ _ _ ⟨by omega, a2, a3, a4, a5, a6, a7, a8⟩⟩)
theorem i_vc_clear {k : Nat} {u : SX} {v : SY} (I : i_Rel k u v) (hk : k + 4 ≤ 2048) : wpX_clear (fun r u' => wpY_clear (fun r' v' => r' = r ∧ i_Rel (k + 4) u' v') v) u := by
  obtain ⟨pc, ep, bs, mo, n, m, e, pp, kk, ff, ss, ew, hd, nd, kd, fd, sd, ps, gn, sl, rfl, rfl, R⟩ := I
  obtain ⟨a1, a2, a3, a4, a5, a6, a7, a8⟩ := R
  have E := re_mk (k := k + 4) (n := 0) (m := 0) (e := 0) (ew := fun _ => false) (pp := pp) pc (-1) bs mo hd nd kd fd sd ps gn sl ⟨by decide, by decide, a3, a4, a5, a6, Or.inr ⟨rfl, rfl⟩, a8⟩
  rw [show mb_I (nb_ pp 0) = 0 from mb_0, show mb_I (fun _ => false) = 0 from mb_0] at E
  unfold wpX_clear wpY_clear
  exact ⟨rfl, E⟩
theorem i_vc_statements {k : Nat} {u : SX} {v : SY} (I : i_Rel k u v) (hk : k + 4 ≤ 2048) : wpX_statements (fun r => wpY_statements (fun r' => r' = r ∧ i_Rel (k + 4) u v) v) u := by
  have I' := I
  obtain ⟨pc, ep, bs, mo, n, m, e, pp, kk, ff, ss, ew, hd, nd, kd, fd, sd, ps, gn, sl, rfl, rfl, R⟩ := I
  exact ⟨rfl, I'⟩
theorem i_vc_matching {k : Nat} {u : SX} {v : SY} (I : i_Rel k u v) (hk : k + 4 ≤ 2048) (v1 : Int32) : wpX_matching (fun r => wpY_matching (fun r' => r' = r ∧ i_Rel (k + 4) u v) v v1) u v1 := by
  obtain ⟨pc, ep, bs, mo, n, m, e, pp, kk, ff, ss, ew, hd, nd, kd, fd, sd, ps, gn, sl, rfl, rfl, R⟩ := I
  have J := re_mk (k := k + 4) pc ep bs mo hd nd kd fd sd ps gn sl R
  unfold wpX_matching wpY_matching
  dsimp only
  by_cases h : v1 < 0
  · exact br_t h (br_t rfl (br_t h (br_f ar_n0 ⟨rfl, J⟩)))
  obtain ⟨j, hj, rfl⟩ := nI_of h
  by_cases h2 : j < 1728
  · refine rx_isP hj (fun _ => br_f ar_n0 ⟨257, rx_ml _ _ _ _ _ _ _ _ _ _ _ _ h2 ?_ 256 0 (by omega)⟩) (fun z => absurd h2 (by omega))
    exact ry_bP _ _ _ _ _ _ _ _ _ _ _ _ _ hj (fun _ => br_t rfl ⟨257, ry_ml _ _ _ _ _ _ _ _ _ _ _ _ _ h2 ⟨rfl, J⟩ 256 0 (by omega)⟩) (fun z => absurd h2 (by omega))
  · exact rx_isP hj (fun z => absurd z h2) (fun _ => br_t rfl (ry_bP _ _ _ _ _ _ _ _ _ _ _ _ _ hj (fun z => absurd z h2) (fun _ => br_f ar_n0 ⟨rfl, J⟩)))
