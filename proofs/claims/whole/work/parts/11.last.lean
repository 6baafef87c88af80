theorem i_vc_solutions {k : Nat} {u : SX} {v : SY} (I : i_Rel k u v) (hk : k + 4 ≤ 2048) : wpX_solutions (fun r => wpY_solutions (fun r' v' => r' = r ∧ i_Rel (k + 4) u v') v) u := by
  obtain ⟨pc, ep, bs, mo, n, m, e, pp, kk, ff, ss, ew, hd, nd, kd, fd, sd, ps, gn, sl, rfl, rfl, R⟩ := I
  unfold wpX_solutions wpY_solutions
  dsimp only
  refine qx_count _ _ _ _ _ _ _ _ _ _ _ _ (rx_sol _ _ _ _ _ _ _ _ R (rx_m1 hd)) ?_
  exact ry_work _ _ _ _ _ _ _ _ _ _ _ R (fun bs mo gn sl h => ⟨rfl, re_mk _ _ _ _ _ _ _ _ _ _ _ _ R⟩)
theorem i_vc_next {k : Nat} {u : SX} {v : SY} (I : i_Rel k u v) (hk : k + 4 ≤ 2048) (v1 : Int32) : wpX_next (fun r => wpY_next (fun r' v' => r' = r ∧ i_Rel (k + 4) u v') v v1) u v1 := by
  obtain ⟨pc, ep, bs, mo, n, m, e, pp, kk, ff, ss, ew, hd, nd, kd, fd, sd, ps, gn, sl, rfl, rfl, R⟩ := I
  have hX := rx_sol pc ep hd nd kd fd sd ps R (rx_m1 hd)
  have Y : ∀ (r : Int32) (q : Nat), q ≤ 6561 → (∀ i, i < 6561 → (nI i ≤ v1 ↔ i < q)) → r = nx_ (sF_ hd n pp m kk ff ss ew e) (6561 - q) q → wpY_next (fun r' v' => r' = r ∧ i_Rel (k + 4) (pc, nI n, ep, nI m, mb_I (nb_ pp n), mb_I ew, hd, nd, kd, fd, sd, ps) v') (pc, nI n, ep, nI m, bs, mo, hd, nd, kd, fd, sd, gn, sl) v1 := by
    intro r q hq hv hr
    unfold wpY_next
    dsimp only
    refine ry_work _ _ _ _ _ _ _ _ _ _ _ R (fun bs mo gn sl h => ⟨6562, ?_⟩)
    refine qy_nl _ _ _ _ _ _ _ _ _ _ _ _ _ h hq hv 6561 0 (by omega) (fun _ => ⟨hr.symm, re_mk _ _ _ _ _ _ _ _ _ _ _ _ R⟩) (fun z => ?_)
    have q0 : q = 0 := by omega
    subst q0
    exact ⟨hr.symm, re_mk _ _ _ _ _ _ _ _ _ _ _ _ R⟩
  unfold wpX_next
  dsimp only
  by_cases h : v1 < 0
  · have h2 : v1 < 6561 := Int32.lt_trans h (by decide)
    have h3 : ¬ 0 ≤ v1 := Int32.not_le.mpr h
    refine br_t h2 (br_f h3 ⟨6562, qx_nl _ _ _ _ _ _ _ _ _ _ _ _ hX 6561 0 (by omega) (Y _ 0 (by omega) (fun i hi => ⟨fun z => absurd (Int32.le_trans (nI_pos' (by omega)) z) h3, fun z => absurd z (by omega)⟩) rfl)⟩)
  · obtain ⟨a, ha, rfl⟩ := nI_of h
    have h3 : 0 ≤ nI a := nI_pos' ha
    refine pk_lt a 6561 (fun a2 => br_t h3 (nm_r (nI_1 a) ⟨6561 - (a + 1) + 1, ?_⟩)) (fun a2 => Y _ 6561 (by omega) (fun i hi => ?_) rfl)
    · refine qx_nl _ _ _ _ _ _ _ _ _ _ _ _ hX (6561 - (a + 1)) (a + 1) (by omega) (Y _ (a + 1) (by omega) (fun i hi => ?_) rfl)
      rw [nI_leI (by omega) (by omega)]; omega
    · rw [nI_leI (by omega) (by omega)]; omega
theorem i_vc_isSolution {k : Nat} {u : SX} {v : SY} (I : i_Rel k u v) (hk : k + 4 ≤ 2048) (v1 : Int32) : wpX_isSolution (fun r => wpY_isSolution (fun r' v' => r' = r ∧ i_Rel (k + 4) u v') v v1) u v1 := by
  obtain ⟨pc, ep, bs, mo, n, m, e, pp, kk, ff, ss, ew, hd, nd, kd, fd, sd, ps, gn, sl, rfl, rfl, R⟩ := I
  have J := re_mk (k := k + 4) pc ep bs mo hd nd kd fd sd ps gn sl R
  have hX := rx_sol pc ep hd nd kd fd sd ps R (rx_m1 hd)
  unfold wpX_isSolution wpY_isSolution
  dsimp only
  by_cases h : v1 < 0
  · exact br_t h (br_t h ⟨rfl, J⟩)
  obtain ⟨a, ha, rfl⟩ := nI_of h
  refine br_f h (pk_lt a 6561 (fun a2 => ?_) (fun a2 => br_f h (pk_le a 6560 (fun z => absurd z (by omega)) (fun _ => ⟨rfl, J⟩))))
  have hin : vp_in (nI a) 6561 := vp_in_nI a2 (by decide)
  rw [nI_clamp (by omega)]
  refine hX a a2 _ (fun w => br_f ar_n0 (br_f h (pk_le a 6560 (fun _ => ?_) (fun z => absurd a2 (by omega))))) (fun w => br_t rfl (br_f h (pk_le a 6560 (fun _ => ?_) (fun z => absurd a2 (by omega)))))
  · exact ry_work _ _ _ _ _ _ _ _ _ _ _ R (fun bs mo gn sl hz => ⟨hin, br_f (fun z => (hz a a2).mp z w) ⟨rfl, re_mk _ _ _ _ _ _ _ _ _ _ _ _ R⟩⟩)
  · exact ry_work _ _ _ _ _ _ _ _ _ _ _ R (fun bs mo gn sl hz => ⟨hin, br_t ((hz a a2).mpr w) ⟨rfl, re_mk _ _ _ _ _ _ _ _ _ _ _ _ R⟩⟩)
theorem i_vc_values {k : Nat} {u : SX} {v : SY} (I : i_Rel k u v) (hk : k + 4 ≤ 2048) (v1 : Int32) : wpX_values (fun r => wpY_values (fun r' v' => r' = r ∧ i_Rel (k + 4) u v') v v1) u v1 := by
  obtain ⟨pc, ep, bs, mo, n, m, e, pp, kk, ff, ss, ew, hd, nd, kd, fd, sd, ps, gn, sl, rfl, rfl, R⟩ := I
  have J := re_mk (k := k + 4) pc ep bs mo hd nd kd fd sd ps gn sl R
  have hX := rx_sol pc ep hd nd kd fd sd ps R (rx_m1 hd)
  unfold wpX_values wpY_values
  dsimp only
  by_cases h : v1 < 0
  · exact br_t h (br_t rfl (br_t h (br_f ar_n0 ⟨rfl, J⟩)))
  obtain ⟨a, ha, rfl⟩ := nI_of h
  by_cases h2 : a < 4
  · refine rx_isV ha (fun _ => br_f ar_n0 ⟨6562, qx_vl _ _ _ _ _ _ _ _ _ _ _ _ h2 hX ?_ 6561 0 (by omega)⟩) (fun z => absurd h2 (by omega))
    refine ry_bV _ _ _ _ _ _ _ _ _ _ _ _ _ ha (fun _ => br_t rfl (ry_work _ _ _ _ _ _ _ _ _ _ _ R (fun bs mo gn sl hz => ⟨6562, ?_⟩))) (fun z => absurd h2 (by omega))
    exact qy_vl _ _ _ _ _ _ _ _ _ _ _ _ _ h2 hz ⟨rfl, re_mk _ _ _ _ _ _ _ _ _ _ _ _ R⟩ 6561 0 (by omega)
  · exact rx_isV ha (fun z => absurd z h2) (fun _ => br_t rfl (ry_bV _ _ _ _ _ _ _ _ _ _ _ _ _ ha (fun z => absurd z h2) (fun _ => br_f ar_n0 ⟨rfl, J⟩)))
theorem i_vc_having {k : Nat} {u : SX} {v : SY} (I : i_Rel k u v) (hk : k + 4 ≤ 2048) (v1 : Int32) (v2 : Int32) : wpX_having (fun r => wpY_having (fun r' v' => r' = r ∧ i_Rel (k + 4) u v') v v1 v2) u v1 v2 := by
  obtain ⟨pc, ep, bs, mo, n, m, e, pp, kk, ff, ss, ew, hd, nd, kd, fd, sd, ps, gn, sl, rfl, rfl, R⟩ := I
  have J := re_mk (k := k + 4) pc ep bs mo hd nd kd fd sd ps gn sl R
  have hX := rx_sol pc ep hd nd kd fd sd ps R (rx_m1 hd)
  unfold wpX_having wpY_having
  dsimp only
  by_cases h : v1 < 0
  · exact br_t h (br_t rfl (br_t h (br_f ar_n0 ⟨rfl, J⟩)))
  obtain ⟨a, ha, rfl⟩ := nI_of h
  by_cases h2 : a < 4
  · refine rx_isV ha (fun _ => br_f ar_n0 ?_) (fun z => absurd h2 (by omega))
    by_cases g : v2 < 0
    · exact br_t g (ry_bV _ _ _ _ _ _ _ _ _ _ _ _ _ ha (fun _ => br_t rfl (br_t g ⟨rfl, J⟩)) (fun z => absurd h2 (by omega)))
    obtain ⟨b, hb, rfl⟩ := nI_of g
    refine br_f g (pk_le b 8 (fun b2 => ⟨6562, qx_hl _ _ _ _ _ _ _ _ _ _ _ _ h2 (by omega) hX ?_ 6561 0 (by omega)⟩) (fun b2 => ?_))
    · refine ry_bV _ _ _ _ _ _ _ _ _ _ _ _ _ ha (fun _ => br_t rfl (br_f g (pk_le b 8 (fun _ => ry_work _ _ _ _ _ _ _ _ _ _ _ R (fun bs mo gn sl hz => ⟨6562, ?_⟩)) (fun z => absurd b2 (by omega))))) (fun z => absurd h2 (by omega))
      exact qy_hl _ _ _ _ _ _ _ _ _ _ _ _ _ h2 (by omega) hz ⟨rfl, re_mk _ _ _ _ _ _ _ _ _ _ _ _ R⟩ 6561 0 (by omega)
    · exact ry_bV _ _ _ _ _ _ _ _ _ _ _ _ _ ha (fun _ => br_t rfl (br_f g (pk_le b 8 (fun z => absurd z (by omega)) (fun _ => ⟨rfl, J⟩)))) (fun z => absurd h2 (by omega))
  · exact rx_isV ha (fun z => absurd z h2) (fun _ => br_t rfl (ry_bV _ _ _ _ _ _ _ _ _ _ _ _ _ ha (fun z => absurd z h2) (fun _ => br_f ar_n0 ⟨rfl, J⟩)))
theorem i_vc_pairs {k : Nat} {u : SX} {v : SY} (I : i_Rel k u v) (hk : k + 4 ≤ 2048) (v1 : Int32) (v2 : Int32) : wpX_pairs (fun r u' => wpY_pairs (fun r' v' => r' = r ∧ i_Rel (k + 4) u' v') v v1 v2) u v1 v2 := by
  obtain ⟨pc, ep, bs, mo, n, m, e, pp, kk, ff, ss, ew, hd, nd, kd, fd, sd, ps, gn, sl, rfl, rfl, R⟩ := I
  have J := re_mk (k := k + 4) pc ep bs mo hd nd kd fd sd ps gn sl R
  have hX := fun ps => rx_sol pc ep hd nd kd fd sd ps R (rx_m1 hd)
  unfold wpX_pairs wpY_pairs
  dsimp only
  by_cases h : v1 < 0
  · exact br_t h (br_t rfl (br_t h (br_f ar_n0 ⟨rfl, J⟩)))
  obtain ⟨a, ha, rfl⟩ := nI_of h
  by_cases h2 : a < 4
  · refine rx_isV ha (fun _ => br_f ar_n0 ?_) (fun z => absurd h2 (by omega))
    by_cases g : v2 < 0
    · exact br_t g (br_t rfl (ry_bV _ _ _ _ _ _ _ _ _ _ _ _ _ ha (fun _ => br_t rfl (br_t g (br_f ar_n0 ⟨rfl, J⟩))) (fun z => absurd h2 (by omega))))
    obtain ⟨b, hb, rfl⟩ := nI_of g
    by_cases b2 : b < 4
    · refine rx_isV hb (fun _ => br_f ar_n0 ?_) (fun z => absurd b2 (by omega))
      refine Exists.intro 82 (qx_fl _ _ _ _ _ _ _ _ _ _ _ (fun ps hz => ⟨6562, ?_⟩) 81 0 ps (by omega) lt_0)
      have c0 : cn_ (mt_ (sF_ hd n pp m kk ff ss ew e) (pr_ a b) 0) 0 81 = 0 := cn_none 81 (fun c _ ⟨d, h1, _⟩ => absurd h1 (by omega))
      have K := qx_pl (post := fun r u' => wpY_pairs (fun r' v' => r' = r ∧ i_Rel (k + 4) u' v') (pc, nI n, ep, nI m, bs, mo, hd, nd, kd, fd, sd, gn, sl) (nI a) (nI b)) _ _ _ _ _ _ _ _ _ _ _ h2 b2 hX (fun ps => ?_) 6561 0 ps (by omega) (fun q hq => ⟨fun _ ⟨d, h1, _⟩ => absurd h1 (by omega), fun _ => hz q hq⟩)
      · rw [c0] at K
        unfold wpY_pairs at K
        dsimp only at K
        exact K
      · unfold wpY_pairs
        dsimp only
        refine ry_bV _ _ _ _ _ _ _ _ _ _ _ _ _ ha (fun _ => br_t rfl (ry_bV _ _ _ _ _ _ _ _ _ _ _ _ _ hb (fun _ => br_t rfl (ry_work _ _ _ _ _ _ _ _ _ _ _ R (fun bs mo gn sl hz => ⟨10, ?_⟩))) (fun z => absurd b2 (by omega)))) (fun z => absurd h2 (by omega))
        exact qy_p28 _ _ _ _ _ _ _ _ _ _ _ _ _ h2 b2 hz ⟨rfl, re_mk _ _ _ _ _ _ _ _ _ _ _ _ R⟩ 9 0 (by omega)
    · exact rx_isV hb (fun z => absurd z b2) (fun _ => br_t rfl (ry_bV _ _ _ _ _ _ _ _ _ _ _ _ _ ha (fun _ => br_t rfl (ry_bV _ _ _ _ _ _ _ _ _ _ _ _ _ hb (fun z => absurd z b2) (fun _ => br_f ar_n0 ⟨rfl, J⟩))) (fun z => absurd h2 (by omega))))
  · exact rx_isV ha (fun z => absurd z h2) (fun _ => br_t rfl (ry_bV _ _ _ _ _ _ _ _ _ _ _ _ _ ha (fun z => absurd z h2) (fun _ => br_f ar_n0 ⟨rfl, J⟩)))
theorem i_vc_vital {k : Nat} {u : SX} {v : SY} (I : i_Rel k u v) (hk : k + 4 ≤ 2048) : wpX_vital (fun r => wpY_vital (fun r' v' => r' = r ∧ i_Rel (k + 4) u v') v) u := by
  obtain ⟨pc, ep, bs, mo, n, m, e, pp, kk, ff, ss, ew, hd, nd, kd, fd, sd, ps, gn, sl, rfl, rfl, R⟩ := I
  have hX := rx_sol pc ep hd nd kd fd sd ps R (rx_m1 hd)
  unfold wpX_vital wpY_vital
  dsimp only
  refine qx_count _ _ _ _ _ _ _ _ _ _ _ _ hX ⟨257, ?_⟩
  refine qx_vtl (FS := fun s => sF_ (upd hd s 0) n pp m kk ff ss ew e) _ _ _ _ _ _ _ _ _ _ _ _ (fun s hs _ => rx_sol _ _ _ _ _ _ _ _ R (rx_ws hd hs)) ?_ 256 0 (by omega)
  refine ry_work _ _ _ _ _ _ _ _ _ _ _ R (fun bs mo gn sl hz => ⟨257, ?_⟩)
  exact qy_vtl (FS := fun s => sF_ (upd hd s 0) n pp m kk ff ss ew e) _ _ _ _ _ _ _ _ _ R.2.2.2.2.2.2.2 (fun s hs _ bs mo gn sl post hp => ry_work _ _ _ _ _ _ _ _ _ _ _ R (fun bs mo gn sl _ => hp bs mo gn sl)) (fun bs mo gn sl => ⟨rfl, re_mk _ _ _ _ _ _ _ _ _ _ _ _ R⟩) 256 0 bs mo gn sl (by omega)
