section
variable (pc nc ep cc bs mo : Int32) (hd nd kd fd sd gn sl : Nat → Int32)
def sz_ (F : Nat → Prop) (sl : Nat → Int32) : Prop := ∀ c, c < 6561 → (sl c = 0 ↔ ¬ F c)
theorem sz_iv {F : Nat → Prop} {sl : Nat → Int32} (h : iv_ F sl 6561) : sz_ F sl := fun c hc => by
  rw [h c hc]
  exact ⟨fun k f => k ⟨hc, f⟩, fun k f => k f.2⟩
theorem sz_t {F : Nat → Prop} {sl : Nat → Int32} (h : sz_ F sl) {c : Nat} (hc : c < 6561) (n : ¬ sl c = 0) : F c := Classical.byContradiction (fun k => n ((h c hc).mpr k))
theorem qy_nl {post : Int32 → SY → Prop} {F : Nat → Prop} {v : Int32} {k : Nat} (hz : sz_ F sl) (hk : k ≤ 6561) (hv : ∀ i, i < 6561 → (nI i ≤ v ↔ i < k)) :
    ∀ d i, i + d = 6561 → (i ≤ k → post (nx_ F (6561 - k) k) (pc, nc, ep, cc, bs, mo, hd, nd, kd, fd, sd, gn, sl)) → (k ≤ i → post (nx_ F d i) (pc, nc, ep, cc, bs, mo, hd, nd, kd, fd, sd, gn, sl)) → wY_next_7 post v pc nc ep cc bs mo hd nd kd fd sd gn sl (d + 1) (nI i) := by
  intro d
  induction d with
  | zero => exact fun i hi h1 h2 => pk_le 6561 i (fun _ => h2 (by omega)) (fun q => absurd q (by omega))
  | succ d ih =>
    intro i hi h1 h2
    refine pk_le 6561 i (fun q => absurd q (by omega)) (fun q => ar_if (hv i (by omega)) (fun t => nm_r (nI_1 i) (ih (i + 1) (by omega) (fun _ => h1 (by omega)) (fun z => ?_))) (fun t => ⟨vp_in_nI (by omega) (by decide), ?_⟩))
    · have e : k = i + 1 := by omega
      have h := h1 (by omega)
      rw [e, show 6561 - (i + 1) = d from by omega] at h
      exact h
    · have h := h2 (by omega)
      rw [nI_clamp (by omega)]
      refine br_c (fun z => nm_r (nI_1 i) ?_) (fun z => ?_)
      · rw [nx_f ((hz i (by omega)).mp z)] at h
        exact ih (i + 1) (by omega) (fun z => absurd z (by omega)) (fun _ => h)
      · rw [nx_t (sz_t hz (by omega) z)] at h
        exact h
theorem qy_vl {post : Int32 → SY → Prop} {F : Nat → Prop} {v : Nat} (hv : v < 4) (hz : sz_ F sl) (h : post (vm_ F v 6561) (pc, nc, ep, cc, bs, mo, hd, nd, kd, fd, sd, gn, sl)) :
    ∀ d i, i + d = 6561 → wY_values_19 post (nI v) pc nc ep cc bs mo hd nd kd fd sd gn sl (d + 1) (vm_ F v i) (nI i) := by
  intro d
  induction d with
  | zero =>
    intro i hi
    have e : i = 6561 := by omega
    subst e
    exact pk_le 6561 6561 (fun _ => h) (fun q => absurd q (by omega))
  | succ d ih =>
    intro i hi
    have k := ih (i + 1) (by omega)
    refine pk_le 6561 i (fun q => absurd q (by omega)) (fun q => ⟨vp_in_nI (by omega) (by decide), ?_⟩)
    rw [nI_clamp (by omega)]
    refine br_c (fun z => ?_) (fun z => ay_digit _ _ _ _ _ _ _ _ _ _ _ _ _ v hv (by omega) ?_)
    · rw [vm_f ((hz i (by omega)).mp z)] at k
      exact nm_r (nI_1 i) k
    · rw [vm_t (sz_t hz (by omega) z)] at k
      exact nm_e (nm_r (nI_1 i) k)
theorem qy_hl {post : Int32 → SY → Prop} {F : Nat → Prop} {v a : Nat} (hv : v < 4) (ha : a < 9) (hz : sz_ F sl) (h : post (nI (cn_ (fun c => F c ∧ dg_ c v = a) 0 6561)) (pc, nc, ep, cc, bs, mo, hd, nd, kd, fd, sd, gn, sl)) :
    ∀ d i, i + d = 6561 → wY_having_33 post (nI v) (nI a) pc nc ep cc bs mo hd nd kd fd sd gn sl (d + 1) (nI (cn_ (fun c => F c ∧ dg_ c v = a) 0 i)) (nI i) := by
  intro d
  induction d with
  | zero =>
    intro i hi
    have e : i = 6561 := by omega
    subst e
    exact pk_le 6561 6561 (fun _ => h) (fun q => absurd q (by omega))
  | succ d ih =>
    intro i hi
    have k := ih (i + 1) (by omega)
    have g := dg_lt (c := i) (by omega) v
    refine pk_le 6561 i (fun q => absurd q (by omega)) (fun q => ⟨vp_in_nI (by omega) (by decide), ?_⟩)
    rw [nI_clamp (by omega)]
    refine br_c (fun z => ?_) (fun z => ay_digit _ _ _ _ _ _ _ _ _ _ _ _ _ v hv (by omega) (pk_eq (dg_ i v) a (fun t => ?_) (fun t => ?_)))
    · rw [cn_f0 (fun y => (hz i (by omega)).mp z y.1)] at k
      exact nm_r (nI_1 i) k
    · rw [cn_t0 ⟨sz_t hz (by omega) z, t⟩] at k
      exact nm_r (nI_1 _) (nm_r (nI_1 i) k)
    · rw [cn_f0 (fun y => t y.2)] at k
      exact nm_r (nI_1 i) k
def mq_ (F : Nat → Prop) (v x w y c : Nat) : Prop := F c ∧ dg_ c v = x ∧ dg_ c w = y
theorem qy_ml {post : Int32 → Prop} {F : Nat → Prop} {v w x y : Nat} (hv : v < 4) (hw : w < 4) (hx : x < 9) (hy : y < 9) (hz : sz_ F sl)
    (h1 : (∃ c, c < 6561 ∧ mq_ F v x w y c) → post 1) (h0 : ¬ (∃ c, c < 6561 ∧ mq_ F v x w y c) → post 0) :
    ∀ d i, i + d = 6561 → (∀ j, j < i → ¬ mq_ F v x w y j) → wY_met_3 post (nI v) (nI x) (nI w) (nI y) pc nc ep cc bs mo hd nd kd fd sd gn sl (d + 1) (nI i) := by
  intro d
  induction d with
  | zero => exact fun i hi hj => pk_le 6561 i (fun _ => h0 (fun ⟨c, hc, k⟩ => hj c (by omega) k)) (fun q => absurd q (by omega))
  | succ d ih =>
    intro i hi hj
    have g1 := dg_lt (c := i) (by omega) v
    have g2 := dg_lt (c := i) (by omega) w
    have no : ¬ mq_ F v x w y i → wY_met_3 post (nI v) (nI x) (nI w) (nI y) pc nc ep cc bs mo hd nd kd fd sd gn sl (d + 1) (nI (i + 1)) := fun n => ih (i + 1) (by omega) (lt_s hj n)
    refine pk_le 6561 i (fun q => absurd q (by omega)) (fun q => ⟨vp_in_nI (by omega) (by decide), ?_⟩)
    rw [nI_clamp (by omega)]
    refine br_c (fun z => nm_r (nI_1 i) (no (fun k => (hz i (by omega)).mp z k.1))) (fun z => ay_digit _ _ _ _ _ _ _ _ _ _ _ _ _ v hv (by omega) ?_)
    refine pk_eq (dg_ i v) x (fun t => ay_digit _ _ _ _ _ _ _ _ _ _ _ _ _ w hw (by omega) ?_) (fun t => nm_r (nI_1 i) (no (fun k => t k.2.1)))
    exact pk_eq (dg_ i w) y (fun r => h1 ⟨i, by omega, sz_t hz (by omega) z, t, r⟩) (fun r => nm_r (nI_1 i) (no (fun k => r k.2.2)))
theorem qy_mt {F : Nat → Prop} {v w x y : Nat} (hx : x < 9) (hy : y < 9) : (∃ c, c < 6561 ∧ mq_ F v x w y c) ↔ mt_ F (pr_ v w) 6561 (9 * x + y) := by
  constructor
  · rintro ⟨c, h1, h2, h3, h4⟩
    exact ⟨c, h1, h2, by unfold pr_; rw [h3, h4]⟩
  · rintro ⟨c, h1, h2, h3⟩
    have g1 := dg_lt h1 v
    have g2 := dg_lt h1 w
    unfold pr_ at h3
    exact ⟨c, h1, h2, by omega, by omega⟩
theorem qy_p38 {post : Int32 → SY → Prop} {J : Int32 → Int32 → Prop} {F : Nat → Prop} {v w x : Nat} (hv : v < 4) (hw : w < 4) (hx : x < 9) (hz : sz_ F sl)
    (hJ : J (nI (cn_ (mt_ F (pr_ v w) 6561) 0 (9 * (x + 1)))) (nI (x + 1))) :
    ∀ d y, y + d = 9 → wY_pairs_38 post J (nI v) (nI w) (nI x) pc nc ep cc bs mo hd nd kd fd sd gn sl (d + 1) (nI (cn_ (mt_ F (pr_ v w) 6561) 0 (9 * x + y))) (nI y) := by
  intro d
  induction d with
  | zero =>
    intro y hy
    have e : 9 * x + y = 9 * (x + 1) := by omega
    rw [e]
    exact pk_le 9 y (fun _ => nm_r (nI_1 x) hJ) (fun q => absurd q (by omega))
  | succ d ih =>
    intro y hy
    have y9 : y < 9 := by omega
    have k := ih (y + 1) (by omega)
    rw [← Nat.add_assoc] at k
    refine pk_le 9 y (fun q => absurd q (by omega)) (fun q => ?_)
    refine Exists.intro 6562 (qy_ml _ _ _ _ _ _ _ _ _ _ _ _ _ hv hw hx y9 hz (fun t => br_f ar_n0 ?_) (fun t => br_t rfl ?_) 6561 0 (by omega) lt_0)
    · rw [cn_t0 ((qy_mt hx y9).mp t)] at k
      exact nm_r (nI_1 _) (nm_r (nI_1 y) k)
    · rw [cn_f0 (fun z => t ((qy_mt hx y9).mpr z))] at k
      exact nm_r (nI_1 y) k
theorem qy_p28 {post : Int32 → SY → Prop} {F : Nat → Prop} {v w : Nat} (hv : v < 4) (hw : w < 4) (hz : sz_ F sl) (h : post (nI (cn_ (mt_ F (pr_ v w) 6561) 0 81)) (pc, nc, ep, cc, bs, mo, hd, nd, kd, fd, sd, gn, sl)) :
    ∀ d x, x + d = 9 → wY_pairs_28 post (nI v) (nI w) pc nc ep cc bs mo hd nd kd fd sd gn sl (d + 1) (nI (cn_ (mt_ F (pr_ v w) 6561) 0 (9 * x))) (nI x) := by
  intro d
  induction d with
  | zero =>
    intro x hx
    have e : x = 9 := by omega
    subst e
    exact pk_le 9 9 (fun _ => h) (fun q => absurd q (by omega))
  | succ d ih =>
    intro x hx
    refine pk_le 9 x (fun q => absurd q (by omega)) (fun q => ⟨10, ?_⟩)
    exact qy_p38 _ _ _ _ _ _ _ _ _ _ _ _ _ hv hw (by omega) hz (ih (x + 1) (by omega)) 9 0 (by omega)
theorem qy_re {hd : Nat → Int32} {i : Nat} (h : hd i = 1) : upd (upd hd i 0) i 1 = hd := by
  funext j
  by_cases e : j = i
  · subst e; rw [pk_us, h]
  · rw [pk_un e, pk_un e]
theorem qy_vtl {post : Int32 → SY → Prop} {all : Nat} {FS : Nat → Nat → Prop} (h01 : ∀ s, hd s = 0 ∨ hd s = 1)
    (hW : ∀ s, s < 256 → ¬ hd s = 0 → ∀ bs mo gn sl, ∀ post : Int32 → SY → Prop, (∀ bs mo gn sl, post (nI (cn_ (FS s) 0 6561)) (pc, nc, ep, cc, bs, mo, upd hd s 0, nd, kd, fd, sd, gn, sl)) → wpY_work post (pc, nc, ep, cc, bs, mo, upd hd s 0, nd, kd, fd, sd, gn, sl))
    (h : ∀ bs mo gn sl, post (nI (cn_ (vt_ hd all FS) 0 256)) (pc, nc, ep, cc, bs, mo, hd, nd, kd, fd, sd, gn, sl)) :
    ∀ d i bs mo gn sl, i + d = 256 → wY_vital_9 post (nI all) (d + 1) (nI (cn_ (vt_ hd all FS) 0 i)) (nI i) pc nc ep cc bs mo hd nd kd fd sd gn sl := by
  intro d
  induction d with
  | zero =>
    intro i bs mo gn sl hi
    have e : i = 256 := by omega
    subst e
    exact pk_le 256 256 (fun _ => h bs mo gn sl) (fun q => absurd q (by omega))
  | succ d ih =>
    intro i bs mo gn sl hi
    have hin : vp_in (nI i) 256 := vp_in_nI (by omega) (by decide)
    refine pk_le 256 i (fun q => absurd q (by omega)) (fun q => ⟨hin, ?_⟩)
    rw [nI_clamp (by omega), ar_v0, ar_v1]
    refine br_c (fun t => nm_r (nI_1 i) ?_) (fun t => ⟨hin, nm_e ?_⟩)
    · have k := ih (i + 1) bs mo gn sl (by omega)
      rw [cn_f0 (fun z => z.1 t)] at k
      exact k
    · have h1 : hd i = 1 := (h01 i).resolve_left t
      refine hW i (by omega) t bs mo gn sl _ (fun bs mo gn sl => br_c (fun r => ⟨hin, nm_r (qy_re h1) (nm_r (nI_1 i) ?_)⟩) (fun r => nm_r (nI_1 _) ⟨hin, nm_r (qy_re h1) (nm_r (nI_1 i) ?_)⟩))
      · have k := ih (i + 1) bs mo gn sl (by omega)
        rw [cn_f0 (fun z => z.2 r)] at k
        exact k
      · have k := ih (i + 1) bs mo gn sl (by omega)
        rw [cn_t0 ⟨t, r⟩] at k
        exact k
end
