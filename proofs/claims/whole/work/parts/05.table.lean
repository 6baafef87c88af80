section
variable (pc nc ep cc bs mo : Int32) (hd nd kd fd sd gn sl : Nat → Int32)
def sy_ (so : Nat → Prop) (B M : Nat → Bool) (c : Nat) : Prop := (∀ v, v < 4 → my_ B M v (dg_ c v)) ∧ so c
theorem sy_4 {so : Nat → Prop} {B M : Nat → Bool} {x y z w : Nat} (hx : x < 9) (hy : y < 9) (hz : z < 9) (hw : w < 9) : sy_ so B M (co_ x y z w) ↔ (my_ B M 0 x ∧ my_ B M 1 y ∧ my_ B M 2 z ∧ my_ B M 3 w) ∧ so (co_ x y z w) := by
  obtain ⟨a, b, c, d⟩ := co_d hx hy hz hw
  unfold sy_
  refine ⟨fun h => ⟨⟨?_, ?_, ?_, ?_⟩, h.2⟩, fun h => ⟨fun v hv => ?_, h.2⟩⟩
  · have := h.1 0 (by decide); rw [a] at this; exact this
  · have := h.1 1 (by decide); rw [b] at this; exact this
  · have := h.1 2 (by decide); rw [c] at this; exact this
  · have := h.1 3 (by decide); rw [d] at this; exact this
  · rcases mb_c4 hv with rfl | rfl | rfl | rfl
    · rw [a]; exact h.1.1
    · rw [b]; exact h.1.2.1
    · rw [c]; exact h.1.2.2.1
    · rw [d]; exact h.1.2.2.2
theorem sy_no {so : Nat → Prop} {B M : Nat → Bool} {x y : Nat} (hx : x < 9) (hy : y < 9) (h : ¬ (my_ B M 0 x ∧ my_ B M 1 y)) : ∀ c, c < 81 → ¬ sy_ so B M (729 * x + 81 * y + c) := by
  intro c hc k
  have a : dg_ (729 * x + 81 * y + c) 0 = x := by show (729 * x + 81 * y + c) / 729 = x; omega
  have b : dg_ (729 * x + 81 * y + c) 1 = y := by show (729 * x + 81 * y + c) / 81 % 9 = y; omega
  have k0 := k.1 0 (by decide)
  have k1 := k.1 1 (by decide)
  rw [a] at k0
  rw [b] at k1
  exact h ⟨k0, k1⟩
theorem ay_t15 {post : Int32 → SY → Prop} {J5 : Int32 → Int32 → (Nat → Int32) → (Nat → Int32) → (Nat → Int32) → (Nat → Int32) → (Nat → Int32) → (Nat → Int32) → (Nat → Int32) → Prop} {so : Nat → Prop} {B M : Nat → Bool} {x y z : Nat} (hx : x < 9) (hy : y < 9) (hz : z < 9)
    (hsol : ∀ c, c < 6561 → ∀ gn sl : Nat → Int32, (∀ v, v < 4 → gn v = nI (dg_ c v)) → ∀ post : Int32 → Prop, (so c → post 1) → (¬ so c → post 0) → wpY_solution post (pc, nc, ep, cc, mb_I B, mb_I M, hd, nd, kd, fd, sd, gn, sl))
    (m0 : my_ B M 0 x) (m1 : my_ B M 1 y)
    (hJ : ∀ gn sl, iv_ (sy_ so B M) sl (729 * x + 81 * y + 9 * (z + 1)) → J5 (nI (cn_ (sy_ so B M) (729 * x + 81 * y) (9 * (z + 1)))) (nI (z + 1)) hd nd kd fd sd gn sl) :
    ∀ d w gn sl, w + d = 9 → iv_ (sy_ so B M) sl (co_ x y z w) → wY_tryLast_15 post J5 (nI x) (nI y) (nI z) pc nc ep cc (mb_I B) (mb_I M) (d + 1) (nI (cn_ (sy_ so B M) (729 * x + 81 * y) (9 * z + w))) (nI w) hd nd kd fd sd gn sl := by
  intro d
  induction d with
  | zero =>
    intro w gn sl hw hi
    have e : 9 * z + w = 9 * (z + 1) := by omega
    unfold co_ at hi
    rw [e] at hi ⊢
    exact pk_le 9 w (fun _ => nm_r (nI_1 z) (hJ gn sl hi)) (fun q => absurd q (by omega))
  | succ d ih =>
    intro w gn sl hw hi
    have w9 : w < 9 := by omega
    have i4 : sy_ so B M (co_ x y z w) ↔ _ := sy_4 hx hy hz w9
    have hlt : co_ x y z w < 6561 := by unfold co_; omega
    refine pk_le 9 w (fun q => absurd q (by omega)) (fun q => ?_)
    have no : ¬ sy_ so B M (co_ x y z w) → wY_tryLast_46 post J5 (wY_tryLast_15 post J5 (nI x) (nI y) (nI z) pc nc ep cc (mb_I B) (mb_I M) (d + 1)) (nI x) (nI y) (nI (cn_ (sy_ so B M) (729 * x + 81 * y) (9 * z + w))) (nI z) (nI w) pc nc ep cc (mb_I B) (mb_I M) hd nd kd fd sd gn sl := by
      intro hn
      unfold wY_tryLast_46 wY_tryLast_47
      exact br_t rfl (ay_t90 _ _ _ _ _ _ _ _ _ _ _ _ _ hx hy hz w9 (Or.inl rfl) ⟨fun _ => hn, fun _ => rfl⟩ hi (fun sl' h' => ih (w + 1) gn sl' (by omega) h'))
    refine ay_may _ _ _ _ _ _ _ _ _ _ _ 2 (by decide) hz (fun a2 => br_f ar_n0 ?_) (fun a2 => br_t rfl (no (fun k => a2 (i4.mp k).1.2.2.1)))
    refine ay_may _ _ _ _ _ _ _ _ _ _ _ 3 (by decide) w9 (fun a3 => br_f ar_n0 ?_) (fun a3 => br_t rfl (no (fun k => a3 (i4.mp k).1.2.2.2)))
    unfold wY_tryLast_47
    refine br_f ar_n0 (nm_e (nm_e (nm_e (nm_e ?_))))
    refine hsol (co_ x y z w) hlt _ sl (co_g gn hx hy hz w9) _ (fun k => ?_) (fun k => ?_)
    · exact ay_t90 _ _ _ _ _ _ _ _ _ _ _ _ _ hx hy hz w9 (Or.inr rfl) ⟨fun h => absurd h ar_n0, fun h => absurd (i4.mpr ⟨⟨m0, m1, a2, a3⟩, k⟩) h⟩ hi (fun sl' h' => ih (w + 1) _ sl' (by omega) h')
    · exact ay_t90 _ _ _ _ _ _ _ _ _ _ _ _ _ hx hy hz w9 (Or.inl rfl) ⟨fun _ h => k (i4.mp h).2, fun _ => rfl⟩ hi (fun sl' h' => ih (w + 1) _ sl' (by omega) h')
theorem ay_t5 {post : Int32 → SY → Prop} {so : Nat → Prop} {B M : Nat → Bool} {x y : Nat} (hx : x < 9) (hy : y < 9)
    (hsol : ∀ c, c < 6561 → ∀ gn sl : Nat → Int32, (∀ v, v < 4 → gn v = nI (dg_ c v)) → ∀ post : Int32 → Prop, (so c → post 1) → (¬ so c → post 0) → wpY_solution post (pc, nc, ep, cc, mb_I B, mb_I M, hd, nd, kd, fd, sd, gn, sl))
    (m0 : my_ B M 0 x) (m1 : my_ B M 1 y)
    (hp : ∀ gn sl, iv_ (sy_ so B M) sl (729 * x + 81 * y + 81) → post (nI (cn_ (sy_ so B M) (729 * x + 81 * y) 81)) (pc, nc, ep, cc, mb_I B, mb_I M, hd, nd, kd, fd, sd, gn, sl)) :
    ∀ d z gn sl, z + d = 9 → iv_ (sy_ so B M) sl (729 * x + 81 * y + 9 * z) → wY_tryLast_5 post (nI x) (nI y) pc nc ep cc (mb_I B) (mb_I M) (d + 1) (nI (cn_ (sy_ so B M) (729 * x + 81 * y) (9 * z))) (nI z) hd nd kd fd sd gn sl := by
  intro d
  induction d with
  | zero =>
    intro z gn sl hz hi
    have e : z = 9 := by omega
    subst e
    exact pk_le 9 9 (fun _ => hp gn sl hi) (fun q => absurd q (by omega))
  | succ d ih =>
    intro z gn sl hz hi
    refine pk_le 9 z (fun q => absurd q (by omega)) (fun q => ⟨10, ?_⟩)
    exact ay_t15 _ _ _ _ _ _ _ _ _ hx hy (by omega) hsol m0 m1 (fun gn sl h' => ih (z + 1) gn sl (by omega) h') 9 0 gn sl (by omega) hi
theorem ay_tl {post : Int32 → SY → Prop} {so : Nat → Prop} {B M : Nat → Bool} {x y : Nat} (hx : x < 9) (hy : y < 9)
    (hsol : ∀ c, c < 6561 → ∀ gn sl : Nat → Int32, (∀ v, v < 4 → gn v = nI (dg_ c v)) → ∀ post : Int32 → Prop, (so c → post 1) → (¬ so c → post 0) → wpY_solution post (pc, nc, ep, cc, mb_I B, mb_I M, hd, nd, kd, fd, sd, gn, sl))
    (m0 : my_ B M 0 x) (m1 : my_ B M 1 y) (hi : iv_ (sy_ so B M) sl (729 * x + 81 * y))
    (hp : ∀ gn sl, iv_ (sy_ so B M) sl (729 * x + 81 * y + 81) → post (nI (cn_ (sy_ so B M) (729 * x + 81 * y) 81)) (pc, nc, ep, cc, mb_I B, mb_I M, hd, nd, kd, fd, sd, gn, sl)) : wpY_tryLast post (pc, nc, ep, cc, mb_I B, mb_I M, hd, nd, kd, fd, sd, gn, sl) (nI x) (nI y) :=
  Exists.intro 10 (ay_t5 _ _ _ _ _ _ _ _ _ hx hy hsol m0 m1 hp 9 0 gn sl (by omega) hi)
theorem ay_w109 {post : Int32 → SY → Prop} {J : Int32 → Int32 → Int32 → Int32 → Int32 → Int32 → Int32 → Int32 → (Nat → Int32) → (Nat → Int32) → (Nat → Int32) → (Nat → Int32) → (Nat → Int32) → (Nat → Int32) → (Nat → Int32) → Prop} {so : Nat → Prop} {B M : Nat → Bool} {x : Nat} (hx : x < 9)
    (hsol : ∀ c, c < 6561 → ∀ gn sl : Nat → Int32, (∀ v, v < 4 → gn v = nI (dg_ c v)) → ∀ post : Int32 → Prop, (so c → post 1) → (¬ so c → post 0) → wpY_solution post (pc, nc, ep, cc, mb_I B, mb_I M, hd, nd, kd, fd, sd, gn, sl))
    (hJ : ∀ gn sl, iv_ (sy_ so B M) sl (729 * (x + 1)) → J (nI (cn_ (sy_ so B M) 0 (729 * (x + 1)))) (nI (x + 1)) pc nc ep cc (mb_I B) (mb_I M) hd nd kd fd sd gn sl) :
    ∀ d y gn sl, y + d = 9 → iv_ (sy_ so B M) sl (729 * x + 81 * y) → wY_work_109 post J (nI x) (d + 1) (nI (cn_ (sy_ so B M) 0 (729 * x + 81 * y))) (nI y) pc nc ep cc (mb_I B) (mb_I M) hd nd kd fd sd gn sl := by
  intro d
  induction d with
  | zero =>
    intro y gn sl hy hi
    have e : 729 * x + 81 * y = 729 * (x + 1) := by omega
    rw [e] at hi ⊢
    exact pk_le 9 y (fun _ => nm_r (nI_1 x) (hJ gn sl hi)) (fun q => absurd q (by omega))
  | succ d ih =>
    intro y gn sl hy hi
    have y9 : y < 9 := by omega
    have e81 : 729 * x + 81 * (y + 1) = 729 * x + 81 * y + 81 := by omega
    refine pk_le 9 y (fun q => absurd q (by omega)) (fun q => ?_)
    have no : ¬ (my_ B M 0 x ∧ my_ B M 1 y) → wY_work_109 post J (nI x) (d + 1) (nI (cn_ (sy_ so B M) 0 (729 * x + 81 * y))) (nI (y + 1)) pc nc ep cc (mb_I B) (mb_I M) hd nd kd fd sd gn sl := by
      intro hn
      have k := ih (y + 1) gn sl (by omega) (by rw [e81]; exact iv_skip hi (sy_no hx y9 hn))
      rw [e81, cn_add, cn_none _ (sy_no hx y9 hn), Nat.add_zero] at k
      exact k
    refine ay_may _ _ _ _ _ _ _ _ _ _ _ 0 (by decide) hx (fun a0 => br_f ar_n0 ?_) (fun a0 => br_t rfl (nm_r (nI_1 y) (no (fun k => a0 k.1))))
    refine ay_may _ _ _ _ _ _ _ _ _ _ _ 1 (by decide) y9 (fun a1 => br_f ar_n0 ?_) (fun a1 => br_t rfl (nm_r (nI_1 y) (no (fun k => a1 k.2))))
    refine ay_tl _ _ _ _ _ _ _ _ _ _ _ hx y9 hsol a0 a1 hi (fun gn' sl' hi' => ?_)
    have k := ih (y + 1) gn' sl' (by omega) (by rw [e81]; exact hi')
    rw [e81, cn_add] at k
    exact nm_r (nI_add _ _) (nm_r (nI_1 y) k)
theorem ay_w101 {post : Int32 → SY → Prop} {so : Nat → Prop} {B M : Nat → Bool}
    (hsol : ∀ c, c < 6561 → ∀ gn sl : Nat → Int32, (∀ v, v < 4 → gn v = nI (dg_ c v)) → ∀ post : Int32 → Prop, (so c → post 1) → (¬ so c → post 0) → wpY_solution post (pc, nc, ep, cc, mb_I B, mb_I M, hd, nd, kd, fd, sd, gn, sl))
    (hp : ∀ gn sl, iv_ (sy_ so B M) sl 6561 → post (nI (cn_ (sy_ so B M) 0 6561)) (pc, nc, ep, cc, mb_I B, mb_I M, hd, nd, kd, fd, sd, gn, sl)) :
    ∀ d x gn sl, x + d = 9 → iv_ (sy_ so B M) sl (729 * x) → wY_work_101 post (d + 1) (nI (cn_ (sy_ so B M) 0 (729 * x))) (nI x) pc nc ep cc (mb_I B) (mb_I M) hd nd kd fd sd gn sl := by
  intro d
  induction d with
  | zero =>
    intro x gn sl hx hi
    have e : x = 9 := by omega
    subst e
    exact pk_le 9 9 (fun _ => hp gn sl hi) (fun q => absurd q (by omega))
  | succ d ih =>
    intro x gn sl hx hi
    refine pk_le 9 x (fun q => absurd q (by omega)) (fun q => ⟨10, ?_⟩)
    exact ay_w109 _ _ _ _ _ _ _ _ _ (by omega) hsol (fun gn sl h' => ih (x + 1) gn sl (by omega) h') 9 0 gn sl (by omega) hi
theorem ay_w77 {post : Int32 → SY → Prop} {so : Nat → Prop} {B M : Nat → Bool}
    (hsol : ∀ c, c < 6561 → ∀ gn sl : Nat → Int32, (∀ v, v < 4 → gn v = nI (dg_ c v)) → ∀ post : Int32 → Prop, (so c → post 1) → (¬ so c → post 0) → wpY_solution post (pc, nc, ep, cc, mb_I B, mb_I M, hd, nd, kd, fd, sd, gn, sl))
    (hp : ∀ gn sl, iv_ (sy_ so B M) sl 6561 → post (nI (cn_ (sy_ so B M) 0 6561)) (pc, nc, ep, cc, mb_I B, mb_I M, hd, nd, kd, fd, sd, gn, sl)) :
    ∀ d i sl, i + d = 6561 → (∀ c, c < i → sl c = 0) → wY_work_77 post pc nc ep cc (mb_I B) (mb_I M) (d + 1) (nI i) hd nd kd fd sd gn sl := by
  intro d
  induction d with
  | zero =>
    intro i sl hi hz
    refine pk_le 6561 i (fun _ => ⟨10, ?_⟩) (fun q => absurd q (by omega))
    exact ay_w101 _ _ _ _ _ _ _ _ _ hsol hp 9 0 gn sl (by omega) (fun c hc => ⟨fun _ k => absurd k.1 (by omega), fun _ => hz c (by omega)⟩)
  | succ d ih =>
    intro i sl hi hz
    refine pk_le 6561 i (fun q => absurd q (by omega)) (fun q => ⟨vp_in_nI (by omega) (by decide), ?_⟩)
    rw [nI_clamp (by omega), ar_v0]
    refine nm_e (nm_r (nI_1 i) (ih (i + 1) _ (by omega) (fun c hc => ?_)))
    by_cases e : c = i
    · subst e; exact pk_us
    · rw [pk_un e]; exact hz c (by omega)
theorem ay_w45 {post : Int32 → SY → Prop} {so : Nat → Prop} {B ew : Nat → Bool} {e : Nat}
    (hex : (ep = nI e ∧ e < 1728 ∧ ew = vq_ e) ∨ (ep = -1 ∧ ew = fun _ => false))
    (hsol : ∀ c, c < 6561 → ∀ gn sl : Nat → Int32, (∀ v, v < 4 → gn v = nI (dg_ c v)) → ∀ post : Int32 → Prop, (so c → post 1) → (¬ so c → post 0) → wpY_solution post (pc, nc, ep, cc, mb_I B, mb_I (fun v => ew v && !B v), hd, nd, kd, fd, sd, gn, sl))
    (hp : ∀ gn sl, iv_ (sy_ so B (fun v => ew v && !B v)) sl 6561 → post (nI (cn_ (sy_ so B (fun v => ew v && !B v)) 0 6561)) (pc, nc, ep, cc, mb_I B, mb_I (fun v => ew v && !B v), hd, nd, kd, fd, sd, gn, sl)) :
    wY_work_45 post pc nc ep cc (mb_I B) mo hd nd kd fd sd gn sl := by
  rcases hex with ⟨rfl, he, rfl⟩ | ⟨rfl, rfl⟩
  · refine br_t (nI_pos' (by omega)) (ay_vars _ _ _ _ _ _ _ _ _ _ _ _ _ he (nm_r (mb_sub (vq_ e) B) ⟨6562, ?_⟩))
    exact ay_w77 _ _ _ _ _ _ _ _ _ _ hsol hp 6561 0 sl (by omega) lt_0
  · refine br_f (by decide) ⟨6562, ?_⟩
    have k := ay_w77 _ _ _ _ _ _ _ _ _ gn hsol hp 6561 0 sl (by omega) lt_0
    have e0 : mb_I (fun v => (fun _ => false) v && !B v) = 0 := mb_0
    rw [e0] at k
    exact k
theorem ay_w7 {post : Int32 → SY → Prop} {so : Nat → Prop} {ew : Nat → Bool} {e n : Nat} {pp : Nat → Nat} (hn : n ≤ 4) (hnd : ∀ i, i < 4 → nd i = nI (pp i) ∧ pp i < 1728)
    (hex : (ep = nI e ∧ e < 1728 ∧ ew = vq_ e) ∨ (ep = -1 ∧ ew = fun _ => false))
    (hsol : ∀ c, c < 6561 → ∀ gn sl : Nat → Int32, (∀ v, v < 4 → gn v = nI (dg_ c v)) → ∀ post : Int32 → Prop, (so c → post 1) → (¬ so c → post 0) → wpY_solution post (pc, nI n, ep, cc, mb_I (nb_ pp n), mb_I (fun v => ew v && !nb_ pp n v), hd, nd, kd, fd, sd, gn, sl))
    (hp : ∀ gn sl, iv_ (sy_ so (nb_ pp n) (fun v => ew v && !nb_ pp n v)) sl 6561 → post (nI (cn_ (sy_ so (nb_ pp n) (fun v => ew v && !nb_ pp n v)) 0 6561)) (pc, nI n, ep, cc, mb_I (nb_ pp n), mb_I (fun v => ew v && !nb_ pp n v), hd, nd, kd, fd, sd, gn, sl)) :
    ∀ d i, i + d = n → wY_work_7 post pc (nI n) ep cc mo hd nd kd fd sd gn sl (d + 1) (nI i) (mb_I (nb_ pp i)) := by
  intro d
  induction d with
  | zero =>
    intro i hi
    have e : i = n := by omega
    subst e
    exact pk_le i i (fun _ => ay_w45 _ _ _ _ _ _ _ _ _ _ _ _ hex hsol hp) (fun q => absurd q (by omega))
  | succ d ih =>
    intro i hi
    refine pk_le n i (fun q => absurd q (by omega)) (fun q => pk_le 4 i (fun q => absurd q (by omega)) (fun q => ⟨vp_in_nI (by omega) (by decide), ?_⟩))
    rw [nI_clamp (by omega), (hnd i (by omega)).1]
    exact ay_vars _ _ _ _ _ _ _ _ _ _ _ _ _ (hnd i (by omega)).2 (nm_r (mb_or _ _) (nm_r (nI_1 i) (ih (i + 1) (by omega))))
def sF_ (hd : Nat → Int32) (n : Nat) (pp : Nat → Nat) (m : Nat) (kk ff ss : Nat → Nat) (ew : Nat → Bool) (e : Nat) : Nat → Prop :=
  sy_ (so_ (hb_ hd) n pp m kk ff ss (nb_ pp n) (fun v => ew v && !nb_ pp n v) e) (nb_ pp n) (fun v => ew v && !nb_ pp n v)
theorem ay_work {post : Int32 → SY → Prop} {ew : Nat → Bool} {e n m : Nat} {pp kk ff ss : Nat → Nat} (hn : n ≤ 4) (hnd : ∀ i, i < 4 → nd i = nI (pp i) ∧ pp i < 1728)
    (hm : m ≤ 3) (hk : ∀ i, i < 3 → kd i = nI (kk i) ∧ kk i < 3) (hf : ∀ i, i < 3 → fd i = nI (ff i) ∧ ff i < 12) (hs : ∀ i, i < 3 → sd i = nI (ss i) ∧ ss i < 12)
    (hex : (ep = nI e ∧ e < 1728 ∧ ew = vq_ e) ∨ (ep = -1 ∧ ew = fun _ => false))
    (hp : ∀ bs mo gn sl, iv_ (sF_ hd n pp m kk ff ss ew e) sl 6561 → post (nI (cn_ (sF_ hd n pp m kk ff ss ew e) 0 6561)) (pc, nI n, ep, nI m, bs, mo, hd, nd, kd, fd, sd, gn, sl)) :
    wpY_work post (pc, nI n, ep, nI m, bs, mo, hd, nd, kd, fd, sd, gn, sl) := by
  refine Exists.intro (n + 1) ?_
  have e0 : mb_I (nb_ pp 0) = 0 := mb_0
  have k := ay_w7 pc ep (nI m) mo hd nd kd fd sd gn sl (post := post) hn hnd hex (fun c hc gn sl hg post h1 h0 => ay_solution _ _ _ _ _ _ _ _ _ hn hnd hm hk hf hs hc hg (fun q => ?_) h1 h0) (fun gn sl h => hp _ _ gn sl h) n 0 (by omega)
  · rw [e0] at k
    exact k
  · rcases hex with ⟨rfl, he, rfl⟩ | ⟨rfl, rfl⟩
    · exact ⟨rfl, he⟩
    · exact absurd (mb_0 : mb_I (fun v => (fun _ => false) v && !nb_ pp n v) = 0) q
end
