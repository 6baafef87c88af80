section
variable (pc nc ep cc nv ev : Int32) (hd nd kd fd sd ps : Nat → Int32)
theorem ax_subj {post : Int32 → Prop} {p : Nat} (hp : p < 1728) (h : post (nI (en_ p 0))) : wpX_subjectEntry post (nI p) := And.intro (by decide) (ar_p (P := post) (ar_div 144) h)
theorem ax_link {post : Int32 → Prop} {p : Nat} (hp : p < 1728) (h : post (nI (en_ p 1))) : wpX_linkEntry post (nI p) := And.intro (by decide) ⟨by decide, ar_p (P := post) (ar_dr 12 12) h⟩
theorem ax_obj {post : Int32 → Prop} {p : Nat} (hp : p < 1728) (h : post (nI (en_ p 2))) : wpX_objectEntry post (nI p) := And.intro (by decide) (ar_p (P := post) (ar_rem 12) h)
theorem ax_given {post : Int32 → Prop} {e c : Nat} (he : e < 12) (hc : c < 6561) (h : post (nI (gv_ e c))) : wpX_given post (nI e) (nI c) :=
  pk_lt e 8 (fun h8 => by rw [gv_e h8] at h; exact h) (fun h8 => by
    rw [gv_v h8] at h
    refine pk_lt 11 e (fun z => absurd z (by omega)) (fun _ => pk_eq e 8 (fun z => ?_) (fun z8 => pk_eq e 9 (fun z => ?_) (fun z9 => pk_eq e 10 (fun z => ?_) (fun z10 => pk_eq e 11 (fun z => ?_) (fun z11 => trivial)))))
    · subst z; exact ⟨by decide, ar_p (P := post) (ar_div 729) h⟩
    · subst z; exact ⟨by decide, by decide, ar_p (P := post) (ar_dr 81 9) h⟩
    · subst z; exact ⟨by decide, by decide, ar_p (P := post) (ar_dr 9 9) h⟩
    · subst z; exact ⟨by decide, ar_p (P := post) (ar_rem 9) h⟩)
theorem ax_allows {post : Int32 → Prop} {g x : Nat} (hg : g < 9) (hx : x < 9) (h1 : al_ g x → post 1) (h0 : ¬ al_ g x → post 0) : wpX_allows post (nI g) (nI x) :=
  pk_eq g 8 (fun z => h1 (Or.inl z)) (fun z => pk_eq g x (fun y => h1 (Or.inr y)) (fun y => h0 (fun w => w.elim z y)))
theorem ax_f83 {post : Int32 → Prop} {c a b d x y z : Nat} (hc : c < 6561) (ha : a < 8) (hb : b < 8) (hd : d < 8) (hx : x < 12) (hy : y < 12) (hz : z < 12)
    (h1 : al_ (gv_ x c) a ∧ al_ (gv_ y c) b ∧ al_ (gv_ z c) d → post 1) (h0 : ¬ (al_ (gv_ x c) a ∧ al_ (gv_ y c) b ∧ al_ (gv_ z c) d) → post 0) :
    wX_fits_83 post (nI c) (nI a) (nI b) (nI d) (nI x) (nI y) (nI z) :=
  ax_given hx hc (ax_given hy hc (ax_given hz hc (ax_allows (gv_lt hc) (by omega)
    (fun a0 => br_f ar_n0 (ax_allows (gv_lt hc) (by omega)
      (fun a1 => br_f ar_n0 (ax_allows (gv_lt hc) (by omega)
        (fun a2 => br_f ar_n0 (h1 ⟨a0, a1, a2⟩))
        (fun n => br_t rfl (h0 (fun w => n w.2.2)))))
      (fun n => br_t rfl (h0 (fun w => n w.2.1)))))
    (fun n => br_t rfl (h0 (fun w => n w.1))))))
theorem ax_f67 {post : Int32 → Prop} {c a b d x y z : Nat} (hc : c < 6561) (ha : a < 8) (hb : b < 8) (hd : d < 8) (hx : x < 12) (hy : y < 12) (hz : z < 12)
    (h1 : (y = z → b = d) ∧ al_ (gv_ x c) a ∧ al_ (gv_ y c) b ∧ al_ (gv_ z c) d → post 1) (h0 : ¬ ((y = z → b = d) ∧ al_ (gv_ x c) a ∧ al_ (gv_ y c) b ∧ al_ (gv_ z c) d) → post 0) :
    wX_fits_67 post (nI c) (nI a) (nI b) (nI d) (nI x) (nI y) (nI z) :=
  pk_eq y z
    (fun e => pk_eq b d (fun f => ax_f83 hc ha hb hd hx hy hz (fun w => h1 ⟨fun _ => f, w⟩) (fun n => h0 (fun w => n w.2))) (fun f => h0 (fun w => f (w.1 e))))
    (fun e => ax_f83 hc ha hb hd hx hy hz (fun w => h1 ⟨fun t => absurd t e, w⟩) (fun n => h0 (fun w => n w.2)))
theorem ax_f52 {post : Int32 → Prop} {c a b d x y z : Nat} (hc : c < 6561) (ha : a < 8) (hb : b < 8) (hd : d < 8) (hx : x < 12) (hy : y < 12) (hz : z < 12)
    (h1 : (x = z → a = d) ∧ (y = z → b = d) ∧ al_ (gv_ x c) a ∧ al_ (gv_ y c) b ∧ al_ (gv_ z c) d → post 1) (h0 : ¬ ((x = z → a = d) ∧ (y = z → b = d) ∧ al_ (gv_ x c) a ∧ al_ (gv_ y c) b ∧ al_ (gv_ z c) d) → post 0) :
    wX_fits_52 post (nI c) (nI a) (nI b) (nI d) (nI x) (nI y) (nI z) :=
  pk_eq x z
    (fun e => pk_eq a d (fun f => ax_f67 hc ha hb hd hx hy hz (fun w => h1 ⟨fun _ => f, w⟩) (fun n => h0 (fun w => n w.2))) (fun f => h0 (fun w => f (w.1 e))))
    (fun e => ax_f67 hc ha hb hd hx hy hz (fun w => h1 ⟨fun t => absurd t e, w⟩) (fun n => h0 (fun w => n w.2)))
theorem ax_fits {post : Int32 → Prop} {s p c : Nat} (hs : s < 256) (hp : p < 1728) (hc : c < 6561) (h1 : fx_ s p c → post 1) (h0 : ¬ fx_ s p c → post 0) : wpX_fits post (nI s) (nI p) (nI c) := by
  have a0 := pt_lt hs 0
  have a1 := pt_lt hs 1
  have a2 := pt_lt hs 2
  have e0 := en_lt hp 0
  have e1 := en_lt hp 1
  have e2 := en_lt hp 2
  refine And.intro (by decide) (nm_r (e' := nI (pt_ s 0)) (ar_div 32) ⟨by decide, by decide, nm_r (e' := nI (pt_ s 1)) (ar_dr 8 4) ⟨by decide, nm_r (e' := nI (pt_ s 2)) (ar_rem 8) ?_⟩⟩)
  refine ax_subj hp (ax_link hp (ax_obj hp ?_))
  exact pk_eq (en_ p 0) (en_ p 1)
    (fun e => pk_eq (pt_ s 0) (pt_ s 1) (fun f => ax_f52 hc a0 a1 a2 e0 e1 e2 (fun w => h1 ⟨fun _ => f, w⟩) (fun n => h0 (fun w => n w.2))) (fun f => h0 (fun w => f (w.1 e))))
    (fun e => ax_f52 hc a0 a1 a2 e0 e1 e2 (fun w => h1 ⟨fun t => absurd t e, w⟩) (fun n => h0 (fun w => n w.2)))
def eb_ (hd : Nat → Int32) (wo : Int32) (s : Nat) : Prop := ¬ hd s = 0 ∧ ¬ nI s = wo
theorem ax_holds {post : Int32 → Prop} {p c : Nat} {wo : Int32} (hp : p < 1728) (hc : c < 6561) (h1 : hl_ (eb_ hd wo) p c → post 1) (h0 : ¬ hl_ (eb_ hd wo) p c → post 0) : wpX_holds post (pc, nc, ep, cc, nv, ev, hd, nd, kd, fd, sd, ps) (nI p) (nI c) wo := by
  unfold wpX_holds
  dsimp only
  refine ax_subj hp (ax_link hp (ax_obj hp (ax_given (en_lt hp 0) hc (ax_given (en_lt hp 1) hc (ax_given (en_lt hp 2) hc ?_)))))
  unfold hl_ at h1 h0
  have g0 : gv_ (en_ p 0) c < 9 := gv_lt hc
  have g1 : gv_ (en_ p 1) c < 9 := gv_lt hc
  have g2 : gv_ (en_ p 2) c < 9 := gv_lt hc
  generalize gv_ (en_ p 0) c = a at *
  generalize gv_ (en_ p 1) c = b at *
  generalize gv_ (en_ p 2) c = d at *
  refine pk_le 8 a (fun z => h0 (fun w => absurd w.1 (by omega))) (fun z0 => pk_lt 3 b (fun z => h0 (fun w => absurd w.2.1 (by omega))) (fun z1 => pk_lt d 8 (fun z2 => ?_) (fun z => h0 (fun w => absurd w.2.2.1 (by omega)))))
  have e : (32 : Int32) * nI a + 8 * nI b + nI d = nI (32 * a + 8 * b + d) := by
    rw [← nI_add, ← nI_add, ← pk_mul, ← pk_mul]; rfl
  refine nm_r e (br_c (fun q => h0 (fun w => w.2.2.2.2 q)) (fun q => ⟨vp_in_nI (by omega) (by decide), ?_⟩))
  rw [nI_clamp (by omega)]
  exact br_c (fun t => h0 (fun w => w.2.2.2.1 t)) (fun t => h1 ⟨by omega, by omega, by omega, t, q⟩)
theorem ax_nhl {post : Int32 → Prop} {n c : Nat} {pp : Nat → Nat} {wo : Int32} (hn : n ≤ 4) (hnd : ∀ i, i < 4 → nd i = nI (pp i) ∧ pp i < 1728) (hc : c < 6561)
    (h1 : nh_ (eb_ hd wo) n pp c → post 1) (h0 : ¬ nh_ (eb_ hd wo) n pp c → post 0) :
    ∀ d i, i + d = n → (∀ j, j < i → hl_ (eb_ hd wo) (pp j) c) → wX_neededHold_2 post (nI c) wo pc (nI n) ep cc nv ev hd nd kd fd sd ps (d + 1) (nI i) := by
  intro d
  induction d with
  | zero => exact fun i hi hj => pk_le n i (fun _ => h1 (fun j hjn => hj j (by omega))) (fun z => absurd z (by omega))
  | succ d ih =>
    intro i hi hj
    refine pk_le n i (fun z => absurd z (by omega)) (fun z => ⟨vp_in_nI (by omega) (by decide), ?_⟩)
    rw [nI_clamp (by omega), (hnd i (by omega)).1]
    exact ax_holds _ _ _ _ _ _ _ _ _ _ _ _ (hnd i (by omega)).2 hc
      (fun w => br_f ar_n0 (nm_r (nI_1 i) (ih (i + 1) (by omega) (lt_s hj w))))
      (fun w => br_t rfl (h0 (fun al => w (al i (by omega)))))
theorem ax_nh {post : Int32 → Prop} {n c : Nat} {pp : Nat → Nat} {wo : Int32} (hn : n ≤ 4) (hnd : ∀ i, i < 4 → nd i = nI (pp i) ∧ pp i < 1728) (hc : c < 6561)
    (h1 : nh_ (eb_ hd wo) n pp c → post 1) (h0 : ¬ nh_ (eb_ hd wo) n pp c → post 0) : wpX_neededHold post (pc, nI n, ep, cc, nv, ev, hd, nd, kd, fd, sd, ps) (nI c) wo :=
  Exists.intro (n + 1) (ax_nhl _ _ _ _ _ _ _ _ _ _ _ hn hnd hc h1 h0 n 0 (by omega) lt_0)
theorem ax_kept {post : Int32 → Prop} {k x y : Nat} (hk : k < 3) (hx : x < 9) (hy : y < 9) (h1 : kp_ k x y → post 1) (h0 : ¬ kp_ k x y → post 0) : wpX_isKept post (nI k) (nI x) (nI y) :=
  pk_eq x 8 (fun z => h0 (fun w => w.1 z)) (fun zx => pk_eq y 8 (fun z => h0 (fun w => w.2.1 z)) (fun zy =>
    pk_eq k 0
      (fun k0 => pk_eq x y (fun e => h1 ⟨zx, zy, fun _ => e, fun z => absurd z (by omega), fun z => absurd k0 z⟩) (fun e => h0 (fun w => e (w.2.2.1 k0))))
      (fun k0 => pk_eq k 1
        (fun k1 => pk_eq x y (fun e => h0 (fun w => w.2.2.2.1 k1 e)) (fun e => h1 ⟨zx, zy, fun z => absurd z k0, fun _ => e, fun _ z => absurd k1 z⟩))
        (fun k1 => pk_le y x (fun e => h0 (fun w => absurd (w.2.2.2.2 k0 k1) (by omega))) (fun e => h1 ⟨zx, zy, fun z => absurd z k0, fun z => absurd z k1, fun _ _ => e⟩)))))
theorem ax_ckl {post : Int32 → Prop} {m c : Nat} {kk ff ss : Nat → Nat} (hm : m ≤ 3) (hk : ∀ i, i < 3 → kd i = nI (kk i) ∧ kk i < 3) (hf : ∀ i, i < 3 → fd i = nI (ff i) ∧ ff i < 12) (hs : ∀ i, i < 3 → sd i = nI (ss i) ∧ ss i < 12) (hc : c < 6561)
    (h1 : ck_ m kk ff ss c → post 1) (h0 : ¬ ck_ m kk ff ss c → post 0) :
    ∀ d i, i + d = m → (∀ j, j < i → kp_ (kk j) (gv_ (ff j) c) (gv_ (ss j) c)) → wX_conditionsKept_2 post (nI c) pc nc ep (nI m) nv ev hd nd kd fd sd ps (d + 1) (nI i) := by
  intro d
  induction d with
  | zero => exact fun i hi hj => pk_le m i (fun _ => h1 (fun j hjn => hj j (by omega))) (fun z => absurd z (by omega))
  | succ d ih =>
    intro i hi hj
    have hin : vp_in (nI i) 3 := vp_in_nI (by omega) (by decide)
    refine pk_le m i (fun z => absurd z (by omega)) (fun z => ⟨hin, ?_⟩)
    rw [nI_clamp (by omega), (hf i (by omega)).1, (hs i (by omega)).1, (hk i (by omega)).1]
    refine ax_given (hf i (by omega)).2 hc ⟨hin, ax_given (hs i (by omega)).2 hc ⟨hin, ?_⟩⟩
    exact ax_kept (hk i (by omega)).2 (gv_lt hc) (gv_lt hc)
      (fun w => br_f ar_n0 (nm_r (nI_1 i) (ih (i + 1) (by omega) (lt_s hj w))))
      (fun w => br_t rfl (h0 (fun al => w (al i (by omega)))))
theorem ax_ck {post : Int32 → Prop} {m c : Nat} {kk ff ss : Nat → Nat} (hm : m ≤ 3) (hk : ∀ i, i < 3 → kd i = nI (kk i) ∧ kk i < 3) (hf : ∀ i, i < 3 → fd i = nI (ff i) ∧ ff i < 12) (hs : ∀ i, i < 3 → sd i = nI (ss i) ∧ ss i < 12) (hc : c < 6561)
    (h1 : ck_ m kk ff ss c → post 1) (h0 : ¬ ck_ m kk ff ss c → post 0) : wpX_conditionsKept post (pc, nc, ep, nI m, nv, ev, hd, nd, kd, fd, sd, ps) (nI c) :=
  Exists.intro (m + 1) (ax_ckl _ _ _ _ _ _ _ _ _ _ _ hm hk hf hs hc h1 h0 m 0 (by omega) lt_0)
theorem ax_afl {post : Int32 → Prop} {p c : Nat} {wo : Int32} (hp : p < 1728) (hc : c < 6561)
    (h1 : (∃ s, s < 256 ∧ eb_ hd wo s ∧ fx_ s p c) → post 1) (h0 : ¬ (∃ s, s < 256 ∧ eb_ hd wo s ∧ fx_ s p c) → post 0) :
    ∀ d i, i + d = 256 → (∀ j, j < i → ¬ (eb_ hd wo j ∧ fx_ j p c)) → wX_anyFits_3 post (nI p) (nI c) wo pc nc ep cc nv ev hd nd kd fd sd ps (d + 1) (nI i) := by
  intro d
  induction d with
  | zero => exact fun i hi hj => pk_le 256 i (fun _ => h0 (fun ⟨s, hs, w⟩ => hj s (by omega) w)) (fun z => absurd z (by omega))
  | succ d ih =>
    intro i hi hj
    refine pk_le 256 i (fun z => absurd z (by omega)) (fun z => ⟨vp_in_nI (by omega) (by decide), ?_⟩)
    rw [nI_clamp (by omega)]
    refine br_c (fun t => nm_r (nI_1 i) (ih (i + 1) (by omega) (lt_s hj (fun w => w.1.1 t)))) (fun t => ?_)
    refine br_c (fun q => nm_r (nI_1 i) (ih (i + 1) (by omega) (lt_s hj (fun w => w.1.2 q)))) (fun q => ?_)
    exact ax_fits (by omega) hp hc (fun w => br_f ar_n0 (h1 ⟨i, by omega, ⟨t, q⟩, w⟩)) (fun w => br_t rfl (nm_r (nI_1 i) (ih (i + 1) (by omega) (lt_s hj (fun x => w x.2)))))
theorem ax_af {post : Int32 → Prop} {p c : Nat} {wo : Int32} (hp : p < 1728) (hc : c < 6561)
    (h1 : (∃ s, s < 256 ∧ eb_ hd wo s ∧ fx_ s p c) → post 1) (h0 : ¬ (∃ s, s < 256 ∧ eb_ hd wo s ∧ fx_ s p c) → post 0) : wpX_anyFits post (pc, nc, ep, cc, nv, ev, hd, nd, kd, fd, sd, ps) (nI p) (nI c) wo :=
  Exists.intro 257 (ax_afl _ _ _ _ _ _ _ _ _ _ _ _ hp hc h1 h0 256 0 (by omega) lt_0)
def op_ (c v : Nat) : Bool := dg_ c v == 8
theorem ax_opl {post : Int32 → Prop} {c : Nat} (hc : c < 6561) (h : post (mb_I (op_ c))) :
    ∀ d i, i + d = 4 → wX_openVariables_4 post (nI c) (d + 1) (mb_I (fun w => decide (w < i) && op_ c w)) (nI i) := by
  intro d
  induction d with
  | zero =>
    refine fun i hi => pk_le 4 i (fun _ => ?_) (fun z => absurd z (by omega))
    refine ar_p (P := post) (mb_congr (fun v hv => ?_)) h
    rw [decide_eq_true (by omega), Bool.true_and]
  | succ d ih =>
    intro i hi
    refine pk_le 4 i (fun z => absurd z (by omega)) (fun z => ?_)
    rw [ar_8]
    refine ax_given (by omega) hc ?_
    rw [gv_v (by omega), Nat.add_sub_cancel_left]
    have g := dg_lt hc i
    refine pk_eq (dg_ c i) 8 (fun e => ?_) (fun e => ?_)
    · refine nm_r ?_ (nm_r (nI_1 i) (ih (i + 1) (by omega)))
      rw [mb_one i (by omega), mb_or]
      refine mb_congr (fun v hv => ?_)
      by_cases hvi : v = i
      · subst hvi; simp [op_, e]
      · have e1 : decide (v < i + 1) = decide (v < i) := by simp; omega
        simp [e1, hvi]
    · refine nm_r (nI_1 i) ?_
      have k := ih (i + 1) (by omega)
      refine ar_p (P := fun t => wX_openVariables_4 post (nI c) (d + 1) t (nI (i + 1))) ?_ k
      refine mb_congr (fun v hv => ?_)
      by_cases hvi : v = i
      · subst hvi; simp [op_, e]
      · have e1 : decide (v < i + 1) = decide (v < i) := by simp; omega
        simp [e1]
theorem ax_op {post : Int32 → Prop} {c : Nat} (hc : c < 6561) (h : post (mb_I (op_ c))) : wpX_openVariables post (nI c) :=
  Exists.intro 5 (ax_opl hc h 4 0 (by omega))
def sx_ (b : Nat → Prop) (n : Nat) (pp : Nat → Nat) (m : Nat) (kk ff ss : Nat → Nat) (nb ew : Nat → Bool) (e c : Nat) : Prop :=
  (mb_I (op_ c) = mb_I (fun v => !nb v) ∨ mb_I (op_ c) = mb_I (fun v => !nb v && !ew v)) ∧ nh_ b n pp c ∧ ck_ m kk ff ss c ∧
  (¬ mb_I (fun v => !nb v) = mb_I (fun v => !nb v && !ew v) → (mb_I (op_ c) = mb_I (fun v => !nb v && !ew v) → hl_ b e c) ∧ (¬ mb_I (op_ c) = mb_I (fun v => !nb v && !ew v) → ¬ ∃ s, s < 256 ∧ b s ∧ fx_ s e c))
theorem ax_s41 {post : Int32 → Prop} {wo : Int32} {n m e c : Nat} {pp kk ff ss : Nat → Nat} {nb ew : Nat → Bool} (hn : n ≤ 4) (hnd : ∀ i, i < 4 → nd i = nI (pp i) ∧ pp i < 1728)
    (hm : m ≤ 3) (hk : ∀ i, i < 3 → kd i = nI (kk i) ∧ kk i < 3) (hf : ∀ i, i < 3 → fd i = nI (ff i) ∧ ff i < 12) (hs : ∀ i, i < 3 → sd i = nI (ss i) ∧ ss i < 12) (hc : c < 6561)
    (hep : ¬ mb_I (fun v => !nb v) = mb_I (fun v => !nb v && !ew v) → ep = nI e ∧ e < 1728)
    (ho : mb_I (op_ c) = mb_I (fun v => !nb v) ∨ mb_I (op_ c) = mb_I (fun v => !nb v && !ew v))
    (h1 : sx_ (eb_ hd wo) n pp m kk ff ss nb ew e c → post 1) (h0 : ¬ sx_ (eb_ hd wo) n pp m kk ff ss nb ew e c → post 0) :
    wX_solves_41 post (nI c) wo (mb_I (op_ c)) (mb_I (fun v => !nb v)) (mb_I (fun v => !nb v && !ew v)) pc (nI n) ep (nI m) nv ev hd nd kd fd sd ps :=
  ax_nh _ _ _ _ _ _ _ _ _ _ _ hn hnd hc
    (fun w1 => br_f ar_n0 (ax_ck _ _ _ _ _ _ _ _ _ _ _ hm hk hf hs hc
      (fun w2 => br_f ar_n0 (br_c (fun q => h1 ⟨ho, w1, w2, fun z => absurd q z⟩)
        (fun q => br_c
          (fun t => by
            obtain ⟨rfl, he⟩ := hep q
            exact ax_holds _ _ _ _ _ _ _ _ _ _ _ _ he hc (fun w => ⟨rfl, h1 ⟨ho, w1, w2, fun _ => ⟨fun _ => w, fun z => absurd t z⟩⟩⟩) (fun w => ⟨rfl, h0 (fun x => w ((x.2.2.2 q).1 t))⟩))
          (fun t => by
            obtain ⟨rfl, he⟩ := hep q
            exact ax_af _ _ _ _ _ _ _ _ _ _ _ _ he hc (fun w => br_f ar_n0 (h0 (fun x => (x.2.2.2 q).2 t w))) (fun w => br_t rfl (h1 ⟨ho, w1, w2, fun _ => ⟨fun z => absurd z t, fun _ => w⟩⟩))))))
      (fun w2 => br_t rfl (h0 (fun x => w2 x.2.2.1)))))
    (fun w1 => br_t rfl (h0 (fun x => w1 x.2.1)))
theorem ax_solves {post : Int32 → Prop} {wo : Int32} {n m e c : Nat} {pp kk ff ss : Nat → Nat} {nb ew : Nat → Bool} (hn : n ≤ 4) (hnd : ∀ i, i < 4 → nd i = nI (pp i) ∧ pp i < 1728)
    (hm : m ≤ 3) (hk : ∀ i, i < 3 → kd i = nI (kk i) ∧ kk i < 3) (hf : ∀ i, i < 3 → fd i = nI (ff i) ∧ ff i < 12) (hs : ∀ i, i < 3 → sd i = nI (ss i) ∧ ss i < 12) (hc : c < 6561)
    (hep : ¬ mb_I (fun v => !nb v) = mb_I (fun v => !nb v && !ew v) → ep = nI e ∧ e < 1728)
    (h1 : sx_ (eb_ hd wo) n pp m kk ff ss nb ew e c → post 1) (h0 : ¬ sx_ (eb_ hd wo) n pp m kk ff ss nb ew e c → post 0) :
    wpX_solves post (pc, nI n, ep, nI m, mb_I nb, mb_I ew, hd, nd, kd, fd, sd, ps) (nI c) wo := by
  refine ax_op hc (nm_r (mb_not nb) (nm_r (mb_sub _ ew) ?_))
  exact br_c (fun q => ax_s41 _ _ _ _ _ _ _ _ _ _ hn hnd hm hk hf hs hc hep (Or.inl q) h1 h0)
    (fun q => br_c (fun t => ax_s41 _ _ _ _ _ _ _ _ _ _ hn hnd hm hk hf hs hc hep (Or.inr t) h1 h0) (fun t => h0 (fun x => x.1.elim q t)))
end
