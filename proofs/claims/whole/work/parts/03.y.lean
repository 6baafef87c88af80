section
variable (pc nc ep cc bs mo : Int32) (hd nd kd fd sd gn sl : Nat → Int32)
theorem ar_if {c d A B : Prop} (e : c ↔ d) (f : d → A) (g : ¬ d → B) : (c → A) ∧ (¬ c → B) := ⟨fun h => f (e.mp h), fun h => g (fun x => h (e.mpr x))⟩
theorem ay_entry {post : Int32 → Prop} {p : Nat} (k : Nat) (hk : k < 3) (hp : p < 1728) (h : post (nI (en_ p k))) : wpY_entry post (pc, nc, ep, cc, bs, mo, hd, nd, kd, fd, sd, gn, sl) (nI p) (nI k) :=
  pk_eq k 0 (fun z => by subst z; exact ⟨by decide, ar_p (P := post) (ar_div 144) h⟩)
    (fun z0 => pk_eq k 1 (fun z => by subst z; exact ⟨by decide, by decide, ar_p (P := post) (ar_dr 12 12) h⟩)
      (fun z1 => by
        have e : k = 2 := by omega
        subst e; exact ⟨by decide, ar_p (P := post) (ar_rem 12) h⟩))
theorem ay_part {post : Int32 → Prop} {s : Nat} (k : Nat) (hk : k < 3) (hs : s < 256) (h : post (nI (pt_ s k))) : wpY_part post (pc, nc, ep, cc, bs, mo, hd, nd, kd, fd, sd, gn, sl) (nI s) (nI k) :=
  pk_eq k 0 (fun z => by subst z; exact ⟨by decide, ar_p (P := post) (ar_div 32) h⟩)
    (fun z0 => pk_eq k 1 (fun z => by subst z; exact ⟨by decide, by decide, ar_p (P := post) (ar_dr 8 4) h⟩)
      (fun z1 => by
        have e : k = 2 := by omega
        subst e; exact ⟨by decide, ar_p (P := post) (ar_rem 8) h⟩))
theorem ay_digit {post : Int32 → Prop} {c : Nat} (v : Nat) (hv : v < 4) (hc : c < 6561) (h : post (nI (dg_ c v))) : wpY_digit post (pc, nc, ep, cc, bs, mo, hd, nd, kd, fd, sd, gn, sl) (nI c) (nI v) :=
  pk_eq v 0 (fun z => by subst z; exact ⟨by decide, ar_p (P := post) (ar_div 729) h⟩)
    (fun z0 => pk_eq v 1 (fun z => by subst z; exact ⟨by decide, by decide, ar_p (P := post) (ar_dr 81 9) h⟩)
      (fun z1 => pk_eq v 2 (fun z => by subst z; exact ⟨by decide, by decide, ar_p (P := post) (ar_dr 9 9) h⟩)
        (fun z2 => by
          have e : v = 3 := by omega
          subst e; exact ⟨by decide, ar_p (P := post) (ar_rem 9) h⟩)))
theorem ay_f38 {post J2 : Int32 → Prop} {s p i e : Nat} (hs : s < 256) (hp : p < 1728) (hi : i < 3) (he : e < 12)
    (hJ : (∀ j, j < i → 7 < e → en_ p j = e → pt_ s j = pt_ s i) → J2 (nI (i + 1))) (h0 : ¬ (∀ j, j < i → 7 < e → en_ p j = e → pt_ s j = pt_ s i) → post 0) :
    ∀ d j, j + d = i → (∀ t, t < j → 7 < e → en_ p t = e → pt_ s t = pt_ s i) → wY_fits_38 post J2 (nI s) (nI p) (nI i) (nI e) pc nc ep cc bs mo hd nd kd fd sd gn sl (d + 1) (nI j) := by
  intro d
  induction d with
  | zero => exact fun j hj hq => pk_le i j (fun _ => nm_r (nI_1 i) (hJ (fun t ht => hq t (by omega)))) (fun z => absurd z (by omega))
  | succ d ih =>
    intro j hj hq
    have e1 := en_lt hp j
    have p1 := pt_lt hs j
    have p2 := pt_lt hs i
    refine pk_le i j (fun z => absurd z (by omega)) (fun z => pk_le e 7 (fun z7 => nm_r (nI_1 j) (ih (j + 1) (by omega) (lt_s hq (fun w => absurd w (by omega))))) (fun z7 => ?_))
    refine ay_entry _ _ _ _ _ _ _ _ _ _ _ _ _ j (by omega) hp ?_
    refine pk_eq (en_ p j) e (fun q => ?_) (fun q => nm_r (nI_1 j) (ih (j + 1) (by omega) (lt_s hq (fun _ w => absurd w q))))
    refine ay_part _ _ _ _ _ _ _ _ _ _ _ _ _ j (by omega) hs (ay_part _ _ _ _ _ _ _ _ _ _ _ _ _ i (by omega) hs ?_)
    exact pk_eq (pt_ s j) (pt_ s i) (fun t => nm_r (nI_1 j) (ih (j + 1) (by omega) (lt_s hq (fun _ _ => t)))) (fun t => h0 (fun w => t (w j (by omega) z7 q)))
theorem ay_fl {post : Int32 → Prop} {s p : Nat} (hs : s < 256) (hp : p < 1728) (h1 : fy_ s p → post 1) (h0 : ¬ fy_ s p → post 0) :
    ∀ d i, i + d = 3 → (∀ t, t < i → (en_ p t < 8 → en_ p t = pt_ s t) ∧ ∀ j, j < t → 7 < en_ p t → en_ p j = en_ p t → pt_ s j = pt_ s t) → wY_fits_2 post (nI s) (nI p) pc nc ep cc bs mo hd nd kd fd sd gn sl (d + 1) (nI i) := by
  intro d
  induction d with
  | zero => exact fun i hi hq => pk_le 3 i (fun _ => h1 (fun t ht => hq t (by omega))) (fun z => absurd z (by omega))
  | succ d ih =>
    intro i hi hq
    have e1 := en_lt hp i
    have p1 := pt_lt hs i
    refine pk_le 3 i (fun z => absurd z (by omega)) (fun z => ?_)
    refine ay_entry _ _ _ _ _ _ _ _ _ _ _ _ _ i (by omega) hp ?_
    refine pk_le 8 (en_ p i) (fun z8 => ?_) (fun z8 => ?_)
    · exact ⟨i + 1, ay_f38 _ _ _ _ _ _ _ _ _ _ _ _ _ hs hp (by omega) e1 (fun w => ih (i + 1) (by omega) (lt_s hq ⟨fun y => absurd y (by omega), w⟩)) (fun w => h0 (fun x => w (x i (by omega)).2)) i 0 (by omega) lt_0⟩
    · refine ay_part _ _ _ _ _ _ _ _ _ _ _ _ _ i (by omega) hs ?_
      refine pk_eq (en_ p i) (pt_ s i) (fun t => ?_) (fun t => h0 (fun x => t ((x i (by omega)).1 z8)))
      exact ⟨i + 1, ay_f38 _ _ _ _ _ _ _ _ _ _ _ _ _ hs hp (by omega) e1 (fun w => ih (i + 1) (by omega) (lt_s hq ⟨fun _ => t, w⟩)) (fun w => h0 (fun x => w (x i (by omega)).2)) i 0 (by omega) lt_0⟩
theorem ay_fits {post : Int32 → Prop} {s p : Nat} (hs : s < 256) (hp : p < 1728) (h1 : fy_ s p → post 1) (h0 : ¬ fy_ s p → post 0) : wpY_fits post (pc, nc, ep, cc, bs, mo, hd, nd, kd, fd, sd, gn, sl) (nI s) (nI p) :=
  Exists.intro 4 (ay_fl _ _ _ _ _ _ _ _ _ _ _ _ _ hs hp h1 h0 3 0 (by omega) lt_0)
theorem ay_vst {post : Int32 → Prop} {p : Nat} (hp : p < 1728) (n i : Nat) (f : Nat → Bool) (hi : i < 3)
    (k : wY_variables_4 post (nI p) pc nc ep cc bs mo hd nd kd fd sd gn sl n (mb_I (fun v => f v || en_ p i == 8 + v)) (nI (i + 1))) : wY_variables_4 post (nI p) pc nc ep cc bs mo hd nd kd fd sd gn sl (n + 1) (mb_I f) (nI i) := by
  have e1 := en_lt hp i
  refine pk_le 3 i (fun z => absurd z (by omega)) (fun z => ?_)
  refine ay_entry _ _ _ _ _ _ _ _ _ _ _ _ _ i (by omega) hp ?_
  refine pk_le (en_ p i) 7 (fun z7 => nm_r (nI_1 i) ?_) (fun z7 => nm_r ?_ (nm_r (nI_1 i) k))
  · refine ar_p (P := fun t => wY_variables_4 post (nI p) pc nc ep cc bs mo hd nd kd fd sd gn sl n t (nI (i + 1))) (mb_congr (fun v hv => ?_)) k
    have : (en_ p i == 8 + v) = false := by rw [beq_eq_false_iff_ne]; omega
    rw [this, Bool.or_false]
  · rw [ar_x8 (by omega), mb_one _ (by omega), mb_or]
    refine mb_congr (fun v hv => ?_)
    have : (v == en_ p i - 8) = (en_ p i == 8 + v) := by
      rw [Bool.eq_iff_iff, beq_iff_eq, beq_iff_eq]; omega
    rw [this]
theorem ay_vars {post : Int32 → Prop} {p : Nat} (hp : p < 1728) (h : post (mb_I (vq_ p))) : wpY_variables post (pc, nc, ep, cc, bs, mo, hd, nd, kd, fd, sd, gn, sl) (nI p) := by
  refine Exists.intro 4 (ar_p (P := fun t => wY_variables_4 post (nI p) pc nc ep cc bs mo hd nd kd fd sd gn sl 4 t (nI 0)) mb_0.symm ?_)
  refine ay_vst _ _ _ _ _ _ _ _ _ _ _ _ _ hp 3 0 _ (by decide) (ay_vst _ _ _ _ _ _ _ _ _ _ _ _ _ hp 2 1 _ (by decide) (ay_vst _ _ _ _ _ _ _ _ _ _ _ _ _ hp 1 2 _ (by decide) ?_))
  refine pk_le 3 3 (fun _ => ar_p (P := post) (mb_congr (fun v hv => ?_)) h) (fun z => absurd z (by decide))
  simp [vq_]
theorem ay_value {post : Int32 → Prop} {e c : Nat} (he : e < 12) (hg : ∀ v, v < 4 → gn v = nI (dg_ c v)) (h : post (nI (gv_ e c))) : wpY_value post (pc, nc, ep, cc, bs, mo, hd, nd, kd, fd, sd, gn, sl) (nI e) := by
  refine pk_le 8 e (fun z => ?_) (fun z => by rw [gv_e z] at h; exact h)
  rw [gv_v z] at h
  rw [ar_x8 z, nI_clamp (by omega), hg _ (by omega)]
  exact ⟨vp_in_nI (by omega) (by decide), h⟩
def hb_ (hd : Nat → Int32) (s : Nat) : Prop := ¬ hd s = 0
theorem ay_holds {post : Int32 → Prop} {p c : Nat} (hp : p < 1728) (hc : c < 6561) (hg : ∀ v, v < 4 → gn v = nI (dg_ c v)) (h1 : hl_ (hb_ hd) p c → post 1) (h0 : ¬ hl_ (hb_ hd) p c → post 0) : wpY_holds post (pc, nc, ep, cc, bs, mo, hd, nd, kd, fd, sd, gn, sl) (nI p) := by
  unfold wpY_holds
  dsimp only
  refine ay_entry _ _ _ _ _ _ _ _ _ _ _ _ _ 0 (by decide) hp (ay_entry _ _ _ _ _ _ _ _ _ _ _ _ _ 1 (by decide) hp (ay_entry _ _ _ _ _ _ _ _ _ _ _ _ _ 2 (by decide) hp ?_))
  refine ay_value _ _ _ _ _ _ _ _ _ _ _ _ _ (en_lt hp 0) hg (ay_value _ _ _ _ _ _ _ _ _ _ _ _ _ (en_lt hp 1) hg (ay_value _ _ _ _ _ _ _ _ _ _ _ _ _ (en_lt hp 2) hg ?_))
  unfold hl_ at h1 h0
  have g0 : gv_ (en_ p 0) c < 9 := gv_lt hc
  have g1 : gv_ (en_ p 1) c < 9 := gv_lt hc
  have g2 : gv_ (en_ p 2) c < 9 := gv_lt hc
  generalize gv_ (en_ p 0) c = a at *
  generalize gv_ (en_ p 1) c = b at *
  generalize gv_ (en_ p 2) c = d at *
  have e : (32 : Int32) * nI a + 8 * nI b + nI d = nI (32 * a + 8 * b + d) := by
    rw [← nI_add, ← nI_add, ← pk_mul, ← pk_mul]; rfl
  rw [e]
  refine pk_le 8 a (fun z => h0 (fun w => absurd w.1 (by omega))) (fun z0 => pk_le 4 b (fun z => h0 (fun w => absurd w.2.1 (by omega))) (fun z1 => pk_le 8 d (fun z => h0 (fun w => absurd w.2.2.1 (by omega))) (fun z2 => ⟨vp_in_nI (by omega) (by decide), ?_⟩)))
  rw [nI_clamp (by omega)]
  exact br_c (fun t => h0 (fun w => w.2.2.2 t)) (fun t => h1 ⟨by omega, by omega, by omega, t⟩)
theorem ay_k84 {post J2 : Int32 → Prop} {i x y : Nat} {kk : Nat → Nat} (hi : i < 3) (hk : ∀ i, i < 3 → kd i = nI (kk i) ∧ kk i < 3) (hx : x < 9) (hy : y < 9)
    (hJ : kp_ (kk i) x y → J2 (nI (i + 1))) (h0 : ¬ kp_ (kk i) x y → post 0) : wY_keeps_84 post J2 (nI i) (nI x) (nI y) pc nc ep cc bs mo hd nd kd fd sd gn sl := by
  have hin : vp_in (nI i) 3 := vp_in_nI hi (by decide)
  have k3 := (hk i hi).2
  refine pk_lt 7 x (fun z => h0 (fun w => w.1 (by omega))) (fun zx => pk_le y 7 (fun zy => ⟨hin, ?_⟩) (fun z => h0 (fun w => w.2.1 (by omega))))
  rw [nI_clamp (by omega), (hk i hi).1]
  exact pk_eq (kk i) 0
    (fun k0 => pk_eq x y (fun e => nm_r (nI_1 i) (hJ ⟨by omega, by omega, fun _ => e, fun z => absurd z (by omega), fun z => absurd k0 z⟩)) (fun e => h0 (fun w => e (w.2.2.1 k0))))
    (fun k0 => ⟨hin, pk_eq (kk i) 1
      (fun k1 => pk_eq x y (fun e => h0 (fun w => w.2.2.2.1 k1 e)) (fun e => nm_r (nI_1 i) (hJ ⟨by omega, by omega, fun z => absurd z k0, fun _ => e, fun _ z => absurd k1 z⟩)))
      (fun k1 => pk_lt x y (fun e => nm_r (nI_1 i) (hJ ⟨by omega, by omega, fun z => absurd z k0, fun z => absurd z k1, fun _ _ => e⟩)) (fun e => h0 (fun w => absurd (w.2.2.2.2 k0 k1) (by omega))))⟩)
theorem ay_k49 {post J2 : Int32 → Prop} {i x c : Nat} {kk ss : Nat → Nat} (hi : i < 3) (hk : ∀ i, i < 3 → kd i = nI (kk i) ∧ kk i < 3) (hs : ∀ i, i < 3 → sd i = nI (ss i) ∧ ss i < 12) (hc : c < 6561) (hg : ∀ v, v < 4 → gn v = nI (dg_ c v)) (hx : x < 9)
    (hJ : kp_ (kk i) x (gv_ (ss i) c) → J2 (nI (i + 1))) (h0 : ¬ kp_ (kk i) x (gv_ (ss i) c) → post 0) : wY_keeps_49 post J2 (nI i) (nI x) pc nc ep cc bs mo hd nd kd fd sd gn sl := by
  have hin : vp_in (nI i) 3 := vp_in_nI hi (by decide)
  have s3 := (hs i hi).2
  refine And.intro hin ?_
  rw [nI_clamp (by omega), (hs i hi).1]
  refine pk_le 8 (ss i) (fun z => ⟨hin, ?_⟩) (fun z => ⟨hin, ?_⟩)
  · rw [gv_v z] at hJ h0
    rw [ar_x8 z, nI_clamp (by omega), hg _ (by omega)]
    exact ⟨vp_in_nI (by omega) (by decide), ay_k84 _ _ _ _ _ _ _ _ _ _ _ _ _ hi hk hx (dg_lt hc _) hJ h0⟩
  · rw [gv_e z] at hJ h0
    exact ay_k84 _ _ _ _ _ _ _ _ _ _ _ _ _ hi hk hx (by omega) hJ h0
theorem ay_kl {post : Int32 → Prop} {m c : Nat} {kk ff ss : Nat → Nat} (hm : m ≤ 3) (hk : ∀ i, i < 3 → kd i = nI (kk i) ∧ kk i < 3) (hf : ∀ i, i < 3 → fd i = nI (ff i) ∧ ff i < 12) (hs : ∀ i, i < 3 → sd i = nI (ss i) ∧ ss i < 12) (hc : c < 6561) (hg : ∀ v, v < 4 → gn v = nI (dg_ c v))
    (h1 : ck_ m kk ff ss c → post 1) (h0 : ¬ ck_ m kk ff ss c → post 0) :
    ∀ d i, i + d = m → (∀ j, j < i → kp_ (kk j) (gv_ (ff j) c) (gv_ (ss j) c)) → wY_keeps_2 post pc nc ep (nI m) bs mo hd nd kd fd sd gn sl (d + 1) (nI i) := by
  intro d
  induction d with
  | zero => exact fun i hi hj => pk_le m i (fun _ => h1 (fun j hjn => hj j (by omega))) (fun z => absurd z (by omega))
  | succ d ih =>
    intro i hi hj
    have hin : vp_in (nI i) 3 := vp_in_nI (by omega) (by decide)
    have s3 := (hf i (by omega)).2
    refine pk_le m i (fun z => absurd z (by omega)) (fun z => pk_le 3 i (fun z => absurd z (by omega)) (fun z => ⟨hin, ?_⟩))
    have hJ : kp_ (kk i) (gv_ (ff i) c) (gv_ (ss i) c) → wY_keeps_2 post pc nc ep (nI m) bs mo hd nd kd fd sd gn sl (d + 1) (nI (i + 1)) := fun w => ih (i + 1) (by omega) (lt_s hj w)
    have h0' : ¬ kp_ (kk i) (gv_ (ff i) c) (gv_ (ss i) c) → post 0 := fun w => h0 (fun al => w (al i (by omega)))
    rw [nI_clamp (by omega), (hf i (by omega)).1]
    refine pk_le 8 (ff i) (fun z => ⟨hin, ?_⟩) (fun z => ⟨hin, ?_⟩)
    · rw [gv_v z] at hJ h0'
      rw [ar_x8 z, nI_clamp (by omega), hg _ (by omega)]
      exact ⟨vp_in_nI (by omega) (by decide), ay_k49 _ _ _ _ _ _ _ _ _ _ _ _ _ (by omega) hk hs hc hg (dg_lt hc _) hJ h0'⟩
    · rw [gv_e z] at hJ h0'
      exact ay_k49 _ _ _ _ _ _ _ _ _ _ _ _ _ (by omega) hk hs hc hg (by omega) hJ h0'
theorem ay_keeps {post : Int32 → Prop} {m c : Nat} {kk ff ss : Nat → Nat} (hm : m ≤ 3) (hk : ∀ i, i < 3 → kd i = nI (kk i) ∧ kk i < 3) (hf : ∀ i, i < 3 → fd i = nI (ff i) ∧ ff i < 12) (hs : ∀ i, i < 3 → sd i = nI (ss i) ∧ ss i < 12) (hc : c < 6561) (hg : ∀ v, v < 4 → gn v = nI (dg_ c v))
    (h1 : ck_ m kk ff ss c → post 1) (h0 : ¬ ck_ m kk ff ss c → post 0) : wpY_keeps post (pc, nc, ep, nI m, bs, mo, hd, nd, kd, fd, sd, gn, sl) :=
  Exists.intro (m + 1) (ay_kl _ _ _ _ _ _ _ _ _ _ _ _ hm hk hf hs hc hg h1 h0 m 0 (by omega) lt_0)
theorem ay_agl {post : Int32 → Prop} {s e c : Nat} {B : Nat → Bool} (hs : s < 256) (he : e < 1728) (hc : c < 6561) (hg : ∀ v, v < 4 → gn v = nI (dg_ c v))
    (h1 : ag_ s e B c → post 1) (h0 : ¬ ag_ s e B c → post 0) :
    ∀ d i, i + d = 3 → (∀ k, k < i → 7 < en_ e k → B (en_ e k - 8) = true → dg_ c (en_ e k - 8) = pt_ s k) → wY_agrees_2 post (nI s) pc nc (nI e) cc (mb_I B) mo hd nd kd fd sd gn sl (d + 1) (nI i) := by
  intro d
  induction d with
  | zero => exact fun i hi hj => pk_le 3 i (fun _ => h1 (fun j hjn => hj j (by omega))) (fun z => absurd z (by omega))
  | succ d ih =>
    intro i hi hj
    have e1 := en_lt he i
    have p1 := pt_lt hs i
    refine pk_le 3 i (fun z => absurd z (by omega)) (fun z => ?_)
    refine ay_entry _ _ _ _ _ _ _ _ _ _ _ _ _ i (by omega) he ?_
    refine pk_le (en_ e i) 7 (fun z7 => nm_r (nI_1 i) (ih (i + 1) (by omega) (lt_s hj (fun w => absurd w (by omega))))) (fun z7 => ?_)
    have d1 := dg_lt hc (en_ e i - 8)
    rw [ar_x8 (by omega), nI_clamp (by omega), hg _ (by omega)]
    refine ar_if (mb_bit B (by omega)) (fun q => ⟨vp_in_nI (by omega) (by decide), ?_⟩) (fun q => nm_r (nI_1 i) (ih (i + 1) (by omega) (lt_s hj (fun _ w => absurd w q))))
    refine ay_part _ _ _ _ _ _ _ _ _ _ _ _ _ i (by omega) hs ?_
    exact pk_eq (dg_ c (en_ e i - 8)) (pt_ s i) (fun t => nm_r (nI_1 i) (ih (i + 1) (by omega) (lt_s hj (fun _ _ => t)))) (fun t => h0 (fun w => t (w i (by omega) z7 q)))
theorem ay_agrees {post : Int32 → Prop} {s e c : Nat} {B : Nat → Bool} (hs : s < 256) (he : e < 1728) (hc : c < 6561) (hg : ∀ v, v < 4 → gn v = nI (dg_ c v))
    (h1 : ag_ s e B c → post 1) (h0 : ¬ ag_ s e B c → post 0) : wpY_agrees post (pc, nc, nI e, cc, mb_I B, mo, hd, nd, kd, fd, sd, gn, sl) (nI s) :=
  Exists.intro 4 (ay_agl _ _ _ _ _ _ _ _ _ _ _ hs he hc hg h1 h0 3 0 (by omega) lt_0)
def ex_ (b : Nat → Prop) (B : Nat → Bool) (e c : Nat) : Prop := ∃ s, s < 256 ∧ b s ∧ fy_ s e ∧ ag_ s e B c
theorem ay_exl {post : Int32 → Prop} {e c : Nat} {B : Nat → Bool} (he : e < 1728) (hc : c < 6561) (hg : ∀ v, v < 4 → gn v = nI (dg_ c v))
    (h1 : ex_ (hb_ hd) B e c → post 1) (h0 : ¬ ex_ (hb_ hd) B e c → post 0) :
    ∀ d i, i + d = 256 → (∀ j, j < i → ¬ (hb_ hd j ∧ fy_ j e ∧ ag_ j e B c)) → wY_extensible_2 post pc nc (nI e) cc (mb_I B) mo hd nd kd fd sd gn sl (d + 1) (nI i) := by
  intro d
  induction d with
  | zero => exact fun i hi hj => pk_le 256 i (fun _ => h0 (fun ⟨s, hs, w⟩ => hj s (by omega) w)) (fun z => absurd z (by omega))
  | succ d ih =>
    intro i hi hj
    refine pk_le 256 i (fun z => absurd z (by omega)) (fun z => ⟨vp_in_nI (by omega) (by decide), ?_⟩)
    rw [nI_clamp (by omega)]
    refine br_c (fun t => nm_r (nI_1 i) (ih (i + 1) (by omega) (lt_s hj (fun w => w.1 t)))) (fun t => ?_)
    refine ay_fits _ _ _ _ _ _ _ _ _ _ _ _ _ (by omega) he (fun w => br_f ar_n0 ?_) (fun w => br_t rfl (nm_r (nI_1 i) (ih (i + 1) (by omega) (lt_s hj (fun x => w x.2.1)))))
    exact ay_agrees _ _ _ _ _ _ _ _ _ _ _ (by omega) he hc hg (fun w2 => br_f ar_n0 (h1 ⟨i, by omega, t, w, w2⟩)) (fun w2 => br_t rfl (nm_r (nI_1 i) (ih (i + 1) (by omega) (lt_s hj (fun x => w2 x.2.2)))))
theorem ay_ext {post : Int32 → Prop} {e c : Nat} {B : Nat → Bool} (he : e < 1728) (hc : c < 6561) (hg : ∀ v, v < 4 → gn v = nI (dg_ c v))
    (h1 : ex_ (hb_ hd) B e c → post 1) (h0 : ¬ ex_ (hb_ hd) B e c → post 0) : wpY_extensible post (pc, nc, nI e, cc, mb_I B, mo, hd, nd, kd, fd, sd, gn, sl) :=
  Exists.intro 257 (ay_exl _ _ _ _ _ _ _ _ _ _ _ he hc hg h1 h0 256 0 (by omega) lt_0)
def my_ (B M : Nat → Bool) (v d : Nat) : Prop := (B v = true → d < 8) ∧ (¬ B v = true → M v = true ∨ d = 8)
theorem ay_may {post : Int32 → Prop} {B M : Nat → Bool} {d : Nat} (v : Nat) (hv : v < 4) (hd9 : d < 9) (h1 : my_ B M v d → post 1) (h0 : ¬ my_ B M v d → post 0) : wpY_may post (pc, nc, ep, cc, mb_I B, mb_I M, hd, nd, kd, fd, sd, gn, sl) (nI v) (nI d) :=
  ar_if (mb_bit B hv)
    (fun q => pk_le 8 d (fun z => h0 (fun w => absurd (w.1 q) (by omega))) (fun z => h1 ⟨fun _ => z, fun n => absurd q n⟩))
    (fun q => ar_if (mb_bit M hv) (fun t => h1 ⟨fun n => absurd n q, fun _ => Or.inl t⟩)
      (fun t => pk_eq d 8 (fun z => h1 ⟨fun n => absurd n q, fun _ => Or.inr z⟩) (fun z => h0 (fun w => (w.2 q).elim t z))))
end
