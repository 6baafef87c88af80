section
variable (pc nc ep cc bs mo : Int32) (hd nd kd fd sd gn sl : Nat → Int32)
def om_ (M : Nat → Bool) (c v : Nat) : Bool := M v && op_ c v
def tl_ (b : Nat → Prop) (B M : Nat → Bool) (e c : Nat) : Prop := ¬ mb_I M = 0 → (mb_I (om_ M c) = 0 ∨ mb_I (om_ M c) = mb_I M) ∧ (mb_I (om_ M c) = 0 → hl_ b e c) ∧ (mb_I (om_ M c) = mb_I M → ¬ ex_ b B e c)
def so_ (b : Nat → Prop) (n : Nat) (pp : Nat → Nat) (m : Nat) (kk ff ss : Nat → Nat) (B M : Nat → Bool) (e c : Nat) : Prop := nh_ b n pp c ∧ tl_ b B M e c ∧ ck_ m kk ff ss c
theorem ay_s135 {post : Int32 → Prop} {m c : Nat} {kk ff ss : Nat → Nat} (hm : m ≤ 3) (hk : ∀ i, i < 3 → kd i = nI (kk i) ∧ kk i < 3) (hf : ∀ i, i < 3 → fd i = nI (ff i) ∧ ff i < 12) (hs : ∀ i, i < 3 → sd i = nI (ss i) ∧ ss i < 12) (hc : c < 6561) (hg : ∀ v, v < 4 → gn v = nI (dg_ c v))
    (h1 : ck_ m kk ff ss c → post 1) (h0 : ¬ ck_ m kk ff ss c → post 0) : wY_solution_135 post pc nc ep (nI m) bs mo hd nd kd fd sd gn sl :=
  ay_keeps _ _ _ _ _ _ _ _ _ _ _ _ hm hk hf hs hc hg (fun w => ⟨rfl, h1 w⟩) (fun w => ⟨rfl, h0 w⟩)
theorem ay_s118 {post : Int32 → Prop} {m c e : Nat} {kk ff ss : Nat → Nat} {B M : Nat → Bool} (hm : m ≤ 3) (hk : ∀ i, i < 3 → kd i = nI (kk i) ∧ kk i < 3) (hf : ∀ i, i < 3 → fd i = nI (ff i) ∧ ff i < 12) (hs : ∀ i, i < 3 → sd i = nI (ss i) ∧ ss i < 12) (hc : c < 6561) (hg : ∀ v, v < 4 → gn v = nI (dg_ c v)) (he : e < 1728)
    (h1 : (mb_I (om_ M c) = mb_I M → ¬ ex_ (hb_ hd) B e c) ∧ ck_ m kk ff ss c → post 1) (h0 : ¬ ((mb_I (om_ M c) = mb_I M → ¬ ex_ (hb_ hd) B e c) ∧ ck_ m kk ff ss c) → post 0) : wY_solution_118 post (mb_I (om_ M c)) pc nc (nI e) (nI m) (mb_I B) (mb_I M) hd nd kd fd sd gn sl :=
  br_c (fun q => ay_ext _ _ _ _ _ _ _ _ _ _ _ he hc hg (fun w => br_f ar_n0 (h0 (fun x => x.1 q w)))
      (fun w => br_t rfl (ay_s135 _ _ _ _ _ _ _ _ _ _ _ _ hm hk hf hs hc hg (fun k => h1 ⟨fun _ => w, k⟩) (fun k => h0 (fun x => k x.2)))))
    (fun q => ay_s135 _ _ _ _ _ _ _ _ _ _ _ _ hm hk hf hs hc hg (fun k => h1 ⟨fun z => absurd z q, k⟩) (fun k => h0 (fun x => k x.2)))
theorem ay_s101 {post : Int32 → Prop} {m c e : Nat} {kk ff ss : Nat → Nat} {B M : Nat → Bool} (hm : m ≤ 3) (hk : ∀ i, i < 3 → kd i = nI (kk i) ∧ kk i < 3) (hf : ∀ i, i < 3 → fd i = nI (ff i) ∧ ff i < 12) (hs : ∀ i, i < 3 → sd i = nI (ss i) ∧ ss i < 12) (hc : c < 6561) (hg : ∀ v, v < 4 → gn v = nI (dg_ c v)) (he : e < 1728)
    (h1 : (mb_I (om_ M c) = 0 → hl_ (hb_ hd) e c) ∧ (mb_I (om_ M c) = mb_I M → ¬ ex_ (hb_ hd) B e c) ∧ ck_ m kk ff ss c → post 1) (h0 : ¬ ((mb_I (om_ M c) = 0 → hl_ (hb_ hd) e c) ∧ (mb_I (om_ M c) = mb_I M → ¬ ex_ (hb_ hd) B e c) ∧ ck_ m kk ff ss c) → post 0) : wY_solution_101 post (mb_I (om_ M c)) pc nc (nI e) (nI m) (mb_I B) (mb_I M) hd nd kd fd sd gn sl :=
  br_c (fun q => ay_holds _ _ _ _ _ _ _ _ _ _ _ _ _ he hc hg
      (fun w => br_f ar_n0 (ay_s118 _ _ _ _ _ _ _ _ _ hm hk hf hs hc hg he (fun k => h1 ⟨fun _ => w, k⟩) (fun k => h0 (fun x => k x.2))))
      (fun w => br_t rfl (h0 (fun x => w (x.1 q)))))
    (fun q => ay_s118 _ _ _ _ _ _ _ _ _ hm hk hf hs hc hg he (fun k => h1 ⟨fun z => absurd z q, k⟩) (fun k => h0 (fun x => k x.2)))
theorem ay_s40 {post : Int32 → Prop} {m c e : Nat} {kk ff ss : Nat → Nat} {B M : Nat → Bool} (hm : m ≤ 3) (hk : ∀ i, i < 3 → kd i = nI (kk i) ∧ kk i < 3) (hf : ∀ i, i < 3 → fd i = nI (ff i) ∧ ff i < 12) (hs : ∀ i, i < 3 → sd i = nI (ss i) ∧ ss i < 12) (hc : c < 6561) (hg : ∀ v, v < 4 → gn v = nI (dg_ c v)) (hep : ¬ mb_I M = 0 → ep = nI e ∧ e < 1728)
    (h1 : tl_ (hb_ hd) B M e c ∧ ck_ m kk ff ss c → post 1) (h0 : ¬ (tl_ (hb_ hd) B M e c ∧ ck_ m kk ff ss c) → post 0) :
    ∀ d i, i + d = 4 → wY_solution_40 post pc nc ep (nI m) (mb_I B) (mb_I M) hd nd kd fd sd gn sl (d + 1) (mb_I (fun w => decide (w < i) && om_ M c w)) (nI i) := by
  intro d
  induction d with
  | zero =>
    refine fun i hi => pk_le 4 i (fun _ => ?_) (fun z => absurd z (by omega))
    have e1 : mb_I (fun w => decide (w < i) && om_ M c w) = mb_I (om_ M c) := mb_congr (fun v hv => by rw [decide_eq_true (by omega), Bool.true_and])
    rw [e1]
    refine br_c (fun q => ay_s135 _ _ _ _ _ _ _ _ _ _ _ _ hm hk hf hs hc hg (fun k => h1 ⟨fun z => absurd q z, k⟩) (fun k => h0 (fun x => k x.2))) (fun q => ?_)
    obtain ⟨rfl, he⟩ := hep q
    refine br_c (fun t => ay_s101 _ _ _ _ _ _ _ _ _ hm hk hf hs hc hg he (fun k => h1 ⟨fun _ => ⟨Or.inl t, k.1, k.2.1⟩, k.2.2⟩) (fun k => h0 (fun x => k ⟨(x.1 q).2.1, (x.1 q).2.2, x.2⟩))) (fun t => ?_)
    exact br_c (fun t => ay_s101 _ _ _ _ _ _ _ _ _ hm hk hf hs hc hg he (fun k => h1 ⟨fun _ => ⟨Or.inr t, k.1, k.2.1⟩, k.2.2⟩) (fun k => h0 (fun x => k ⟨(x.1 q).2.1, (x.1 q).2.2, x.2⟩))) (fun t' => h0 (fun x => (x.1 q).1.elim t t'))
  | succ d ih =>
    intro i hi
    have g := dg_lt hc i
    refine pk_le 4 i (fun z => absurd z (by omega)) (fun z => ?_)
    have ne : (M i && op_ c i) = false → wY_solution_40 post pc nc ep (nI m) (mb_I B) (mb_I M) hd nd kd fd sd gn sl (d + 1) (mb_I (fun w => decide (w < i) && om_ M c w)) (nI (i + 1)) := by
      intro hz
      refine ar_p (P := fun t => wY_solution_40 post pc nc ep (nI m) (mb_I B) (mb_I M) hd nd kd fd sd gn sl (d + 1) t (nI (i + 1))) (mb_congr (fun v hv => ?_)) (ih (i + 1) (by omega))
      by_cases hvi : v = i
      · subst hvi; simp [om_, hz]
      · have e1 : decide (v < i + 1) = decide (v < i) := by simp; omega
        simp [e1]
    refine ar_if (mb_bit M (by omega)) (fun q => ⟨vp_in_nI (by omega) (by decide), ?_⟩) (fun q => nm_r (nI_1 i) (ne (by simp [q])))
    rw [nI_clamp (by omega), hg _ (by omega)]
    refine pk_eq (dg_ c i) 8 (fun e => ?_) (fun e => nm_r (nI_1 i) (ne (by simp [op_, e])))
    refine nm_r ?_ (nm_r (nI_1 i) (ih (i + 1) (by omega)))
    rw [mb_one i (by omega), mb_or]
    refine mb_congr (fun v hv => ?_)
    by_cases hvi : v = i
    · subst hvi; simp [om_, op_, e, q]
    · have e1 : decide (v < i + 1) = decide (v < i) := by simp; omega
      simp [e1, hvi]
theorem ay_s2 {post : Int32 → Prop} {n m c e : Nat} {pp kk ff ss : Nat → Nat} {B M : Nat → Bool} (hn : n ≤ 4) (hnd : ∀ i, i < 4 → nd i = nI (pp i) ∧ pp i < 1728) (hm : m ≤ 3) (hk : ∀ i, i < 3 → kd i = nI (kk i) ∧ kk i < 3) (hf : ∀ i, i < 3 → fd i = nI (ff i) ∧ ff i < 12) (hs : ∀ i, i < 3 → sd i = nI (ss i) ∧ ss i < 12) (hc : c < 6561) (hg : ∀ v, v < 4 → gn v = nI (dg_ c v)) (hep : ¬ mb_I M = 0 → ep = nI e ∧ e < 1728)
    (h1 : so_ (hb_ hd) n pp m kk ff ss B M e c → post 1) (h0 : ¬ so_ (hb_ hd) n pp m kk ff ss B M e c → post 0) :
    ∀ d i, i + d = n → (∀ j, j < i → hl_ (hb_ hd) (pp j) c) → wY_solution_2 post pc (nI n) ep (nI m) (mb_I B) (mb_I M) hd nd kd fd sd gn sl (d + 1) (nI i) := by
  intro d
  induction d with
  | zero =>
    intro i hi hj
    refine pk_le n i (fun _ => ?_) (fun z => absurd z (by omega))
    have w1 : nh_ (hb_ hd) n pp c := fun j hjn => hj j (by omega)
    exact ⟨5, ay_s40 _ _ _ _ _ _ _ _ _ _ hm hk hf hs hc hg hep (fun k => h1 ⟨w1, k⟩) (fun k => h0 (fun x => k x.2)) 4 0 (by omega)⟩
  | succ d ih =>
    intro i hi hj
    refine pk_le n i (fun z => absurd z (by omega)) (fun z => pk_le 4 i (fun z => absurd z (by omega)) (fun z => ⟨vp_in_nI (by omega) (by decide), ?_⟩))
    rw [nI_clamp (by omega), (hnd i (by omega)).1]
    exact ay_holds _ _ _ _ _ _ _ _ _ _ _ _ _ (hnd i (by omega)).2 hc hg
      (fun w => br_f ar_n0 (nm_r (nI_1 i) (ih (i + 1) (by omega) (lt_s hj w))))
      (fun w => br_t rfl (h0 (fun al => w (al.1 i (by omega)))))
theorem ay_solution {post : Int32 → Prop} {n m c e : Nat} {pp kk ff ss : Nat → Nat} {B M : Nat → Bool} (hn : n ≤ 4) (hnd : ∀ i, i < 4 → nd i = nI (pp i) ∧ pp i < 1728) (hm : m ≤ 3) (hk : ∀ i, i < 3 → kd i = nI (kk i) ∧ kk i < 3) (hf : ∀ i, i < 3 → fd i = nI (ff i) ∧ ff i < 12) (hs : ∀ i, i < 3 → sd i = nI (ss i) ∧ ss i < 12) (hc : c < 6561) (hg : ∀ v, v < 4 → gn v = nI (dg_ c v)) (hep : ¬ mb_I M = 0 → ep = nI e ∧ e < 1728)
    (h1 : so_ (hb_ hd) n pp m kk ff ss B M e c → post 1) (h0 : ¬ so_ (hb_ hd) n pp m kk ff ss B M e c → post 0) : wpY_solution post (pc, nI n, ep, nI m, mb_I B, mb_I M, hd, nd, kd, fd, sd, gn, sl) :=
  Exists.intro (n + 1) (ay_s2 _ _ _ _ _ _ _ _ _ hn hnd hm hk hf hs hc hg hep h1 h0 n 0 (by omega) lt_0)
/-! the table of solutions -/
def iv_ (F : Nat → Prop) (sl : Nat → Int32) (k : Nat) : Prop := ∀ c, c < 6561 → (sl c = 0 ↔ ¬ (c < k ∧ F c))
theorem iv_step {F : Nat → Prop} {sl : Nat → Int32} {k : Nat} {x : Int32} (h : iv_ F sl k) (hx : x = 0 ↔ ¬ F k) : iv_ F (upd sl k x) (k + 1) := by
  intro c hc
  by_cases e : c = k
  · subst e
    rw [pk_us, hx]
    exact ⟨fun a b => a b.2, fun a b => a ⟨by omega, b⟩⟩
  · rw [pk_un e, h c hc]
    exact ⟨fun a b => a ⟨by omega, b.2⟩, fun a b => a ⟨by omega, b.2⟩⟩
theorem iv_skip {F : Nat → Prop} {sl : Nat → Int32} {k d : Nat} (h : iv_ F sl k) (hx : ∀ c, c < d → ¬ F (k + c)) : iv_ F sl (k + d) := by
  intro c hc
  rw [h c hc]
  refine ⟨fun a b => ?_, fun a b => a ⟨by omega, b.2⟩⟩
  by_cases e : c < k
  · exact a ⟨e, b.2⟩
  · have := hx (c - k) (by omega)
    rw [show k + (c - k) = c from by omega] at this
    exact this b.2
def co_ (x y z w : Nat) : Nat := 729 * x + 81 * y + (9 * z + w)
theorem co_d {x y z w : Nat} (hx : x < 9) (hy : y < 9) (hz : z < 9) (hw : w < 9) : dg_ (co_ x y z w) 0 = x ∧ dg_ (co_ x y z w) 1 = y ∧ dg_ (co_ x y z w) 2 = z ∧ dg_ (co_ x y z w) 3 = w := by
  unfold co_
  refine ⟨?_, ?_, ?_, ?_⟩
  · show (729 * x + 81 * y + (9 * z + w)) / 729 = x; omega
  · show (729 * x + 81 * y + (9 * z + w)) / 81 % 9 = y; omega
  · show (729 * x + 81 * y + (9 * z + w)) / 9 % 9 = z; omega
  · show (729 * x + 81 * y + (9 * z + w)) % 9 = w; omega
theorem co_g {x y z w : Nat} (gn : Nat → Int32) (hx : x < 9) (hy : y < 9) (hz : z < 9) (hw : w < 9) : ∀ v, v < 4 → upd (upd (upd (upd gn 0 (nI x)) 1 (nI y)) 2 (nI z)) 3 (nI w) v = nI (dg_ (co_ x y z w) v) := by
  intro v hv
  obtain ⟨a, b, c, d⟩ := co_d hx hy hz hw
  rcases mb_c4 hv with rfl | rfl | rfl | rfl
  · rw [a]; rfl
  · rw [b]; rfl
  · rw [c]; rfl
  · rw [d]; rfl
theorem co_I (x y z w : Nat) : (((729 : Int32) * nI x + 81 * nI y) + 9 * nI z) + nI w = nI (co_ x y z w) := by
  unfold co_
  rw [← Nat.add_assoc, ← nI_add, ← nI_add, ← nI_add, ← pk_mul, ← pk_mul, ← pk_mul]; rfl
theorem ay_t90 {post : Int32 → SY → Prop} {J5 J15 : Int32 → Int32 → (Nat → Int32) → (Nat → Int32) → (Nat → Int32) → (Nat → Int32) → (Nat → Int32) → (Nat → Int32) → (Nat → Int32) → Prop} {F : Nat → Prop} {x y z w : Nat} {r : Int32} (hx : x < 9) (hy : y < 9) (hz : z < 9) (hw : w < 9)
    (hr : r = 0 ∨ r = 1) (hF : r = 0 ↔ ¬ F (co_ x y z w)) (hi : iv_ F sl (co_ x y z w))
    (hJ : ∀ sl', iv_ F sl' (co_ x y z (w + 1)) → J15 (nI (cn_ F (729 * x + 81 * y) (9 * z + (w + 1)))) (nI (w + 1)) hd nd kd fd sd gn sl') :
    wY_tryLast_90 post J5 J15 (nI x) (nI y) (nI (cn_ F (729 * x + 81 * y) (9 * z + w))) (nI z) (nI w) r pc nc ep cc bs mo hd nd kd fd sd gn sl := by
  unfold wY_tryLast_90
  rw [co_I]
  have hlt : co_ x y z w < 6561 := by unfold co_; omega
  refine ⟨vp_in_nI hlt (by decide), ?_⟩
  rw [nI_clamp (by omega)]
  have hv : vp_nar .boolean r = r := by rcases hr with rfl | rfl; exact ar_v0; exact ar_v1
  refine nm_r (congrArg (upd sl (co_ x y z w)) hv) ?_
  have k := hJ _ (iv_step hi hF)
  refine br_c (fun q => nm_r (nI_1 w) ?_) (fun q => ?_)
  · rw [← Nat.add_assoc, cn_f (hF.mp q)] at k
    exact k
  · have hf : F (co_ x y z w) := Classical.byContradiction (fun n => q (hF.mpr n))
    rw [← Nat.add_assoc (9 * z), cn_t hf] at k
    exact nm_r (nI_1 _) (nm_r (nI_1 w) k)
end
