section
variable (pc nc ep cc nv ev : Int32) (hd nd kd fd sd ps : Nat → Int32)
def xs_ (u : SX) (wo : Int32) (F : Nat → Prop) : Prop := ∀ c, c < 6561 → ∀ post : Int32 → Prop, (F c → post 1) → (¬ F c → post 0) → wpX_solves post u (nI c) wo
noncomputable def nx_ (F : Nat → Prop) : Nat → Nat → Int32
  | 0, _ => -1
  | d + 1, i => @ite Int32 (F i) (Classical.propDecidable _) (nI i) (nx_ F d (i + 1))
theorem nx_t {F : Nat → Prop} {d i : Nat} (h : F i) : nx_ F (d + 1) i = nI i := @if_pos _ (Classical.propDecidable _) h _ _ _
theorem nx_f {F : Nat → Prop} {d i : Nat} (h : ¬ F i) : nx_ F (d + 1) i = nx_ F d (i + 1) := @if_neg _ (Classical.propDecidable _) h _ _ _
noncomputable def vm_ (F : Nat → Prop) (v : Nat) : Nat → Int32
  | 0 => 0
  | k + 1 => @ite Int32 (F k) (Classical.propDecidable _) (vm_ F v k ||| ((1 : Int32) <<< (nI (dg_ k v) &&& 31))) (vm_ F v k)
theorem vm_t {F : Nat → Prop} {v k : Nat} (h : F k) : vm_ F v (k + 1) = vm_ F v k ||| ((1 : Int32) <<< (nI (dg_ k v) &&& 31)) := @if_pos _ (Classical.propDecidable _) h _ _ _
theorem vm_f {F : Nat → Prop} {v k : Nat} (h : ¬ F k) : vm_ F v (k + 1) = vm_ F v k := @if_neg _ (Classical.propDecidable _) h _ _ _
theorem qx_cl {post : Int32 → Prop} {wo : Int32} {F : Nat → Prop} (hX : xs_ (pc, nc, ep, cc, nv, ev, hd, nd, kd, fd, sd, ps) wo F) (h : post (nI (cn_ F 0 6561))) :
    ∀ d i, i + d = 6561 → wX_countSolutions_4 post wo pc nc ep cc nv ev hd nd kd fd sd ps (d + 1) (nI (cn_ F 0 i)) (nI i) := by
  intro d
  induction d with
  | zero =>
    intro i hi
    have e : i = 6561 := by omega
    subst e
    exact pk_le 6561 6561 (fun _ => h) (fun q => absurd q (by omega))
  | succ d ih =>
    intro i hi
    refine pk_le 6561 i (fun q => absurd q (by omega)) (fun q => hX i (by omega) _ (fun w => br_f ar_n0 ?_) (fun w => br_t rfl ?_))
    · have k := ih (i + 1) (by omega)
      rw [cn_t0 w] at k
      exact nm_r (nI_1 _) (nm_r (nI_1 i) k)
    · have k := ih (i + 1) (by omega)
      rw [cn_f0 w] at k
      exact nm_r (nI_1 i) k
theorem qx_count {post : Int32 → Prop} {wo : Int32} {F : Nat → Prop} (hX : xs_ (pc, nc, ep, cc, nv, ev, hd, nd, kd, fd, sd, ps) wo F) (h : post (nI (cn_ F 0 6561))) : wpX_countSolutions post (pc, nc, ep, cc, nv, ev, hd, nd, kd, fd, sd, ps) wo :=
  Exists.intro 6562 (qx_cl _ _ _ _ _ _ _ _ _ _ _ _ hX h 6561 0 (by omega))
theorem qx_nl {post : Int32 → Prop} {F : Nat → Prop} (hX : xs_ (pc, nc, ep, cc, nv, ev, hd, nd, kd, fd, sd, ps) (-1) F) :
    ∀ d i, i + d = 6561 → post (nx_ F d i) → wX_next_23 post pc nc ep cc nv ev hd nd kd fd sd ps (d + 1) (nI i) := by
  intro d
  induction d with
  | zero => exact fun i hi h => pk_le 6561 i (fun _ => h) (fun q => absurd q (by omega))
  | succ d ih =>
    intro i hi h
    refine pk_le 6561 i (fun q => absurd q (by omega)) (fun q => hX i (by omega) _ (fun w => br_f ar_n0 ?_) (fun w => br_t rfl ?_))
    · rw [nx_t w] at h; exact h
    · rw [nx_f w] at h; exact nm_r (nI_1 i) (ih (i + 1) (by omega) h)
theorem qx_vl {post : Int32 → Prop} {F : Nat → Prop} {v : Nat} (hv : v < 4) (hX : xs_ (pc, nc, ep, cc, nv, ev, hd, nd, kd, fd, sd, ps) (-1) F) (h : post (vm_ F v 6561)) :
    ∀ d i, i + d = 6561 → wX_values_13 post (nI v) pc nc ep cc nv ev hd nd kd fd sd ps (d + 1) (vm_ F v i) (nI i) := by
  intro d
  induction d with
  | zero =>
    intro i hi
    have e : i = 6561 := by omega
    subst e
    exact pk_le 6561 6561 (fun _ => h) (fun q => absurd q (by omega))
  | succ d ih =>
    intro i hi
    refine pk_le 6561 i (fun q => absurd q (by omega)) (fun q => hX i (by omega) _ (fun w => br_f ar_n0 ?_) (fun w => br_t rfl ?_))
    · rw [ar_8]
      refine ax_given (by omega) (by omega) ?_
      rw [gv_v (by omega), Nat.add_sub_cancel_left]
      have k := ih (i + 1) (by omega)
      rw [vm_t w] at k
      exact nm_e (nm_r (nI_1 i) k)
    · have k := ih (i + 1) (by omega)
      rw [vm_f w] at k
      exact nm_r (nI_1 i) k
theorem qx_hl {post : Int32 → Prop} {F : Nat → Prop} {v a : Nat} (hv : v < 4) (ha : a < 9) (hX : xs_ (pc, nc, ep, cc, nv, ev, hd, nd, kd, fd, sd, ps) (-1) F) (h : post (nI (cn_ (fun c => F c ∧ dg_ c v = a) 0 6561))) :
    ∀ d i, i + d = 6561 → wX_having_27 post (nI v) (nI a) pc nc ep cc nv ev hd nd kd fd sd ps (d + 1) (nI (cn_ (fun c => F c ∧ dg_ c v = a) 0 i)) (nI i) := by
  intro d
  induction d with
  | zero =>
    intro i hi
    have e : i = 6561 := by omega
    subst e
    exact pk_le 6561 6561 (fun _ => h) (fun q => absurd q (by omega))
  | succ d ih =>
    intro i hi
    have k := ih (i + 1) (by omega)
    have g := dg_lt (c := i) (by omega) v
    refine pk_le 6561 i (fun q => absurd q (by omega)) (fun q => ?_)
    rw [ar_8]
    refine ax_given (by omega) (by omega) ?_
    rw [gv_v (by omega), Nat.add_sub_cancel_left]
    refine pk_eq (dg_ i v) a (fun t => hX i (by omega) _ (fun w => br_f ar_n0 ?_) (fun w => br_t rfl ?_)) (fun t => ?_)
    · rw [cn_t0 ⟨w, t⟩] at k
      exact nm_r (nI_1 _) (nm_r (nI_1 i) k)
    · rw [cn_f0 (fun z => w z.1)] at k
      exact nm_r (nI_1 i) k
    · rw [cn_f0 (fun z => t z.2)] at k
      exact nm_r (nI_1 i) k
def mt_ (F : Nat → Prop) (g : Nat → Nat) (k q : Nat) : Prop := ∃ c, c < k ∧ F c ∧ g c = q
theorem mt_same {F : Nat → Prop} {g : Nat → Nat} {k : Nat} (h : ¬ F k ∨ mt_ F g k (g k)) (q : Nat) : mt_ F g (k + 1) q ↔ mt_ F g k q := by
  constructor
  · rintro ⟨c, h1, h2, h3⟩
    by_cases e : c = k
    · subst e; subst h3
      exact h.elim (fun n => absurd h2 n) id
    · exact ⟨c, by omega, h2, h3⟩
  · rintro ⟨c, h1, h2, h3⟩
    exact ⟨c, by omega, h2, h3⟩
theorem mt_new {F : Nat → Prop} {g : Nat → Nat} {k : Nat} (q : Nat) (hq : q ≠ g k) : mt_ F g (k + 1) q ↔ mt_ F g k q := by
  constructor
  · rintro ⟨c, h1, h2, h3⟩
    by_cases e : c = k
    · subst e; exact absurd h3.symm hq
    · exact ⟨c, by omega, h2, h3⟩
  · rintro ⟨c, h1, h2, h3⟩
    exact ⟨c, by omega, h2, h3⟩
def pr_ (v w c : Nat) : Nat := 9 * dg_ c v + dg_ c w
theorem qx_fl {post : SX → Prop} (hp : ∀ ps, (∀ q, q < 81 → ps q = 0) → post (pc, nc, ep, cc, nv, ev, hd, nd, kd, fd, sd, ps)) :
    ∀ d i ps, i + d = 81 → (∀ q, q < i → ps q = 0) → wX_forgetPairs_2 post pc nc ep cc nv ev (d + 1) (nI i) hd nd kd fd sd ps := by
  intro d
  induction d with
  | zero => exact fun i ps hi hz => pk_le 81 i (fun _ => hp ps (fun q hq => hz q (by omega))) (fun q => absurd q (by omega))
  | succ d ih =>
    intro i ps hi hz
    refine pk_le 81 i (fun q => absurd q (by omega)) (fun q => ⟨vp_in_nI (by omega) (by decide), ?_⟩)
    rw [nI_clamp (by omega), ar_v0]
    refine nm_e (nm_r (nI_1 i) (ih (i + 1) _ (by omega) (fun c hc => ?_)))
    by_cases e : c = i
    · subst e; exact pk_us
    · rw [pk_un e]; exact hz c (by omega)
theorem qx_pl {post : Int32 → SX → Prop} {F : Nat → Prop} {v w : Nat} (hv : v < 4) (hw : w < 4) (hX : ∀ ps, xs_ (pc, nc, ep, cc, nv, ev, hd, nd, kd, fd, sd, ps) (-1) F)
    (hp : ∀ ps, post (nI (cn_ (mt_ F (pr_ v w) 6561) 0 81)) (pc, nc, ep, cc, nv, ev, hd, nd, kd, fd, sd, ps)) :
    ∀ d i ps, i + d = 6561 → (∀ q, q < 81 → (ps q = 0 ↔ ¬ mt_ F (pr_ v w) i q)) → wX_pairs_25 post (nI v) (nI w) pc nc ep cc nv ev (d + 1) (nI (cn_ (mt_ F (pr_ v w) i) 0 81)) (nI i) hd nd kd fd sd ps := by
  intro d
  induction d with
  | zero =>
    intro i ps hi _
    have e : i = 6561 := by omega
    subst e
    exact pk_le 6561 6561 (fun _ => hp ps) (fun q => absurd q (by omega))
  | succ d ih =>
    intro i ps hi hs
    have g1 := dg_lt (c := i) (by omega) v
    have g2 := dg_lt (c := i) (by omega) w
    refine pk_le 6561 i (fun q => absurd q (by omega)) (fun q => ?_)
    rw [ar_8, ar_8]
    refine ax_given (by omega) (by omega) (ax_given (by omega) (by omega) ?_)
    rw [gv_v (by omega), gv_v (by omega), Nat.add_sub_cancel_left, Nat.add_sub_cancel_left]
    have e9 : (9 : Int32) * nI (dg_ i v) + nI (dg_ i w) = nI (pr_ v w i) := by
      unfold pr_; rw [← nI_add, ← pk_mul]; rfl
    have p81 : pr_ v w i < 81 := by unfold pr_; omega
    have hin : vp_in (nI (pr_ v w i)) 81 := vp_in_nI p81 (by decide)
    have same : (¬ F i ∨ mt_ F (pr_ v w) i (pr_ v w i)) → wX_pairs_25 post (nI v) (nI w) pc nc ep cc nv ev (d + 1) (nI (cn_ (mt_ F (pr_ v w) i) 0 81)) (nI (i + 1)) hd nd kd fd sd ps := by
      intro h
      have k := ih (i + 1) ps (by omega) (fun q hq => by rw [mt_same h]; exact hs q hq)
      rw [cn_congr (g := mt_ F (pr_ v w) i) 81 (fun c _ => mt_same h _)] at k
      exact k
    refine nm_r e9 ⟨hin, ?_⟩
    rw [nI_clamp (by omega)]
    refine br_c (fun t => ?_) (fun t => nm_r (nI_1 i) (same (Or.inr (Classical.byContradiction (fun n => t ((hs _ p81).mpr n))))))
    refine hX ps i (by omega) _ (fun f => br_f ar_n0 ⟨hin, ?_⟩) (fun f => br_t rfl (nm_r (nI_1 i) (same (Or.inl f))))
    have n0 : ¬ mt_ F (pr_ v w) i (pr_ v w i) := (hs _ p81).mp t
    have n1 : mt_ F (pr_ v w) (i + 1) (pr_ v w i) := ⟨i, by omega, f, rfl⟩
    have k := ih (i + 1) (upd ps (pr_ v w i) 1) (by omega) (fun q hq => by
      by_cases e : q = pr_ v w i
      · subst e; rw [pk_us]; exact ⟨fun z => absurd z ar_n0, fun z => absurd n1 z⟩
      · rw [pk_un e, mt_new q e]; exact hs q hq)
    rw [cn_one n0 n1 (fun q hq => mt_new q hq), if_pos p81] at k
    rw [ar_v1]
    exact nm_e (nm_r (nI_1 _) (nm_r (nI_1 i) k))
def vt_ (hd : Nat → Int32) (all : Nat) (FS : Nat → Nat → Prop) (s : Nat) : Prop := ¬ hd s = 0 ∧ ¬ nI all ≤ nI (cn_ (FS s) 0 6561)
theorem qx_vtl {post : Int32 → Prop} {all : Nat} {FS : Nat → Nat → Prop} (hX : ∀ s, s < 256 → ¬ hd s = 0 → xs_ (pc, nc, ep, cc, nv, ev, hd, nd, kd, fd, sd, ps) (nI s) (FS s)) (h : post (nI (cn_ (vt_ hd all FS) 0 256))) :
    ∀ d i, i + d = 256 → wX_vital_10 post (nI all) pc nc ep cc nv ev hd nd kd fd sd ps (d + 1) (nI (cn_ (vt_ hd all FS) 0 i)) (nI i) := by
  intro d
  induction d with
  | zero =>
    intro i hi
    have e : i = 256 := by omega
    subst e
    exact pk_le 256 256 (fun _ => h) (fun q => absurd q (by omega))
  | succ d ih =>
    intro i hi
    have k := ih (i + 1) (by omega)
    refine pk_le 256 i (fun q => absurd q (by omega)) (fun q => ⟨vp_in_nI (by omega) (by decide), ?_⟩)
    rw [nI_clamp (by omega)]
    refine br_c (fun t => ?_) (fun t => qx_count _ _ _ _ _ _ _ _ _ _ _ _ (hX i (by omega) t) (br_c (fun r => ?_) (fun r => ?_)))
    · rw [cn_f0 (fun z => z.1 t)] at k
      exact nm_r (nI_1 i) k
    · rw [cn_f0 (fun z => z.2 r)] at k
      exact nm_r (nI_1 i) k
    · rw [cn_t0 ⟨t, r⟩] at k
      exact nm_r (nI_1 _) (nm_r (nI_1 i) k)
end
