section
theorem pk_us {f : Nat → Int32} {k : Nat} {x : Int32} : upd f k x k = x := if_pos rfl
theorem pk_un {f : Nat → Int32} {k j : Nat} {x : Int32} (h : j ≠ k) : upd f k x j = f j := if_neg h
theorem pk_sub {a b : Nat} (h : b ≤ a) : nI a - nI b = nI (a - b) := by
  obtain ⟨c, rfl⟩ : ∃ c, a = c + b := ⟨a - b, by omega⟩
  rw [← nI_add, Int32.add_sub_cancel, Nat.add_sub_cancel]
theorem pk_m1 (n : Nat) : nI (n + 1) + (-1) = nI n := by
  rw [← nI_1, Int32.add_assoc, show (1 : Int32) + (-1) = 0 from rfl, Int32.add_zero]
theorem pk_mul (a b : Nat) : nI a * nI b = nI (a * b) := (Int32.ofNat_mul a b).symm
theorem pk_div {a d : Nat} (ha : a < 2 ^ 31) (h0 : 0 < d) (hd : d < 2 ^ 31) : nI a / nI d = nI (a / d) := by
  apply Int32.toInt_inj.mp
  rw [lg_idiv_nonneg (by rw [nI_toInt ha]; omega) (by rw [nI_toInt hd]; omega), nI_toInt ha, nI_toInt hd, nI_toInt (Nat.lt_of_le_of_lt (Nat.div_le_self a d) ha)]
  first | rfl | exact (Int.natCast_ediv _ _).symm
theorem pk_rem {a d : Nat} (ha : a < 2 ^ 31) (h0 : 0 < d) (hd : d < 2 ^ 31) : nI a - nI a / nI d * nI d = nI (a % d) := by
  rw [pk_div ha h0 hd, pk_mul, pk_sub (Nat.div_mul_le_self a d)]
  exact congrArg nI (by have := Nat.div_add_mod' a d; omega)
theorem pk_ix (x : Int32) {n : Nat} (hn : n < 2 ^ 31) : x < 0 ∨ nI n ≤ x ∨ ∃ j : Nat, j < n ∧ x = nI j := by
  by_cases h : x < 0
  · exact Or.inl h
  · obtain ⟨j, hj, rfl⟩ := nI_of h
    by_cases h2 : j < n
    · exact Or.inr (Or.inr ⟨j, h2, rfl⟩)
    · exact Or.inr (Or.inl (nI_le (by omega) hj))
theorem pk_le {x y : Int32} {A B : Prop} (a b : Nat) (f : a ≤ b → A) (g : b < a → B) (hx : x = nI a := by rfl) (hy : y = nI b := by rfl) (ha : a < 2 ^ 31 := by omega) (hb : b < 2 ^ 31 := by omega) : (x ≤ y → A) ∧ (¬ x ≤ y → B) := by
  subst hx hy
  rw [nI_leI ha hb]
  exact ⟨f, fun z => g (by omega)⟩
theorem pk_lt {x y : Int32} {A B : Prop} (a b : Nat) (f : a < b → A) (g : b ≤ a → B) (hx : x = nI a := by rfl) (hy : y = nI b := by rfl) (ha : a < 2 ^ 31 := by omega) (hb : b < 2 ^ 31 := by omega) : (x < y → A) ∧ (¬ x < y → B) := by
  subst hx hy
  rw [nI_ltI ha hb]
  exact ⟨f, fun z => g (by omega)⟩
theorem pk_eq {x y : Int32} {A B : Prop} (a b : Nat) (f : a = b → A) (g : a ≠ b → B) (hx : x = nI a := by rfl) (hy : y = nI b := by rfl) (ha : a < 2 ^ 31 := by omega) (hb : b < 2 ^ 31 := by omega) : (x = y → A) ∧ (¬ x = y → B) := by
  subst hx hy
  rw [nI_eq ha hb]
  exact ⟨f, g⟩
theorem pk_in {x : Int32} (n N : Nat) (h : n < N) (hx : x = nI n := by rfl) (hN : N < 2 ^ 31 := by omega) : vp_in x N := by
  subst hx
  exact vp_in_nI h hN
theorem pk_cl {x : Int32} (n : Nat) (hx : x = nI n := by rfl) (h : n < 2 ^ 31 := by omega) : x.toNatClampNeg = n := by
  subst hx
  exact nI_clamp h
/-! masks of four variables -/
def mb_4 (a b c d : Bool) : Int32 := nI (a.toNat + 2 * b.toNat + 4 * c.toNat + 8 * d.toNat)
def mb_I (f : Nat → Bool) : Int32 := mb_4 (f 0) (f 1) (f 2) (f 3)
theorem mb_or4 : ∀ a b c d e f g h : Bool, mb_4 a b c d ||| mb_4 e f g h = mb_4 (a || e) (b || f) (c || g) (d || h) := by decide +kernel
theorem mb_not4 : ∀ a b c d : Bool, (15 : Int32) &&& (mb_4 a b c d ^^^ (-1)) = mb_4 (!a) (!b) (!c) (!d) := by decide +kernel
theorem mb_sub4 : ∀ a b c d e f g h : Bool, mb_4 a b c d &&& (mb_4 e f g h ^^^ (-1)) = mb_4 (a && !e) (b && !f) (c && !g) (d && !h) := by decide +kernel
theorem mb_inj4 : ∀ a b c d e f g h : Bool, mb_4 a b c d = mb_4 e f g h → (a = e ∧ b = f ∧ c = g ∧ d = h) := by decide +kernel
theorem mb_bit4 : ∀ a b c d : Bool, (((mb_4 a b c d >>> (nI 0 &&& 31)) &&& 1 = 1 ↔ a = true) ∧ ((mb_4 a b c d >>> (nI 1 &&& 31)) &&& 1 = 1 ↔ b = true)) ∧ (((mb_4 a b c d >>> (nI 2 &&& 31)) &&& 1 = 1 ↔ c = true) ∧ ((mb_4 a b c d >>> (nI 3 &&& 31)) &&& 1 = 1 ↔ d = true)) := by decide +kernel
theorem mb_c4 {v : Nat} (h : v < 4) : v = 0 ∨ v = 1 ∨ v = 2 ∨ v = 3 := by omega
theorem mb_or (f g : Nat → Bool) : mb_I f ||| mb_I g = mb_I (fun v => f v || g v) := mb_or4 _ _ _ _ _ _ _ _
theorem mb_not (f : Nat → Bool) : (15 : Int32) &&& (mb_I f ^^^ (-1)) = mb_I (fun v => !f v) := mb_not4 _ _ _ _
theorem mb_sub (f g : Nat → Bool) : mb_I f &&& (mb_I g ^^^ (-1)) = mb_I (fun v => f v && !g v) := mb_sub4 _ _ _ _ _ _ _ _
theorem mb_congr {f g : Nat → Bool} (h : ∀ v, v < 4 → f v = g v) : mb_I f = mb_I g := by
  unfold mb_I
  rw [h 0 (by decide), h 1 (by decide), h 2 (by decide), h 3 (by decide)]
theorem mb_inj {f g : Nat → Bool} (h : mb_I f = mb_I g) : ∀ v, v < 4 → f v = g v := by
  intro v hv
  obtain ⟨a, b, c, d⟩ := mb_inj4 _ _ _ _ _ _ _ _ h
  rcases mb_c4 hv with rfl | rfl | rfl | rfl
  · exact a
  · exact b
  · exact c
  · exact d
theorem mb_bit (f : Nat → Bool) {v : Nat} (hv : v < 4) : (mb_I f >>> (nI v &&& 31)) &&& 1 = 1 ↔ f v = true := by
  obtain ⟨⟨a, b⟩, c, d⟩ := mb_bit4 (f 0) (f 1) (f 2) (f 3)
  rcases mb_c4 hv with rfl | rfl | rfl | rfl
  · exact a
  · exact b
  · exact c
  · exact d
theorem mb_one : ∀ v, v < 4 → (1 : Int32) <<< (nI v &&& 31) = mb_I (fun w => w == v) := by decide +kernel
theorem mb_0 : mb_I (fun _ => false) = 0 := by decide +kernel
theorem mb_eq0 (f : Nat → Bool) : mb_I f = 0 ↔ ∀ v, v < 4 → f v = false := by
  rw [← mb_0]
  exact ⟨fun h v hv => mb_inj h v hv, fun h => mb_congr h⟩
theorem mb_eq (f g : Nat → Bool) : mb_I f = mb_I g ↔ ∀ v, v < 4 → f v = g v := ⟨mb_inj, mb_congr⟩
/-! patterns, statements, codes -/
def en_ (p : Nat) : Nat → Nat
  | 0 => p / 144
  | 1 => p / 12 % 12
  | _ => p % 12
def pt_ (s : Nat) : Nat → Nat
  | 0 => s / 32
  | 1 => s / 8 % 4
  | _ => s % 8
def dg_ (c : Nat) : Nat → Nat
  | 0 => c / 729
  | 1 => c / 81 % 9
  | 2 => c / 9 % 9
  | _ => c % 9
def gv_ (e c : Nat) : Nat := if e < 8 then e else dg_ c (e - 8)
theorem en_lt {p : Nat} (h : p < 1728) (k : Nat) : en_ p k < 12 := by
  unfold en_; split <;> omega
theorem pt_lt {s : Nat} (h : s < 256) (k : Nat) : pt_ s k < 8 := by
  unfold pt_; split <;> omega
theorem pt_lt4 (s : Nat) : pt_ s 1 < 4 := by
  show s / 8 % 4 < 4; omega
theorem dg_lt {c : Nat} (h : c < 6561) (v : Nat) : dg_ c v < 9 := by
  unfold dg_; split <;> omega
theorem gv_lt {e c : Nat} (h : c < 6561) : gv_ e c < 9 := by
  unfold gv_; split
  · omega
  · exact dg_lt h _
theorem gv_v {e c : Nat} (h : 8 ≤ e) : gv_ e c = dg_ c (e - 8) := if_neg (by omega)
theorem gv_e {e c : Nat} (h : e < 8) : gv_ e c = e := if_pos h
def vq_ (p v : Nat) : Bool := (en_ p 0 == 8 + v || en_ p 1 == 8 + v) || en_ p 2 == 8 + v
def nb_ (pp : Nat → Nat) (n v : Nat) : Bool := match n with
  | 0 => false
  | k + 1 => nb_ pp k v || vq_ (pp k) v
def al_ (g x : Nat) : Prop := g = 8 ∨ g = x
def fx_ (s p c : Nat) : Prop := (en_ p 0 = en_ p 1 → pt_ s 0 = pt_ s 1) ∧ (en_ p 0 = en_ p 2 → pt_ s 0 = pt_ s 2) ∧ (en_ p 1 = en_ p 2 → pt_ s 1 = pt_ s 2) ∧ al_ (gv_ (en_ p 0) c) (pt_ s 0) ∧ al_ (gv_ (en_ p 1) c) (pt_ s 1) ∧ al_ (gv_ (en_ p 2) c) (pt_ s 2)
def hl_ (b : Nat → Prop) (p c : Nat) : Prop := gv_ (en_ p 0) c < 8 ∧ gv_ (en_ p 1) c < 4 ∧ gv_ (en_ p 2) c < 8 ∧ b (32 * gv_ (en_ p 0) c + 8 * gv_ (en_ p 1) c + gv_ (en_ p 2) c)
def kp_ (k x y : Nat) : Prop := x ≠ 8 ∧ y ≠ 8 ∧ (k = 0 → x = y) ∧ (k = 1 → x ≠ y) ∧ (k ≠ 0 → k ≠ 1 → x < y)
def nh_ (b : Nat → Prop) (n : Nat) (pp : Nat → Nat) (c : Nat) : Prop := ∀ i, i < n → hl_ b (pp i) c
def ck_ (m : Nat) (kk ff ss : Nat → Nat) (c : Nat) : Prop := ∀ i, i < m → kp_ (kk i) (gv_ (ff i) c) (gv_ (ss i) c)
def fy_ (s p : Nat) : Prop := ∀ i, i < 3 → (en_ p i < 8 → en_ p i = pt_ s i) ∧ ∀ j, j < i → 7 < en_ p i → en_ p j = en_ p i → pt_ s j = pt_ s i
def ag_ (s p : Nat) (bs : Nat → Bool) (c : Nat) : Prop := ∀ k, k < 3 → 7 < en_ p k → bs (en_ p k - 8) = true → dg_ c (en_ p k - 8) = pt_ s k
/-! counting -/
noncomputable def io_ (p : Prop) : Nat := @ite Nat p (Classical.propDecidable p) 1 0
theorem io_t {p : Prop} (h : p) : io_ p = 1 := @if_pos _ (Classical.propDecidable p) h _ _ _
theorem io_f {p : Prop} (h : ¬ p) : io_ p = 0 := @if_neg _ (Classical.propDecidable p) h _ _ _
noncomputable def cn_ (f : Nat → Prop) (a : Nat) : Nat → Nat
  | 0 => 0
  | k + 1 => cn_ f a k + io_ (f (a + k))
theorem cn_t {f : Nat → Prop} {a k : Nat} (h : f (a + k)) : cn_ f a (k + 1) = cn_ f a k + 1 := by
  show cn_ f a k + io_ (f (a + k)) = _
  rw [io_t h]
theorem cn_f {f : Nat → Prop} {a k : Nat} (h : ¬ f (a + k)) : cn_ f a (k + 1) = cn_ f a k := by
  show cn_ f a k + io_ (f (a + k)) = _
  rw [io_f h]; rfl
theorem cn_t0 {f : Nat → Prop} {k : Nat} (h : f k) : cn_ f 0 (k + 1) = cn_ f 0 k + 1 := cn_t (by rw [Nat.zero_add]; exact h)
theorem cn_f0 {f : Nat → Prop} {k : Nat} (h : ¬ f k) : cn_ f 0 (k + 1) = cn_ f 0 k := cn_f (by rw [Nat.zero_add]; exact h)
theorem cn_add (f : Nat → Prop) (a : Nat) : ∀ k, cn_ f 0 (a + k) = cn_ f 0 a + cn_ f a k := by
  intro k
  induction k with
  | zero => rfl
  | succ k ih =>
    show cn_ f 0 (a + k) + io_ (f (0 + (a + k))) = _ + (cn_ f a k + io_ (f (a + k)))
    rw [ih, Nat.zero_add, Nat.add_assoc]
theorem cn_congr {f g : Nat → Prop} {a : Nat} : ∀ k, (∀ c, c < k → (f (a + c) ↔ g (a + c))) → cn_ f a k = cn_ g a k := by
  intro k
  induction k with
  | zero => intro _; rfl
  | succ k ih =>
    intro h
    have e := ih (fun c hc => h c (by omega))
    by_cases hf : f (a + k)
    · rw [cn_t hf, cn_t ((h k (by omega)).mp hf), e]
    · rw [cn_f hf, cn_f (fun z => hf ((h k (by omega)).mpr z)), e]
theorem cn_none {f : Nat → Prop} {a : Nat} : ∀ k, (∀ c, c < k → ¬ f (a + c)) → cn_ f a k = 0 := by
  intro k
  induction k with
  | zero => intro _; rfl
  | succ k ih =>
    intro h
    rw [cn_f (h k (by omega)), ih (fun c hc => h c (by omega))]
theorem cn_one {f g : Nat → Prop} {q : Nat} (hq : ¬ f q) (gq : g q) (hg : ∀ c, c ≠ q → (g c ↔ f c)) : ∀ k, cn_ g 0 k = cn_ f 0 k + (if q < k then 1 else 0) := by
  intro k
  induction k with
  | zero => rfl
  | succ k ih =>
    by_cases hk : k = q
    · subst hk
      rw [cn_t0 gq, cn_f0 hq, ih, if_neg (by omega), if_pos (by omega)]
    · have e : (if q < k + 1 then 1 else 0) = (if q < k then 1 else 0) := by
        by_cases h2 : q < k
        · rw [if_pos h2, if_pos (by omega)]
        · rw [if_neg h2, if_neg (by omega)]
      by_cases hf : f k
      · rw [cn_t0 hf, cn_t0 ((hg k hk).mpr hf), ih, e]; omega
      · rw [cn_f0 hf, cn_f0 (fun z => hf ((hg k hk).mp z)), ih, e]
/-! small arithmetic of the print -/
theorem ar_n0 : ¬ (1 : Int32) = 0 := by decide
theorem ar_div {a : Nat} (d : Nat) (ha : a < 2 ^ 31 := by omega) (h0 : 0 < d := by decide) (hd : d < 2 ^ 31 := by decide) : nI a / nI d = nI (a / d) := pk_div ha h0 hd
theorem ar_rem {a : Nat} (d : Nat) (ha : a < 2 ^ 31 := by omega) (h0 : 0 < d := by decide) (hd : d < 2 ^ 31 := by decide) : nI a - nI a / nI d * nI d = nI (a % d) := pk_rem ha h0 hd
theorem ar_dr {a : Nat} (d e : Nat) (ha : a < 2 ^ 31 := by omega) (h0 : 0 < d := by decide) (hd : d < 2 ^ 31 := by decide) (h1 : 0 < e := by decide) (he : e < 2 ^ 31 := by decide) : (nI a / nI d) - (nI a / nI d) / nI e * nI e = nI (a / d % e) := by
  rw [pk_div ha h0 hd]
  exact pk_rem (Nat.lt_of_le_of_lt (Nat.div_le_self a d) ha) h1 he
theorem ar_p {P : Int32 → Prop} {x y : Int32} (e : x = y) (h : P y) : P x := by subst e; exact h
theorem ar_x8 {e : Nat} (h : 8 ≤ e) : nI e - 8 = nI (e - 8) := pk_sub (b := 8) h
theorem ar_8 (v : Nat) : (8 : Int32) + nI v = nI (8 + v) := nI_add 8 v
theorem ar_ne {s : Nat} (h : s < 2 ^ 31) : ¬ nI s = (-1 : Int32) := by
  intro e
  have h1 := congrArg Int32.toInt e
  rw [nI_toInt h] at h1
  have h2 : (-1 : Int32).toInt = -1 := by decide
  omega
theorem ar_n01 (x : Int32) (h : x = 0 ∨ x = 1) : narrow .boolean (.int x) = .int x := by
  rcases h with rfl | rfl <;> rfl
theorem ar_v0 : vp_nar .boolean 0 = 0 := by decide +kernel
theorem ar_v1 : vp_nar .boolean 1 = 1 := by decide +kernel
theorem ar_cl {s : Nat} (h : s < 2 ^ 31) : (nI s).toNatClampNeg = s := nI_clamp h
end
section
section
variable (pc nc ep cc nv ev : Int32) (hd nd kd fd sd ps : Nat → Int32)
theorem ax_subj {post : Int32 → Prop} {p : Nat} (hp : p < 1728) (h : post (nI (en_ p 0))) : wpX_subjectEntry post (nI p) := And.intro (by decide) (ar_p (P := post) (ar_div 144) h)
theorem ax_link {post : Int32 → Prop} {p : Nat} (hp : p < 1728) (h : post (nI (en_ p 1))) : wpX_linkEntry post (nI p) := And.intro (by decide) ⟨by decide, ar_p (P := post) (ar_dr 12 12) h⟩
theorem ax_obj {post : Int32 → Prop} {p : Nat} (hp : p < 1728) (h : post (nI (en_ p 2))) : wpX_objectEntry post (nI p) := And.intro (by decide) (ar_p (P := post) (ar_rem 12) h)
theorem ax_given {post : Int32 → Prop} {e c : Nat} (he : e < 12) (hc : c < 6561) (h : post (nI (gv_ e c))) : wpX_given post (nI e) (nI c) :=
  pk_lt e 8 (fun h8 => by rw [gv_e h8] at h; exact h) (fun h8 => by
    rw [gv_v h8] at h
    refine pk_lt 11 e (fun z => absurd z (by omega)) (fun _ => pk_eq e 8 (fun z => ?_) (fun z8 => pk_eq e 9 (fun z => ?_) (fun z9 => pk_eq e 10 (fun z => ?_) (fun z10 => pk_eq e 11 (fun z => ?_) (fun z11 => trivial)))))
    · subst z; exact ⟨by decide, ar_p (P := post) (ar_div 729) h⟩
    · subst z; exact ⟨by decide, by decide, ar_p (P := post) (ar_dr 81 9) h⟩
    · subst z; exact ⟨by decide, by decide, ar_p (P := post) (ar_dr 9 9) h⟩
    · subst z; exact ⟨by decide, ar_p (P := post) (ar_rem 9) h⟩)
theorem ax_allows {post : Int32 → Prop} {g x : Nat} (hg : g < 9) (hx : x < 9) (h1 : al_ g x → post 1) (h0 : ¬ al_ g x → post 0) : wpX_allows post (nI g) (nI x) :=
  pk_eq g 8 (fun z => h1 (Or.inl z)) (fun z => pk_eq g x (fun y => h1 (Or.inr y)) (fun y => h0 (fun w => w.elim z y)))
theorem ax_f83 {post : Int32 → Prop} {c a b d x y z : Nat} (hc : c < 6561) (ha : a < 8) (hb : b < 8) (hd : d < 8) (hx : x < 12) (hy : y < 12) (hz : z < 12)
    (h1 : al_ (gv_ x c) a ∧ al_ (gv_ y c) b ∧ al_ (gv_ z c) d → post 1) (h0 : ¬ (al_ (gv_ x c) a ∧ al_ (gv_ y c) b ∧ al_ (gv_ z c) d) → post 0) :
    wX_fits_83 post (nI c) (nI a) (nI b) (nI d) (nI x) (nI y) (nI z) :=
  ax_given hx hc (ax_given hy hc (ax_given hz hc (ax_allows (gv_lt hc) (by omega)
    (fun a0 => br_f ar_n0 (ax_allows (gv_lt hc) (by omega)
      (fun a1 => br_f ar_n0 (ax_allows (gv_lt hc) (by omega)
        (fun a2 => br_f ar_n0 (h1 ⟨a0, a1, a2⟩))
        (fun n => br_t rfl (h0 (fun w => n w.2.2)))))
      (fun n => br_t rfl (h0 (fun w => n w.2.1)))))
    (fun n => br_t rfl (h0 (fun w => n w.1))))))
theorem ax_f67 {post : Int32 → Prop} {c a b d x y z : Nat} (hc : c < 6561) (ha : a < 8) (hb : b < 8) (hd : d < 8) (hx : x < 12) (hy : y < 12) (hz : z < 12)
    (h1 : (y = z → b = d) ∧ al_ (gv_ x c) a ∧ al_ (gv_ y c) b ∧ al_ (gv_ z c) d → post 1) (h0 : ¬ ((y = z → b = d) ∧ al_ (gv_ x c) a ∧ al_ (gv_ y c) b ∧ al_ (gv_ z c) d) → post 0) :
    wX_fits_67 post (nI c) (nI a) (nI b) (nI d) (nI x) (nI y) (nI z) :=
  pk_eq y z
    (fun e => pk_eq b d (fun f => ax_f83 hc ha hb hd hx hy hz (fun w => h1 ⟨fun _ => f, w⟩) (fun n => h0 (fun w => n w.2))) (fun f => h0 (fun w => f (w.1 e))))
    (fun e => ax_f83 hc ha hb hd hx hy hz (fun w => h1 ⟨fun t => absurd t e, w⟩) (fun n => h0 (fun w => n w.2)))
theorem ax_f52 {post : Int32 → Prop} {c a b d x y z : Nat} (hc : c < 6561) (ha : a < 8) (hb : b < 8) (hd : d < 8) (hx : x < 12) (hy : y < 12) (hz : z < 12)
    (h1 : (x = z → a = d) ∧ (y = z → b = d) ∧ al_ (gv_ x c) a ∧ al_ (gv_ y c) b ∧ al_ (gv_ z c) d → post 1) (h0 : ¬ ((x = z → a = d) ∧ (y = z → b = d) ∧ al_ (gv_ x c) a ∧ al_ (gv_ y c) b ∧ al_ (gv_ z c) d) → post 0) :
    wX_fits_52 post (nI c) (nI a) (nI b) (nI d) (nI x) (nI y) (nI z) :=
  pk_eq x z
    (fun e => pk_eq a d (fun f => ax_f67 hc ha hb hd hx hy hz (fun w => h1 ⟨fun _ => f, w⟩) (fun n => h0 (fun w => n w.2))) (fun f => h0 (fun w => f (w.1 e))))
    (fun e => ax_f67 hc ha hb hd hx hy hz (fun w => h1 ⟨fun t => absurd t e, w⟩) (fun n => h0 (fun w => n w.2)))
theorem ax_fits {post : Int32 → Prop} {s p c : Nat} (hs : s < 256) (hp : p < 1728) (hc : c < 6561) (h1 : fx_ s p c → post 1) (h0 : ¬ fx_ s p c → post 0) : wpX_fits post (nI s) (nI p) (nI c) := by
  have a0 := pt_lt hs 0
  have a1 := pt_lt hs 1
  have a2 := pt_lt hs 2
  have e0 := en_lt hp 0
  have e1 := en_lt hp 1
  have e2 := en_lt hp 2
  refine And.intro (by decide) (nm_r (e' := nI (pt_ s 0)) (ar_div 32) ⟨by decide, by decide, nm_r (e' := nI (pt_ s 1)) (ar_dr 8 4) ⟨by decide, nm_r (e' := nI (pt_ s 2)) (ar_rem 8) ?_⟩⟩)
  refine ax_subj hp (ax_link hp (ax_obj hp ?_))
  exact pk_eq (en_ p 0) (en_ p 1)
    (fun e => pk_eq (pt_ s 0) (pt_ s 1) (fun f => ax_f52 hc a0 a1 a2 e0 e1 e2 (fun w => h1 ⟨fun _ => f, w⟩) (fun n => h0 (fun w => n w.2))) (fun f => h0 (fun w => f (w.1 e))))
    (fun e => ax_f52 hc a0 a1 a2 e0 e1 e2 (fun w => h1 ⟨fun t => absurd t e, w⟩) (fun n => h0 (fun w => n w.2)))
def eb_ (hd : Nat → Int32) (wo : Int32) (s : Nat) : Prop := ¬ hd s = 0 ∧ ¬ nI s = wo
theorem ax_holds {post : Int32 → Prop} {p c : Nat} {wo : Int32} (hp : p < 1728) (hc : c < 6561) (h1 : hl_ (eb_ hd wo) p c → post 1) (h0 : ¬ hl_ (eb_ hd wo) p c → post 0) : wpX_holds post (pc, nc, ep, cc, nv, ev, hd, nd, kd, fd, sd, ps) (nI p) (nI c) wo := by
  unfold wpX_holds
  dsimp only
  refine ax_subj hp (ax_link hp (ax_obj hp (ax_given (en_lt hp 0) hc (ax_given (en_lt hp 1) hc (ax_given (en_lt hp 2) hc ?_)))))
  unfold hl_ at h1 h0
  have g0 : gv_ (en_ p 0) c < 9 := gv_lt hc
  have g1 : gv_ (en_ p 1) c < 9 := gv_lt hc
  have g2 : gv_ (en_ p 2) c < 9 := gv_lt hc
  generalize gv_ (en_ p 0) c = a at *
  generalize gv_ (en_ p 1) c = b at *
  generalize gv_ (en_ p 2) c = d at *
  refine pk_le 8 a (fun z => h0 (fun w => absurd w.1 (by omega))) (fun z0 => pk_lt 3 b (fun z => h0 (fun w => absurd w.2.1 (by omega))) (fun z1 => pk_lt d 8 (fun z2 => ?_) (fun z => h0 (fun w => absurd w.2.2.1 (by omega)))))
  have e : (32 : Int32) * nI a + 8 * nI b + nI d = nI (32 * a + 8 * b + d) := by
    rw [← nI_add, ← nI_add, ← pk_mul, ← pk_mul]; rfl
  refine nm_r e (br_c (fun q => h0 (fun w => w.2.2.2.2 q)) (fun q => ⟨vp_in_nI (by omega) (by decide), ?_⟩))
  rw [nI_clamp (by omega)]
  exact br_c (fun t => h0 (fun w => w.2.2.2.1 t)) (fun t => h1 ⟨by omega, by omega, by omega, t, q⟩)
theorem ax_nhl {post : Int32 → Prop} {n c : Nat} {pp : Nat → Nat} {wo : Int32} (hn : n ≤ 4) (hnd : ∀ i, i < 4 → nd i = nI (pp i) ∧ pp i < 1728) (hc : c < 6561)
    (h1 : nh_ (eb_ hd wo) n pp c → post 1) (h0 : ¬ nh_ (eb_ hd wo) n pp c → post 0) :
    ∀ d i, i + d = n → (∀ j, j < i → hl_ (eb_ hd wo) (pp j) c) → wX_neededHold_2 post (nI c) wo pc (nI n) ep cc nv ev hd nd kd fd sd ps (d + 1) (nI i) := by
  intro d
  induction d with
  | zero => exact fun i hi hj => pk_le n i (fun _ => h1 (fun j hjn => hj j (by omega))) (fun z => absurd z (by omega))
  | succ d ih =>
    intro i hi hj
    refine pk_le n i (fun z => absurd z (by omega)) (fun z => ⟨vp_in_nI (by omega) (by decide), ?_⟩)
    rw [nI_clamp (by omega), (hnd i (by omega)).1]
    exact ax_holds _ _ _ _ _ _ _ _ _ _ _ _ (hnd i (by omega)).2 hc
      (fun w => br_f ar_n0 (nm_r (nI_1 i) (ih (i + 1) (by omega) (lt_s hj w))))
      (fun w => br_t rfl (h0 (fun al => w (al i (by omega)))))
theorem ax_nh {post : Int32 → Prop} {n c : Nat} {pp : Nat → Nat} {wo : Int32} (hn : n ≤ 4) (hnd : ∀ i, i < 4 → nd i = nI (pp i) ∧ pp i < 1728) (hc : c < 6561)
    (h1 : nh_ (eb_ hd wo) n pp c → post 1) (h0 : ¬ nh_ (eb_ hd wo) n pp c → post 0) : wpX_neededHold post (pc, nI n, ep, cc, nv, ev, hd, nd, kd, fd, sd, ps) (nI c) wo :=
  Exists.intro (n + 1) (ax_nhl _ _ _ _ _ _ _ _ _ _ _ hn hnd hc h1 h0 n 0 (by omega) lt_0)
theorem ax_kept {post : Int32 → Prop} {k x y : Nat} (hk : k < 3) (hx : x < 9) (hy : y < 9) (h1 : kp_ k x y → post 1) (h0 : ¬ kp_ k x y → post 0) : wpX_isKept post (nI k) (nI x) (nI y) :=
  pk_eq x 8 (fun z => h0 (fun w => w.1 z)) (fun zx => pk_eq y 8 (fun z => h0 (fun w => w.2.1 z)) (fun zy =>
    pk_eq k 0
      (fun k0 => pk_eq x y (fun e => h1 ⟨zx, zy, fun _ => e, fun z => absurd z (by omega), fun z => absurd k0 z⟩) (fun e => h0 (fun w => e (w.2.2.1 k0))))
      (fun k0 => pk_eq k 1
        (fun k1 => pk_eq x y (fun e => h0 (fun w => w.2.2.2.1 k1 e)) (fun e => h1 ⟨zx, zy, fun z => absurd z k0, fun _ => e, fun _ z => absurd k1 z⟩))
        (fun k1 => pk_le y x (fun e => h0 (fun w => absurd (w.2.2.2.2 k0 k1) (by omega))) (fun e => h1 ⟨zx, zy, fun z => absurd z k0, fun z => absurd z k1, fun _ _ => e⟩)))))
theorem ax_ckl {post : Int32 → Prop} {m c : Nat} {kk ff ss : Nat → Nat} (hm : m ≤ 3) (hk : ∀ i, i < 3 → kd i = nI (kk i) ∧ kk i < 3) (hf : ∀ i, i < 3 → fd i = nI (ff i) ∧ ff i < 12) (hs : ∀ i, i < 3 → sd i = nI (ss i) ∧ ss i < 12) (hc : c < 6561)
    (h1 : ck_ m kk ff ss c → post 1) (h0 : ¬ ck_ m kk ff ss c → post 0) :
    ∀ d i, i + d = m → (∀ j, j < i → kp_ (kk j) (gv_ (ff j) c) (gv_ (ss j) c)) → wX_conditionsKept_2 post (nI c) pc nc ep (nI m) nv ev hd nd kd fd sd ps (d + 1) (nI i) := by
  intro d
  induction d with
  | zero => exact fun i hi hj => pk_le m i (fun _ => h1 (fun j hjn => hj j (by omega))) (fun z => absurd z (by omega))
  | succ d ih =>
    intro i hi hj
    have hin : vp_in (nI i) 3 := vp_in_nI (by omega) (by decide)
    refine pk_le m i (fun z => absurd z (by omega)) (fun z => ⟨hin, ?_⟩)
    rw [nI_clamp (by omega), (hf i (by omega)).1, (hs i (by omega)).1, (hk i (by omega)).1]
    refine ax_given (hf i (by omega)).2 hc ⟨hin, ax_given (hs i (by omega)).2 hc ⟨hin, ?_⟩⟩
    exact ax_kept (hk i (by omega)).2 (gv_lt hc) (gv_lt hc)
      (fun w => br_f ar_n0 (nm_r (nI_1 i) (ih (i + 1) (by omega) (lt_s hj w))))
      (fun w => br_t rfl (h0 (fun al => w (al i (by omega)))))
theorem ax_ck {post : Int32 → Prop} {m c : Nat} {kk ff ss : Nat → Nat} (hm : m ≤ 3) (hk : ∀ i, i < 3 → kd i = nI (kk i) ∧ kk i < 3) (hf : ∀ i, i < 3 → fd i = nI (ff i) ∧ ff i < 12) (hs : ∀ i, i < 3 → sd i = nI (ss i) ∧ ss i < 12) (hc : c < 6561)
    (h1 : ck_ m kk ff ss c → post 1) (h0 : ¬ ck_ m kk ff ss c → post 0) : wpX_conditionsKept post (pc, nc, ep, nI m, nv, ev, hd, nd, kd, fd, sd, ps) (nI c) :=
  Exists.intro (m + 1) (ax_ckl _ _ _ _ _ _ _ _ _ _ _ hm hk hf hs hc h1 h0 m 0 (by omega) lt_0)
theorem ax_afl {post : Int32 → Prop} {p c : Nat} {wo : Int32} (hp : p < 1728) (hc : c < 6561)
    (h1 : (∃ s, s < 256 ∧ eb_ hd wo s ∧ fx_ s p c) → post 1) (h0 : ¬ (∃ s, s < 256 ∧ eb_ hd wo s ∧ fx_ s p c) → post 0) :
    ∀ d i, i + d = 256 → (∀ j, j < i → ¬ (eb_ hd wo j ∧ fx_ j p c)) → wX_anyFits_3 post (nI p) (nI c) wo pc nc ep cc nv ev hd nd kd fd sd ps (d + 1) (nI i) := by
  intro d
  induction d with
  | zero => exact fun i hi hj => pk_le 256 i (fun _ => h0 (fun ⟨s, hs, w⟩ => hj s (by omega) w)) (fun z => absurd z (by omega))
  | succ d ih =>
    intro i hi hj
    refine pk_le 256 i (fun z => absurd z (by omega)) (fun z => ⟨vp_in_nI (by omega) (by decide), ?_⟩)
    rw [nI_clamp (by omega)]
    refine br_c (fun t => nm_r (nI_1 i) (ih (i + 1) (by omega) (lt_s hj (fun w => w.1.1 t)))) (fun t => ?_)
    refine br_c (fun q => nm_r (nI_1 i) (ih (i + 1) (by omega) (lt_s hj (fun w => w.1.2 q)))) (fun q => ?_)
    exact ax_fits (by omega) hp hc (fun w => br_f ar_n0 (h1 ⟨i, by omega, ⟨t, q⟩, w⟩)) (fun w => br_t rfl (nm_r (nI_1 i) (ih (i + 1) (by omega) (lt_s hj (fun x => w x.2)))))
theorem ax_af {post : Int32 → Prop} {p c : Nat} {wo : Int32} (hp : p < 1728) (hc : c < 6561)
    (h1 : (∃ s, s < 256 ∧ eb_ hd wo s ∧ fx_ s p c) → post 1) (h0 : ¬ (∃ s, s < 256 ∧ eb_ hd wo s ∧ fx_ s p c) → post 0) : wpX_anyFits post (pc, nc, ep, cc, nv, ev, hd, nd, kd, fd, sd, ps) (nI p) (nI c) wo :=
  Exists.intro 257 (ax_afl _ _ _ _ _ _ _ _ _ _ _ _ hp hc h1 h0 256 0 (by omega) lt_0)
def op_ (c v : Nat) : Bool := dg_ c v == 8
theorem ax_opl {post : Int32 → Prop} {c : Nat} (hc : c < 6561) (h : post (mb_I (op_ c))) :
    ∀ d i, i + d = 4 → wX_openVariables_4 post (nI c) (d + 1) (mb_I (fun w => decide (w < i) && op_ c w)) (nI i) := by
  intro d
  induction d with
  | zero =>
    refine fun i hi => pk_le 4 i (fun _ => ?_) (fun z => absurd z (by omega))
    refine ar_p (P := post) (mb_congr (fun v hv => ?_)) h
    rw [decide_eq_true (by omega), Bool.true_and]
  | succ d ih =>
    intro i hi
    refine pk_le 4 i (fun z => absurd z (by omega)) (fun z => ?_)
    rw [ar_8]
    refine ax_given (by omega) hc ?_
    rw [gv_v (by omega), Nat.add_sub_cancel_left]
    have g := dg_lt hc i
    refine pk_eq (dg_ c i) 8 (fun e => ?_) (fun e => ?_)
    · refine nm_r ?_ (nm_r (nI_1 i) (ih (i + 1) (by omega)))
      rw [mb_one i (by omega), mb_or]
      refine mb_congr (fun v hv => ?_)
      by_cases hvi : v = i
      · subst hvi; simp [op_, e]
      · have e1 : decide (v < i + 1) = decide (v < i) := by simp; omega
        simp [e1, hvi]
    · refine nm_r (nI_1 i) ?_
      have k := ih (i + 1) (by omega)
      refine ar_p (P := fun t => wX_openVariables_4 post (nI c) (d + 1) t (nI (i + 1))) ?_ k
      refine mb_congr (fun v hv => ?_)
      by_cases hvi : v = i
      · subst hvi; simp [op_, e]
      · have e1 : decide (v < i + 1) = decide (v < i) := by simp; omega
        simp [e1]
theorem ax_op {post : Int32 → Prop} {c : Nat} (hc : c < 6561) (h : post (mb_I (op_ c))) : wpX_openVariables post (nI c) :=
  Exists.intro 5 (ax_opl hc h 4 0 (by omega))
def sx_ (b : Nat → Prop) (n : Nat) (pp : Nat → Nat) (m : Nat) (kk ff ss : Nat → Nat) (nb ew : Nat → Bool) (e c : Nat) : Prop :=
  (mb_I (op_ c) = mb_I (fun v => !nb v) ∨ mb_I (op_ c) = mb_I (fun v => !nb v && !ew v)) ∧ nh_ b n pp c ∧ ck_ m kk ff ss c ∧
  (¬ mb_I (fun v => !nb v) = mb_I (fun v => !nb v && !ew v) → (mb_I (op_ c) = mb_I (fun v => !nb v && !ew v) → hl_ b e c) ∧ (¬ mb_I (op_ c) = mb_I (fun v => !nb v && !ew v) → ¬ ∃ s, s < 256 ∧ b s ∧ fx_ s e c))
theorem ax_s41 {post : Int32 → Prop} {wo : Int32} {n m e c : Nat} {pp kk ff ss : Nat → Nat} {nb ew : Nat → Bool} (hn : n ≤ 4) (hnd : ∀ i, i < 4 → nd i = nI (pp i) ∧ pp i < 1728)
    (hm : m ≤ 3) (hk : ∀ i, i < 3 → kd i = nI (kk i) ∧ kk i < 3) (hf : ∀ i, i < 3 → fd i = nI (ff i) ∧ ff i < 12) (hs : ∀ i, i < 3 → sd i = nI (ss i) ∧ ss i < 12) (hc : c < 6561)
    (hep : ¬ mb_I (fun v => !nb v) = mb_I (fun v => !nb v && !ew v) → ep = nI e ∧ e < 1728)
    (ho : mb_I (op_ c) = mb_I (fun v => !nb v) ∨ mb_I (op_ c) = mb_I (fun v => !nb v && !ew v))
    (h1 : sx_ (eb_ hd wo) n pp m kk ff ss nb ew e c → post 1) (h0 : ¬ sx_ (eb_ hd wo) n pp m kk ff ss nb ew e c → post 0) :
    wX_solves_41 post (nI c) wo (mb_I (op_ c)) (mb_I (fun v => !nb v)) (mb_I (fun v => !nb v && !ew v)) pc (nI n) ep (nI m) nv ev hd nd kd fd sd ps :=
  ax_nh _ _ _ _ _ _ _ _ _ _ _ hn hnd hc
    (fun w1 => br_f ar_n0 (ax_ck _ _ _ _ _ _ _ _ _ _ _ hm hk hf hs hc
      (fun w2 => br_f ar_n0 (br_c (fun q => h1 ⟨ho, w1, w2, fun z => absurd q z⟩)
        (fun q => br_c
          (fun t => by
            obtain ⟨rfl, he⟩ := hep q
            exact ax_holds _ _ _ _ _ _ _ _ _ _ _ _ he hc (fun w => ⟨rfl, h1 ⟨ho, w1, w2, fun _ => ⟨fun _ => w, fun z => absurd t z⟩⟩⟩) (fun w => ⟨rfl, h0 (fun x => w ((x.2.2.2 q).1 t))⟩))
          (fun t => by
            obtain ⟨rfl, he⟩ := hep q
            exact ax_af _ _ _ _ _ _ _ _ _ _ _ _ he hc (fun w => br_f ar_n0 (h0 (fun x => (x.2.2.2 q).2 t w))) (fun w => br_t rfl (h1 ⟨ho, w1, w2, fun _ => ⟨fun z => absurd z t, fun _ => w⟩⟩))))))
      (fun w2 => br_t rfl (h0 (fun x => w2 x.2.2.1)))))
    (fun w1 => br_t rfl (h0 (fun x => w1 x.2.1)))
theorem ax_solves {post : Int32 → Prop} {wo : Int32} {n m e c : Nat} {pp kk ff ss : Nat → Nat} {nb ew : Nat → Bool} (hn : n ≤ 4) (hnd : ∀ i, i < 4 → nd i = nI (pp i) ∧ pp i < 1728)
    (hm : m ≤ 3) (hk : ∀ i, i < 3 → kd i = nI (kk i) ∧ kk i < 3) (hf : ∀ i, i < 3 → fd i = nI (ff i) ∧ ff i < 12) (hs : ∀ i, i < 3 → sd i = nI (ss i) ∧ ss i < 12) (hc : c < 6561)
    (hep : ¬ mb_I (fun v => !nb v) = mb_I (fun v => !nb v && !ew v) → ep = nI e ∧ e < 1728)
    (h1 : sx_ (eb_ hd wo) n pp m kk ff ss nb ew e c → post 1) (h0 : ¬ sx_ (eb_ hd wo) n pp m kk ff ss nb ew e c → post 0) :
    wpX_solves post (pc, nI n, ep, nI m, mb_I nb, mb_I ew, hd, nd, kd, fd, sd, ps) (nI c) wo := by
  refine ax_op hc (nm_r (mb_not nb) (nm_r (mb_sub _ ew) ?_))
  exact br_c (fun q => ax_s41 _ _ _ _ _ _ _ _ _ _ hn hnd hm hk hf hs hc hep (Or.inl q) h1 h0)
    (fun q => br_c (fun t => ax_s41 _ _ _ _ _ _ _ _ _ _ hn hnd hm hk hf hs hc hep (Or.inr t) h1 h0) (fun t => h0 (fun x => x.1.elim q t)))
end
end
section
section
variable (pc nc ep cc bs mo : Int32) (hd nd kd fd sd gn sl : Nat → Int32)
theorem ar_if {c d A B : Prop} (e : c ↔ d) (f : d → A) (g : ¬ d → B) : (c → A) ∧ (¬ c → B) := ⟨fun h => f (e.mp h), fun h => g (fun x => h (e.mpr x))⟩
theorem ay_entry {post : Int32 → Prop} {p : Nat} (k : Nat) (hk : k < 3) (hp : p < 1728) (h : post (nI (en_ p k))) : wpY_entry post (pc, nc, ep, cc, bs, mo, hd, nd, kd, fd, sd, gn, sl) (nI p) (nI k) :=
  pk_eq k 0 (fun z => by subst z; exact ⟨by decide, ar_p (P := post) (ar_div 144) h⟩)
    (fun z0 => pk_eq k 1 (fun z => by subst z; exact ⟨by decide, by decide, ar_p (P := post) (ar_dr 12 12) h⟩)
      (fun z1 => by
        have e : k = 2 := by omega
        subst e; exact ⟨by decide, ar_p (P := post) (ar_rem 12) h⟩))
theorem ay_part {post : Int32 → Prop} {s : Nat} (k : Nat) (hk : k < 3) (hs : s < 256) (h : post (nI (pt_ s k))) : wpY_part post (pc, nc, ep, cc, bs, mo, hd, nd, kd, fd, sd, gn, sl) (nI s) (nI k) :=
  pk_eq k 0 (fun z => by subst z; exact ⟨by decide, ar_p (P := post) (ar_div 32) h⟩)
    (fun z0 => pk_eq k 1 (fun z => by subst z; exact ⟨by decide, by decide, ar_p (P := post) (ar_dr 8 4) h⟩)
      (fun z1 => by
        have e : k = 2 := by omega
        subst e; exact ⟨by decide, ar_p (P := post) (ar_rem 8) h⟩))
theorem ay_digit {post : Int32 → Prop} {c : Nat} (v : Nat) (hv : v < 4) (hc : c < 6561) (h : post (nI (dg_ c v))) : wpY_digit post (pc, nc, ep, cc, bs, mo, hd, nd, kd, fd, sd, gn, sl) (nI c) (nI v) :=
  pk_eq v 0 (fun z => by subst z; exact ⟨by decide, ar_p (P := post) (ar_div 729) h⟩)
    (fun z0 => pk_eq v 1 (fun z => by subst z; exact ⟨by decide, by decide, ar_p (P := post) (ar_dr 81 9) h⟩)
      (fun z1 => pk_eq v 2 (fun z => by subst z; exact ⟨by decide, by decide, ar_p (P := post) (ar_dr 9 9) h⟩)
        (fun z2 => by
          have e : v = 3 := by omega
          subst e; exact ⟨by decide, ar_p (P := post) (ar_rem 9) h⟩)))
theorem ay_f38 {post J2 : Int32 → Prop} {s p i e : Nat} (hs : s < 256) (hp : p < 1728) (hi : i < 3) (he : e < 12)
    (hJ : (∀ j, j < i → 7 < e → en_ p j = e → pt_ s j = pt_ s i) → J2 (nI (i + 1))) (h0 : ¬ (∀ j, j < i → 7 < e → en_ p j = e → pt_ s j = pt_ s i) → post 0) :
    ∀ d j, j + d = i → (∀ t, t < j → 7 < e → en_ p t = e → pt_ s t = pt_ s i) → wY_fits_38 post J2 (nI s) (nI p) (nI i) (nI e) pc nc ep cc bs mo hd nd kd fd sd gn sl (d + 1) (nI j) := by
  intro d
  induction d with
  | zero => exact fun j hj hq => pk_le i j (fun _ => nm_r (nI_1 i) (hJ (fun t ht => hq t (by omega)))) (fun z => absurd z (by omega))
  | succ d ih =>
    intro j hj hq
    have e1 := en_lt hp j
    have p1 := pt_lt hs j
    have p2 := pt_lt hs i
    refine pk_le i j (fun z => absurd z (by omega)) (fun z => pk_le e 7 (fun z7 => nm_r (nI_1 j) (ih (j + 1) (by omega) (lt_s hq (fun w => absurd w (by omega))))) (fun z7 => ?_))
    refine ay_entry _ _ _ _ _ _ _ _ _ _ _ _ _ j (by omega) hp ?_
    refine pk_eq (en_ p j) e (fun q => ?_) (fun q => nm_r (nI_1 j) (ih (j + 1) (by omega) (lt_s hq (fun _ w => absurd w q))))
    refine ay_part _ _ _ _ _ _ _ _ _ _ _ _ _ j (by omega) hs (ay_part _ _ _ _ _ _ _ _ _ _ _ _ _ i (by omega) hs ?_)
    exact pk_eq (pt_ s j) (pt_ s i) (fun t => nm_r (nI_1 j) (ih (j + 1) (by omega) (lt_s hq (fun _ _ => t)))) (fun t => h0 (fun w => t (w j (by omega) z7 q)))
theorem ay_fl {post : Int32 → Prop} {s p : Nat} (hs : s < 256) (hp : p < 1728) (h1 : fy_ s p → post 1) (h0 : ¬ fy_ s p → post 0) :
    ∀ d i, i + d = 3 → (∀ t, t < i → (en_ p t < 8 → en_ p t = pt_ s t) ∧ ∀ j, j < t → 7 < en_ p t → en_ p j = en_ p t → pt_ s j = pt_ s t) → wY_fits_2 post (nI s) (nI p) pc nc ep cc bs mo hd nd kd fd sd gn sl (d + 1) (nI i) := by
  intro d
  induction d with
  | zero => exact fun i hi hq => pk_le 3 i (fun _ => h1 (fun t ht => hq t (by omega))) (fun z => absurd z (by omega))
  | succ d ih =>
    intro i hi hq
    have e1 := en_lt hp i
    have p1 := pt_lt hs i
    refine pk_le 3 i (fun z => absurd z (by omega)) (fun z => ?_)
    refine ay_entry _ _ _ _ _ _ _ _ _ _ _ _ _ i (by omega) hp ?_
    refine pk_le 8 (en_ p i) (fun z8 => ?_) (fun z8 => ?_)
    · exact ⟨i + 1, ay_f38 _ _ _ _ _ _ _ _ _ _ _ _ _ hs hp (by omega) e1 (fun w => ih (i + 1) (by omega) (lt_s hq ⟨fun y => absurd y (by omega), w⟩)) (fun w => h0 (fun x => w (x i (by omega)).2)) i 0 (by omega) lt_0⟩
    · refine ay_part _ _ _ _ _ _ _ _ _ _ _ _ _ i (by omega) hs ?_
      refine pk_eq (en_ p i) (pt_ s i) (fun t => ?_) (fun t => h0 (fun x => t ((x i (by omega)).1 z8)))
      exact ⟨i + 1, ay_f38 _ _ _ _ _ _ _ _ _ _ _ _ _ hs hp (by omega) e1 (fun w => ih (i + 1) (by omega) (lt_s hq ⟨fun _ => t, w⟩)) (fun w => h0 (fun x => w (x i (by omega)).2)) i 0 (by omega) lt_0⟩
theorem ay_fits {post : Int32 → Prop} {s p : Nat} (hs : s < 256) (hp : p < 1728) (h1 : fy_ s p → post 1) (h0 : ¬ fy_ s p → post 0) : wpY_fits post (pc, nc, ep, cc, bs, mo, hd, nd, kd, fd, sd, gn, sl) (nI s) (nI p) :=
  Exists.intro 4 (ay_fl _ _ _ _ _ _ _ _ _ _ _ _ _ hs hp h1 h0 3 0 (by omega) lt_0)
theorem ay_vst {post : Int32 → Prop} {p : Nat} (hp : p < 1728) (n i : Nat) (f : Nat → Bool) (hi : i < 3)
    (k : wY_variables_4 post (nI p) pc nc ep cc bs mo hd nd kd fd sd gn sl n (mb_I (fun v => f v || en_ p i == 8 + v)) (nI (i + 1))) : wY_variables_4 post (nI p) pc nc ep cc bs mo hd nd kd fd sd gn sl (n + 1) (mb_I f) (nI i) := by
  have e1 := en_lt hp i
  refine pk_le 3 i (fun z => absurd z (by omega)) (fun z => ?_)
  refine ay_entry _ _ _ _ _ _ _ _ _ _ _ _ _ i (by omega) hp ?_
  refine pk_le (en_ p i) 7 (fun z7 => nm_r (nI_1 i) ?_) (fun z7 => nm_r ?_ (nm_r (nI_1 i) k))
  · refine ar_p (P := fun t => wY_variables_4 post (nI p) pc nc ep cc bs mo hd nd kd fd sd gn sl n t (nI (i + 1))) (mb_congr (fun v hv => ?_)) k
    have : (en_ p i == 8 + v) = false := by rw [beq_eq_false_iff_ne]; omega
    rw [this, Bool.or_false]
  · rw [ar_x8 (by omega), mb_one _ (by omega), mb_or]
    refine mb_congr (fun v hv => ?_)
    have : (v == en_ p i - 8) = (en_ p i == 8 + v) := by
      rw [Bool.eq_iff_iff, beq_iff_eq, beq_iff_eq]; omega
    rw [this]
theorem ay_vars {post : Int32 → Prop} {p : Nat} (hp : p < 1728) (h : post (mb_I (vq_ p))) : wpY_variables post (pc, nc, ep, cc, bs, mo, hd, nd, kd, fd, sd, gn, sl) (nI p) := by
  refine Exists.intro 4 (ar_p (P := fun t => wY_variables_4 post (nI p) pc nc ep cc bs mo hd nd kd fd sd gn sl 4 t (nI 0)) mb_0.symm ?_)
  refine ay_vst _ _ _ _ _ _ _ _ _ _ _ _ _ hp 3 0 _ (by decide) (ay_vst _ _ _ _ _ _ _ _ _ _ _ _ _ hp 2 1 _ (by decide) (ay_vst _ _ _ _ _ _ _ _ _ _ _ _ _ hp 1 2 _ (by decide) ?_))
  refine pk_le 3 3 (fun _ => ar_p (P := post) (mb_congr (fun v hv => ?_)) h) (fun z => absurd z (by decide))
  simp [vq_]
theorem ay_value {post : Int32 → Prop} {e c : Nat} (he : e < 12) (hg : ∀ v, v < 4 → gn v = nI (dg_ c v)) (h : post (nI (gv_ e c))) : wpY_value post (pc, nc, ep, cc, bs, mo, hd, nd, kd, fd, sd, gn, sl) (nI e) := by
  refine pk_le 8 e (fun z => ?_) (fun z => by rw [gv_e z] at h; exact h)
  rw [gv_v z] at h
  rw [ar_x8 z, nI_clamp (by omega), hg _ (by omega)]
  exact ⟨vp_in_nI (by omega) (by decide), h⟩
def hb_ (hd : Nat → Int32) (s : Nat) : Prop := ¬ hd s = 0
theorem ay_holds {post : Int32 → Prop} {p c : Nat} (hp : p < 1728) (hc : c < 6561) (hg : ∀ v, v < 4 → gn v = nI (dg_ c v)) (h1 : hl_ (hb_ hd) p c → post 1) (h0 : ¬ hl_ (hb_ hd) p c → post 0) : wpY_holds post (pc, nc, ep, cc, bs, mo, hd, nd, kd, fd, sd, gn, sl) (nI p) := by
  unfold wpY_holds
  dsimp only
  refine ay_entry _ _ _ _ _ _ _ _ _ _ _ _ _ 0 (by decide) hp (ay_entry _ _ _ _ _ _ _ _ _ _ _ _ _ 1 (by decide) hp (ay_entry _ _ _ _ _ _ _ _ _ _ _ _ _ 2 (by decide) hp ?_))
  refine ay_value _ _ _ _ _ _ _ _ _ _ _ _ _ (en_lt hp 0) hg (ay_value _ _ _ _ _ _ _ _ _ _ _ _ _ (en_lt hp 1) hg (ay_value _ _ _ _ _ _ _ _ _ _ _ _ _ (en_lt hp 2) hg ?_))
  unfold hl_ at h1 h0
  have g0 : gv_ (en_ p 0) c < 9 := gv_lt hc
  have g1 : gv_ (en_ p 1) c < 9 := gv_lt hc
  have g2 : gv_ (en_ p 2) c < 9 := gv_lt hc
  generalize gv_ (en_ p 0) c = a at *
  generalize gv_ (en_ p 1) c = b at *
  generalize gv_ (en_ p 2) c = d at *
  have e : (32 : Int32) * nI a + 8 * nI b + nI d = nI (32 * a + 8 * b + d) := by
    rw [← nI_add, ← nI_add, ← pk_mul, ← pk_mul]; rfl
  rw [e]
  refine pk_le 8 a (fun z => h0 (fun w => absurd w.1 (by omega))) (fun z0 => pk_le 4 b (fun z => h0 (fun w => absurd w.2.1 (by omega))) (fun z1 => pk_le 8 d (fun z => h0 (fun w => absurd w.2.2.1 (by omega))) (fun z2 => ⟨vp_in_nI (by omega) (by decide), ?_⟩)))
  rw [nI_clamp (by omega)]
  exact br_c (fun t => h0 (fun w => w.2.2.2 t)) (fun t => h1 ⟨by omega, by omega, by omega, t⟩)
theorem ay_k84 {post J2 : Int32 → Prop} {i x y : Nat} {kk : Nat → Nat} (hi : i < 3) (hk : ∀ i, i < 3 → kd i = nI (kk i) ∧ kk i < 3) (hx : x < 9) (hy : y < 9)
    (hJ : kp_ (kk i) x y → J2 (nI (i + 1))) (h0 : ¬ kp_ (kk i) x y → post 0) : wY_keeps_84 post J2 (nI i) (nI x) (nI y) pc nc ep cc bs mo hd nd kd fd sd gn sl := by
  have hin : vp_in (nI i) 3 := vp_in_nI hi (by decide)
  have k3 := (hk i hi).2
  refine pk_lt 7 x (fun z => h0 (fun w => w.1 (by omega))) (fun zx => pk_le y 7 (fun zy => ⟨hin, ?_⟩) (fun z => h0 (fun w => w.2.1 (by omega))))
  rw [nI_clamp (by omega), (hk i hi).1]
  exact pk_eq (kk i) 0
    (fun k0 => pk_eq x y (fun e => nm_r (nI_1 i) (hJ ⟨by omega, by omega, fun _ => e, fun z => absurd z (by omega), fun z => absurd k0 z⟩)) (fun e => h0 (fun w => e (w.2.2.1 k0))))
    (fun k0 => ⟨hin, pk_eq (kk i) 1
      (fun k1 => pk_eq x y (fun e => h0 (fun w => w.2.2.2.1 k1 e)) (fun e => nm_r (nI_1 i) (hJ ⟨by omega, by omega, fun z => absurd z k0, fun _ => e, fun _ z => absurd k1 z⟩)))
      (fun k1 => pk_lt x y (fun e => nm_r (nI_1 i) (hJ ⟨by omega, by omega, fun z => absurd z k0, fun z => absurd z k1, fun _ _ => e⟩)) (fun e => h0 (fun w => absurd (w.2.2.2.2 k0 k1) (by omega))))⟩)
theorem ay_k49 {post J2 : Int32 → Prop} {i x c : Nat} {kk ss : Nat → Nat} (hi : i < 3) (hk : ∀ i, i < 3 → kd i = nI (kk i) ∧ kk i < 3) (hs : ∀ i, i < 3 → sd i = nI (ss i) ∧ ss i < 12) (hc : c < 6561) (hg : ∀ v, v < 4 → gn v = nI (dg_ c v)) (hx : x < 9)
    (hJ : kp_ (kk i) x (gv_ (ss i) c) → J2 (nI (i + 1))) (h0 : ¬ kp_ (kk i) x (gv_ (ss i) c) → post 0) : wY_keeps_49 post J2 (nI i) (nI x) pc nc ep cc bs mo hd nd kd fd sd gn sl := by
  have hin : vp_in (nI i) 3 := vp_in_nI hi (by decide)
  have s3 := (hs i hi).2
  refine And.intro hin ?_
  rw [nI_clamp (by omega), (hs i hi).1]
  refine pk_le 8 (ss i) (fun z => ⟨hin, ?_⟩) (fun z => ⟨hin, ?_⟩)
  · rw [gv_v z] at hJ h0
    rw [ar_x8 z, nI_clamp (by omega), hg _ (by omega)]
    exact ⟨vp_in_nI (by omega) (by decide), ay_k84 _ _ _ _ _ _ _ _ _ _ _ _ _ hi hk hx (dg_lt hc _) hJ h0⟩
  · rw [gv_e z] at hJ h0
    exact ay_k84 _ _ _ _ _ _ _ _ _ _ _ _ _ hi hk hx (by omega) hJ h0
theorem ay_kl {post : Int32 → Prop} {m c : Nat} {kk ff ss : Nat → Nat} (hm : m ≤ 3) (hk : ∀ i, i < 3 → kd i = nI (kk i) ∧ kk i < 3) (hf : ∀ i, i < 3 → fd i = nI (ff i) ∧ ff i < 12) (hs : ∀ i, i < 3 → sd i = nI (ss i) ∧ ss i < 12) (hc : c < 6561) (hg : ∀ v, v < 4 → gn v = nI (dg_ c v))
    (h1 : ck_ m kk ff ss c → post 1) (h0 : ¬ ck_ m kk ff ss c → post 0) :
    ∀ d i, i + d = m → (∀ j, j < i → kp_ (kk j) (gv_ (ff j) c) (gv_ (ss j) c)) → wY_keeps_2 post pc nc ep (nI m) bs mo hd nd kd fd sd gn sl (d + 1) (nI i) := by
  intro d
  induction d with
  | zero => exact fun i hi hj => pk_le m i (fun _ => h1 (fun j hjn => hj j (by omega))) (fun z => absurd z (by omega))
  | succ d ih =>
    intro i hi hj
    have hin : vp_in (nI i) 3 := vp_in_nI (by omega) (by decide)
    have s3 := (hf i (by omega)).2
    refine pk_le m i (fun z => absurd z (by omega)) (fun z => pk_le 3 i (fun z => absurd z (by omega)) (fun z => ⟨hin, ?_⟩))
    have hJ : kp_ (kk i) (gv_ (ff i) c) (gv_ (ss i) c) → wY_keeps_2 post pc nc ep (nI m) bs mo hd nd kd fd sd gn sl (d + 1) (nI (i + 1)) := fun w => ih (i + 1) (by omega) (lt_s hj w)
    have h0' : ¬ kp_ (kk i) (gv_ (ff i) c) (gv_ (ss i) c) → post 0 := fun w => h0 (fun al => w (al i (by omega)))
    rw [nI_clamp (by omega), (hf i (by omega)).1]
    refine pk_le 8 (ff i) (fun z => ⟨hin, ?_⟩) (fun z => ⟨hin, ?_⟩)
    · rw [gv_v z] at hJ h0'
      rw [ar_x8 z, nI_clamp (by omega), hg _ (by omega)]
      exact ⟨vp_in_nI (by omega) (by decide), ay_k49 _ _ _ _ _ _ _ _ _ _ _ _ _ (by omega) hk hs hc hg (dg_lt hc _) hJ h0'⟩
    · rw [gv_e z] at hJ h0'
      exact ay_k49 _ _ _ _ _ _ _ _ _ _ _ _ _ (by omega) hk hs hc hg (by omega) hJ h0'
theorem ay_keeps {post : Int32 → Prop} {m c : Nat} {kk ff ss : Nat → Nat} (hm : m ≤ 3) (hk : ∀ i, i < 3 → kd i = nI (kk i) ∧ kk i < 3) (hf : ∀ i, i < 3 → fd i = nI (ff i) ∧ ff i < 12) (hs : ∀ i, i < 3 → sd i = nI (ss i) ∧ ss i < 12) (hc : c < 6561) (hg : ∀ v, v < 4 → gn v = nI (dg_ c v))
    (h1 : ck_ m kk ff ss c → post 1) (h0 : ¬ ck_ m kk ff ss c → post 0) : wpY_keeps post (pc, nc, ep, nI m, bs, mo, hd, nd, kd, fd, sd, gn, sl) :=
  Exists.intro (m + 1) (ay_kl _ _ _ _ _ _ _ _ _ _ _ _ hm hk hf hs hc hg h1 h0 m 0 (by omega) lt_0)
theorem ay_agl {post : Int32 → Prop} {s e c : Nat} {B : Nat → Bool} (hs : s < 256) (he : e < 1728) (hc : c < 6561) (hg : ∀ v, v < 4 → gn v = nI (dg_ c v))
    (h1 : ag_ s e B c → post 1) (h0 : ¬ ag_ s e B c → post 0) :
    ∀ d i, i + d = 3 → (∀ k, k < i → 7 < en_ e k → B (en_ e k - 8) = true → dg_ c (en_ e k - 8) = pt_ s k) → wY_agrees_2 post (nI s) pc nc (nI e) cc (mb_I B) mo hd nd kd fd sd gn sl (d + 1) (nI i) := by
  intro d
  induction d with
  | zero => exact fun i hi hj => pk_le 3 i (fun _ => h1 (fun j hjn => hj j (by omega))) (fun z => absurd z (by omega))
  | succ d ih =>
    intro i hi hj
    have e1 := en_lt he i
    have p1 := pt_lt hs i
    refine pk_le 3 i (fun z => absurd z (by omega)) (fun z => ?_)
    refine ay_entry _ _ _ _ _ _ _ _ _ _ _ _ _ i (by omega) he ?_
    refine pk_le (en_ e i) 7 (fun z7 => nm_r (nI_1 i) (ih (i + 1) (by omega) (lt_s hj (fun w => absurd w (by omega))))) (fun z7 => ?_)
    have d1 := dg_lt hc (en_ e i - 8)
    rw [ar_x8 (by omega), nI_clamp (by omega), hg _ (by omega)]
    refine ar_if (mb_bit B (by omega)) (fun q => ⟨vp_in_nI (by omega) (by decide), ?_⟩) (fun q => nm_r (nI_1 i) (ih (i + 1) (by omega) (lt_s hj (fun _ w => absurd w q))))
    refine ay_part _ _ _ _ _ _ _ _ _ _ _ _ _ i (by omega) hs ?_
    exact pk_eq (dg_ c (en_ e i - 8)) (pt_ s i) (fun t => nm_r (nI_1 i) (ih (i + 1) (by omega) (lt_s hj (fun _ _ => t)))) (fun t => h0 (fun w => t (w i (by omega) z7 q)))
theorem ay_agrees {post : Int32 → Prop} {s e c : Nat} {B : Nat → Bool} (hs : s < 256) (he : e < 1728) (hc : c < 6561) (hg : ∀ v, v < 4 → gn v = nI (dg_ c v))
    (h1 : ag_ s e B c → post 1) (h0 : ¬ ag_ s e B c → post 0) : wpY_agrees post (pc, nc, nI e, cc, mb_I B, mo, hd, nd, kd, fd, sd, gn, sl) (nI s) :=
  Exists.intro 4 (ay_agl _ _ _ _ _ _ _ _ _ _ _ hs he hc hg h1 h0 3 0 (by omega) lt_0)
def ex_ (b : Nat → Prop) (B : Nat → Bool) (e c : Nat) : Prop := ∃ s, s < 256 ∧ b s ∧ fy_ s e ∧ ag_ s e B c
theorem ay_exl {post : Int32 → Prop} {e c : Nat} {B : Nat → Bool} (he : e < 1728) (hc : c < 6561) (hg : ∀ v, v < 4 → gn v = nI (dg_ c v))
    (h1 : ex_ (hb_ hd) B e c → post 1) (h0 : ¬ ex_ (hb_ hd) B e c → post 0) :
    ∀ d i, i + d = 256 → (∀ j, j < i → ¬ (hb_ hd j ∧ fy_ j e ∧ ag_ j e B c)) → wY_extensible_2 post pc nc (nI e) cc (mb_I B) mo hd nd kd fd sd gn sl (d + 1) (nI i) := by
  intro d
  induction d with
  | zero => exact fun i hi hj => pk_le 256 i (fun _ => h0 (fun ⟨s, hs, w⟩ => hj s (by omega) w)) (fun z => absurd z (by omega))
  | succ d ih =>
    intro i hi hj
    refine pk_le 256 i (fun z => absurd z (by omega)) (fun z => ⟨vp_in_nI (by omega) (by decide), ?_⟩)
    rw [nI_clamp (by omega)]
    refine br_c (fun t => nm_r (nI_1 i) (ih (i + 1) (by omega) (lt_s hj (fun w => w.1 t)))) (fun t => ?_)
    refine ay_fits _ _ _ _ _ _ _ _ _ _ _ _ _ (by omega) he (fun w => br_f ar_n0 ?_) (fun w => br_t rfl (nm_r (nI_1 i) (ih (i + 1) (by omega) (lt_s hj (fun x => w x.2.1)))))
    exact ay_agrees _ _ _ _ _ _ _ _ _ _ _ (by omega) he hc hg (fun w2 => br_f ar_n0 (h1 ⟨i, by omega, t, w, w2⟩)) (fun w2 => br_t rfl (nm_r (nI_1 i) (ih (i + 1) (by omega) (lt_s hj (fun x => w2 x.2.2)))))
theorem ay_ext {post : Int32 → Prop} {e c : Nat} {B : Nat → Bool} (he : e < 1728) (hc : c < 6561) (hg : ∀ v, v < 4 → gn v = nI (dg_ c v))
    (h1 : ex_ (hb_ hd) B e c → post 1) (h0 : ¬ ex_ (hb_ hd) B e c → post 0) : wpY_extensible post (pc, nc, nI e, cc, mb_I B, mo, hd, nd, kd, fd, sd, gn, sl) :=
  Exists.intro 257 (ay_exl _ _ _ _ _ _ _ _ _ _ _ he hc hg h1 h0 256 0 (by omega) lt_0)
def my_ (B M : Nat → Bool) (v d : Nat) : Prop := (B v = true → d < 8) ∧ (¬ B v = true → M v = true ∨ d = 8)
theorem ay_may {post : Int32 → Prop} {B M : Nat → Bool} {d : Nat} (v : Nat) (hv : v < 4) (hd9 : d < 9) (h1 : my_ B M v d → post 1) (h0 : ¬ my_ B M v d → post 0) : wpY_may post (pc, nc, ep, cc, mb_I B, mb_I M, hd, nd, kd, fd, sd, gn, sl) (nI v) (nI d) :=
  ar_if (mb_bit B hv)
    (fun q => pk_le 8 d (fun z => h0 (fun w => absurd (w.1 q) (by omega))) (fun z => h1 ⟨fun _ => z, fun n => absurd q n⟩))
    (fun q => ar_if (mb_bit M hv) (fun t => h1 ⟨fun n => absurd n q, fun _ => Or.inl t⟩)
      (fun t => pk_eq d 8 (fun z => h1 ⟨fun n => absurd n q, fun _ => Or.inr z⟩) (fun z => h0 (fun w => (w.2 q).elim t z))))
end
end
section
section
variable (pc nc ep cc bs mo : Int32) (hd nd kd fd sd gn sl : Nat → Int32)
def om_ (M : Nat → Bool) (c v : Nat) : Bool := M v && op_ c v
def tl_ (b : Nat → Prop) (B M : Nat → Bool) (e c : Nat) : Prop := ¬ mb_I M = 0 → (mb_I (om_ M c) = 0 ∨ mb_I (om_ M c) = mb_I M) ∧ (mb_I (om_ M c) = 0 → hl_ b e c) ∧ (mb_I (om_ M c) = mb_I M → ¬ ex_ b B e c)
def so_ (b : Nat → Prop) (n : Nat) (pp : Nat → Nat) (m : Nat) (kk ff ss : Nat → Nat) (B M : Nat → Bool) (e c : Nat) : Prop := nh_ b n pp c ∧ tl_ b B M e c ∧ ck_ m kk ff ss c
theorem ay_s135 {post : Int32 → Prop} {m c : Nat} {kk ff ss : Nat → Nat} (hm : m ≤ 3) (hk : ∀ i, i < 3 → kd i = nI (kk i) ∧ kk i < 3) (hf : ∀ i, i < 3 → fd i = nI (ff i) ∧ ff i < 12) (hs : ∀ i, i < 3 → sd i = nI (ss i) ∧ ss i < 12) (hc : c < 6561) (hg : ∀ v, v < 4 → gn v = nI (dg_ c v))
    (h1 : ck_ m kk ff ss c → post 1) (h0 : ¬ ck_ m kk ff ss c → post 0) : wY_solution_135 post pc nc ep (nI m) bs mo hd nd kd fd sd gn sl :=
  ay_keeps _ _ _ _ _ _ _ _ _ _ _ _ hm hk hf hs hc hg (fun w => ⟨rfl, h1 w⟩) (fun w => ⟨rfl, h0 w⟩)
theorem ay_s118 {post : Int32 → Prop} {m c e : Nat} {kk ff ss : Nat → Nat} {B M : Nat → Bool} (hm : m ≤ 3) (hk : ∀ i, i < 3 → kd i = nI (kk i) ∧ kk i < 3) (hf : ∀ i, i < 3 → fd i = nI (ff i) ∧ ff i < 12) (hs : ∀ i, i < 3 → sd i = nI (ss i) ∧ ss i < 12) (hc : c < 6561) (hg : ∀ v, v < 4 → gn v = nI (dg_ c v)) (he : e < 1728)
    (h1 : (mb_I (om_ M c) = mb_I M → ¬ ex_ (hb_ hd) B e c) ∧ ck_ m kk ff ss c → post 1) (h0 : ¬ ((mb_I (om_ M c) = mb_I M → ¬ ex_ (hb_ hd) B e c) ∧ ck_ m kk ff ss c) → post 0) : wY_solution_118 post (mb_I (om_ M c)) pc nc (nI e) (nI m) (mb_I B) (mb_I M) hd nd kd fd sd gn sl :=
  br_c (fun q => ay_ext _ _ _ _ _ _ _ _ _ _ _ he hc hg (fun w => br_f ar_n0 (h0 (fun x => x.1 q w)))
      (fun w => br_t rfl (ay_s135 _ _ _ _ _ _ _ _ _ _ _ _ hm hk hf hs hc hg (fun k => h1 ⟨fun _ => w, k⟩) (fun k => h0 (fun x => k x.2)))))
    (fun q => ay_s135 _ _ _ _ _ _ _ _ _ _ _ _ hm hk hf hs hc hg (fun k => h1 ⟨fun z => absurd z q, k⟩) (fun k => h0 (fun x => k x.2)))
theorem ay_s101 {post : Int32 → Prop} {m c e : Nat} {kk ff ss : Nat → Nat} {B M : Nat → Bool} (hm : m ≤ 3) (hk : ∀ i, i < 3 → kd i = nI (kk i) ∧ kk i < 3) (hf : ∀ i, i < 3 → fd i = nI (ff i) ∧ ff i < 12) (hs : ∀ i, i < 3 → sd i = nI (ss i) ∧ ss i < 12) (hc : c < 6561) (hg : ∀ v, v < 4 → gn v = nI (dg_ c v)) (he : e < 1728)
    (h1 : (mb_I (om_ M c) = 0 → hl_ (hb_ hd) e c) ∧ (mb_I (om_ M c) = mb_I M → ¬ ex_ (hb_ hd) B e c) ∧ ck_ m kk ff ss c → post 1) (h0 : ¬ ((mb_I (om_ M c) = 0 → hl_ (hb_ hd) e c) ∧ (mb_I (om_ M c) = mb_I M → ¬ ex_ (hb_ hd) B e c) ∧ ck_ m kk ff ss c) → post 0) : wY_solution_101 post (mb_I (om_ M c)) pc nc (nI e) (nI m) (mb_I B) (mb_I M) hd nd kd fd sd gn sl :=
  br_c (fun q => ay_holds _ _ _ _ _ _ _ _ _ _ _ _ _ he hc hg
      (fun w => br_f ar_n0 (ay_s118 _ _ _ _ _ _ _ _ _ hm hk hf hs hc hg he (fun k => h1 ⟨fun _ => w, k⟩) (fun k => h0 (fun x => k x.2))))
      (fun w => br_t rfl (h0 (fun x => w (x.1 q)))))
    (fun q => ay_s118 _ _ _ _ _ _ _ _ _ hm hk hf hs hc hg he (fun k => h1 ⟨fun z => absurd z q, k⟩) (fun k => h0 (fun x => k x.2)))
theorem ay_s40 {post : Int32 → Prop} {m c e : Nat} {kk ff ss : Nat → Nat} {B M : Nat → Bool} (hm : m ≤ 3) (hk : ∀ i, i < 3 → kd i = nI (kk i) ∧ kk i < 3) (hf : ∀ i, i < 3 → fd i = nI (ff i) ∧ ff i < 12) (hs : ∀ i, i < 3 → sd i = nI (ss i) ∧ ss i < 12) (hc : c < 6561) (hg : ∀ v, v < 4 → gn v = nI (dg_ c v)) (hep : ¬ mb_I M = 0 → ep = nI e ∧ e < 1728)
    (h1 : tl_ (hb_ hd) B M e c ∧ ck_ m kk ff ss c → post 1) (h0 : ¬ (tl_ (hb_ hd) B M e c ∧ ck_ m kk ff ss c) → post 0) :
    ∀ d i, i + d = 4 → wY_solution_40 post pc nc ep (nI m) (mb_I B) (mb_I M) hd nd kd fd sd gn sl (d + 1) (mb_I (fun w => decide (w < i) && om_ M c w)) (nI i) := by
  intro d
  induction d with
  | zero =>
    refine fun i hi => pk_le 4 i (fun _ => ?_) (fun z => absurd z (by omega))
    have e1 : mb_I (fun w => decide (w < i) && om_ M c w) = mb_I (om_ M c) := mb_congr (fun v hv => by rw [decide_eq_true (by omega), Bool.true_and])
    rw [e1]
    refine br_c (fun q => ay_s135 _ _ _ _ _ _ _ _ _ _ _ _ hm hk hf hs hc hg (fun k => h1 ⟨fun z => absurd q z, k⟩) (fun k => h0 (fun x => k x.2))) (fun q => ?_)
    obtain ⟨rfl, he⟩ := hep q
    refine br_c (fun t => ay_s101 _ _ _ _ _ _ _ _ _ hm hk hf hs hc hg he (fun k => h1 ⟨fun _ => ⟨Or.inl t, k.1, k.2.1⟩, k.2.2⟩) (fun k => h0 (fun x => k ⟨(x.1 q).2.1, (x.1 q).2.2, x.2⟩))) (fun t => ?_)
    exact br_c (fun t => ay_s101 _ _ _ _ _ _ _ _ _ hm hk hf hs hc hg he (fun k => h1 ⟨fun _ => ⟨Or.inr t, k.1, k.2.1⟩, k.2.2⟩) (fun k => h0 (fun x => k ⟨(x.1 q).2.1, (x.1 q).2.2, x.2⟩))) (fun t' => h0 (fun x => (x.1 q).1.elim t t'))
  | succ d ih =>
    intro i hi
    have g := dg_lt hc i
    refine pk_le 4 i (fun z => absurd z (by omega)) (fun z => ?_)
    have ne : (M i && op_ c i) = false → wY_solution_40 post pc nc ep (nI m) (mb_I B) (mb_I M) hd nd kd fd sd gn sl (d + 1) (mb_I (fun w => decide (w < i) && om_ M c w)) (nI (i + 1)) := by
      intro hz
      refine ar_p (P := fun t => wY_solution_40 post pc nc ep (nI m) (mb_I B) (mb_I M) hd nd kd fd sd gn sl (d + 1) t (nI (i + 1))) (mb_congr (fun v hv => ?_)) (ih (i + 1) (by omega))
      by_cases hvi : v = i
      · subst hvi; simp [om_, hz]
      · have e1 : decide (v < i + 1) = decide (v < i) := by simp; omega
        simp [e1]
    refine ar_if (mb_bit M (by omega)) (fun q => ⟨vp_in_nI (by omega) (by decide), ?_⟩) (fun q => nm_r (nI_1 i) (ne (by simp [q])))
    rw [nI_clamp (by omega), hg _ (by omega)]
    refine pk_eq (dg_ c i) 8 (fun e => ?_) (fun e => nm_r (nI_1 i) (ne (by simp [op_, e])))
    refine nm_r ?_ (nm_r (nI_1 i) (ih (i + 1) (by omega)))
    rw [mb_one i (by omega), mb_or]
    refine mb_congr (fun v hv => ?_)
    by_cases hvi : v = i
    · subst hvi; simp [om_, op_, e, q]
    · have e1 : decide (v < i + 1) = decide (v < i) := by simp; omega
      simp [e1, hvi]
theorem ay_s2 {post : Int32 → Prop} {n m c e : Nat} {pp kk ff ss : Nat → Nat} {B M : Nat → Bool} (hn : n ≤ 4) (hnd : ∀ i, i < 4 → nd i = nI (pp i) ∧ pp i < 1728) (hm : m ≤ 3) (hk : ∀ i, i < 3 → kd i = nI (kk i) ∧ kk i < 3) (hf : ∀ i, i < 3 → fd i = nI (ff i) ∧ ff i < 12) (hs : ∀ i, i < 3 → sd i = nI (ss i) ∧ ss i < 12) (hc : c < 6561) (hg : ∀ v, v < 4 → gn v = nI (dg_ c v)) (hep : ¬ mb_I M = 0 → ep = nI e ∧ e < 1728)
    (h1 : so_ (hb_ hd) n pp m kk ff ss B M e c → post 1) (h0 : ¬ so_ (hb_ hd) n pp m kk ff ss B M e c → post 0) :
    ∀ d i, i + d = n → (∀ j, j < i → hl_ (hb_ hd) (pp j) c) → wY_solution_2 post pc (nI n) ep (nI m) (mb_I B) (mb_I M) hd nd kd fd sd gn sl (d + 1) (nI i) := by
  intro d
  induction d with
  | zero =>
    intro i hi hj
    refine pk_le n i (fun _ => ?_) (fun z => absurd z (by omega))
    have w1 : nh_ (hb_ hd) n pp c := fun j hjn => hj j (by omega)
    exact ⟨5, ay_s40 _ _ _ _ _ _ _ _ _ _ hm hk hf hs hc hg hep (fun k => h1 ⟨w1, k⟩) (fun k => h0 (fun x => k x.2)) 4 0 (by omega)⟩
  | succ d ih =>
    intro i hi hj
    refine pk_le n i (fun z => absurd z (by omega)) (fun z => pk_le 4 i (fun z => absurd z (by omega)) (fun z => ⟨vp_in_nI (by omega) (by decide), ?_⟩))
    rw [nI_clamp (by omega), (hnd i (by omega)).1]
    exact ay_holds _ _ _ _ _ _ _ _ _ _ _ _ _ (hnd i (by omega)).2 hc hg
      (fun w => br_f ar_n0 (nm_r (nI_1 i) (ih (i + 1) (by omega) (lt_s hj w))))
      (fun w => br_t rfl (h0 (fun al => w (al.1 i (by omega)))))
theorem ay_solution {post : Int32 → Prop} {n m c e : Nat} {pp kk ff ss : Nat → Nat} {B M : Nat → Bool} (hn : n ≤ 4) (hnd : ∀ i, i < 4 → nd i = nI (pp i) ∧ pp i < 1728) (hm : m ≤ 3) (hk : ∀ i, i < 3 → kd i = nI (kk i) ∧ kk i < 3) (hf : ∀ i, i < 3 → fd i = nI (ff i) ∧ ff i < 12) (hs : ∀ i, i < 3 → sd i = nI (ss i) ∧ ss i < 12) (hc : c < 6561) (hg : ∀ v, v < 4 → gn v = nI (dg_ c v)) (hep : ¬ mb_I M = 0 → ep = nI e ∧ e < 1728)
    (h1 : so_ (hb_ hd) n pp m kk ff ss B M e c → post 1) (h0 : ¬ so_ (hb_ hd) n pp m kk ff ss B M e c → post 0) : wpY_solution post (pc, nI n, ep, nI m, mb_I B, mb_I M, hd, nd, kd, fd, sd, gn, sl) :=
  Exists.intro (n + 1) (ay_s2 _ _ _ _ _ _ _ _ _ hn hnd hm hk hf hs hc hg hep h1 h0 n 0 (by omega) lt_0)
/-! the table of solutions -/
def iv_ (F : Nat → Prop) (sl : Nat → Int32) (k : Nat) : Prop := ∀ c, c < 6561 → (sl c = 0 ↔ ¬ (c < k ∧ F c))
theorem iv_step {F : Nat → Prop} {sl : Nat → Int32} {k : Nat} {x : Int32} (h : iv_ F sl k) (hx : x = 0 ↔ ¬ F k) : iv_ F (upd sl k x) (k + 1) := by
  intro c hc
  by_cases e : c = k
  · subst e
    rw [pk_us, hx]
    exact ⟨fun a b => a b.2, fun a b => a ⟨by omega, b⟩⟩
  · rw [pk_un e, h c hc]
    exact ⟨fun a b => a ⟨by omega, b.2⟩, fun a b => a ⟨by omega, b.2⟩⟩
theorem iv_skip {F : Nat → Prop} {sl : Nat → Int32} {k d : Nat} (h : iv_ F sl k) (hx : ∀ c, c < d → ¬ F (k + c)) : iv_ F sl (k + d) := by
  intro c hc
  rw [h c hc]
  refine ⟨fun a b => ?_, fun a b => a ⟨by omega, b.2⟩⟩
  by_cases e : c < k
  · exact a ⟨e, b.2⟩
  · have := hx (c - k) (by omega)
    rw [show k + (c - k) = c from by omega] at this
    exact this b.2
def co_ (x y z w : Nat) : Nat := 729 * x + 81 * y + (9 * z + w)
theorem co_d {x y z w : Nat} (hx : x < 9) (hy : y < 9) (hz : z < 9) (hw : w < 9) : dg_ (co_ x y z w) 0 = x ∧ dg_ (co_ x y z w) 1 = y ∧ dg_ (co_ x y z w) 2 = z ∧ dg_ (co_ x y z w) 3 = w := by
  unfold co_
  refine ⟨?_, ?_, ?_, ?_⟩
  · show (729 * x + 81 * y + (9 * z + w)) / 729 = x; omega
  · show (729 * x + 81 * y + (9 * z + w)) / 81 % 9 = y; omega
  · show (729 * x + 81 * y + (9 * z + w)) / 9 % 9 = z; omega
  · show (729 * x + 81 * y + (9 * z + w)) % 9 = w; omega
theorem co_g {x y z w : Nat} (gn : Nat → Int32) (hx : x < 9) (hy : y < 9) (hz : z < 9) (hw : w < 9) : ∀ v, v < 4 → upd (upd (upd (upd gn 0 (nI x)) 1 (nI y)) 2 (nI z)) 3 (nI w) v = nI (dg_ (co_ x y z w) v) := by
  intro v hv
  obtain ⟨a, b, c, d⟩ := co_d hx hy hz hw
  rcases mb_c4 hv with rfl | rfl | rfl | rfl
  · rw [a]; rfl
  · rw [b]; rfl
  · rw [c]; rfl
  · rw [d]; rfl
theorem co_I (x y z w : Nat) : (((729 : Int32) * nI x + 81 * nI y) + 9 * nI z) + nI w = nI (co_ x y z w) := by
  unfold co_
  rw [← Nat.add_assoc, ← nI_add, ← nI_add, ← nI_add, ← pk_mul, ← pk_mul, ← pk_mul]; rfl
theorem ay_t90 {post : Int32 → SY → Prop} {J5 J15 : Int32 → Int32 → (Nat → Int32) → (Nat → Int32) → (Nat → Int32) → (Nat → Int32) → (Nat → Int32) → (Nat → Int32) → (Nat → Int32) → Prop} {F : Nat → Prop} {x y z w : Nat} {r : Int32} (hx : x < 9) (hy : y < 9) (hz : z < 9) (hw : w < 9)
    (hr : r = 0 ∨ r = 1) (hF : r = 0 ↔ ¬ F (co_ x y z w)) (hi : iv_ F sl (co_ x y z w))
    (hJ : ∀ sl', iv_ F sl' (co_ x y z (w + 1)) → J15 (nI (cn_ F (729 * x + 81 * y) (9 * z + (w + 1)))) (nI (w + 1)) hd nd kd fd sd gn sl') :
    wY_tryLast_90 post J5 J15 (nI x) (nI y) (nI (cn_ F (729 * x + 81 * y) (9 * z + w))) (nI z) (nI w) r pc nc ep cc bs mo hd nd kd fd sd gn sl := by
  unfold wY_tryLast_90
  rw [co_I]
  have hlt : co_ x y z w < 6561 := by unfold co_; omega
  refine ⟨vp_in_nI hlt (by decide), ?_⟩
  rw [nI_clamp (by omega)]
  have hv : vp_nar .boolean r = r := by rcases hr with rfl | rfl; exact ar_v0; exact ar_v1
  refine nm_r (congrArg (upd sl (co_ x y z w)) hv) ?_
  have k := hJ _ (iv_step hi hF)
  refine br_c (fun q => nm_r (nI_1 w) ?_) (fun q => ?_)
  · rw [← Nat.add_assoc, cn_f (hF.mp q)] at k
    exact k
  · have hf : F (co_ x y z w) := Classical.byContradiction (fun n => q (hF.mpr n))
    rw [← Nat.add_assoc (9 * z), cn_t hf] at k
    exact nm_r (nI_1 _) (nm_r (nI_1 w) k)
end
end
section
section
variable (pc nc ep cc bs mo : Int32) (hd nd kd fd sd gn sl : Nat → Int32)
def sy_ (so : Nat → Prop) (B M : Nat → Bool) (c : Nat) : Prop := (∀ v, v < 4 → my_ B M v (dg_ c v)) ∧ so c
theorem sy_4 {so : Nat → Prop} {B M : Nat → Bool} {x y z w : Nat} (hx : x < 9) (hy : y < 9) (hz : z < 9) (hw : w < 9) : sy_ so B M (co_ x y z w) ↔ (my_ B M 0 x ∧ my_ B M 1 y ∧ my_ B M 2 z ∧ my_ B M 3 w) ∧ so (co_ x y z w) := by
  obtain ⟨a, b, c, d⟩ := co_d hx hy hz hw
  unfold sy_
  refine ⟨fun h => ⟨⟨?_, ?_, ?_, ?_⟩, h.2⟩, fun h => ⟨fun v hv => ?_, h.2⟩⟩
  · have := h.1 0 (by decide); rw [a] at this; exact this
  · have := h.1 1 (by decide); rw [b] at this; exact this
  · have := h.1 2 (by decide); rw [c] at this; exact this
  · have := h.1 3 (by decide); rw [d] at this; exact this
  · rcases mb_c4 hv with rfl | rfl | rfl | rfl
    · rw [a]; exact h.1.1
    · rw [b]; exact h.1.2.1
    · rw [c]; exact h.1.2.2.1
    · rw [d]; exact h.1.2.2.2
theorem sy_no {so : Nat → Prop} {B M : Nat → Bool} {x y : Nat} (hx : x < 9) (hy : y < 9) (h : ¬ (my_ B M 0 x ∧ my_ B M 1 y)) : ∀ c, c < 81 → ¬ sy_ so B M (729 * x + 81 * y + c) := by
  intro c hc k
  have a : dg_ (729 * x + 81 * y + c) 0 = x := by show (729 * x + 81 * y + c) / 729 = x; omega
  have b : dg_ (729 * x + 81 * y + c) 1 = y := by show (729 * x + 81 * y + c) / 81 % 9 = y; omega
  have k0 := k.1 0 (by decide)
  have k1 := k.1 1 (by decide)
  rw [a] at k0
  rw [b] at k1
  exact h ⟨k0, k1⟩
theorem ay_t15 {post : Int32 → SY → Prop} {J5 : Int32 → Int32 → (Nat → Int32) → (Nat → Int32) → (Nat → Int32) → (Nat → Int32) → (Nat → Int32) → (Nat → Int32) → (Nat → Int32) → Prop} {so : Nat → Prop} {B M : Nat → Bool} {x y z : Nat} (hx : x < 9) (hy : y < 9) (hz : z < 9)
    (hsol : ∀ c, c < 6561 → ∀ gn sl : Nat → Int32, (∀ v, v < 4 → gn v = nI (dg_ c v)) → ∀ post : Int32 → Prop, (so c → post 1) → (¬ so c → post 0) → wpY_solution post (pc, nc, ep, cc, mb_I B, mb_I M, hd, nd, kd, fd, sd, gn, sl))
    (m0 : my_ B M 0 x) (m1 : my_ B M 1 y)
    (hJ : ∀ gn sl, iv_ (sy_ so B M) sl (729 * x + 81 * y + 9 * (z + 1)) → J5 (nI (cn_ (sy_ so B M) (729 * x + 81 * y) (9 * (z + 1)))) (nI (z + 1)) hd nd kd fd sd gn sl) :
    ∀ d w gn sl, w + d = 9 → iv_ (sy_ so B M) sl (co_ x y z w) → wY_tryLast_15 post J5 (nI x) (nI y) (nI z) pc nc ep cc (mb_I B) (mb_I M) (d + 1) (nI (cn_ (sy_ so B M) (729 * x + 81 * y) (9 * z + w))) (nI w) hd nd kd fd sd gn sl := by
  intro d
  induction d with
  | zero =>
    intro w gn sl hw hi
    have e : 9 * z + w = 9 * (z + 1) := by omega
    unfold co_ at hi
    rw [e] at hi ⊢
    exact pk_le 9 w (fun _ => nm_r (nI_1 z) (hJ gn sl hi)) (fun q => absurd q (by omega))
  | succ d ih =>
    intro w gn sl hw hi
    have w9 : w < 9 := by omega
    have i4 : sy_ so B M (co_ x y z w) ↔ _ := sy_4 hx hy hz w9
    have hlt : co_ x y z w < 6561 := by unfold co_; omega
    refine pk_le 9 w (fun q => absurd q (by omega)) (fun q => ?_)
    have no : ¬ sy_ so B M (co_ x y z w) → wY_tryLast_46 post J5 (wY_tryLast_15 post J5 (nI x) (nI y) (nI z) pc nc ep cc (mb_I B) (mb_I M) (d + 1)) (nI x) (nI y) (nI (cn_ (sy_ so B M) (729 * x + 81 * y) (9 * z + w))) (nI z) (nI w) pc nc ep cc (mb_I B) (mb_I M) hd nd kd fd sd gn sl := by
      intro hn
      unfold wY_tryLast_46 wY_tryLast_47
      exact br_t rfl (ay_t90 _ _ _ _ _ _ _ _ _ _ _ _ _ hx hy hz w9 (Or.inl rfl) ⟨fun _ => hn, fun _ => rfl⟩ hi (fun sl' h' => ih (w + 1) gn sl' (by omega) h'))
    refine ay_may _ _ _ _ _ _ _ _ _ _ _ 2 (by decide) hz (fun a2 => br_f ar_n0 ?_) (fun a2 => br_t rfl (no (fun k => a2 (i4.mp k).1.2.2.1)))
    refine ay_may _ _ _ _ _ _ _ _ _ _ _ 3 (by decide) w9 (fun a3 => br_f ar_n0 ?_) (fun a3 => br_t rfl (no (fun k => a3 (i4.mp k).1.2.2.2)))
    unfold wY_tryLast_47
    refine br_f ar_n0 (nm_e (nm_e (nm_e (nm_e ?_))))
    refine hsol (co_ x y z w) hlt _ sl (co_g gn hx hy hz w9) _ (fun k => ?_) (fun k => ?_)
    · exact ay_t90 _ _ _ _ _ _ _ _ _ _ _ _ _ hx hy hz w9 (Or.inr rfl) ⟨fun h => absurd h ar_n0, fun h => absurd (i4.mpr ⟨⟨m0, m1, a2, a3⟩, k⟩) h⟩ hi (fun sl' h' => ih (w + 1) _ sl' (by omega) h')
    · exact ay_t90 _ _ _ _ _ _ _ _ _ _ _ _ _ hx hy hz w9 (Or.inl rfl) ⟨fun _ h => k (i4.mp h).2, fun _ => rfl⟩ hi (fun sl' h' => ih (w + 1) _ sl' (by omega) h')
theorem ay_t5 {post : Int32 → SY → Prop} {so : Nat → Prop} {B M : Nat → Bool} {x y : Nat} (hx : x < 9) (hy : y < 9)
    (hsol : ∀ c, c < 6561 → ∀ gn sl : Nat → Int32, (∀ v, v < 4 → gn v = nI (dg_ c v)) → ∀ post : Int32 → Prop, (so c → post 1) → (¬ so c → post 0) → wpY_solution post (pc, nc, ep, cc, mb_I B, mb_I M, hd, nd, kd, fd, sd, gn, sl))
    (m0 : my_ B M 0 x) (m1 : my_ B M 1 y)
    (hp : ∀ gn sl, iv_ (sy_ so B M) sl (729 * x + 81 * y + 81) → post (nI (cn_ (sy_ so B M) (729 * x + 81 * y) 81)) (pc, nc, ep, cc, mb_I B, mb_I M, hd, nd, kd, fd, sd, gn, sl)) :
    ∀ d z gn sl, z + d = 9 → iv_ (sy_ so B M) sl (729 * x + 81 * y + 9 * z) → wY_tryLast_5 post (nI x) (nI y) pc nc ep cc (mb_I B) (mb_I M) (d + 1) (nI (cn_ (sy_ so B M) (729 * x + 81 * y) (9 * z))) (nI z) hd nd kd fd sd gn sl := by
  intro d
  induction d with
  | zero =>
    intro z gn sl hz hi
    have e : z = 9 := by omega
    subst e
    exact pk_le 9 9 (fun _ => hp gn sl hi) (fun q => absurd q (by omega))
  | succ d ih =>
    intro z gn sl hz hi
    refine pk_le 9 z (fun q => absurd q (by omega)) (fun q => ⟨10, ?_⟩)
    exact ay_t15 _ _ _ _ _ _ _ _ _ hx hy (by omega) hsol m0 m1 (fun gn sl h' => ih (z + 1) gn sl (by omega) h') 9 0 gn sl (by omega) hi
theorem ay_tl {post : Int32 → SY → Prop} {so : Nat → Prop} {B M : Nat → Bool} {x y : Nat} (hx : x < 9) (hy : y < 9)
    (hsol : ∀ c, c < 6561 → ∀ gn sl : Nat → Int32, (∀ v, v < 4 → gn v = nI (dg_ c v)) → ∀ post : Int32 → Prop, (so c → post 1) → (¬ so c → post 0) → wpY_solution post (pc, nc, ep, cc, mb_I B, mb_I M, hd, nd, kd, fd, sd, gn, sl))
    (m0 : my_ B M 0 x) (m1 : my_ B M 1 y) (hi : iv_ (sy_ so B M) sl (729 * x + 81 * y))
    (hp : ∀ gn sl, iv_ (sy_ so B M) sl (729 * x + 81 * y + 81) → post (nI (cn_ (sy_ so B M) (729 * x + 81 * y) 81)) (pc, nc, ep, cc, mb_I B, mb_I M, hd, nd, kd, fd, sd, gn, sl)) : wpY_tryLast post (pc, nc, ep, cc, mb_I B, mb_I M, hd, nd, kd, fd, sd, gn, sl) (nI x) (nI y) :=
  Exists.intro 10 (ay_t5 _ _ _ _ _ _ _ _ _ hx hy hsol m0 m1 hp 9 0 gn sl (by omega) hi)
theorem ay_w109 {post : Int32 → SY → Prop} {J : Int32 → Int32 → Int32 → Int32 → Int32 → Int32 → Int32 → Int32 → (Nat → Int32) → (Nat → Int32) → (Nat → Int32) → (Nat → Int32) → (Nat → Int32) → (Nat → Int32) → (Nat → Int32) → Prop} {so : Nat → Prop} {B M : Nat → Bool} {x : Nat} (hx : x < 9)
    (hsol : ∀ c, c < 6561 → ∀ gn sl : Nat → Int32, (∀ v, v < 4 → gn v = nI (dg_ c v)) → ∀ post : Int32 → Prop, (so c → post 1) → (¬ so c → post 0) → wpY_solution post (pc, nc, ep, cc, mb_I B, mb_I M, hd, nd, kd, fd, sd, gn, sl))
    (hJ : ∀ gn sl, iv_ (sy_ so B M) sl (729 * (x + 1)) → J (nI (cn_ (sy_ so B M) 0 (729 * (x + 1)))) (nI (x + 1)) pc nc ep cc (mb_I B) (mb_I M) hd nd kd fd sd gn sl) :
    ∀ d y gn sl, y + d = 9 → iv_ (sy_ so B M) sl (729 * x + 81 * y) → wY_work_109 post J (nI x) (d + 1) (nI (cn_ (sy_ so B M) 0 (729 * x + 81 * y))) (nI y) pc nc ep cc (mb_I B) (mb_I M) hd nd kd fd sd gn sl := by
  intro d
  induction d with
  | zero =>
    intro y gn sl hy hi
    have e : 729 * x + 81 * y = 729 * (x + 1) := by omega
    rw [e] at hi ⊢
    exact pk_le 9 y (fun _ => nm_r (nI_1 x) (hJ gn sl hi)) (fun q => absurd q (by omega))
  | succ d ih =>
    intro y gn sl hy hi
    have y9 : y < 9 := by omega
    have e81 : 729 * x + 81 * (y + 1) = 729 * x + 81 * y + 81 := by omega
    refine pk_le 9 y (fun q => absurd q (by omega)) (fun q => ?_)
    have no : ¬ (my_ B M 0 x ∧ my_ B M 1 y) → wY_work_109 post J (nI x) (d + 1) (nI (cn_ (sy_ so B M) 0 (729 * x + 81 * y))) (nI (y + 1)) pc nc ep cc (mb_I B) (mb_I M) hd nd kd fd sd gn sl := by
      intro hn
      have k := ih (y + 1) gn sl (by omega) (by rw [e81]; exact iv_skip hi (sy_no hx y9 hn))
      rw [e81, cn_add, cn_none _ (sy_no hx y9 hn), Nat.add_zero] at k
      exact k
    refine ay_may _ _ _ _ _ _ _ _ _ _ _ 0 (by decide) hx (fun a0 => br_f ar_n0 ?_) (fun a0 => br_t rfl (nm_r (nI_1 y) (no (fun k => a0 k.1))))
    refine ay_may _ _ _ _ _ _ _ _ _ _ _ 1 (by decide) y9 (fun a1 => br_f ar_n0 ?_) (fun a1 => br_t rfl (nm_r (nI_1 y) (no (fun k => a1 k.2))))
    refine ay_tl _ _ _ _ _ _ _ _ _ _ _ hx y9 hsol a0 a1 hi (fun gn' sl' hi' => ?_)
    have k := ih (y + 1) gn' sl' (by omega) (by rw [e81]; exact hi')
    rw [e81, cn_add] at k
    exact nm_r (nI_add _ _) (nm_r (nI_1 y) k)
theorem ay_w101 {post : Int32 → SY → Prop} {so : Nat → Prop} {B M : Nat → Bool}
    (hsol : ∀ c, c < 6561 → ∀ gn sl : Nat → Int32, (∀ v, v < 4 → gn v = nI (dg_ c v)) → ∀ post : Int32 → Prop, (so c → post 1) → (¬ so c → post 0) → wpY_solution post (pc, nc, ep, cc, mb_I B, mb_I M, hd, nd, kd, fd, sd, gn, sl))
    (hp : ∀ gn sl, iv_ (sy_ so B M) sl 6561 → post (nI (cn_ (sy_ so B M) 0 6561)) (pc, nc, ep, cc, mb_I B, mb_I M, hd, nd, kd, fd, sd, gn, sl)) :
    ∀ d x gn sl, x + d = 9 → iv_ (sy_ so B M) sl (729 * x) → wY_work_101 post (d + 1) (nI (cn_ (sy_ so B M) 0 (729 * x))) (nI x) pc nc ep cc (mb_I B) (mb_I M) hd nd kd fd sd gn sl := by
  intro d
  induction d with
  | zero =>
    intro x gn sl hx hi
    have e : x = 9 := by omega
    subst e
    exact pk_le 9 9 (fun _ => hp gn sl hi) (fun q => absurd q (by omega))
  | succ d ih =>
    intro x gn sl hx hi
    refine pk_le 9 x (fun q => absurd q (by omega)) (fun q => ⟨10, ?_⟩)
    exact ay_w109 _ _ _ _ _ _ _ _ _ (by omega) hsol (fun gn sl h' => ih (x + 1) gn sl (by omega) h') 9 0 gn sl (by omega) hi
theorem ay_w77 {post : Int32 → SY → Prop} {so : Nat → Prop} {B M : Nat → Bool}
    (hsol : ∀ c, c < 6561 → ∀ gn sl : Nat → Int32, (∀ v, v < 4 → gn v = nI (dg_ c v)) → ∀ post : Int32 → Prop, (so c → post 1) → (¬ so c → post 0) → wpY_solution post (pc, nc, ep, cc, mb_I B, mb_I M, hd, nd, kd, fd, sd, gn, sl))
    (hp : ∀ gn sl, iv_ (sy_ so B M) sl 6561 → post (nI (cn_ (sy_ so B M) 0 6561)) (pc, nc, ep, cc, mb_I B, mb_I M, hd, nd, kd, fd, sd, gn, sl)) :
    ∀ d i sl, i + d = 6561 → (∀ c, c < i → sl c = 0) → wY_work_77 post pc nc ep cc (mb_I B) (mb_I M) (d + 1) (nI i) hd nd kd fd sd gn sl := by
  intro d
  induction d with
  | zero =>
    intro i sl hi hz
    refine pk_le 6561 i (fun _ => ⟨10, ?_⟩) (fun q => absurd q (by omega))
    exact ay_w101 _ _ _ _ _ _ _ _ _ hsol hp 9 0 gn sl (by omega) (fun c hc => ⟨fun _ k => absurd k.1 (by omega), fun _ => hz c (by omega)⟩)
  | succ d ih =>
    intro i sl hi hz
    refine pk_le 6561 i (fun q => absurd q (by omega)) (fun q => ⟨vp_in_nI (by omega) (by decide), ?_⟩)
    rw [nI_clamp (by omega), ar_v0]
    refine nm_e (nm_r (nI_1 i) (ih (i + 1) _ (by omega) (fun c hc => ?_)))
    by_cases e : c = i
    · subst e; exact pk_us
    · rw [pk_un e]; exact hz c (by omega)
theorem ay_w45 {post : Int32 → SY → Prop} {so : Nat → Prop} {B ew : Nat → Bool} {e : Nat}
    (hex : (ep = nI e ∧ e < 1728 ∧ ew = vq_ e) ∨ (ep = -1 ∧ ew = fun _ => false))
    (hsol : ∀ c, c < 6561 → ∀ gn sl : Nat → Int32, (∀ v, v < 4 → gn v = nI (dg_ c v)) → ∀ post : Int32 → Prop, (so c → post 1) → (¬ so c → post 0) → wpY_solution post (pc, nc, ep, cc, mb_I B, mb_I (fun v => ew v && !B v), hd, nd, kd, fd, sd, gn, sl))
    (hp : ∀ gn sl, iv_ (sy_ so B (fun v => ew v && !B v)) sl 6561 → post (nI (cn_ (sy_ so B (fun v => ew v && !B v)) 0 6561)) (pc, nc, ep, cc, mb_I B, mb_I (fun v => ew v && !B v), hd, nd, kd, fd, sd, gn, sl)) :
    wY_work_45 post pc nc ep cc (mb_I B) mo hd nd kd fd sd gn sl := by
  rcases hex with ⟨rfl, he, rfl⟩ | ⟨rfl, rfl⟩
  · refine br_t (nI_pos' (by omega)) (ay_vars _ _ _ _ _ _ _ _ _ _ _ _ _ he (nm_r (mb_sub (vq_ e) B) ⟨6562, ?_⟩))
    exact ay_w77 _ _ _ _ _ _ _ _ _ _ hsol hp 6561 0 sl (by omega) lt_0
  · refine br_f (by decide) ⟨6562, ?_⟩
    have k := ay_w77 _ _ _ _ _ _ _ _ _ gn hsol hp 6561 0 sl (by omega) lt_0
    have e0 : mb_I (fun v => (fun _ => false) v && !B v) = 0 := mb_0
    rw [e0] at k
    exact k
theorem ay_w7 {post : Int32 → SY → Prop} {so : Nat → Prop} {ew : Nat → Bool} {e n : Nat} {pp : Nat → Nat} (hn : n ≤ 4) (hnd : ∀ i, i < 4 → nd i = nI (pp i) ∧ pp i < 1728)
    (hex : (ep = nI e ∧ e < 1728 ∧ ew = vq_ e) ∨ (ep = -1 ∧ ew = fun _ => false))
    (hsol : ∀ c, c < 6561 → ∀ gn sl : Nat → Int32, (∀ v, v < 4 → gn v = nI (dg_ c v)) → ∀ post : Int32 → Prop, (so c → post 1) → (¬ so c → post 0) → wpY_solution post (pc, nI n, ep, cc, mb_I (nb_ pp n), mb_I (fun v => ew v && !nb_ pp n v), hd, nd, kd, fd, sd, gn, sl))
    (hp : ∀ gn sl, iv_ (sy_ so (nb_ pp n) (fun v => ew v && !nb_ pp n v)) sl 6561 → post (nI (cn_ (sy_ so (nb_ pp n) (fun v => ew v && !nb_ pp n v)) 0 6561)) (pc, nI n, ep, cc, mb_I (nb_ pp n), mb_I (fun v => ew v && !nb_ pp n v), hd, nd, kd, fd, sd, gn, sl)) :
    ∀ d i, i + d = n → wY_work_7 post pc (nI n) ep cc mo hd nd kd fd sd gn sl (d + 1) (nI i) (mb_I (nb_ pp i)) := by
  intro d
  induction d with
  | zero =>
    intro i hi
    have e : i = n := by omega
    subst e
    exact pk_le i i (fun _ => ay_w45 _ _ _ _ _ _ _ _ _ _ _ _ hex hsol hp) (fun q => absurd q (by omega))
  | succ d ih =>
    intro i hi
    refine pk_le n i (fun q => absurd q (by omega)) (fun q => pk_le 4 i (fun q => absurd q (by omega)) (fun q => ⟨vp_in_nI (by omega) (by decide), ?_⟩))
    rw [nI_clamp (by omega), (hnd i (by omega)).1]
    exact ay_vars _ _ _ _ _ _ _ _ _ _ _ _ _ (hnd i (by omega)).2 (nm_r (mb_or _ _) (nm_r (nI_1 i) (ih (i + 1) (by omega))))
def sF_ (hd : Nat → Int32) (n : Nat) (pp : Nat → Nat) (m : Nat) (kk ff ss : Nat → Nat) (ew : Nat → Bool) (e : Nat) : Nat → Prop :=
  sy_ (so_ (hb_ hd) n pp m kk ff ss (nb_ pp n) (fun v => ew v && !nb_ pp n v) e) (nb_ pp n) (fun v => ew v && !nb_ pp n v)
theorem ay_work {post : Int32 → SY → Prop} {ew : Nat → Bool} {e n m : Nat} {pp kk ff ss : Nat → Nat} (hn : n ≤ 4) (hnd : ∀ i, i < 4 → nd i = nI (pp i) ∧ pp i < 1728)
    (hm : m ≤ 3) (hk : ∀ i, i < 3 → kd i = nI (kk i) ∧ kk i < 3) (hf : ∀ i, i < 3 → fd i = nI (ff i) ∧ ff i < 12) (hs : ∀ i, i < 3 → sd i = nI (ss i) ∧ ss i < 12)
    (hex : (ep = nI e ∧ e < 1728 ∧ ew = vq_ e) ∨ (ep = -1 ∧ ew = fun _ => false))
    (hp : ∀ bs mo gn sl, iv_ (sF_ hd n pp m kk ff ss ew e) sl 6561 → post (nI (cn_ (sF_ hd n pp m kk ff ss ew e) 0 6561)) (pc, nI n, ep, nI m, bs, mo, hd, nd, kd, fd, sd, gn, sl)) :
    wpY_work post (pc, nI n, ep, nI m, bs, mo, hd, nd, kd, fd, sd, gn, sl) := by
  refine Exists.intro (n + 1) ?_
  have e0 : mb_I (nb_ pp 0) = 0 := mb_0
  have k := ay_w7 pc ep (nI m) mo hd nd kd fd sd gn sl (post := post) hn hnd hex (fun c hc gn sl hg post h1 h0 => ay_solution _ _ _ _ _ _ _ _ _ hn hnd hm hk hf hs hc hg (fun q => ?_) h1 h0) (fun gn sl h => hp _ _ gn sl h) n 0 (by omega)
  · rw [e0] at k
    exact k
  · rcases hex with ⟨rfl, he, rfl⟩ | ⟨rfl, rfl⟩
    · exact ⟨rfl, he⟩
    · exact absurd (mb_0 : mb_I (fun v => (fun _ => false) v && !nb_ pp n v) = 0) q
end
end
section
theorem pu_c3 {k : Nat} (h : k < 3) : k = 0 ∨ k = 1 ∨ k = 2 := by omega
theorem pu_al {e c s : Nat} {B : Nat → Bool} (he : e < 1728) (hs : s < 256) (ho : ∀ v, v < 4 → op_ c v = !B v) (k : Nat) :
    al_ (gv_ (en_ e k) c) (pt_ s k) ↔ (en_ e k < 8 → en_ e k = pt_ s k) ∧ (7 < en_ e k → B (en_ e k - 8) = true → dg_ c (en_ e k - 8) = pt_ s k) := by
  have e1 := en_lt he k
  have p1 := pt_lt hs k
  unfold al_
  by_cases h8 : en_ e k < 8
  · rw [gv_e h8]
    exact ⟨fun h => ⟨fun _ => by omega, fun z => absurd z (by omega)⟩, fun h => Or.inr (h.1 h8)⟩
  · rw [gv_v (by omega)]
    have o := ho (en_ e k - 8) (by omega)
    unfold op_ at o
    refine ⟨fun h => ⟨fun z => absurd z h8, fun _ hb => ?_⟩, fun h => ?_⟩
    · rw [hb] at o
      have : ¬ dg_ c (en_ e k - 8) = 8 := fun z => by rw [z] at o; exact absurd o (by decide)
      exact h.resolve_left this
    · cases hb : B (en_ e k - 8) with
      | true => exact Or.inr (h.2 (by omega) hb)
      | false =>
        rw [hb] at o
        exact Or.inl (beq_iff_eq.mp o)
theorem pu_fx {e c s : Nat} {B : Nat → Bool} (he : e < 1728) (hs : s < 256) (ho : ∀ v, v < 4 → op_ c v = !B v) : fx_ s e c ↔ fy_ s e ∧ ag_ s e B c := by
  unfold fx_
  rw [pu_al he hs ho 0, pu_al he hs ho 1, pu_al he hs ho 2]
  constructor
  · rintro ⟨q1, q2, q3, a0, a1, a2⟩
    refine ⟨fun i hi => ?_, fun k hk => ?_⟩
    · rcases pu_c3 hi with rfl | rfl | rfl
      · exact ⟨a0.1, fun j hj => absurd hj (by omega)⟩
      · refine ⟨a1.1, fun j hj _ h => ?_⟩
        have : j = 0 := by omega
        subst this; exact q1 h
      · refine ⟨a2.1, fun j hj _ h => ?_⟩
        have : j = 0 ∨ j = 1 := by omega
        rcases this with rfl | rfl
        · exact q2 h
        · exact q3 h
    · rcases pu_c3 hk with rfl | rfl | rfl
      · exact a0.2
      · exact a1.2
      · exact a2.2
  · rintro ⟨f, g⟩
    have f0 := f 0 (by decide)
    have f1 := f 1 (by decide)
    have f2 := f 2 (by decide)
    refine ⟨fun h => ?_, fun h => ?_, fun h => ?_, ⟨f0.1, g 0 (by decide)⟩, ⟨f1.1, g 1 (by decide)⟩, ⟨f2.1, g 2 (by decide)⟩⟩
    · by_cases z : en_ e 1 < 8
      · have := f0.1 (by omega); have := f1.1 z; omega
      · exact f1.2 0 (by decide) (by omega) h
    · by_cases z : en_ e 2 < 8
      · have := f0.1 (by omega); have := f2.1 z; omega
      · exact f2.2 0 (by decide) (by omega) h
    · by_cases z : en_ e 2 < 8
      · have := f1.1 (by omega); have := f2.1 z; omega
      · exact f2.2 1 (by decide) (by omega) h
theorem pu_6560 : ∀ v, v < 4 → op_ 6560 v = !((fun _ => false : Nat → Bool) v) := by decide +kernel
theorem pu_match {p s : Nat} (hp : p < 1728) (hs : s < 256) : fx_ s p 6560 ↔ fy_ s p := by
  rw [pu_fx hp hs pu_6560]
  exact ⟨fun h => h.1, fun h => ⟨h, fun _ _ _ z => absurd z Bool.false_ne_true⟩⟩
theorem pu_op {c v : Nat} : op_ c v = true ↔ dg_ c v = 8 := beq_iff_eq
theorem pu_op' {c v : Nat} (hc : c < 6561) : op_ c v = false ↔ dg_ c v < 8 := by
  have := dg_lt hc v
  unfold op_
  rw [beq_eq_false_iff_ne]; omega
theorem pu_main {b : Nat → Prop} {n m e c : Nat} {pp kk ff ss : Nat → Nat} {B ew : Nat → Bool} (hc : c < 6561) (hex : (e < 1728 ∧ ew = vq_ e) ∨ (ew = fun _ => false)) :
    sx_ b n pp m kk ff ss B ew e c ↔ sy_ (so_ b n pp m kk ff ss B (fun v => ew v && !B v) e) B (fun v => ew v && !B v) c := by
  have x1 : ∀ {v}, v < 4 → (op_ c v = true ↔ dg_ c v = 8) := fun _ => pu_op
  by_cases hM : ∀ v, v < 4 → (ew v && !B v) = false
  · -- the extra pattern has no variables of its own
    have eb : mb_I (fun v => !B v) = mb_I (fun v => !B v && !ew v) := mb_congr (fun v hv => by
      have := hM v hv
      cases h1 : B v <;> cases h2 : ew v <;> simp_all)
    have m0 : mb_I (fun v => ew v && !B v) = 0 := (mb_eq0 _).mpr hM
    unfold sx_ sy_ so_ tl_
    rw [← eb]
    constructor
    · rintro ⟨o, w1, w2, -⟩
      have o := mb_inj (o.elim id id)
      refine ⟨fun v hv => ?_, w1, fun z => absurd m0 z, w2⟩
      have o1 := o v hv
      have hd := dg_lt hc v
      refine ⟨fun hb => ?_, fun hb => Or.inr ?_⟩
      · rw [hb] at o1; exact (pu_op' hc).mp o1
      · rw [Bool.eq_false_iff.mpr hb] at o1; exact pu_op.mp o1
    · rintro ⟨o, w1, -, w2⟩
      refine ⟨Or.inl (mb_congr (fun v hv => ?_)), w1, w2, fun z => absurd rfl z⟩
      cases hb : B v with
      | true => exact (pu_op' hc).mpr ((o v hv).1 hb)
      | false =>
        refine pu_op.mpr (((o v hv).2 (by rw [hb]; decide)).resolve_left ?_)
        show ¬ (ew v && !B v) = true
        rw [hM v hv]; decide
  · -- it has
    have hv0 : ∃ v, v < 4 ∧ ew v = true ∧ B v = false := by
      refine Classical.byContradiction (fun h => hM (fun v hv => ?_))
      cases h1 : ew v <;> cases h2 : B v <;> first | rfl | exact absurd ⟨v, hv, h1, h2⟩ h
    obtain ⟨v0, hv, he0, hb0⟩ := hv0
    have hE : e < 1728 ∧ ew = vq_ e := by
      rcases hex with h | h
      · exact h
      · rw [h] at he0; exact absurd he0 Bool.false_ne_true
    have nb : ¬ mb_I (fun v => !B v) = mb_I (fun v => !B v && !ew v) := fun h => by
      have := mb_inj h v0 hv
      rw [he0, hb0] at this; exact absurd this (by decide)
    have m0 : ¬ mb_I (fun v => ew v && !B v) = 0 := fun h => hM ((mb_eq0 _).mp h)
    have A : mb_I (op_ c) = mb_I (fun v => !B v) → ((∃ s, s < 256 ∧ b s ∧ fx_ s e c) ↔ ex_ b B e c) := fun h => by
      have ho := mb_inj h
      unfold ex_
      exact ⟨fun ⟨s, h1, h2, h3⟩ => ⟨s, h1, h2, (pu_fx hE.1 h1 ho).mp h3⟩, fun ⟨s, h1, h2, h3⟩ => ⟨s, h1, h2, (pu_fx hE.1 h1 ho).mpr h3⟩⟩
    have hne : ¬ (mb_I (om_ (fun v => ew v && !B v) c) = 0 ∧ mb_I (om_ (fun v => ew v && !B v) c) = mb_I (fun v => ew v && !B v)) := fun h => m0 (h.2.symm.trans h.1)
    unfold sx_ sy_ so_ tl_
    constructor
    · rintro ⟨o, w1, w2, t⟩
      have t := t nb
      rcases o with o | o
      · have o1 := mb_inj o
        have nr : ¬ mb_I (op_ c) = mb_I (fun v => !B v && !ew v) := fun h => nb (o.symm.trans h)
        have om : mb_I (om_ (fun v => ew v && !B v) c) = mb_I (fun v => ew v && !B v) := mb_congr (fun v hv => by
          show ((ew v && !B v) && op_ c v) = _; rw [o1 v hv]; cases ew v <;> cases B v <;> rfl)
        refine ⟨fun v hv => ⟨fun hb => ?_, fun hb => Or.inr ?_⟩, w1, fun _ => ⟨Or.inr om, fun z => absurd ⟨z, om⟩ hne, fun _ x => t.2 nr ((A o).mpr x)⟩, w2⟩
        · have := o1 v hv; rw [hb] at this; exact (pu_op' hc).mp this
        · have := o1 v hv; rw [Bool.eq_false_iff.mpr hb] at this; exact pu_op.mp this
      · have o1 := mb_inj o
        have om : mb_I (om_ (fun v => ew v && !B v) c) = 0 := (mb_eq0 _).mpr (fun v hv => by
          show ((ew v && !B v) && op_ c v) = _; rw [o1 v hv]; cases ew v <;> cases B v <;> rfl)
        refine ⟨fun v hv => ⟨fun hb => ?_, fun hb => ?_⟩, w1, fun _ => ⟨Or.inl om, fun _ => t.1 o, fun z => absurd ⟨om, z⟩ hne⟩, w2⟩
        · have := o1 v hv; rw [hb] at this; exact (pu_op' hc).mp this
        · have hb := Bool.eq_false_iff.mpr hb
          cases hw : ew v with
          | true => left; show (ew v && !B v) = true; rw [hw, hb]; rfl
          | false => right; have := o1 v hv; rw [hb, hw] at this; exact pu_op.mp this
    · rintro ⟨o, w1, t, w2⟩
      have t := t m0
      rcases t.1 with om | om
      · have om1 := (mb_eq0 _).mp om
        have ob : mb_I (op_ c) = mb_I (fun v => !B v && !ew v) := mb_congr (fun v hv => by
          have o1 : ((ew v && !B v) && op_ c v) = false := om1 v hv
          cases hb : B v with
          | true => rw [(pu_op' hc).mpr ((o v hv).1 hb)]; rfl
          | false =>
            rw [hb] at o1
            cases hw : ew v with
            | true => rw [hw] at o1; exact o1
            | false => exact pu_op.mpr (((o v hv).2 (by rw [hb]; decide)).resolve_left (by show ¬ (ew v && !B v) = true; rw [hw]; exact Bool.false_ne_true)))
        exact ⟨Or.inr ob, w1, w2, fun _ => ⟨fun _ => t.2.1 om, fun z => absurd ob z⟩⟩
      · have om1 := mb_inj om
        have ob : mb_I (op_ c) = mb_I (fun v => !B v) := mb_congr (fun v hv => by
          have o1 : ((ew v && !B v) && op_ c v) = (ew v && !B v) := om1 v hv
          cases hb : B v with
          | true => exact (pu_op' hc).mpr ((o v hv).1 hb)
          | false =>
            rw [hb] at o1
            cases hw : ew v with
            | true => rw [hw] at o1; exact o1
            | false => exact pu_op.mpr (((o v hv).2 (by rw [hb]; decide)).resolve_left (by show ¬ (ew v && !B v) = true; rw [hw]; exact Bool.false_ne_true)))
        have nr : ¬ mb_I (op_ c) = mb_I (fun v => !B v && !ew v) := fun h => nb (ob.symm.trans h)
        exact ⟨Or.inl ob, w1, w2, fun _ => ⟨fun z => absurd z nr, fun _ x => t.2.2 om ((A ob).mp x)⟩⟩
theorem pu_hl {b b' : Nat → Prop} (h : ∀ s, s < 256 → (b s ↔ b' s)) (p c : Nat) : hl_ b p c ↔ hl_ b' p c := by
  unfold hl_
  exact ⟨fun w => ⟨w.1, w.2.1, w.2.2.1, (h _ (by have := w.1; have := w.2.1; have := w.2.2.1; omega)).mp w.2.2.2⟩, fun w => ⟨w.1, w.2.1, w.2.2.1, (h _ (by have := w.1; have := w.2.1; have := w.2.2.1; omega)).mpr w.2.2.2⟩⟩
theorem pu_sx {b b' : Nat → Prop} {n m e c : Nat} {pp kk ff ss : Nat → Nat} {B ew : Nat → Bool} (h : ∀ s, s < 256 → (b s ↔ b' s)) : sx_ b n pp m kk ff ss B ew e c ↔ sx_ b' n pp m kk ff ss B ew e c := by
  have a1 : nh_ b n pp c ↔ nh_ b' n pp c := ⟨fun k i hi => (pu_hl h _ _).mp (k i hi), fun k i hi => (pu_hl h _ _).mpr (k i hi)⟩
  have a2 : (∃ s, s < 256 ∧ b s ∧ fx_ s e c) ↔ (∃ s, s < 256 ∧ b' s ∧ fx_ s e c) := ⟨fun ⟨s, k1, k2, k3⟩ => ⟨s, k1, (h s k1).mp k2, k3⟩, fun ⟨s, k1, k2, k3⟩ => ⟨s, k1, (h s k1).mpr k2, k3⟩⟩
  unfold sx_
  rw [a1, a2, pu_hl h]
end
section
section
variable (pc nc ep cc nv ev : Int32) (hd nd kd fd sd ps : Nat → Int32)
def xs_ (u : SX) (wo : Int32) (F : Nat → Prop) : Prop := ∀ c, c < 6561 → ∀ post : Int32 → Prop, (F c → post 1) → (¬ F c → post 0) → wpX_solves post u (nI c) wo
noncomputable def nx_ (F : Nat → Prop) : Nat → Nat → Int32
  | 0, _ => -1
  | d + 1, i => @ite Int32 (F i) (Classical.propDecidable _) (nI i) (nx_ F d (i + 1))
theorem nx_t {F : Nat → Prop} {d i : Nat} (h : F i) : nx_ F (d + 1) i = nI i := @if_pos _ (Classical.propDecidable _) h _ _ _
theorem nx_f {F : Nat → Prop} {d i : Nat} (h : ¬ F i) : nx_ F (d + 1) i = nx_ F d (i + 1) := @if_neg _ (Classical.propDecidable _) h _ _ _
noncomputable def vm_ (F : Nat → Prop) (v : Nat) : Nat → Int32
  | 0 => 0
  | k + 1 => @ite Int32 (F k) (Classical.propDecidable _) (vm_ F v k ||| ((1 : Int32) <<< (nI (dg_ k v) &&& 31))) (vm_ F v k)
theorem vm_t {F : Nat → Prop} {v k : Nat} (h : F k) : vm_ F v (k + 1) = vm_ F v k ||| ((1 : Int32) <<< (nI (dg_ k v) &&& 31)) := @if_pos _ (Classical.propDecidable _) h _ _ _
theorem vm_f {F : Nat → Prop} {v k : Nat} (h : ¬ F k) : vm_ F v (k + 1) = vm_ F v k := @if_neg _ (Classical.propDecidable _) h _ _ _
theorem qx_cl {post : Int32 → Prop} {wo : Int32} {F : Nat → Prop} (hX : xs_ (pc, nc, ep, cc, nv, ev, hd, nd, kd, fd, sd, ps) wo F) (h : post (nI (cn_ F 0 6561))) :
    ∀ d i, i + d = 6561 → wX_countSolutions_4 post wo pc nc ep cc nv ev hd nd kd fd sd ps (d + 1) (nI (cn_ F 0 i)) (nI i) := by
  intro d
  induction d with
  | zero =>
    intro i hi
    have e : i = 6561 := by omega
    subst e
    exact pk_le 6561 6561 (fun _ => h) (fun q => absurd q (by omega))
  | succ d ih =>
    intro i hi
    refine pk_le 6561 i (fun q => absurd q (by omega)) (fun q => hX i (by omega) _ (fun w => br_f ar_n0 ?_) (fun w => br_t rfl ?_))
    · have k := ih (i + 1) (by omega)
      rw [cn_t0 w] at k
      exact nm_r (nI_1 _) (nm_r (nI_1 i) k)
    · have k := ih (i + 1) (by omega)
      rw [cn_f0 w] at k
      exact nm_r (nI_1 i) k
theorem qx_count {post : Int32 → Prop} {wo : Int32} {F : Nat → Prop} (hX : xs_ (pc, nc, ep, cc, nv, ev, hd, nd, kd, fd, sd, ps) wo F) (h : post (nI (cn_ F 0 6561))) : wpX_countSolutions post (pc, nc, ep, cc, nv, ev, hd, nd, kd, fd, sd, ps) wo :=
  Exists.intro 6562 (qx_cl _ _ _ _ _ _ _ _ _ _ _ _ hX h 6561 0 (by omega))
theorem qx_nl {post : Int32 → Prop} {F : Nat → Prop} (hX : xs_ (pc, nc, ep, cc, nv, ev, hd, nd, kd, fd, sd, ps) (-1) F) :
    ∀ d i, i + d = 6561 → post (nx_ F d i) → wX_next_23 post pc nc ep cc nv ev hd nd kd fd sd ps (d + 1) (nI i) := by
  intro d
  induction d with
  | zero => exact fun i hi h => pk_le 6561 i (fun _ => h) (fun q => absurd q (by omega))
  | succ d ih =>
    intro i hi h
    refine pk_le 6561 i (fun q => absurd q (by omega)) (fun q => hX i (by omega) _ (fun w => br_f ar_n0 ?_) (fun w => br_t rfl ?_))
    · rw [nx_t w] at h; exact h
    · rw [nx_f w] at h; exact nm_r (nI_1 i) (ih (i + 1) (by omega) h)
theorem qx_vl {post : Int32 → Prop} {F : Nat → Prop} {v : Nat} (hv : v < 4) (hX : xs_ (pc, nc, ep, cc, nv, ev, hd, nd, kd, fd, sd, ps) (-1) F) (h : post (vm_ F v 6561)) :
    ∀ d i, i + d = 6561 → wX_values_13 post (nI v) pc nc ep cc nv ev hd nd kd fd sd ps (d + 1) (vm_ F v i) (nI i) := by
  intro d
  induction d with
  | zero =>
    intro i hi
    have e : i = 6561 := by omega
    subst e
    exact pk_le 6561 6561 (fun _ => h) (fun q => absurd q (by omega))
  | succ d ih =>
    intro i hi
    refine pk_le 6561 i (fun q => absurd q (by omega)) (fun q => hX i (by omega) _ (fun w => br_f ar_n0 ?_) (fun w => br_t rfl ?_))
    · rw [ar_8]
      refine ax_given (by omega) (by omega) ?_
      rw [gv_v (by omega), Nat.add_sub_cancel_left]
      have k := ih (i + 1) (by omega)
      rw [vm_t w] at k
      exact nm_e (nm_r (nI_1 i) k)
    · have k := ih (i + 1) (by omega)
      rw [vm_f w] at k
      exact nm_r (nI_1 i) k
theorem qx_hl {post : Int32 → Prop} {F : Nat → Prop} {v a : Nat} (hv : v < 4) (ha : a < 9) (hX : xs_ (pc, nc, ep, cc, nv, ev, hd, nd, kd, fd, sd, ps) (-1) F) (h : post (nI (cn_ (fun c => F c ∧ dg_ c v = a) 0 6561))) :
    ∀ d i, i + d = 6561 → wX_having_27 post (nI v) (nI a) pc nc ep cc nv ev hd nd kd fd sd ps (d + 1) (nI (cn_ (fun c => F c ∧ dg_ c v = a) 0 i)) (nI i) := by
  intro d
  induction d with
  | zero =>
    intro i hi
    have e : i = 6561 := by omega
    subst e
    exact pk_le 6561 6561 (fun _ => h) (fun q => absurd q (by omega))
  | succ d ih =>
    intro i hi
    have k := ih (i + 1) (by omega)
    have g := dg_lt (c := i) (by omega) v
    refine pk_le 6561 i (fun q => absurd q (by omega)) (fun q => ?_)
    rw [ar_8]
    refine ax_given (by omega) (by omega) ?_
    rw [gv_v (by omega), Nat.add_sub_cancel_left]
    refine pk_eq (dg_ i v) a (fun t => hX i (by omega) _ (fun w => br_f ar_n0 ?_) (fun w => br_t rfl ?_)) (fun t => ?_)
    · rw [cn_t0 ⟨w, t⟩] at k
      exact nm_r (nI_1 _) (nm_r (nI_1 i) k)
    · rw [cn_f0 (fun z => w z.1)] at k
      exact nm_r (nI_1 i) k
    · rw [cn_f0 (fun z => t z.2)] at k
      exact nm_r (nI_1 i) k
def mt_ (F : Nat → Prop) (g : Nat → Nat) (k q : Nat) : Prop := ∃ c, c < k ∧ F c ∧ g c = q
theorem mt_same {F : Nat → Prop} {g : Nat → Nat} {k : Nat} (h : ¬ F k ∨ mt_ F g k (g k)) (q : Nat) : mt_ F g (k + 1) q ↔ mt_ F g k q := by
  constructor
  · rintro ⟨c, h1, h2, h3⟩
    by_cases e : c = k
    · subst e; subst h3
      exact h.elim (fun n => absurd h2 n) id
    · exact ⟨c, by omega, h2, h3⟩
  · rintro ⟨c, h1, h2, h3⟩
    exact ⟨c, by omega, h2, h3⟩
theorem mt_new {F : Nat → Prop} {g : Nat → Nat} {k : Nat} (q : Nat) (hq : q ≠ g k) : mt_ F g (k + 1) q ↔ mt_ F g k q := by
  constructor
  · rintro ⟨c, h1, h2, h3⟩
    by_cases e : c = k
    · subst e; exact absurd h3.symm hq
    · exact ⟨c, by omega, h2, h3⟩
  · rintro ⟨c, h1, h2, h3⟩
    exact ⟨c, by omega, h2, h3⟩
def pr_ (v w c : Nat) : Nat := 9 * dg_ c v + dg_ c w
theorem qx_fl {post : SX → Prop} (hp : ∀ ps, (∀ q, q < 81 → ps q = 0) → post (pc, nc, ep, cc, nv, ev, hd, nd, kd, fd, sd, ps)) :
    ∀ d i ps, i + d = 81 → (∀ q, q < i → ps q = 0) → wX_forgetPairs_2 post pc nc ep cc nv ev (d + 1) (nI i) hd nd kd fd sd ps := by
  intro d
  induction d with
  | zero => exact fun i ps hi hz => pk_le 81 i (fun _ => hp ps (fun q hq => hz q (by omega))) (fun q => absurd q (by omega))
  | succ d ih =>
    intro i ps hi hz
    refine pk_le 81 i (fun q => absurd q (by omega)) (fun q => ⟨vp_in_nI (by omega) (by decide), ?_⟩)
    rw [nI_clamp (by omega), ar_v0]
    refine nm_e (nm_r (nI_1 i) (ih (i + 1) _ (by omega) (fun c hc => ?_)))
    by_cases e : c = i
    · subst e; exact pk_us
    · rw [pk_un e]; exact hz c (by omega)
theorem qx_pl {post : Int32 → SX → Prop} {F : Nat → Prop} {v w : Nat} (hv : v < 4) (hw : w < 4) (hX : ∀ ps, xs_ (pc, nc, ep, cc, nv, ev, hd, nd, kd, fd, sd, ps) (-1) F)
    (hp : ∀ ps, post (nI (cn_ (mt_ F (pr_ v w) 6561) 0 81)) (pc, nc, ep, cc, nv, ev, hd, nd, kd, fd, sd, ps)) :
    ∀ d i ps, i + d = 6561 → (∀ q, q < 81 → (ps q = 0 ↔ ¬ mt_ F (pr_ v w) i q)) → wX_pairs_25 post (nI v) (nI w) pc nc ep cc nv ev (d + 1) (nI (cn_ (mt_ F (pr_ v w) i) 0 81)) (nI i) hd nd kd fd sd ps := by
  intro d
  induction d with
  | zero =>
    intro i ps hi _
    have e : i = 6561 := by omega
    subst e
    exact pk_le 6561 6561 (fun _ => hp ps) (fun q => absurd q (by omega))
  | succ d ih =>
    intro i ps hi hs
    have g1 := dg_lt (c := i) (by omega) v
    have g2 := dg_lt (c := i) (by omega) w
    refine pk_le 6561 i (fun q => absurd q (by omega)) (fun q => ?_)
    rw [ar_8, ar_8]
    refine ax_given (by omega) (by omega) (ax_given (by omega) (by omega) ?_)
    rw [gv_v (by omega), gv_v (by omega), Nat.add_sub_cancel_left, Nat.add_sub_cancel_left]
    have e9 : (9 : Int32) * nI (dg_ i v) + nI (dg_ i w) = nI (pr_ v w i) := by
      unfold pr_; rw [← nI_add, ← pk_mul]; rfl
    have p81 : pr_ v w i < 81 := by unfold pr_; omega
    have hin : vp_in (nI (pr_ v w i)) 81 := vp_in_nI p81 (by decide)
    have same : (¬ F i ∨ mt_ F (pr_ v w) i (pr_ v w i)) → wX_pairs_25 post (nI v) (nI w) pc nc ep cc nv ev (d + 1) (nI (cn_ (mt_ F (pr_ v w) i) 0 81)) (nI (i + 1)) hd nd kd fd sd ps := by
      intro h
      have k := ih (i + 1) ps (by omega) (fun q hq => by rw [mt_same h]; exact hs q hq)
      rw [cn_congr (g := mt_ F (pr_ v w) i) 81 (fun c _ => mt_same h _)] at k
      exact k
    refine nm_r e9 ⟨hin, ?_⟩
    rw [nI_clamp (by omega)]
    refine br_c (fun t => ?_) (fun t => nm_r (nI_1 i) (same (Or.inr (Classical.byContradiction (fun n => t ((hs _ p81).mpr n))))))
    refine hX ps i (by omega) _ (fun f => br_f ar_n0 ⟨hin, ?_⟩) (fun f => br_t rfl (nm_r (nI_1 i) (same (Or.inl f))))
    have n0 : ¬ mt_ F (pr_ v w) i (pr_ v w i) := (hs _ p81).mp t
    have n1 : mt_ F (pr_ v w) (i + 1) (pr_ v w i) := ⟨i, by omega, f, rfl⟩
    have k := ih (i + 1) (upd ps (pr_ v w i) 1) (by omega) (fun q hq => by
      by_cases e : q = pr_ v w i
      · subst e; rw [pk_us]; exact ⟨fun z => absurd z ar_n0, fun z => absurd n1 z⟩
      · rw [pk_un e, mt_new q e]; exact hs q hq)
    rw [cn_one n0 n1 (fun q hq => mt_new q hq), if_pos p81] at k
    rw [ar_v1]
    exact nm_e (nm_r (nI_1 _) (nm_r (nI_1 i) k))
def vt_ (hd : Nat → Int32) (all : Nat) (FS : Nat → Nat → Prop) (s : Nat) : Prop := ¬ hd s = 0 ∧ ¬ nI all ≤ nI (cn_ (FS s) 0 6561)
theorem qx_vtl {post : Int32 → Prop} {all : Nat} {FS : Nat → Nat → Prop} (hX : ∀ s, s < 256 → ¬ hd s = 0 → xs_ (pc, nc, ep, cc, nv, ev, hd, nd, kd, fd, sd, ps) (nI s) (FS s)) (h : post (nI (cn_ (vt_ hd all FS) 0 256))) :
    ∀ d i, i + d = 256 → wX_vital_10 post (nI all) pc nc ep cc nv ev hd nd kd fd sd ps (d + 1) (nI (cn_ (vt_ hd all FS) 0 i)) (nI i) := by
  intro d
  induction d with
  | zero =>
    intro i hi
    have e : i = 256 := by omega
    subst e
    exact pk_le 256 256 (fun _ => h) (fun q => absurd q (by omega))
  | succ d ih =>
    intro i hi
    have k := ih (i + 1) (by omega)
    refine pk_le 256 i (fun q => absurd q (by omega)) (fun q => ⟨vp_in_nI (by omega) (by decide), ?_⟩)
    rw [nI_clamp (by omega)]
    refine br_c (fun t => ?_) (fun t => qx_count _ _ _ _ _ _ _ _ _ _ _ _ (hX i (by omega) t) (br_c (fun r => ?_) (fun r => ?_)))
    · rw [cn_f0 (fun z => z.1 t)] at k
      exact nm_r (nI_1 i) k
    · rw [cn_f0 (fun z => z.2 r)] at k
      exact nm_r (nI_1 i) k
    · rw [cn_t0 ⟨t, r⟩] at k
      exact nm_r (nI_1 _) (nm_r (nI_1 i) k)
end
end
section
section
variable (pc nc ep cc bs mo : Int32) (hd nd kd fd sd gn sl : Nat → Int32)
def sz_ (F : Nat → Prop) (sl : Nat → Int32) : Prop := ∀ c, c < 6561 → (sl c = 0 ↔ ¬ F c)
theorem sz_iv {F : Nat → Prop} {sl : Nat → Int32} (h : iv_ F sl 6561) : sz_ F sl := fun c hc => by
  rw [h c hc]
  exact ⟨fun k f => k ⟨hc, f⟩, fun k f => k f.2⟩
theorem sz_t {F : Nat → Prop} {sl : Nat → Int32} (h : sz_ F sl) {c : Nat} (hc : c < 6561) (n : ¬ sl c = 0) : F c := Classical.byContradiction (fun k => n ((h c hc).mpr k))
theorem qy_nl {post : Int32 → SY → Prop} {F : Nat → Prop} {v : Int32} {k : Nat} (hz : sz_ F sl) (hk : k ≤ 6561) (hv : ∀ i, i < 6561 → (nI i ≤ v ↔ i < k)) :
    ∀ d i, i + d = 6561 → (i ≤ k → post (nx_ F (6561 - k) k) (pc, nc, ep, cc, bs, mo, hd, nd, kd, fd, sd, gn, sl)) → (k ≤ i → post (nx_ F d i) (pc, nc, ep, cc, bs, mo, hd, nd, kd, fd, sd, gn, sl)) → wY_next_7 post v pc nc ep cc bs mo hd nd kd fd sd gn sl (d + 1) (nI i) := by
  intro d
  induction d with
  | zero => exact fun i hi h1 h2 => pk_le 6561 i (fun _ => h2 (by omega)) (fun q => absurd q (by omega))
  | succ d ih =>
    intro i hi h1 h2
    refine pk_le 6561 i (fun q => absurd q (by omega)) (fun q => ar_if (hv i (by omega)) (fun t => nm_r (nI_1 i) (ih (i + 1) (by omega) (fun _ => h1 (by omega)) (fun z => ?_))) (fun t => ⟨vp_in_nI (by omega) (by decide), ?_⟩))
    · have e : k = i + 1 := by omega
      have h := h1 (by omega)
      rw [e, show 6561 - (i + 1) = d from by omega] at h
      exact h
    · have h := h2 (by omega)
      rw [nI_clamp (by omega)]
      refine br_c (fun z => nm_r (nI_1 i) ?_) (fun z => ?_)
      · rw [nx_f ((hz i (by omega)).mp z)] at h
        exact ih (i + 1) (by omega) (fun z => absurd z (by omega)) (fun _ => h)
      · rw [nx_t (sz_t hz (by omega) z)] at h
        exact h
theorem qy_vl {post : Int32 → SY → Prop} {F : Nat → Prop} {v : Nat} (hv : v < 4) (hz : sz_ F sl) (h : post (vm_ F v 6561) (pc, nc, ep, cc, bs, mo, hd, nd, kd, fd, sd, gn, sl)) :
    ∀ d i, i + d = 6561 → wY_values_19 post (nI v) pc nc ep cc bs mo hd nd kd fd sd gn sl (d + 1) (vm_ F v i) (nI i) := by
  intro d
  induction d with
  | zero =>
    intro i hi
    have e : i = 6561 := by omega
    subst e
    exact pk_le 6561 6561 (fun _ => h) (fun q => absurd q (by omega))
  | succ d ih =>
    intro i hi
    have k := ih (i + 1) (by omega)
    refine pk_le 6561 i (fun q => absurd q (by omega)) (fun q => ⟨vp_in_nI (by omega) (by decide), ?_⟩)
    rw [nI_clamp (by omega)]
    refine br_c (fun z => ?_) (fun z => ay_digit _ _ _ _ _ _ _ _ _ _ _ _ _ v hv (by omega) ?_)
    · rw [vm_f ((hz i (by omega)).mp z)] at k
      exact nm_r (nI_1 i) k
    · rw [vm_t (sz_t hz (by omega) z)] at k
      exact nm_e (nm_r (nI_1 i) k)
theorem qy_hl {post : Int32 → SY → Prop} {F : Nat → Prop} {v a : Nat} (hv : v < 4) (ha : a < 9) (hz : sz_ F sl) (h : post (nI (cn_ (fun c => F c ∧ dg_ c v = a) 0 6561)) (pc, nc, ep, cc, bs, mo, hd, nd, kd, fd, sd, gn, sl)) :
    ∀ d i, i + d = 6561 → wY_having_33 post (nI v) (nI a) pc nc ep cc bs mo hd nd kd fd sd gn sl (d + 1) (nI (cn_ (fun c => F c ∧ dg_ c v = a) 0 i)) (nI i) := by
  intro d
  induction d with
  | zero =>
    intro i hi
    have e : i = 6561 := by omega
    subst e
    exact pk_le 6561 6561 (fun _ => h) (fun q => absurd q (by omega))
  | succ d ih =>
    intro i hi
    have k := ih (i + 1) (by omega)
    have g := dg_lt (c := i) (by omega) v
    refine pk_le 6561 i (fun q => absurd q (by omega)) (fun q => ⟨vp_in_nI (by omega) (by decide), ?_⟩)
    rw [nI_clamp (by omega)]
    refine br_c (fun z => ?_) (fun z => ay_digit _ _ _ _ _ _ _ _ _ _ _ _ _ v hv (by omega) (pk_eq (dg_ i v) a (fun t => ?_) (fun t => ?_)))
    · rw [cn_f0 (fun y => (hz i (by omega)).mp z y.1)] at k
      exact nm_r (nI_1 i) k
    · rw [cn_t0 ⟨sz_t hz (by omega) z, t⟩] at k
      exact nm_r (nI_1 _) (nm_r (nI_1 i) k)
    · rw [cn_f0 (fun y => t y.2)] at k
      exact nm_r (nI_1 i) k
def mq_ (F : Nat → Prop) (v x w y c : Nat) : Prop := F c ∧ dg_ c v = x ∧ dg_ c w = y
theorem qy_ml {post : Int32 → Prop} {F : Nat → Prop} {v w x y : Nat} (hv : v < 4) (hw : w < 4) (hx : x < 9) (hy : y < 9) (hz : sz_ F sl)
    (h1 : (∃ c, c < 6561 ∧ mq_ F v x w y c) → post 1) (h0 : ¬ (∃ c, c < 6561 ∧ mq_ F v x w y c) → post 0) :
    ∀ d i, i + d = 6561 → (∀ j, j < i → ¬ mq_ F v x w y j) → wY_met_3 post (nI v) (nI x) (nI w) (nI y) pc nc ep cc bs mo hd nd kd fd sd gn sl (d + 1) (nI i) := by
  intro d
  induction d with
  | zero => exact fun i hi hj => pk_le 6561 i (fun _ => h0 (fun ⟨c, hc, k⟩ => hj c (by omega) k)) (fun q => absurd q (by omega))
  | succ d ih =>
    intro i hi hj
    have g1 := dg_lt (c := i) (by omega) v
    have g2 := dg_lt (c := i) (by omega) w
    have no : ¬ mq_ F v x w y i → wY_met_3 post (nI v) (nI x) (nI w) (nI y) pc nc ep cc bs mo hd nd kd fd sd gn sl (d + 1) (nI (i + 1)) := fun n => ih (i + 1) (by omega) (lt_s hj n)
    refine pk_le 6561 i (fun q => absurd q (by omega)) (fun q => ⟨vp_in_nI (by omega) (by decide), ?_⟩)
    rw [nI_clamp (by omega)]
    refine br_c (fun z => nm_r (nI_1 i) (no (fun k => (hz i (by omega)).mp z k.1))) (fun z => ay_digit _ _ _ _ _ _ _ _ _ _ _ _ _ v hv (by omega) ?_)
    refine pk_eq (dg_ i v) x (fun t => ay_digit _ _ _ _ _ _ _ _ _ _ _ _ _ w hw (by omega) ?_) (fun t => nm_r (nI_1 i) (no (fun k => t k.2.1)))
    exact pk_eq (dg_ i w) y (fun r => h1 ⟨i, by omega, sz_t hz (by omega) z, t, r⟩) (fun r => nm_r (nI_1 i) (no (fun k => r k.2.2)))
theorem qy_mt {F : Nat → Prop} {v w x y : Nat} (hx : x < 9) (hy : y < 9) : (∃ c, c < 6561 ∧ mq_ F v x w y c) ↔ mt_ F (pr_ v w) 6561 (9 * x + y) := by
  constructor
  · rintro ⟨c, h1, h2, h3, h4⟩
    exact ⟨c, h1, h2, by unfold pr_; rw [h3, h4]⟩
  · rintro ⟨c, h1, h2, h3⟩
    have g1 := dg_lt h1 v
    have g2 := dg_lt h1 w
    unfold pr_ at h3
    exact ⟨c, h1, h2, by omega, by omega⟩
theorem qy_p38 {post : Int32 → SY → Prop} {J : Int32 → Int32 → Prop} {F : Nat → Prop} {v w x : Nat} (hv : v < 4) (hw : w < 4) (hx : x < 9) (hz : sz_ F sl)
    (hJ : J (nI (cn_ (mt_ F (pr_ v w) 6561) 0 (9 * (x + 1)))) (nI (x + 1))) :
    ∀ d y, y + d = 9 → wY_pairs_38 post J (nI v) (nI w) (nI x) pc nc ep cc bs mo hd nd kd fd sd gn sl (d + 1) (nI (cn_ (mt_ F (pr_ v w) 6561) 0 (9 * x + y))) (nI y) := by
  intro d
  induction d with
  | zero =>
    intro y hy
    have e : 9 * x + y = 9 * (x + 1) := by omega
    rw [e]
    exact pk_le 9 y (fun _ => nm_r (nI_1 x) hJ) (fun q => absurd q (by omega))
  | succ d ih =>
    intro y hy
    have y9 : y < 9 := by omega
    have k := ih (y + 1) (by omega)
    rw [← Nat.add_assoc] at k
    refine pk_le 9 y (fun q => absurd q (by omega)) (fun q => ?_)
    refine Exists.intro 6562 (qy_ml _ _ _ _ _ _ _ _ _ _ _ _ _ hv hw hx y9 hz (fun t => br_f ar_n0 ?_) (fun t => br_t rfl ?_) 6561 0 (by omega) lt_0)
    · rw [cn_t0 ((qy_mt hx y9).mp t)] at k
      exact nm_r (nI_1 _) (nm_r (nI_1 y) k)
    · rw [cn_f0 (fun z => t ((qy_mt hx y9).mpr z))] at k
      exact nm_r (nI_1 y) k
theorem qy_p28 {post : Int32 → SY → Prop} {F : Nat → Prop} {v w : Nat} (hv : v < 4) (hw : w < 4) (hz : sz_ F sl) (h : post (nI (cn_ (mt_ F (pr_ v w) 6561) 0 81)) (pc, nc, ep, cc, bs, mo, hd, nd, kd, fd, sd, gn, sl)) :
    ∀ d x, x + d = 9 → wY_pairs_28 post (nI v) (nI w) pc nc ep cc bs mo hd nd kd fd sd gn sl (d + 1) (nI (cn_ (mt_ F (pr_ v w) 6561) 0 (9 * x))) (nI x) := by
  intro d
  induction d with
  | zero =>
    intro x hx
    have e : x = 9 := by omega
    subst e
    exact pk_le 9 9 (fun _ => h) (fun q => absurd q (by omega))
  | succ d ih =>
    intro x hx
    refine pk_le 9 x (fun q => absurd q (by omega)) (fun q => ⟨10, ?_⟩)
    exact qy_p38 _ _ _ _ _ _ _ _ _ _ _ _ _ hv hw (by omega) hz (ih (x + 1) (by omega)) 9 0 (by omega)
theorem qy_re {hd : Nat → Int32} {i : Nat} (h : hd i = 1) : upd (upd hd i 0) i 1 = hd := by
  funext j
  by_cases e : j = i
  · subst e; rw [pk_us, h]
  · rw [pk_un e, pk_un e]
theorem qy_vtl {post : Int32 → SY → Prop} {all : Nat} {FS : Nat → Nat → Prop} (h01 : ∀ s, hd s = 0 ∨ hd s = 1)
    (hW : ∀ s, s < 256 → ¬ hd s = 0 → ∀ bs mo gn sl, ∀ post : Int32 → SY → Prop, (∀ bs mo gn sl, post (nI (cn_ (FS s) 0 6561)) (pc, nc, ep, cc, bs, mo, upd hd s 0, nd, kd, fd, sd, gn, sl)) → wpY_work post (pc, nc, ep, cc, bs, mo, upd hd s 0, nd, kd, fd, sd, gn, sl))
    (h : ∀ bs mo gn sl, post (nI (cn_ (vt_ hd all FS) 0 256)) (pc, nc, ep, cc, bs, mo, hd, nd, kd, fd, sd, gn, sl)) :
    ∀ d i bs mo gn sl, i + d = 256 → wY_vital_9 post (nI all) (d + 1) (nI (cn_ (vt_ hd all FS) 0 i)) (nI i) pc nc ep cc bs mo hd nd kd fd sd gn sl := by
  intro d
  induction d with
  | zero =>
    intro i bs mo gn sl hi
    have e : i = 256 := by omega
    subst e
    exact pk_le 256 256 (fun _ => h bs mo gn sl) (fun q => absurd q (by omega))
  | succ d ih =>
    intro i bs mo gn sl hi
    have hin : vp_in (nI i) 256 := vp_in_nI (by omega) (by decide)
    refine pk_le 256 i (fun q => absurd q (by omega)) (fun q => ⟨hin, ?_⟩)
    rw [nI_clamp (by omega), ar_v0, ar_v1]
    refine br_c (fun t => nm_r (nI_1 i) ?_) (fun t => ⟨hin, nm_e ?_⟩)
    · have k := ih (i + 1) bs mo gn sl (by omega)
      rw [cn_f0 (fun z => z.1 t)] at k
      exact k
    · have h1 : hd i = 1 := (h01 i).resolve_left t
      refine hW i (by omega) t bs mo gn sl _ (fun bs mo gn sl => br_c (fun r => ⟨hin, nm_r (qy_re h1) (nm_r (nI_1 i) ?_)⟩) (fun r => nm_r (nI_1 _) ⟨hin, nm_r (qy_re h1) (nm_r (nI_1 i) ?_)⟩))
      · have k := ih (i + 1) bs mo gn sl (by omega)
        rw [cn_f0 (fun z => z.2 r)] at k
        exact k
      · have k := ih (i + 1) bs mo gn sl (by omega)
        rw [cn_t0 ⟨t, r⟩] at k
        exact k
end
end
section
def rc_ (n m e : Nat) (pp kk ff ss : Nat → Nat) (ew : Nat → Bool) (ep : Int32) (hd nd kd fd sd : Nat → Int32) : Prop :=
  n ≤ 4 ∧ m ≤ 3 ∧ (∀ i, i < 4 → nd i = nI (pp i) ∧ pp i < 1728) ∧ (∀ i, i < 3 → kd i = nI (kk i) ∧ kk i < 3) ∧ (∀ i, i < 3 → fd i = nI (ff i) ∧ ff i < 12) ∧ (∀ i, i < 3 → sd i = nI (ss i) ∧ ss i < 12) ∧
  ((ep = nI e ∧ e < 1728 ∧ ew = vq_ e) ∨ (ep = -1 ∧ ew = fun _ => false)) ∧ (∀ s, hd s = 0 ∨ hd s = 1)
/-- the same set, query and counts; the class's two masks are those of the query; its scratch, and the reference's, are free -/
def i_Rel (_ : Nat) (u : SX) (v : SY) : Prop := ∃ (pc ep bs mo : Int32) (n m e : Nat) (pp kk ff ss : Nat → Nat) (ew : Nat → Bool) (hd nd kd fd sd ps gn sl : Nat → Int32),
  u = (pc, nI n, ep, nI m, mb_I (nb_ pp n), mb_I ew, hd, nd, kd, fd, sd, ps) ∧ v = (pc, nI n, ep, nI m, bs, mo, hd, nd, kd, fd, sd, gn, sl) ∧ rc_ n m e pp kk ff ss ew ep hd nd kd fd sd
section
variable (pc nc ep cc nv ev bs mo : Int32) (hd nd kd fd sd ps gn sl : Nat → Int32)
theorem re_mk {k n m e : Nat} {pp kk ff ss : Nat → Nat} {ew : Nat → Bool} (R : rc_ n m e pp kk ff ss ew ep hd nd kd fd sd) : i_Rel k (pc, nI n, ep, nI m, mb_I (nb_ pp n), mb_I ew, hd, nd, kd, fd, sd, ps) (pc, nI n, ep, nI m, bs, mo, hd, nd, kd, fd, sd, gn, sl) :=
  ⟨pc, ep, bs, mo, n, m, e, pp, kk, ff, ss, ew, hd, nd, kd, fd, sd, ps, gn, sl, rfl, rfl, R⟩
/-! refusals -/
theorem rx_isS {post : Int32 → Prop} {j : Nat} (hj : j < 2 ^ 31) (h1 : j < 256 → post 1) (h0 : 256 ≤ j → post 0) : wpX_isStatement post (nI j) := pk_lt j 0 (fun z => absurd z (by omega)) (fun _ => pk_le 256 j h0 h1)
theorem rx_isP {post : Int32 → Prop} {j : Nat} (hj : j < 2 ^ 31) (h1 : j < 1728 → post 1) (h0 : 1728 ≤ j → post 0) : wpX_isPattern post (nI j) := pk_lt j 0 (fun z => absurd z (by omega)) (fun _ => pk_le 1728 j h0 h1)
theorem rx_isE {post : Int32 → Prop} {j : Nat} (hj : j < 2 ^ 31) (h1 : j < 12 → post 1) (h0 : 12 ≤ j → post 0) : wpX_isEntry post (nI j) := pk_lt j 0 (fun z => absurd z (by omega)) (fun _ => pk_le 12 j h0 h1)
theorem rx_isV {post : Int32 → Prop} {j : Nat} (hj : j < 2 ^ 31) (h1 : j < 4 → post 1) (h0 : 4 ≤ j → post 0) : wpX_isVariable post (nI j) := pk_lt j 0 (fun z => absurd z (by omega)) (fun _ => pk_le 4 j h0 h1)
theorem ry_bS {post : Int32 → Prop} {j : Nat} (hj : j < 2 ^ 31) (h0 : j < 256 → post 0) (h1 : 256 ≤ j → post 1) : wpY_badStatement post (pc, nc, ep, cc, bs, mo, hd, nd, kd, fd, sd, gn, sl) (nI j) := pk_lt j 0 (fun z => absurd z (by omega)) (fun _ => pk_le j 255 (fun z => h0 (by omega)) (fun z => h1 (by omega)))
theorem ry_bP {post : Int32 → Prop} {j : Nat} (hj : j < 2 ^ 31) (h0 : j < 1728 → post 0) (h1 : 1728 ≤ j → post 1) : wpY_badPattern post (pc, nc, ep, cc, bs, mo, hd, nd, kd, fd, sd, gn, sl) (nI j) := pk_lt j 0 (fun z => absurd z (by omega)) (fun _ => pk_le j 1727 (fun z => h0 (by omega)) (fun z => h1 (by omega)))
theorem ry_bV {post : Int32 → Prop} {j : Nat} (hj : j < 2 ^ 31) (h0 : j < 4 → post 0) (h1 : 4 ≤ j → post 1) : wpY_badVariable post (pc, nc, ep, cc, bs, mo, hd, nd, kd, fd, sd, gn, sl) (nI j) := pk_lt j 0 (fun z => absurd z (by omega)) (fun _ => pk_le j 3 (fun z => h0 (by omega)) (fun z => h1 (by omega)))
theorem re_48 (x : Int32) : x < 48 ↔ x ≤ 47 := by
  rw [Int32.lt_iff_toInt_lt, Int32.le_iff_toInt_le, show (48 : Int32).toInt = 48 from by decide, show (47 : Int32).toInt = 47 from by decide]
  omega
theorem re_48n (x : Int32) : 48 ≤ x ↔ ¬ x < 48 := Int32.not_lt.symm
/-! state and sow -/
def pu_ (s : Int32 × (Nat → Int32)) (j : Nat) : Int32 × (Nat → Int32) := if s.2 j = 0 then (if s.1 < 48 then (s.1 + 1, upd s.2 j 1) else s) else s
def ps_ (s : Int32 × (Nat → Int32)) (j : Nat) : Int32 := if s.2 j = 0 then (if s.1 < 48 then 1 else -2) else 0
theorem pu_h {s : Int32 × (Nat → Int32)} {j : Nat} (h : ¬ s.2 j = 0) : pu_ s j = s ∧ ps_ s j = 0 := ⟨if_neg h, if_neg h⟩
theorem pu_f {s : Int32 × (Nat → Int32)} {j : Nat} (h : s.2 j = 0) (h2 : ¬ s.1 < 48) : pu_ s j = s ∧ ps_ s j = -2 := by
  unfold pu_ ps_; rw [if_pos h, if_neg h2, if_pos h, if_neg h2]; exact ⟨rfl, rfl⟩
theorem pu_n {s : Int32 × (Nat → Int32)} {j : Nat} (h : s.2 j = 0) (h2 : s.1 < 48) : pu_ s j = (s.1 + 1, upd s.2 j 1) ∧ ps_ s j = 1 := by
  unfold pu_ ps_; rw [if_pos h, if_pos h2, if_pos h, if_pos h2]; exact ⟨rfl, rfl⟩
theorem pu_01 {s : Int32 × (Nat → Int32)} {j : Nat} (h : ∀ t, s.2 t = 0 ∨ s.2 t = 1) : ∀ t, (pu_ s j).2 t = 0 ∨ (pu_ s j).2 t = 1 := by
  by_cases h0 : s.2 j = 0
  · by_cases h2 : s.1 < 48
    · rw [(pu_n h0 h2).1]
      intro t
      by_cases e : t = j
      · subst e; right; exact pk_us
      · show upd s.2 j 1 t = 0 ∨ _
        rw [show (s.1 + 1, upd s.2 j 1).2 t = upd s.2 j 1 t from rfl, pk_un e]; exact h t
    · rw [(pu_f h0 h2).1]; exact h
  · rw [(pu_h h0).1]; exact h
theorem rx_put {post : SX → Prop} {j : Nat} (hj : j < 256) (h : post ((pu_ (pc, hd) j).1, nc, ep, cc, nv, ev, (pu_ (pc, hd) j).2, nd, kd, fd, sd, ps)) : wpX_putIn post (pc, nc, ep, cc, nv, ev, hd, nd, kd, fd, sd, ps) (nI j) := by
  have hin : vp_in (nI j) 256 := vp_in_nI hj (by decide)
  refine And.intro hin ?_
  rw [nI_clamp (by omega), ar_v1]
  refine br_c (fun t => br_c (fun q => ?_) (fun q => ⟨hin, ?_⟩)) (fun t => ?_)
  · rw [(pu_f (s := (pc, hd)) t ((re_48n _).mp q)).1] at h; exact h
  · rw [(pu_n (s := (pc, hd)) t (Int32.not_le.mp q)).1] at h; exact nm_e (nm_e h)
  · rw [(pu_h (s := (pc, hd)) t).1] at h; exact h
theorem rx_state {post : Int32 → SX → Prop} {j : Nat} (hj : j < 256) (h : post (ps_ (pc, hd) j) ((pu_ (pc, hd) j).1, nc, ep, cc, nv, ev, (pu_ (pc, hd) j).2, nd, kd, fd, sd, ps)) : wpX_state post (pc, nc, ep, cc, nv, ev, hd, nd, kd, fd, sd, ps) (nI j) := by
  have hin : vp_in (nI j) 256 := vp_in_nI hj (by decide)
  unfold wpX_state
  dsimp only
  refine rx_isS (by omega) (fun _ => br_f ar_n0 ⟨hin, ?_⟩) (fun z => absurd z (by omega))
  rw [nI_clamp (by omega)]
  refine br_c (fun t => br_c (fun q => rx_put _ _ _ _ _ _ _ _ _ _ _ _ hj ?_) (fun q => ?_)) (fun t => ?_)
  · rw [(pu_n (s := (pc, hd)) t q).2] at h; exact h
  · rw [(pu_f (s := (pc, hd)) t q).1, (pu_f (s := (pc, hd)) t q).2] at h; exact h
  · rw [(pu_h (s := (pc, hd)) t).1, (pu_h (s := (pc, hd)) t).2] at h; exact h
theorem ry_state {post : Int32 → SY → Prop} {j : Nat} (hj : j < 256) (h : post (ps_ (pc, hd) j) ((pu_ (pc, hd) j).1, nc, ep, cc, bs, mo, (pu_ (pc, hd) j).2, nd, kd, fd, sd, gn, sl)) : wpY_state post (pc, nc, ep, cc, bs, mo, hd, nd, kd, fd, sd, gn, sl) (nI j) := by
  have hin : vp_in (nI j) 256 := vp_in_nI hj (by decide)
  unfold wpY_state
  dsimp only
  refine ry_bS _ _ _ _ _ _ _ _ _ _ _ _ _ (by omega) (fun _ => br_t rfl ⟨hin, ?_⟩) (fun z => absurd z (by omega))
  rw [nI_clamp (by omega), ar_v1]
  refine br_c (fun t => ar_if (re_48 _).symm (fun q => ⟨hin, ?_⟩) (fun q => ?_)) (fun t => ?_)
  · rw [(pu_n (s := (pc, hd)) t q).1, (pu_n (s := (pc, hd)) t q).2] at h; exact nm_e (nm_e h)
  · rw [(pu_f (s := (pc, hd)) t q).1, (pu_f (s := (pc, hd)) t q).2] at h; exact h
  · rw [(pu_h (s := (pc, hd)) t).1, (pu_h (s := (pc, hd)) t).2] at h; exact h
def sw_ (a b : Nat) (s : Int32 × (Nat → Int32)) : Nat → Int32 × (Nat → Int32)
  | 0 => s
  | k + 1 => pu_ (sw_ a b s k) ((a + k * b) % 256)
theorem sw_01 {a b : Nat} {s : Int32 × (Nat → Int32)} (h : ∀ t, s.2 t = 0 ∨ s.2 t = 1) : ∀ k, ∀ t, (sw_ a b s k).2 t = 0 ∨ (sw_ a b s k).2 t = 1 := by
  intro k
  induction k with
  | zero => exact h
  | succ k ih => exact pu_01 ih
theorem sw_i {a b k : Nat} (ha : a < 256) (hb : b < 256) (hk : k < 48) : (nI a + nI k * nI b) - (nI a + nI k * nI b) / 256 * 256 = nI ((a + k * b) % 256) := by
  rw [pk_mul, nI_add]
  have : k * b ≤ 48 * 256 := Nat.mul_le_mul (by omega) (by omega)
  exact ar_rem 256 (by omega)
theorem rx_sw {post : Int32 → SX → Prop} {a b c : Nat} {s : Int32 × (Nat → Int32)} (ha : a < 256) (hb : b < 256) (hc : c ≤ 48) (h : post (sw_ a b s c).1 ((sw_ a b s c).1, nc, ep, cc, nv, ev, (sw_ a b s c).2, nd, kd, fd, sd, ps)) :
    ∀ d k, k + d = c → wX_sow_40 post (nI a) (nI b) (nI c) (d + 1) (nI k) ((sw_ a b s k).1) nc ep cc nv ev ((sw_ a b s k).2) nd kd fd sd ps := by
  intro d
  induction d with
  | zero =>
    intro k hk
    have e : k = c := by omega
    subst e
    exact pk_le k k (fun _ => h) (fun q => absurd q (by omega))
  | succ d ih =>
    intro k hk
    refine pk_le c k (fun q => absurd q (by omega)) (fun q => ⟨by decide, nm_r (sw_i ha hb (by omega)) ?_⟩)
    exact rx_put _ _ _ _ _ _ _ _ _ _ _ _ (Nat.mod_lt _ (by decide)) (nm_r (nI_1 k) (ih (k + 1) (by omega)))
theorem ry_sw {post : Int32 → SY → Prop} {a b c : Nat} {s : Int32 × (Nat → Int32)} (ha : a < 256) (hb : b < 256) (hc : c ≤ 48) (h : post (sw_ a b s c).1 ((sw_ a b s c).1, nc, ep, cc, bs, mo, (sw_ a b s c).2, nd, kd, fd, sd, gn, sl)) :
    ∀ d k, k + d = c → wY_sow_41 post (nI a) (nI b) (nI c) (d + 1) (nI k) ((sw_ a b s k).1) nc ep cc bs mo ((sw_ a b s k).2) nd kd fd sd gn sl := by
  intro d
  induction d with
  | zero =>
    intro k hk
    have e : k = c := by omega
    subst e
    exact pk_le k k (fun _ => h) (fun q => absurd q (by omega))
  | succ d ih =>
    intro k hk
    refine pk_le c k (fun q => absurd q (by omega)) (fun q => ⟨by decide, ?_⟩)
    rw [sw_i ha hb (by omega)]
    exact ry_state _ _ _ _ _ _ _ _ _ _ _ _ _ (Nat.mod_lt _ (by decide)) (nm_r (nI_1 k) (ih (k + 1) (by omega)))
/-! the masks of the query -/
theorem ax_var1 {post : Int32 → Prop} {e : Nat} (he : e < 12) (h : post (mb_I (fun v => e == 8 + v))) : wpX_variableOf post (nI e) := by
  refine pk_le 8 e (fun z => ?_) (fun z => ?_)
  · rw [ar_x8 z, mb_one _ (by omega)]
    refine ar_p (P := post) (mb_congr (fun v hv => ?_)) h
    rw [Bool.eq_iff_iff, beq_iff_eq, beq_iff_eq]; omega
  · refine ar_p (P := post) (mb_0.symm.trans (mb_congr (fun v hv => ?_))) h
    symm; rw [beq_eq_false_iff_ne]; omega
theorem ax_vars {post : Int32 → Prop} {p : Nat} (hp : p < 1728) (h : post (mb_I (vq_ p))) : wpX_variablesOf post (nI p) := by
  unfold wpX_variablesOf
  refine ax_subj hp (ax_link hp (ax_obj hp (ax_var1 (en_lt hp 0) (ax_var1 (en_lt hp 1) (ax_var1 (en_lt hp 2) ?_)))))
  rw [mb_or, mb_or]
  exact h
theorem rx_nl {post : SX → Prop} {n : Nat} {pp : Nat → Nat} (hn : n ≤ 4) (hnd : ∀ i, i < 4 → nd i = nI (pp i) ∧ pp i < 1728) (h : post (pc, nI n, ep, cc, mb_I (nb_ pp n), ev, hd, nd, kd, fd, sd, ps)) :
    ∀ d i, i + d = n → wX_noteNeededVariables_7 post pc (nI n) ep cc ev hd nd kd fd sd ps (d + 1) (nI i) (mb_I (nb_ pp i)) := by
  intro d
  induction d with
  | zero =>
    intro i hi
    have e : i = n := by omega
    subst e
    exact pk_le i i (fun _ => h) (fun q => absurd q (by omega))
  | succ d ih =>
    intro i hi
    refine pk_le n i (fun q => absurd q (by omega)) (fun q => ⟨vp_in_nI (by omega) (by decide), ?_⟩)
    rw [nI_clamp (by omega), (hnd i (by omega)).1]
    exact ax_vars (hnd i (by omega)).2 (nm_r (mb_or _ _) (nm_r (nI_1 i) (ih (i + 1) (by omega))))
theorem rx_note {post : SX → Prop} {n : Nat} {pp : Nat → Nat} (hn : n ≤ 4) (hnd : ∀ i, i < 4 → nd i = nI (pp i) ∧ pp i < 1728) (h : post (pc, nI n, ep, cc, mb_I (nb_ pp n), ev, hd, nd, kd, fd, sd, ps)) : wpX_noteNeededVariables post (pc, nI n, ep, cc, nv, ev, hd, nd, kd, fd, sd, ps) := by
  refine Exists.intro (n + 1) ?_
  have k := rx_nl pc ep cc ev hd nd kd fd sd ps hn hnd h n 0 (by omega)
  have e0 : mb_I (nb_ pp 0) = 0 := mb_0
  rw [e0] at k
  exact k
/-! matching -/
theorem rx_ml {post : Int32 → Prop} {p : Nat} (hp : p < 1728) (h : post (nI (cn_ (fun s => ¬ hd s = 0 ∧ fy_ s p) 0 256))) :
    ∀ d i, i + d = 256 → wX_matching_13 post (nI p) pc nc ep cc nv ev hd nd kd fd sd ps (d + 1) (nI (cn_ (fun s => ¬ hd s = 0 ∧ fy_ s p) 0 i)) (nI i) := by
  intro d
  induction d with
  | zero =>
    intro i hi
    have e : i = 256 := by omega
    subst e
    exact pk_le 256 256 (fun _ => h) (fun q => absurd q (by omega))
  | succ d ih =>
    intro i hi
    have k := ih (i + 1) (by omega)
    refine pk_le 256 i (fun q => absurd q (by omega)) (fun q => ⟨vp_in_nI (by omega) (by decide), ?_⟩)
    rw [nI_clamp (by omega)]
    refine br_c (fun t => ?_) (fun t => ax_fits (c := 6560) (by omega) hp (by decide) (fun w => br_f ar_n0 ?_) (fun w => br_t rfl ?_))
    · rw [cn_f0 (fun z => z.1 t)] at k
      exact nm_r (nI_1 i) k
    · rw [cn_t0 ⟨t, (pu_match hp (by omega)).mp w⟩] at k
      exact nm_r (nI_1 _) (nm_r (nI_1 i) k)
    · rw [cn_f0 (fun z => w ((pu_match hp (by omega)).mpr z.2))] at k
      exact nm_r (nI_1 i) k
theorem ry_ml {post : Int32 → Prop} {p : Nat} (hp : p < 1728) (h : post (nI (cn_ (fun s => ¬ hd s = 0 ∧ fy_ s p) 0 256))) :
    ∀ d i, i + d = 256 → wY_matching_14 post (nI p) pc nc ep cc bs mo hd nd kd fd sd gn sl (d + 1) (nI (cn_ (fun s => ¬ hd s = 0 ∧ fy_ s p) 0 i)) (nI i) := by
  intro d
  induction d with
  | zero =>
    intro i hi
    have e : i = 256 := by omega
    subst e
    exact pk_le 256 256 (fun _ => h) (fun q => absurd q (by omega))
  | succ d ih =>
    intro i hi
    have k := ih (i + 1) (by omega)
    refine pk_le 256 i (fun q => absurd q (by omega)) (fun q => ⟨vp_in_nI (by omega) (by decide), ?_⟩)
    rw [nI_clamp (by omega)]
    refine br_c (fun t => ?_) (fun t => ay_fits _ _ _ _ _ _ _ _ _ _ _ _ _ (by omega) hp (fun w => br_f ar_n0 ?_) (fun w => br_t rfl ?_))
    · rw [cn_f0 (fun z => z.1 t)] at k
      exact nm_r (nI_1 i) k
    · rw [cn_t0 ⟨t, w⟩] at k
      exact nm_r (nI_1 _) (nm_r (nI_1 i) k)
    · rw [cn_f0 (fun z => w z.2)] at k
      exact nm_r (nI_1 i) k
/-! the class's solves is the reference's table -/
theorem rx_sol {wo : Int32} {hd' : Nat → Int32} {n m e : Nat} {pp kk ff ss : Nat → Nat} {ew : Nat → Bool} (R : rc_ n m e pp kk ff ss ew ep hd nd kd fd sd) (hb : ∀ s, s < 256 → (eb_ hd wo s ↔ hb_ hd' s)) :
    xs_ (pc, nI n, ep, nI m, mb_I (nb_ pp n), mb_I ew, hd, nd, kd, fd, sd, ps) wo (sF_ hd' n pp m kk ff ss ew e) := by
  obtain ⟨hn, hm, hnd, hk, hf, hs, hex, h01⟩ := R
  intro c hc post h1 h0
  have i : sx_ (eb_ hd wo) n pp m kk ff ss (nb_ pp n) ew e c ↔ sF_ hd' n pp m kk ff ss ew e c := (pu_sx hb).trans (pu_main hc (hex.imp (fun h => h.2) (fun h => h.2)))
  refine ax_solves _ _ _ _ _ _ _ _ hn hnd hm hk hf hs hc (fun q => ?_) (fun w => h1 (i.mp w)) (fun w => h0 (fun z => w (i.mpr z)))
  rcases hex with h | ⟨_, rfl⟩
  · exact ⟨h.1, h.2.1⟩
  · exact absurd (mb_congr (fun v hv => by show (!nb_ pp n v) = (!nb_ pp n v && true); rw [Bool.and_true])) q
theorem rx_m1 (s : Nat) (h : s < 256) : eb_ hd (-1) s ↔ hb_ hd s := ⟨fun k => k.1, fun k => ⟨k, ar_ne (by omega)⟩⟩
theorem rx_ws {t : Nat} (ht : t < 256) (s : Nat) (h : s < 256) : eb_ hd (nI t) s ↔ hb_ (upd hd t 0) s := by
  unfold eb_ hb_
  rw [nI_eq (by omega) (by omega)]
  by_cases e : s = t
  · subst e; rw [pk_us]; exact ⟨fun k => absurd rfl k.2, fun k => absurd rfl k⟩
  · rw [pk_un e]; exact ⟨fun k => k.1, fun k => ⟨k, e⟩⟩
theorem ry_work {post : Int32 → SY → Prop} {n m e : Nat} {pp kk ff ss : Nat → Nat} {ew : Nat → Bool} {hd' : Nat → Int32} (R : rc_ n m e pp kk ff ss ew ep hd nd kd fd sd)
    (hp : ∀ bs mo gn sl, sz_ (sF_ hd' n pp m kk ff ss ew e) sl → post (nI (cn_ (sF_ hd' n pp m kk ff ss ew e) 0 6561)) (pc, nI n, ep, nI m, bs, mo, hd', nd, kd, fd, sd, gn, sl)) : wpY_work post (pc, nI n, ep, nI m, bs, mo, hd', nd, kd, fd, sd, gn, sl) := by
  obtain ⟨hn, hm, hnd, hk, hf, hs, hex, h01⟩ := R
  exact ay_work _ _ _ _ _ _ _ _ _ _ _ hn hnd hm hk hf hs hex (fun bs mo gn sl h => hp bs mo gn sl (sz_iv h))
end
end
section
theorem i_up {k : Nat} {u : SX} {v : SY} (h : i_Rel k u v) : i_Rel (k + 4) u v := h
theorem i_vc0 : wpX_init (fun u => wpY_init (fun v => i_Rel 0 u v)) := by
  refine ⟨0, -1, 0, 0, 0, 0, 0, fun _ => 0, fun _ => 0, fun _ => 0, fun _ => 0, fun _ => false, fun _ => 0, fun _ => 0, fun _ => 0, fun _ => 0, fun _ => 0, fun _ => 0, fun _ => 0, fun _ => 0, ?_, rfl, by decide, by decide, fun _ _ => ⟨rfl, Nat.zero_lt_succ 1727⟩, fun _ _ => ⟨rfl, Nat.zero_lt_succ 2⟩, fun _ _ => ⟨rfl, Nat.zero_lt_succ 11⟩, fun _ _ => ⟨rfl, Nat.zero_lt_succ 11⟩, Or.inr ⟨rfl, rfl⟩, fun _ => Or.inl rfl⟩
  rw [show mb_I (nb_ (fun _ => 0) 0) = 0 from mb_0, show mb_I (fun _ => false) = 0 from mb_0]
  rfl
theorem i_vc_state {k : Nat} {u : SX} {v : SY} (I : i_Rel k u v) (hk : k + 4 ≤ 2048) (v1 : Int32) : wpX_state (fun r u' => wpY_state (fun r' v' => r' = r ∧ i_Rel (k + 4) u' v') v v1) u v1 := by
  obtain ⟨pc, ep, bs, mo, n, m, e, pp, kk, ff, ss, ew, hd, nd, kd, fd, sd, ps, gn, sl, rfl, rfl, R⟩ := I
  have J := re_mk (k := k + 4) pc ep bs mo hd nd kd fd sd ps gn sl R
  by_cases h : v1 < 0
  · unfold wpX_state wpY_state
    dsimp only
    exact br_t h (br_t rfl (br_t h (br_f ar_n0 ⟨rfl, J⟩)))
  · obtain ⟨j, hj, rfl⟩ := nI_of h
    by_cases h2 : j < 256
    · refine rx_state _ _ _ _ _ _ _ _ _ _ _ _ h2 (ry_state _ _ _ _ _ _ _ _ _ _ _ _ _ h2 ⟨rfl, re_mk (e := e) (kk := kk) (ff := ff) (ss := ss) _ _ _ _ _ _ _ _ _ _ _ _ ?_⟩)
      obtain ⟨a1, a2, a3, a4, a5, a6, a7, a8⟩ := R
      exact ⟨a1, a2, a3, a4, a5, a6, a7, pu_01 a8⟩
    · unfold wpX_state wpY_state
      dsimp only
      exact rx_isS hj (fun z => absurd z h2) (fun _ => br_t rfl (ry_bS _ _ _ _ _ _ _ _ _ _ _ _ _ hj (fun z => absurd z h2) (fun _ => br_f ar_n0 ⟨rfl, J⟩)))
theorem i_vc_sow {k : Nat} {u : SX} {v : SY} (I : i_Rel k u v) (hk : k + 4 ≤ 2048) (v1 : Int32) (v2 : Int32) (v3 : Int32) : wpX_sow (fun r u' => wpY_sow (fun r' v' => r' = r ∧ i_Rel (k + 4) u' v') v v1 v2 v3) u v1 v2 v3 := by
  obtain ⟨pc, ep, bs, mo, n, m, e, pp, kk, ff, ss, ew, hd, nd, kd, fd, sd, ps, gn, sl, rfl, rfl, R⟩ := I
  have J := re_mk (k := k + 4) pc ep bs mo hd nd kd fd sd ps gn sl R
  unfold wpX_sow wpY_sow
  dsimp only
  by_cases h : v1 < 0
  · exact br_t h (br_t rfl (br_t h (br_f ar_n0 ⟨rfl, J⟩)))
  obtain ⟨a, ha, rfl⟩ := nI_of h
  by_cases h2 : a < 256
  · refine rx_isS ha (fun _ => br_f ar_n0 ?_) (fun z => absurd h2 (by omega))
    by_cases g : v2 < 0
    · exact br_t g (ry_bS _ _ _ _ _ _ _ _ _ _ _ _ _ ha (fun _ => br_t rfl (br_t g ⟨rfl, J⟩)) (fun z => absurd h2 (by omega)))
    obtain ⟨b, hb, rfl⟩ := nI_of g
    refine br_f g (pk_lt b 256 (fun b2 => ?_) (fun b2 => ry_bS _ _ _ _ _ _ _ _ _ _ _ _ _ ha (fun _ => br_t rfl (br_f g (pk_le b 255 (fun z => absurd z (by omega)) (fun _ => ⟨rfl, J⟩)))) (fun z => absurd h2 (by omega))))
    have Y2 : ∀ A : Prop, A → ((nI b ≤ 255 → A) ∧ (¬ nI b ≤ 255 → ((-2 : Int32) = -3 ∧ False))) := fun A x => pk_le b 255 (fun _ => x) (fun z => absurd b2 (by omega))
    by_cases c1 : v3 < 1
    · exact br_t c1 (ry_bS _ _ _ _ _ _ _ _ _ _ _ _ _ ha (fun _ => br_t rfl (br_f g (pk_le b 255 (fun _ => br_t c1 ⟨rfl, J⟩) (fun z => absurd b2 (by omega))))) (fun z => absurd h2 (by omega)))
    by_cases c2 : v3 ≤ 48
    · have c0 : ¬ v3 < 0 := fun z => c1 (Int32.lt_trans z (by decide))
      obtain ⟨c, hc, rfl⟩ := nI_of c0
      have c3 : c ≤ 48 := (nI_leI hc (by decide)).mp c2
      refine br_f c1 (br_t c2 ⟨c + 1, rx_sw _ _ _ _ _ _ _ _ _ _ (s := (pc, hd)) h2 b2 c3 ?_ c 0 (by omega)⟩)
      refine ry_bS _ _ _ _ _ _ _ _ _ _ _ _ _ ha (fun _ => br_t rfl (br_f g (pk_le b 255 (fun _ => br_f c1 (br_t c2 ⟨c + 1, ry_sw _ _ _ _ _ _ _ _ _ _ _ (s := (pc, hd)) h2 b2 c3 ?_ c 0 (by omega)⟩)) (fun z => absurd b2 (by omega))))) (fun z => absurd h2 (by omega))
      refine ⟨rfl, re_mk (e := e) (kk := kk) (ff := ff) (ss := ss) _ _ _ _ _ _ _ _ _ _ _ _ ?_⟩
      obtain ⟨a1, a2, a3, a4, a5, a6, a7, a8⟩ := R
      exact ⟨a1, a2, a3, a4, a5, a6, a7, sw_01 a8 c⟩
    · exact br_f c1 (br_f c2 (ry_bS _ _ _ _ _ _ _ _ _ _ _ _ _ ha (fun _ => br_t rfl (br_f g (pk_le b 255 (fun _ => br_f c1 (br_f c2 ⟨rfl, J⟩)) (fun z => absurd b2 (by omega))))) (fun z => absurd h2 (by omega))))
  · exact rx_isS ha (fun z => absurd z h2) (fun _ => br_t rfl (ry_bS _ _ _ _ _ _ _ _ _ _ _ _ _ ha (fun z => absurd z h2) (fun _ => br_f ar_n0 ⟨rfl, J⟩)))
theorem i_vc_retract {k : Nat} {u : SX} {v : SY} (I : i_Rel k u v) (hk : k + 4 ≤ 2048) (v1 : Int32) : wpX_retract (fun r u' => wpY_retract (fun r' v' => r' = r ∧ i_Rel (k + 4) u' v') v v1) u v1 := by
  obtain ⟨pc, ep, bs, mo, n, m, e, pp, kk, ff, ss, ew, hd, nd, kd, fd, sd, ps, gn, sl, rfl, rfl, R⟩ := I
  have J := re_mk (k := k + 4) pc ep bs mo hd nd kd fd sd ps gn sl R
  unfold wpX_retract wpY_retract
  dsimp only
  by_cases h : v1 < 0
  · exact br_t h (br_t rfl (br_t h (br_f ar_n0 ⟨rfl, J⟩)))
  obtain ⟨j, hj, rfl⟩ := nI_of h
  by_cases h2 : j < 256
  · have hin : vp_in (nI j) 256 := vp_in_nI h2 (by decide)
    rw [nI_clamp (by omega), ar_v0]
    refine rx_isS hj (fun _ => br_f ar_n0 ⟨hin, br_c (fun t => ?_) (fun t => ⟨hin, nm_e (nm_e ?_)⟩)⟩) (fun z => absurd h2 (by omega))
    · exact ry_bS _ _ _ _ _ _ _ _ _ _ _ _ _ hj (fun _ => br_t rfl ⟨hin, br_t t ⟨rfl, J⟩⟩) (fun z => absurd h2 (by omega))
    · refine ry_bS _ _ _ _ _ _ _ _ _ _ _ _ _ hj (fun _ => br_t rfl ⟨hin, br_f t ⟨hin, nm_e (nm_e ⟨rfl, re_mk (e := e) (kk := kk) (ff := ff) (ss := ss) _ _ _ _ _ _ _ _ _ _ _ _ ?_⟩)⟩⟩) (fun z => absurd h2 (by omega))
      obtain ⟨a1, a2, a3, a4, a5, a6, a7, a8⟩ := R
      refine ⟨a1, a2, a3, a4, a5, a6, a7, fun s => ?_⟩
      by_cases e : s = j
      · subst e; exact Or.inl pk_us
      · rw [pk_un e]; exact a8 s
  · exact rx_isS hj (fun z => absurd z h2) (fun _ => br_t rfl (ry_bS _ _ _ _ _ _ _ _ _ _ _ _ _ hj (fun z => absurd z h2) (fun _ => br_f ar_n0 ⟨rfl, J⟩)))
theorem re_upd {a : Nat → Int32} {f : Nat → Nat} {N B n x : Nat} (h : ∀ i, i < N → a i = nI (f i) ∧ f i < B) (hx : x < B) : ∀ i, i < N → upd a n (nI x) i = nI (if i = n then x else f i) ∧ (if i = n then x else f i) < B := by
  intro i hi
  by_cases e : i = n
  · subst e; rw [pk_us, if_pos rfl]; exact ⟨rfl, hx⟩
  · rw [pk_un e, if_neg e]; exact h i hi
theorem i_vc_need {k : Nat} {u : SX} {v : SY} (I : i_Rel k u v) (hk : k + 4 ≤ 2048) (v1 : Int32) : wpX_need (fun r u' => wpY_need (fun r' v' => r' = r ∧ i_Rel (k + 4) u' v') v v1) u v1 := by
  obtain ⟨pc, ep, bs, mo, n, m, e, pp, kk, ff, ss, ew, hd, nd, kd, fd, sd, ps, gn, sl, rfl, rfl, R⟩ := I
  have J := re_mk (k := k + 4) pc ep bs mo hd nd kd fd sd ps gn sl R
  obtain ⟨a1, a2, a3, a4, a5, a6, a7, a8⟩ := R
  unfold wpX_need wpY_need
  dsimp only
  by_cases h : v1 < 0
  · exact br_t h (br_t rfl (br_t h (br_f ar_n0 ⟨rfl, J⟩)))
  obtain ⟨j, hj, rfl⟩ := nI_of h
  by_cases h2 : j < 1728
  · refine rx_isP hj (fun _ => br_f ar_n0 ?_) (fun z => absurd h2 (by omega))
    refine pk_lt n 4 (fun n4 => ?_) (fun n4 => ry_bP _ _ _ _ _ _ _ _ _ _ _ _ _ hj (fun _ => br_t rfl (pk_le n 3 (fun z => absurd n4 (by omega)) (fun _ => ⟨rfl, J⟩))) (fun z => absurd h2 (by omega)))
    have hin : vp_in (nI n) 4 := vp_in_nI n4 (by decide)
    rw [nI_clamp (by omega)]
    have a3' := re_upd (n := n) a3 h2
    refine ⟨hin, nm_e (nm_r (nI_1 n) (rx_note _ _ _ _ _ _ _ _ _ _ _ (by omega) a3' ?_))⟩
    refine ry_bP _ _ _ _ _ _ _ _ _ _ _ _ _ hj (fun _ => br_t rfl (pk_le n 3 (fun z => ⟨hin, nm_e (nm_r (nI_1 n) ⟨rfl, ?_⟩)⟩) (fun z => absurd n4 (by omega)))) (fun z => absurd h2 (by omega))
    exact re_mk _ _ _ _ _ _ _ _ _ _ _ _ ⟨by omega, a2, a3', a4, a5, a6, a7, a8⟩
  · exact rx_isP hj (fun z => absurd z h2) (fun _ => br_t rfl (ry_bP _ _ _ _ _ _ _ _ _ _ _ _ _ hj (fun z => absurd z h2) (fun _ => br_f ar_n0 ⟨rfl, J⟩)))
theorem i_vc_extra {k : Nat} {u : SX} {v : SY} (I : i_Rel k u v) (hk : k + 4 ≤ 2048) (v1 : Int32) : wpX_extra (fun r u' => wpY_extra (fun r' v' => r' = r ∧ i_Rel (k + 4) u' v') v v1) u v1 := by
  obtain ⟨pc, ep, bs, mo, n, m, e, pp, kk, ff, ss, ew, hd, nd, kd, fd, sd, ps, gn, sl, rfl, rfl, R⟩ := I
  have J := re_mk (k := k + 4) pc ep bs mo hd nd kd fd sd ps gn sl R
  obtain ⟨a1, a2, a3, a4, a5, a6, a7, a8⟩ := R
  unfold wpX_extra wpY_extra
  dsimp only
  by_cases h : v1 < 0
  · exact br_t h (br_t rfl (br_t h (br_f ar_n0 ⟨rfl, J⟩)))
  obtain ⟨j, hj, rfl⟩ := nI_of h
  by_cases h2 : j < 1728
  · refine rx_isP hj (fun _ => br_f ar_n0 ?_) (fun z => absurd h2 (by omega))
    have E : i_Rel (k + 4) (pc, nI n, nI j, nI m, mb_I (nb_ pp n), mb_I (vq_ j), hd, nd, kd, fd, sd, ps) (pc, nI n, nI j, nI m, bs, mo, hd, nd, kd, fd, sd, gn, sl) :=
      re_mk _ _ _ _ _ _ _ _ _ _ _ _ ⟨a1, a2, a3, a4, a5, a6, Or.inl ⟨rfl, h2, rfl⟩, a8⟩
    rcases a7 with ⟨rfl, he, _⟩ | ⟨rfl, _⟩
    · refine br_f (ar_ne (by omega)) (ax_vars h2 ?_)
      exact ry_bP _ _ _ _ _ _ _ _ _ _ _ _ _ hj (fun _ => br_t rfl (br_t (nI_pos' (by omega)) ⟨rfl, E⟩)) (fun z => absurd h2 (by omega))
    · refine br_t rfl (ax_vars h2 ?_)
      exact ry_bP _ _ _ _ _ _ _ _ _ _ _ _ _ hj (fun _ => br_t rfl (br_f (by decide) ⟨rfl, E⟩)) (fun z => absurd h2 (by omega))
  · exact rx_isP hj (fun z => absurd z h2) (fun _ => br_t rfl (ry_bP _ _ _ _ _ _ _ _ _ _ _ _ _ hj (fun z => absurd z h2) (fun _ => br_f ar_n0 ⟨rfl, J⟩)))
theorem i_vc_condition {k : Nat} {u : SX} {v : SY} (I : i_Rel k u v) (hk : k + 4 ≤ 2048) (v1 : Int32) (v2 : Int32) (v3 : Int32) : wpX_condition (fun r u' => wpY_condition (fun r' v' => r' = r ∧ i_Rel (k + 4) u' v') v v1 v2 v3) u v1 v2 v3 := by
  obtain ⟨pc, ep, bs, mo, n, m, e, pp, kk, ff, ss, ew, hd, nd, kd, fd, sd, ps, gn, sl, rfl, rfl, R⟩ := I
  have J := re_mk (k := k + 4) pc ep bs mo hd nd kd fd sd ps gn sl R
  obtain ⟨a1, a2, a3, a4, a5, a6, a7, a8⟩ := R
  unfold wpX_condition wpY_condition
  dsimp only
  by_cases h : v1 < 0
  · exact br_t h (br_t h ⟨rfl, J⟩)
  obtain ⟨x, hx, rfl⟩ := nI_of h
  refine br_f h (pk_lt x 3 (fun x3 => ?_) (fun x3 => br_f h (pk_le x 2 (fun z => absurd z (by omega)) (fun _ => ⟨rfl, J⟩))))
  by_cases g : v2 < 0
  · exact br_t g (br_t rfl (br_f h (pk_le x 2 (fun _ => br_t g ⟨rfl, J⟩) (fun z => absurd x3 (by omega)))))
  obtain ⟨y, hy, rfl⟩ := nI_of g
  by_cases y2 : y < 12
  · refine rx_isE hy (fun _ => br_f ar_n0 ?_) (fun z => absurd y2 (by omega))
    by_cases f : v3 < 0
    · exact br_t f (br_t rfl (br_f h (pk_le x 2 (fun _ => br_f g (pk_lt 11 y (fun z => absurd y2 (by omega)) (fun _ => br_t f ⟨rfl, J⟩))) (fun z => absurd x3 (by omega)))))
    obtain ⟨w, hw, rfl⟩ := nI_of f
    by_cases w2 : w < 12
    · refine rx_isE hw (fun _ => br_f ar_n0 ?_) (fun z => absurd w2 (by omega))
      refine pk_lt m 3 (fun m3 => ?_) (fun m3 => br_f h (pk_le x 2 (fun _ => br_f g (pk_lt 11 y (fun z => absurd y2 (by omega)) (fun _ => br_f f (pk_le w 11 (fun _ => pk_le m 2 (fun z => absurd z (by omega)) (fun _ => ⟨rfl, J⟩)) (fun z => absurd w2 (by omega)))))) (fun z => absurd x3 (by omega))))
      have hin : vp_in (nI m) 3 := vp_in_nI m3 (by decide)
      rw [nI_clamp (by omega)]
      refine ⟨hin, nm_e ⟨hin, nm_e ⟨hin, nm_e (nm_r (nI_1 m) ?_)⟩⟩⟩
      refine br_f h (pk_le x 2 (fun _ => br_f g (pk_lt 11 y (fun z => absurd y2 (by omega)) (fun _ => br_f f (pk_le w 11 (fun _ => pk_le m 2 (fun z => ⟨hin, nm_e ⟨hin, nm_e ⟨hin, nm_e (nm_r (nI_1 m) ⟨rfl, ?_⟩)⟩⟩⟩) (fun z => absurd m3 (by omega))) (fun z => absurd w2 (by omega)))))) (fun z => absurd x3 (by omega)))
      exact re_mk _ _ _ _ _ _ _ _ _ _ _ _ ⟨a1, by omega, a3, re_upd a4 x3, re_upd a5 y2, re_upd a6 w2, a7, a8⟩
    · exact rx_isE hw (fun z => absurd z w2) (fun _ => br_t rfl (br_f h (pk_le x 2 (fun _ => br_f g (pk_lt 11 y (fun z => absurd y2 (by omega)) (fun _ => br_f f (pk_le w 11 (fun z => absurd z (by omega)) (fun _ => ⟨rfl, J⟩))))) (fun z => absurd x3 (by omega)))))
  · exact rx_isE hy (fun z => absurd z y2) (fun _ => br_t rfl (br_f h (pk_le x 2 (fun _ => br_f g (pk_lt 11 y (fun _ => ⟨rfl, J⟩) (fun z => absurd z (by omega)))) (fun z => absurd x3 (by omega)))))
theorem i_vc_drop {k : Nat} {u : SX} {v : SY} (I : i_Rel k u v) (hk : k + 4 ≤ 2048) : wpX_drop (fun r u' => wpY_drop (fun r' v' => r' = r ∧ i_Rel (k + 4) u' v') v) u := by
  obtain ⟨pc, ep, bs, mo, n, m, e, pp, kk, ff, ss, ew, hd, nd, kd, fd, sd, ps, gn, sl, rfl, rfl, R⟩ := I
  have J := re_mk (k := k + 4) pc ep bs mo hd nd kd fd sd ps gn sl R
  obtain ⟨a1, a2, a3, a4, a5, a6, a7, a8⟩ := R
  unfold wpX_drop wpY_drop
  dsimp only
  cases n with
  | zero => exact br_t rfl (br_t rfl ⟨rfl, J⟩)
  | succ n =>
    have n0 : ¬ nI (n + 1) = 0 := nI_ne0 (by omega) (by omega)
    refine br_f n0 (nm_r (nI_pred n) (rx_note _ _ _ _ _ _ _ _ _ _ _ (by omega) a3 ?_))
    exact br_f n0 (nm_r (nI_pred n) ⟨rfl, re_mk _ _ _ _ _ _ _ _ _ _ _ _ ⟨by omega, a2, a3, a4, a5, a6, a7, a8⟩⟩)
theorem i_vc_clear {k : Nat} {u : SX} {v : SY} (I : i_Rel k u v) (hk : k + 4 ≤ 2048) : wpX_clear (fun r u' => wpY_clear (fun r' v' => r' = r ∧ i_Rel (k + 4) u' v') v) u := by
  obtain ⟨pc, ep, bs, mo, n, m, e, pp, kk, ff, ss, ew, hd, nd, kd, fd, sd, ps, gn, sl, rfl, rfl, R⟩ := I
  obtain ⟨a1, a2, a3, a4, a5, a6, a7, a8⟩ := R
  have E := re_mk (k := k + 4) (n := 0) (m := 0) (e := 0) (ew := fun _ => false) (pp := pp) pc (-1) bs mo hd nd kd fd sd ps gn sl ⟨by decide, by decide, a3, a4, a5, a6, Or.inr ⟨rfl, rfl⟩, a8⟩
  rw [show mb_I (nb_ pp 0) = 0 from mb_0, show mb_I (fun _ => false) = 0 from mb_0] at E
  unfold wpX_clear wpY_clear
  exact ⟨rfl, E⟩
theorem i_vc_statements {k : Nat} {u : SX} {v : SY} (I : i_Rel k u v) (hk : k + 4 ≤ 2048) : wpX_statements (fun r => wpY_statements (fun r' => r' = r ∧ i_Rel (k + 4) u v) v) u := by
  have I' := I
  obtain ⟨pc, ep, bs, mo, n, m, e, pp, kk, ff, ss, ew, hd, nd, kd, fd, sd, ps, gn, sl, rfl, rfl, R⟩ := I
  exact ⟨rfl, I'⟩
theorem i_vc_matching {k : Nat} {u : SX} {v : SY} (I : i_Rel k u v) (hk : k + 4 ≤ 2048) (v1 : Int32) : wpX_matching (fun r => wpY_matching (fun r' => r' = r ∧ i_Rel (k + 4) u v) v v1) u v1 := by
  obtain ⟨pc, ep, bs, mo, n, m, e, pp, kk, ff, ss, ew, hd, nd, kd, fd, sd, ps, gn, sl, rfl, rfl, R⟩ := I
  have J := re_mk (k := k + 4) pc ep bs mo hd nd kd fd sd ps gn sl R
  unfold wpX_matching wpY_matching
  dsimp only
  by_cases h : v1 < 0
  · exact br_t h (br_t rfl (br_t h (br_f ar_n0 ⟨rfl, J⟩)))
  obtain ⟨j, hj, rfl⟩ := nI_of h
  by_cases h2 : j < 1728
  · refine rx_isP hj (fun _ => br_f ar_n0 ⟨257, rx_ml _ _ _ _ _ _ _ _ _ _ _ _ h2 ?_ 256 0 (by omega)⟩) (fun z => absurd h2 (by omega))
    exact ry_bP _ _ _ _ _ _ _ _ _ _ _ _ _ hj (fun _ => br_t rfl ⟨257, ry_ml _ _ _ _ _ _ _ _ _ _ _ _ _ h2 ⟨rfl, J⟩ 256 0 (by omega)⟩) (fun z => absurd h2 (by omega))
  · exact rx_isP hj (fun z => absurd z h2) (fun _ => br_t rfl (ry_bP _ _ _ _ _ _ _ _ _ _ _ _ _ hj (fun z => absurd z h2) (fun _ => br_f ar_n0 ⟨rfl, J⟩)))
end
section
theorem i_vc_solutions {k : Nat} {u : SX} {v : SY} (I : i_Rel k u v) (hk : k + 4 ≤ 2048) : wpX_solutions (fun r => wpY_solutions (fun r' v' => r' = r ∧ i_Rel (k + 4) u v') v) u := by
  obtain ⟨pc, ep, bs, mo, n, m, e, pp, kk, ff, ss, ew, hd, nd, kd, fd, sd, ps, gn, sl, rfl, rfl, R⟩ := I
  unfold wpX_solutions wpY_solutions
  dsimp only
  refine qx_count _ _ _ _ _ _ _ _ _ _ _ _ (rx_sol _ _ _ _ _ _ _ _ R (rx_m1 hd)) ?_
  exact ry_work _ _ _ _ _ _ _ _ _ _ _ R (fun bs mo gn sl h => ⟨rfl, re_mk _ _ _ _ _ _ _ _ _ _ _ _ R⟩)
theorem i_vc_next {k : Nat} {u : SX} {v : SY} (I : i_Rel k u v) (hk : k + 4 ≤ 2048) (v1 : Int32) : wpX_next (fun r => wpY_next (fun r' v' => r' = r ∧ i_Rel (k + 4) u v') v v1) u v1 := by
  obtain ⟨pc, ep, bs, mo, n, m, e, pp, kk, ff, ss, ew, hd, nd, kd, fd, sd, ps, gn, sl, rfl, rfl, R⟩ := I
  have hX := rx_sol pc ep hd nd kd fd sd ps R (rx_m1 hd)
  have Y : ∀ (r : Int32) (q : Nat), q ≤ 6561 → (∀ i, i < 6561 → (nI i ≤ v1 ↔ i < q)) → r = nx_ (sF_ hd n pp m kk ff ss ew e) (6561 - q) q → wpY_next (fun r' v' => r' = r ∧ i_Rel (k + 4) (pc, nI n, ep, nI m, mb_I (nb_ pp n), mb_I ew, hd, nd, kd, fd, sd, ps) v') (pc, nI n, ep, nI m, bs, mo, hd, nd, kd, fd, sd, gn, sl) v1 := by
    intro r q hq hv hr
    unfold wpY_next
    dsimp only
    refine ry_work _ _ _ _ _ _ _ _ _ _ _ R (fun bs mo gn sl h => ⟨6562, ?_⟩)
    refine qy_nl _ _ _ _ _ _ _ _ _ _ _ _ _ h hq hv 6561 0 (by omega) (fun _ => ⟨hr.symm, re_mk _ _ _ _ _ _ _ _ _ _ _ _ R⟩) (fun z => ?_)
    have q0 : q = 0 := by omega
    subst q0
    exact ⟨hr.symm, re_mk _ _ _ _ _ _ _ _ _ _ _ _ R⟩
  unfold wpX_next
  dsimp only
  by_cases h : v1 < 0
  · have h2 : v1 < 6561 := Int32.lt_trans h (by decide)
    have h3 : ¬ 0 ≤ v1 := Int32.not_le.mpr h
    refine br_t h2 (br_f h3 ⟨6562, qx_nl _ _ _ _ _ _ _ _ _ _ _ _ hX 6561 0 (by omega) (Y _ 0 (by omega) (fun i hi => ⟨fun z => absurd (Int32.le_trans (nI_pos' (by omega)) z) h3, fun z => absurd z (by omega)⟩) rfl)⟩)
  · obtain ⟨a, ha, rfl⟩ := nI_of h
    have h3 : 0 ≤ nI a := nI_pos' ha
    refine pk_lt a 6561 (fun a2 => br_t h3 (nm_r (nI_1 a) ⟨6561 - (a + 1) + 1, ?_⟩)) (fun a2 => Y _ 6561 (by omega) (fun i hi => ?_) rfl)
    · refine qx_nl _ _ _ _ _ _ _ _ _ _ _ _ hX (6561 - (a + 1)) (a + 1) (by omega) (Y _ (a + 1) (by omega) (fun i hi => ?_) rfl)
      rw [nI_leI (by omega) (by omega)]; omega
    · rw [nI_leI (by omega) (by omega)]; omega
theorem i_vc_isSolution {k : Nat} {u : SX} {v : SY} (I : i_Rel k u v) (hk : k + 4 ≤ 2048) (v1 : Int32) : wpX_isSolution (fun r => wpY_isSolution (fun r' v' => r' = r ∧ i_Rel (k + 4) u v') v v1) u v1 := by
  obtain ⟨pc, ep, bs, mo, n, m, e, pp, kk, ff, ss, ew, hd, nd, kd, fd, sd, ps, gn, sl, rfl, rfl, R⟩ := I
  have J := re_mk (k := k + 4) pc ep bs mo hd nd kd fd sd ps gn sl R
  have hX := rx_sol pc ep hd nd kd fd sd ps R (rx_m1 hd)
  unfold wpX_isSolution wpY_isSolution
  dsimp only
  by_cases h : v1 < 0
  · exact br_t h (br_t h ⟨rfl, J⟩)
  obtain ⟨a, ha, rfl⟩ := nI_of h
  refine br_f h (pk_lt a 6561 (fun a2 => ?_) (fun a2 => br_f h (pk_le a 6560 (fun z => absurd z (by omega)) (fun _ => ⟨rfl, J⟩))))
  have hin : vp_in (nI a) 6561 := vp_in_nI a2 (by decide)
  rw [nI_clamp (by omega)]
  refine hX a a2 _ (fun w => br_f ar_n0 (br_f h (pk_le a 6560 (fun _ => ?_) (fun z => absurd a2 (by omega))))) (fun w => br_t rfl (br_f h (pk_le a 6560 (fun _ => ?_) (fun z => absurd a2 (by omega)))))
  · exact ry_work _ _ _ _ _ _ _ _ _ _ _ R (fun bs mo gn sl hz => ⟨hin, br_f (fun z => (hz a a2).mp z w) ⟨rfl, re_mk _ _ _ _ _ _ _ _ _ _ _ _ R⟩⟩)
  · exact ry_work _ _ _ _ _ _ _ _ _ _ _ R (fun bs mo gn sl hz => ⟨hin, br_t ((hz a a2).mpr w) ⟨rfl, re_mk _ _ _ _ _ _ _ _ _ _ _ _ R⟩⟩)
theorem i_vc_values {k : Nat} {u : SX} {v : SY} (I : i_Rel k u v) (hk : k + 4 ≤ 2048) (v1 : Int32) : wpX_values (fun r => wpY_values (fun r' v' => r' = r ∧ i_Rel (k + 4) u v') v v1) u v1 := by
  obtain ⟨pc, ep, bs, mo, n, m, e, pp, kk, ff, ss, ew, hd, nd, kd, fd, sd, ps, gn, sl, rfl, rfl, R⟩ := I
  have J := re_mk (k := k + 4) pc ep bs mo hd nd kd fd sd ps gn sl R
  have hX := rx_sol pc ep hd nd kd fd sd ps R (rx_m1 hd)
  unfold wpX_values wpY_values
  dsimp only
  by_cases h : v1 < 0
  · exact br_t h (br_t rfl (br_t h (br_f ar_n0 ⟨rfl, J⟩)))
  obtain ⟨a, ha, rfl⟩ := nI_of h
  by_cases h2 : a < 4
  · refine rx_isV ha (fun _ => br_f ar_n0 ⟨6562, qx_vl _ _ _ _ _ _ _ _ _ _ _ _ h2 hX ?_ 6561 0 (by omega)⟩) (fun z => absurd h2 (by omega))
    refine ry_bV _ _ _ _ _ _ _ _ _ _ _ _ _ ha (fun _ => br_t rfl (ry_work _ _ _ _ _ _ _ _ _ _ _ R (fun bs mo gn sl hz => ⟨6562, ?_⟩))) (fun z => absurd h2 (by omega))
    exact qy_vl _ _ _ _ _ _ _ _ _ _ _ _ _ h2 hz ⟨rfl, re_mk _ _ _ _ _ _ _ _ _ _ _ _ R⟩ 6561 0 (by omega)
  · exact rx_isV ha (fun z => absurd z h2) (fun _ => br_t rfl (ry_bV _ _ _ _ _ _ _ _ _ _ _ _ _ ha (fun z => absurd z h2) (fun _ => br_f ar_n0 ⟨rfl, J⟩)))
theorem i_vc_having {k : Nat} {u : SX} {v : SY} (I : i_Rel k u v) (hk : k + 4 ≤ 2048) (v1 : Int32) (v2 : Int32) : wpX_having (fun r => wpY_having (fun r' v' => r' = r ∧ i_Rel (k + 4) u v') v v1 v2) u v1 v2 := by
  obtain ⟨pc, ep, bs, mo, n, m, e, pp, kk, ff, ss, ew, hd, nd, kd, fd, sd, ps, gn, sl, rfl, rfl, R⟩ := I
  have J := re_mk (k := k + 4) pc ep bs mo hd nd kd fd sd ps gn sl R
  have hX := rx_sol pc ep hd nd kd fd sd ps R (rx_m1 hd)
  unfold wpX_having wpY_having
  dsimp only
  by_cases h : v1 < 0
  · exact br_t h (br_t rfl (br_t h (br_f ar_n0 ⟨rfl, J⟩)))
  obtain ⟨a, ha, rfl⟩ := nI_of h
  by_cases h2 : a < 4
  · refine rx_isV ha (fun _ => br_f ar_n0 ?_) (fun z => absurd h2 (by omega))
    by_cases g : v2 < 0
    · exact br_t g (ry_bV _ _ _ _ _ _ _ _ _ _ _ _ _ ha (fun _ => br_t rfl (br_t g ⟨rfl, J⟩)) (fun z => absurd h2 (by omega)))
    obtain ⟨b, hb, rfl⟩ := nI_of g
    refine br_f g (pk_le b 8 (fun b2 => ⟨6562, qx_hl _ _ _ _ _ _ _ _ _ _ _ _ h2 (by omega) hX ?_ 6561 0 (by omega)⟩) (fun b2 => ?_))
    · refine ry_bV _ _ _ _ _ _ _ _ _ _ _ _ _ ha (fun _ => br_t rfl (br_f g (pk_le b 8 (fun _ => ry_work _ _ _ _ _ _ _ _ _ _ _ R (fun bs mo gn sl hz => ⟨6562, ?_⟩)) (fun z => absurd b2 (by omega))))) (fun z => absurd h2 (by omega))
      exact qy_hl _ _ _ _ _ _ _ _ _ _ _ _ _ h2 (by omega) hz ⟨rfl, re_mk _ _ _ _ _ _ _ _ _ _ _ _ R⟩ 6561 0 (by omega)
    · exact ry_bV _ _ _ _ _ _ _ _ _ _ _ _ _ ha (fun _ => br_t rfl (br_f g (pk_le b 8 (fun z => absurd z (by omega)) (fun _ => ⟨rfl, J⟩)))) (fun z => absurd h2 (by omega))
  · exact rx_isV ha (fun z => absurd z h2) (fun _ => br_t rfl (ry_bV _ _ _ _ _ _ _ _ _ _ _ _ _ ha (fun z => absurd z h2) (fun _ => br_f ar_n0 ⟨rfl, J⟩)))
theorem i_vc_pairs {k : Nat} {u : SX} {v : SY} (I : i_Rel k u v) (hk : k + 4 ≤ 2048) (v1 : Int32) (v2 : Int32) : wpX_pairs (fun r u' => wpY_pairs (fun r' v' => r' = r ∧ i_Rel (k + 4) u' v') v v1 v2) u v1 v2 := by
  obtain ⟨pc, ep, bs, mo, n, m, e, pp, kk, ff, ss, ew, hd, nd, kd, fd, sd, ps, gn, sl, rfl, rfl, R⟩ := I
  have J := re_mk (k := k + 4) pc ep bs mo hd nd kd fd sd ps gn sl R
  have hX := fun ps => rx_sol pc ep hd nd kd fd sd ps R (rx_m1 hd)
  unfold wpX_pairs wpY_pairs
  dsimp only
  by_cases h : v1 < 0
  · exact br_t h (br_t rfl (br_t h (br_f ar_n0 ⟨rfl, J⟩)))
  obtain ⟨a, ha, rfl⟩ := nI_of h
  by_cases h2 : a < 4
  · refine rx_isV ha (fun _ => br_f ar_n0 ?_) (fun z => absurd h2 (by omega))
    by_cases g : v2 < 0
    · exact br_t g (br_t rfl (ry_bV _ _ _ _ _ _ _ _ _ _ _ _ _ ha (fun _ => br_t rfl (br_t g (br_f ar_n0 ⟨rfl, J⟩))) (fun z => absurd h2 (by omega))))
    obtain ⟨b, hb, rfl⟩ := nI_of g
    by_cases b2 : b < 4
    · refine rx_isV hb (fun _ => br_f ar_n0 ?_) (fun z => absurd b2 (by omega))
      refine Exists.intro 82 (qx_fl _ _ _ _ _ _ _ _ _ _ _ (fun ps hz => ⟨6562, ?_⟩) 81 0 ps (by omega) lt_0)
      have c0 : cn_ (mt_ (sF_ hd n pp m kk ff ss ew e) (pr_ a b) 0) 0 81 = 0 := cn_none 81 (fun c _ ⟨d, h1, _⟩ => absurd h1 (by omega))
      have K := qx_pl (post := fun r u' => wpY_pairs (fun r' v' => r' = r ∧ i_Rel (k + 4) u' v') (pc, nI n, ep, nI m, bs, mo, hd, nd, kd, fd, sd, gn, sl) (nI a) (nI b)) _ _ _ _ _ _ _ _ _ _ _ h2 b2 hX (fun ps => ?_) 6561 0 ps (by omega) (fun q hq => ⟨fun _ ⟨d, h1, _⟩ => absurd h1 (by omega), fun _ => hz q hq⟩)
      · rw [c0] at K
        unfold wpY_pairs at K
        dsimp only at K
        exact K
      · unfold wpY_pairs
        dsimp only
        refine ry_bV _ _ _ _ _ _ _ _ _ _ _ _ _ ha (fun _ => br_t rfl (ry_bV _ _ _ _ _ _ _ _ _ _ _ _ _ hb (fun _ => br_t rfl (ry_work _ _ _ _ _ _ _ _ _ _ _ R (fun bs mo gn sl hz => ⟨10, ?_⟩))) (fun z => absurd b2 (by omega)))) (fun z => absurd h2 (by omega))
        exact qy_p28 _ _ _ _ _ _ _ _ _ _ _ _ _ h2 b2 hz ⟨rfl, re_mk _ _ _ _ _ _ _ _ _ _ _ _ R⟩ 9 0 (by omega)
    · exact rx_isV hb (fun z => absurd z b2) (fun _ => br_t rfl (ry_bV _ _ _ _ _ _ _ _ _ _ _ _ _ ha (fun _ => br_t rfl (ry_bV _ _ _ _ _ _ _ _ _ _ _ _ _ hb (fun z => absurd z b2) (fun _ => br_f ar_n0 ⟨rfl, J⟩))) (fun z => absurd h2 (by omega))))
  · exact rx_isV ha (fun z => absurd z h2) (fun _ => br_t rfl (ry_bV _ _ _ _ _ _ _ _ _ _ _ _ _ ha (fun z => absurd z h2) (fun _ => br_f ar_n0 ⟨rfl, J⟩)))
theorem i_vc_vital {k : Nat} {u : SX} {v : SY} (I : i_Rel k u v) (hk : k + 4 ≤ 2048) : wpX_vital (fun r => wpY_vital (fun r' v' => r' = r ∧ i_Rel (k + 4) u v') v) u := by
  obtain ⟨pc, ep, bs, mo, n, m, e, pp, kk, ff, ss, ew, hd, nd, kd, fd, sd, ps, gn, sl, rfl, rfl, R⟩ := I
  have hX := rx_sol pc ep hd nd kd fd sd ps R (rx_m1 hd)
  unfold wpX_vital wpY_vital
  dsimp only
  refine qx_count _ _ _ _ _ _ _ _ _ _ _ _ hX ⟨257, ?_⟩
  refine qx_vtl (FS := fun s => sF_ (upd hd s 0) n pp m kk ff ss ew e) _ _ _ _ _ _ _ _ _ _ _ _ (fun s hs _ => rx_sol _ _ _ _ _ _ _ _ R (rx_ws hd hs)) ?_ 256 0 (by omega)
  refine ry_work _ _ _ _ _ _ _ _ _ _ _ R (fun bs mo gn sl hz => ⟨257, ?_⟩)
  exact qy_vtl (FS := fun s => sF_ (upd hd s 0) n pp m kk ff ss ew e) _ _ _ _ _ _ _ _ _ R.2.2.2.2.2.2.2 (fun s hs _ bs mo gn sl post hp => ry_work _ _ _ _ _ _ _ _ _ _ _ R (fun bs mo gn sl _ => hp bs mo gn sl)) (fun bs mo gn sl => ⟨rfl, re_mk _ _ _ _ _ _ _ _ _ _ _ _ R⟩) 256 0 bs mo gn sl (by omega)
end
