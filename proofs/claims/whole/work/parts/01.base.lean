theorem pk_us {f : Nat → Int32} {k : Nat} {x : Int32} : upd f k x k = x := if_pos rfl
theorem pk_un {f : Nat → Int32} {k j : Nat} {x : Int32} (h : j ≠ k) : upd f k x j = f j := if_neg h
theorem pk_sub {a b : Nat} (h : b ≤ a) : nI a - nI b = nI (a - b) := by
  obtain ⟨c, rfl⟩ : ∃ c, a = c + b := ⟨a - b, by omega⟩
  rw [← nI_add, Int32.add_sub_cancel, Nat.add_sub_cancel]
theorem pk_m1 (n : Nat) : nI (n + 1) + (-1) = nI n := by
  rw [← nI_1, Int32.add_assoc, show (1 : Int32) + (-1) = 0 from rfl, Int32.add_zero]
theorem pk_mul (a b : Nat) : nI a * nI b = nI (a * b) := (Int32.ofNat_mul a b).symm
theorem pk_div {a d : Nat} (ha : a < 2 ^ 31) (h0 : 0 < d) (hd : d < 2 ^ 31) : nI a / nI d = nI (a / d) := by
  apply Int32.toInt_inj.mp
  rw [lg_idiv_nonneg (by rw [nI_toInt ha]; omega) (by rw [nI_toInt hd]; omega), nI_toInt ha, nI_toInt hd, nI_toInt (Nat.lt_of_le_of_lt (Nat.div_le_self a d) ha)]
  first | rfl | exact (Int.natCast_ediv _ _).symm
theorem pk_rem {a d : Nat} (ha : a < 2 ^ 31) (h0 : 0 < d) (hd : d < 2 ^ 31) : nI a - nI a / nI d * nI d = nI (a % d) := by
  rw [pk_div ha h0 hd, pk_mul, pk_sub (Nat.div_mul_le_self a d)]
  exact congrArg nI (by have := Nat.div_add_mod' a d; omega)
theorem pk_ix (x : Int32) {n : Nat} (hn : n < 2 ^ 31) : x < 0 ∨ nI n ≤ x ∨ ∃ j : Nat, j < n ∧ x = nI j := by
  by_cases h : x < 0
  · exact Or.inl h
  · obtain ⟨j, hj, rfl⟩ := nI_of h
    by_cases h2 : j < n
    · exact Or.inr (Or.inr ⟨j, h2, rfl⟩)
    · exact Or.inr (Or.inl (nI_le (by omega) hj))
theorem pk_le {x y : Int32} {A B : Prop} (a b : Nat) (f : a ≤ b → A) (g : b < a → B) (hx : x = nI a := by rfl) (hy : y = nI b := by rfl) (ha : a < 2 ^ 31 := by omega) (hb : b < 2 ^ 31 := by omega) : (x ≤ y → A) ∧ (¬ x ≤ y → B) := by
  subst hx hy
  rw [nI_leI ha hb]
  exact ⟨f, fun z => g (by omega)⟩
theorem pk_lt {x y : Int32} {A B : Prop} (a b : Nat) (f : a < b → A) (g : b ≤ a → B) (hx : x = nI a := by rfl) (hy : y = nI b := by rfl) (ha : a < 2 ^ 31 := by omega) (hb : b < 2 ^ 31 := by omega) : (x < y → A) ∧ (¬ x < y → B) := by
  subst hx hy
  rw [nI_ltI ha hb]
  exact ⟨f, fun z => g (by omega)⟩
theorem pk_eq {x y : Int32} {A B : Prop} (a b : Nat) (f : a = b → A) (g : a ≠ b → B) (hx : x = nI a := by rfl) (hy : y = nI b := by rfl) (ha : a < 2 ^ 31 := by omega) (hb : b < 2 ^ 31 := by omega) : (x = y → A) ∧ (¬ x = y → B) := by
  subst hx hy
  rw [nI_eq ha hb]
  exact ⟨f, g⟩
theorem pk_in {x : Int32} (n N : Nat) (h : n < N) (hx : x = nI n := by rfl) (hN : N < 2 ^ 31 := by omega) : vp_in x N := by
  subst hx
  exact vp_in_nI h hN
theorem pk_cl {x : Int32} (n : Nat) (hx : x = nI n := by rfl) (h : n < 2 ^ 31 := by omega) : x.toNatClampNeg = n := by
  subst hx
  exact nI_clamp h
/-! masks of four variables -/
def mb_4 (a b c d : Bool) : Int32 := nI (a.toNat + 2 * b.toNat + 4 * c.toNat + 8 * d.toNat)
def mb_I (f : Nat → Bool) : Int32 := mb_4 (f 0) (f 1) (f 2) (f 3)
theorem mb_or4 : ∀ a b c d e f g h : Bool, mb_4 a b c d ||| mb_4 e f g h = mb_4 (a || e) (b || f) (c || g) (d || h) := by decide +kernel
theorem mb_not4 : ∀ a b c d : Bool, (15 : Int32) &&& (mb_4 a b c d ^^^ (-1)) = mb_4 (!a) (!b) (!c) (!d) := by decide +kernel
theorem mb_sub4 : ∀ a b c d e f g h : Bool, mb_4 a b c d &&& (mb_4 e f g h ^^^ (-1)) = mb_4 (a && !e) (b && !f) (c && !g) (d && !h) := by decide +kernel
theorem mb_inj4 : ∀ a b c d e f g h : Bool, mb_4 a b c d = mb_4 e f g h → (a = e ∧ b = f ∧ c = g ∧ d = h) := by decide +kernel
theorem mb_bit4 : ∀ a b c d : Bool, (((mb_4 a b c d >>> (nI 0 &&& 31)) &&& 1 = 1 ↔ a = true) ∧ ((mb_4 a b c d >>> (nI 1 &&& 31)) &&& 1 = 1 ↔ b = true)) ∧ (((mb_4 a b c d >>> (nI 2 &&& 31)) &&& 1 = 1 ↔ c = true) ∧ ((mb_4 a b c d >>> (nI 3 &&& 31)) &&& 1 = 1 ↔ d = true)) := by decide +kernel
theorem mb_c4 {v : Nat} (h : v < 4) : v = 0 ∨ v = 1 ∨ v = 2 ∨ v = 3 := by omega
theorem mb_or (f g : Nat → Bool) : mb_I f ||| mb_I g = mb_I (fun v => f v || g v) := mb_or4 _ _ _ _ _ _ _ _
theorem mb_not (f : Nat → Bool) : (15 : Int32) &&& (mb_I f ^^^ (-1)) = mb_I (fun v => !f v) := mb_not4 _ _ _ _
theorem mb_sub (f g : Nat → Bool) : mb_I f &&& (mb_I g ^^^ (-1)) = mb_I (fun v => f v && !g v) := mb_sub4 _ _ _ _ _ _ _ _
theorem mb_congr {f g : Nat → Bool} (h : ∀ v, v < 4 → f v = g v) : mb_I f = mb_I g := by
  unfold mb_I
  rw [h 0 (by decide), h 1 (by decide), h 2 (by decide), h 3 (by decide)]
theorem mb_inj {f g : Nat → Bool} (h : mb_I f = mb_I g) : ∀ v, v < 4 → f v = g v := by
  intro v hv
  obtain ⟨a, b, c, d⟩ := mb_inj4 _ _ _ _ _ _ _ _ h
  rcases mb_c4 hv with rfl | rfl | rfl | rfl
  · exact a
  · exact b
  · exact c
  · exact d
theorem mb_bit (f : Nat → Bool) {v : Nat} (hv : v < 4) : (mb_I f >>> (nI v &&& 31)) &&& 1 = 1 ↔ f v = true := by
  obtain ⟨⟨a, b⟩, c, d⟩ := mb_bit4 (f 0) (f 1) (f 2) (f 3)
  rcases mb_c4 hv with rfl | rfl | rfl | rfl
  · exact a
  · exact b
  · exact c
  · exact d
theorem mb_one : ∀ v, v < 4 → (1 : Int32) <<< (nI v &&& 31) = mb_I (fun w => w == v) := by decide +kernel
theorem mb_0 : mb_I (fun _ => false) = 0 := by decide +kernel
theorem mb_eq0 (f : Nat → Bool) : mb_I f = 0 ↔ ∀ v, v < 4 → f v = false := by
  rw [← mb_0]
  exact ⟨fun h v hv => mb_inj h v hv, fun h => mb_congr h⟩
theorem mb_eq (f g : Nat → Bool) : mb_I f = mb_I g ↔ ∀ v, v < 4 → f v = g v := ⟨mb_inj, mb_congr⟩
/-! patterns, statements, codes -/
def en_ (p : Nat) : Nat → Nat
  | 0 => p / 144
  | 1 => p / 12 % 12
  | _ => p % 12
def pt_ (s : Nat) : Nat → Nat
  | 0 => s / 32
  | 1 => s / 8 % 4
  | _ => s % 8
def dg_ (c : Nat) : Nat → Nat
  | 0 => c / 729
  | 1 => c / 81 % 9
  | 2 => c / 9 % 9
  | _ => c % 9
def gv_ (e c : Nat) : Nat := if e < 8 then e else dg_ c (e - 8)
theorem en_lt {p : Nat} (h : p < 1728) (k : Nat) : en_ p k < 12 := by
  unfold en_; split <;> omega
theorem pt_lt {s : Nat} (h : s < 256) (k : Nat) : pt_ s k < 8 := by
  unfold pt_; split <;> omega
theorem pt_lt4 (s : Nat) : pt_ s 1 < 4 := by
  show s / 8 % 4 < 4; omega
theorem dg_lt {c : Nat} (h : c < 6561) (v : Nat) : dg_ c v < 9 := by
  unfold dg_; split <;> omega
theorem gv_lt {e c : Nat} (h : c < 6561) : gv_ e c < 9 := by
  unfold gv_; split
  · omega
  · exact dg_lt h _
theorem gv_v {e c : Nat} (h : 8 ≤ e) : gv_ e c = dg_ c (e - 8) := if_neg (by omega)
theorem gv_e {e c : Nat} (h : e < 8) : gv_ e c = e := if_pos h
def vq_ (p v : Nat) : Bool := (en_ p 0 == 8 + v || en_ p 1 == 8 + v) || en_ p 2 == 8 + v
def nb_ (pp : Nat → Nat) (n v : Nat) : Bool := match n with
  | 0 => false
  | k + 1 => nb_ pp k v || vq_ (pp k) v
def al_ (g x : Nat) : Prop := g = 8 ∨ g = x
def fx_ (s p c : Nat) : Prop := (en_ p 0 = en_ p 1 → pt_ s 0 = pt_ s 1) ∧ (en_ p 0 = en_ p 2 → pt_ s 0 = pt_ s 2) ∧ (en_ p 1 = en_ p 2 → pt_ s 1 = pt_ s 2) ∧ al_ (gv_ (en_ p 0) c) (pt_ s 0) ∧ al_ (gv_ (en_ p 1) c) (pt_ s 1) ∧ al_ (gv_ (en_ p 2) c) (pt_ s 2)
def hl_ (b : Nat → Prop) (p c : Nat) : Prop := gv_ (en_ p 0) c < 8 ∧ gv_ (en_ p 1) c < 4 ∧ gv_ (en_ p 2) c < 8 ∧ b (32 * gv_ (en_ p 0) c + 8 * gv_ (en_ p 1) c + gv_ (en_ p 2) c)
def kp_ (k x y : Nat) : Prop := x ≠ 8 ∧ y ≠ 8 ∧ (k = 0 → x = y) ∧ (k = 1 → x ≠ y) ∧ (k ≠ 0 → k ≠ 1 → x < y)
def nh_ (b : Nat → Prop) (n : Nat) (pp : Nat → Nat) (c : Nat) : Prop := ∀ i, i < n → hl_ b (pp i) c
def ck_ (m : Nat) (kk ff ss : Nat → Nat) (c : Nat) : Prop := ∀ i, i < m → kp_ (kk i) (gv_ (ff i) c) (gv_ (ss i) c)
def fy_ (s p : Nat) : Prop := ∀ i, i < 3 → (en_ p i < 8 → en_ p i = pt_ s i) ∧ ∀ j, j < i → 7 < en_ p i → en_ p j = en_ p i → pt_ s j = pt_ s i
def ag_ (s p : Nat) (bs : Nat → Bool) (c : Nat) : Prop := ∀ k, k < 3 → 7 < en_ p k → bs (en_ p k - 8) = true → dg_ c (en_ p k - 8) = pt_ s k
/-! counting -/
noncomputable def io_ (p : Prop) : Nat := @ite Nat p (Classical.propDecidable p) 1 0
theorem io_t {p : Prop} (h : p) : io_ p = 1 := @if_pos _ (Classical.propDecidable p) h _ _ _
theorem io_f {p : Prop} (h : ¬ p) : io_ p = 0 := @if_neg _ (Classical.propDecidable p) h _ _ _
noncomputable def cn_ (f : Nat → Prop) (a : Nat) : Nat → Nat
  | 0 => 0
  | k + 1 => cn_ f a k + io_ (f (a + k))
theorem cn_t {f : Nat → Prop} {a k : Nat} (h : f (a + k)) : cn_ f a (k + 1) = cn_ f a k + 1 := by
  show cn_ f a k + io_ (f (a + k)) = _
  rw [io_t h]
theorem cn_f {f : Nat → Prop} {a k : Nat} (h : ¬ f (a + k)) : cn_ f a (k + 1) = cn_ f a k := by
  show cn_ f a k + io_ (f (a + k)) = _
  rw [io_f h]; rfl
theorem cn_t0 {f : Nat → Prop} {k : Nat} (h : f k) : cn_ f 0 (k + 1) = cn_ f 0 k + 1 := cn_t (by rw [Nat.zero_add]; exact h)
theorem cn_f0 {f : Nat → Prop} {k : Nat} (h : ¬ f k) : cn_ f 0 (k + 1) = cn_ f 0 k := cn_f (by rw [Nat.zero_add]; exact h)
theorem cn_add (f : Nat → Prop) (a : Nat) : ∀ k, cn_ f 0 (a + k) = cn_ f 0 a + cn_ f a k := by
  intro k
  induction k with
  | zero => rfl
  | succ k ih =>
    show cn_ f 0 (a + k) + io_ (f (0 + (a + k))) = _ + (cn_ f a k + io_ (f (a + k)))
    rw [ih, Nat.zero_add, Nat.add_assoc]
theorem cn_congr {f g : Nat → Prop} {a : Nat} : ∀ k, (∀ c, c < k → (f (a + c) ↔ g (a + c))) → cn_ f a k = cn_ g a k := by
  intro k
  induction k with
  | zero => intro _; rfl
  | succ k ih =>
    intro h
    have e := ih (fun c hc => h c (by omega))
    by_cases hf : f (a + k)
    · rw [cn_t hf, cn_t ((h k (by omega)).mp hf), e]
    · rw [cn_f hf, cn_f (fun z => hf ((h k (by omega)).mpr z)), e]
theorem cn_none {f : Nat → Prop} {a : Nat} : ∀ k, (∀ c, c < k → ¬ f (a + c)) → cn_ f a k = 0 := by
  intro k
  induction k with
  | zero => intro _; rfl
  | succ k ih =>
    intro h
    rw [cn_f (h k (by omega)), ih (fun c hc => h c (by omega))]
theorem cn_one {f g : Nat → Prop} {q : Nat} (hq : ¬ f q) (gq : g q) (hg : ∀ c, c ≠ q → (g c ↔ f c)) : ∀ k, cn_ g 0 k = cn_ f 0 k + (if q < k then 1 else 0) := by
  intro k
  induction k with
  | zero => rfl
  | succ k ih =>
    by_cases hk : k = q
    · subst hk
      rw [cn_t0 gq, cn_f0 hq, ih, if_neg (by omega), if_pos (by omega)]
    · have e : (if q < k + 1 then 1 else 0) = (if q < k then 1 else 0) := by
        by_cases h2 : q < k
        · rw [if_pos h2, if_pos (by omega)]
        · rw [if_neg h2, if_neg (by omega)]
      by_cases hf : f k
      · rw [cn_t0 hf, cn_t0 ((hg k hk).mpr hf), ih, e]; omega
      · rw [cn_f0 hf, cn_f0 (fun z => hf ((hg k hk).mp z)), ih, e]
/-! small arithmetic of the print -/
theorem ar_n0 : ¬ (1 : Int32) = 0 := by decide
theorem ar_div {a : Nat} (d : Nat) (ha : a < 2 ^ 31 := by omega) (h0 : 0 < d := by decide) (hd : d < 2 ^ 31 := by decide) : nI a / nI d = nI (a / d) := pk_div ha h0 hd
theorem ar_rem {a : Nat} (d : Nat) (ha : a < 2 ^ 31 := by omega) (h0 : 0 < d := by decide) (hd : d < 2 ^ 31 := by decide) : nI a - nI a / nI d * nI d = nI (a % d) := pk_rem ha h0 hd
theorem ar_dr {a : Nat} (d e : Nat) (ha : a < 2 ^ 31 := by omega) (h0 : 0 < d := by decide) (hd : d < 2 ^ 31 := by decide) (h1 : 0 < e := by decide) (he : e < 2 ^ 31 := by decide) : (nI a / nI d) - (nI a / nI d) / nI e * nI e = nI (a / d % e) := by
  rw [pk_div ha h0 hd]
  exact pk_rem (Nat.lt_of_le_of_lt (Nat.div_le_self a d) ha) h1 he
theorem ar_p {P : Int32 → Prop} {x y : Int32} (e : x = y) (h : P y) : P x := by subst e; exact h
theorem ar_x8 {e : Nat} (h : 8 ≤ e) : nI e - 8 = nI (e - 8) := pk_sub (b := 8) h
theorem ar_8 (v : Nat) : (8 : Int32) + nI v = nI (8 + v) := nI_add 8 v
theorem ar_ne {s : Nat} (h : s < 2 ^ 31) : ¬ nI s = (-1 : Int32) := by
  intro e
  have h1 := congrArg Int32.toInt e
  rw [nI_toInt h] at h1
  have h2 : (-1 : Int32).toInt = -1 := by decide
  omega
theorem ar_n01 (x : Int32) (h : x = 0 ∨ x = 1) : narrow .boolean (.int x) = .int x := by
  rcases h with rfl | rfl <;> rfl
theorem ar_v0 : vp_nar .boolean 0 = 0 := by decide +kernel
theorem ar_v1 : vp_nar .boolean 1 = 1 := by decide +kernel
theorem ar_cl {s : Nat} (h : s < 2 ^ 31) : (nI s).toNatClampNeg = s := nI_clamp h
