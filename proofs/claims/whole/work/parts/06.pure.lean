theorem pu_c3 {k : Nat} (h : k < 3) : k = 0 ∨ k = 1 ∨ k = 2 := by omega
theorem pu_al {e c s : Nat} {B : Nat → Bool} (he : e < 1728) (hs : s < 256) (ho : ∀ v, v < 4 → op_ c v = !B v) (k : Nat) :
    al_ (gv_ (en_ e k) c) (pt_ s k) ↔ (en_ e k < 8 → en_ e k = pt_ s k) ∧ (7 < en_ e k → B (en_ e k - 8) = true → dg_ c (en_ e k - 8) = pt_ s k) := by
  have e1 := en_lt he k
  have p1 := pt_lt hs k
  unfold al_
  by_cases h8 : en_ e k < 8
  · rw [gv_e h8]
    exact ⟨fun h => ⟨fun _ => by omega, fun z => absurd z (by omega)⟩, fun h => Or.inr (h.1 h8)⟩
  · rw [gv_v (by omega)]
    have o := ho (en_ e k - 8) (by omega)
    unfold op_ at o
    refine ⟨fun h => ⟨fun z => absurd z h8, fun _ hb => ?_⟩, fun h => ?_⟩
    · rw [hb] at o
      have : ¬ dg_ c (en_ e k - 8) = 8 := fun z => by rw [z] at o; exact absurd o (by decide)
      exact h.resolve_left this
    · cases hb : B (en_ e k - 8) with
      | true => exact Or.inr (h.2 (by omega) hb)
      | false =>
        rw [hb] at o
        exact Or.inl (beq_iff_eq.mp o)
theorem pu_fx {e c s : Nat} {B : Nat → Bool} (he : e < 1728) (hs : s < 256) (ho : ∀ v, v < 4 → op_ c v = !B v) : fx_ s e c ↔ fy_ s e ∧ ag_ s e B c := by
  unfold fx_
  rw [pu_al he hs ho 0, pu_al he hs ho 1, pu_al he hs ho 2]
  constructor
  · rintro ⟨q1, q2, q3, a0, a1, a2⟩
    refine ⟨fun i hi => ?_, fun k hk => ?_⟩
    · rcases pu_c3 hi with rfl | rfl | rfl
      · exact ⟨a0.1, fun j hj => absurd hj (by omega)⟩
      · refine ⟨a1.1, fun j hj _ h => ?_⟩
        have : j = 0 := by omega
        subst this; exact q1 h
      · refine ⟨a2.1, fun j hj _ h => ?_⟩
        have : j = 0 ∨ j = 1 := by omega
        rcases this with rfl | rfl
        · exact q2 h
        · exact q3 h
    · rcases pu_c3 hk with rfl | rfl | rfl
      · exact a0.2
      · exact a1.2
      · exact a2.2
  · rintro ⟨f, g⟩
    have f0 := f 0 (by decide)
    have f1 := f 1 (by decide)
    have f2 := f 2 (by decide)
    refine ⟨fun h => ?_, fun h => ?_, fun h => ?_, ⟨f0.1, g 0 (by decide)⟩, ⟨f1.1, g 1 (by decide)⟩, ⟨f2.1, g 2 (by decide)⟩⟩
    · by_cases z : en_ e 1 < 8
      · have := f0.1 (by omega); have := f1.1 z; omega
      · exact f1.2 0 (by decide) (by omega) h
    · by_cases z : en_ e 2 < 8
      · have := f0.1 (by omega); have := f2.1 z; omega
      · exact f2.2 0 (by decide) (by omega) h
    · by_cases z : en_ e 2 < 8
      · have := f1.1 (by omega); have := f2.1 z; omega
      · exact f2.2 1 (by decide) (by omega) h
theorem pu_6560 : ∀ v, v < 4 → op_ 6560 v = !((fun _ => false : Nat → Bool) v) := by decide +kernel
theorem pu_match {p s : Nat} (hp : p < 1728) (hs : s < 256) : fx_ s p 6560 ↔ fy_ s p := by
  rw [pu_fx hp hs pu_6560]
  exact ⟨fun h => h.1, fun h => ⟨h, fun _ _ _ z => absurd z Bool.false_ne_true⟩⟩
theorem pu_op {c v : Nat} : op_ c v = true ↔ dg_ c v = 8 := beq_iff_eq
theorem pu_op' {c v : Nat} (hc : c < 6561) : op_ c v = false ↔ dg_ c v < 8 := by
  have := dg_lt hc v
  unfold op_
  rw [beq_eq_false_iff_ne]; omega
theorem pu_main {b : Nat → Prop} {n m e c : Nat} {pp kk ff ss : Nat → Nat} {B ew : Nat → Bool} (hc : c < 6561) (hex : (e < 1728 ∧ ew = vq_ e) ∨ (ew = fun _ => false)) :
    sx_ b n pp m kk ff ss B ew e c ↔ sy_ (so_ b n pp m kk ff ss B (fun v => ew v && !B v) e) B (fun v => ew v && !B v) c := by
  have x1 : ∀ {v}, v < 4 → (op_ c v = true ↔ dg_ c v = 8) := fun _ => pu_op
  by_cases hM : ∀ v, v < 4 → (ew v && !B v) = false
  · -- the extra pattern has no variables of its own
    have eb : mb_I (fun v => !B v) = mb_I (fun v => !B v && !ew v) := mb_congr (fun v hv => by
      have := hM v hv
      cases h1 : B v <;> cases h2 : ew v <;> simp_all)
    have m0 : mb_I (fun v => ew v && !B v) = 0 := (mb_eq0 _).mpr hM
    unfold sx_ sy_ so_ tl_
    rw [← eb]
    constructor
    · rintro ⟨o, w1, w2, -⟩
      have o := mb_inj (o.elim id id)
      refine ⟨fun v hv => ?_, w1, fun z => absurd m0 z, w2⟩
      have o1 := o v hv
      have hd := dg_lt hc v
      refine ⟨fun hb => ?_, fun hb => Or.inr ?_⟩
      · rw [hb] at o1; exact (pu_op' hc).mp o1
      · rw [Bool.eq_false_iff.mpr hb] at o1; exact pu_op.mp o1
    · rintro ⟨o, w1, -, w2⟩
      refine ⟨Or.inl (mb_congr (fun v hv => ?_)), w1, w2, fun z => absurd rfl z⟩
      cases hb : B v with
      | true => exact (pu_op' hc).mpr ((o v hv).1 hb)
      | false =>
        refine pu_op.mpr (((o v hv).2 (by rw [hb]; decide)).resolve_left ?_)
        show ¬ (ew v && !B v) = true
        rw [hM v hv]; decide
  · -- it has
    have hv0 : ∃ v, v < 4 ∧ ew v = true ∧ B v = false := by
      refine Classical.byContradiction (fun h => hM (fun v hv => ?_))
      cases h1 : ew v <;> cases h2 : B v <;> first | rfl | exact absurd ⟨v, hv, h1, h2⟩ h
    obtain ⟨v0, hv, he0, hb0⟩ := hv0
    have hE : e < 1728 ∧ ew = vq_ e := by
      rcases hex with h | h
      · exact h
      · rw [h] at he0; exact absurd he0 Bool.false_ne_true
    have nb : ¬ mb_I (fun v => !B v) = mb_I (fun v => !B v && !ew v) := fun h => by
      have := mb_inj h v0 hv
      rw [he0, hb0] at this; exact absurd this (by decide)
    have m0 : ¬ mb_I (fun v => ew v && !B v) = 0 := fun h => hM ((mb_eq0 _).mp h)
    have A : mb_I (op_ c) = mb_I (fun v => !B v) → ((∃ s, s < 256 ∧ b s ∧ fx_ s e c) ↔ ex_ b B e c) := fun h => by
      have ho := mb_inj h
      unfold ex_
      exact ⟨fun ⟨s, h1, h2, h3⟩ => ⟨s, h1, h2, (pu_fx hE.1 h1 ho).mp h3⟩, fun ⟨s, h1, h2, h3⟩ => ⟨s, h1, h2, (pu_fx hE.1 h1 ho).mpr h3⟩⟩
    have hne : ¬ (mb_I (om_ (fun v => ew v && !B v) c) = 0 ∧ mb_I (om_ (fun v => ew v && !B v) c) = mb_I (fun v => ew v && !B v)) := fun h => m0 (h.2.symm.trans h.1)
    unfold sx_ sy_ so_ tl_
    constructor
    · rintro ⟨o, w1, w2, t⟩
      have t := t nb
      rcases o with o | o
      · have o1 := mb_inj o
        have nr : ¬ mb_I (op_ c) = mb_I (fun v => !B v && !ew v) := fun h => nb (o.symm.trans h)
        have om : mb_I (om_ (fun v => ew v && !B v) c) = mb_I (fun v => ew v && !B v) := mb_congr (fun v hv => by
          show ((ew v && !B v) && op_ c v) = _; rw [o1 v hv]; cases ew v <;> cases B v <;> rfl)
        refine ⟨fun v hv => ⟨fun hb => ?_, fun hb => Or.inr ?_⟩, w1, fun _ => ⟨Or.inr om, fun z => absurd ⟨z, om⟩ hne, fun _ x => t.2 nr ((A o).mpr x)⟩, w2⟩
        · have := o1 v hv; rw [hb] at this; exact (pu_op' hc).mp this
        · have := o1 v hv; rw [Bool.eq_false_iff.mpr hb] at this; exact pu_op.mp this
      · have o1 := mb_inj o
        have om : mb_I (om_ (fun v => ew v && !B v) c) = 0 := (mb_eq0 _).mpr (fun v hv => by
          show ((ew v && !B v) && op_ c v) = _; rw [o1 v hv]; cases ew v <;> cases B v <;> rfl)
        refine ⟨fun v hv => ⟨fun hb => ?_, fun hb => ?_⟩, w1, fun _ => ⟨Or.inl om, fun _ => t.1 o, fun z => absurd ⟨om, z⟩ hne⟩, w2⟩
        · have := o1 v hv; rw [hb] at this; exact (pu_op' hc).mp this
        · have hb := Bool.eq_false_iff.mpr hb
          cases hw : ew v with
          | true => left; show (ew v && !B v) = true; rw [hw, hb]; rfl
          | false => right; have := o1 v hv; rw [hb, hw] at this; exact pu_op.mp this
    · rintro ⟨o, w1, t, w2⟩
      have t := t m0
      rcases t.1 with om | om
      · have om1 := (mb_eq0 _).mp om
        have ob : mb_I (op_ c) = mb_I (fun v => !B v && !ew v) := mb_congr (fun v hv => by
          have o1 : ((ew v && !B v) && op_ c v) = false := om1 v hv
          cases hb : B v with
          | true => rw [(pu_op' hc).mpr ((o v hv).1 hb)]; rfl
          | false =>
            rw [hb] at o1
            cases hw : ew v with
            | true => rw [hw] at o1; exact o1
            | false => exact pu_op.mpr (((o v hv).2 (by rw [hb]; decide)).resolve_left (by show ¬ (ew v && !B v) = true; rw [hw]; exact Bool.false_ne_true)))
        exact ⟨Or.inr ob, w1, w2, fun _ => ⟨fun _ => t.2.1 om, fun z => absurd ob z⟩⟩
      · have om1 := mb_inj om
        have ob : mb_I (op_ c) = mb_I (fun v => !B v) := mb_congr (fun v hv => by
          have o1 : ((ew v && !B v) && op_ c v) = (ew v && !B v) := om1 v hv
          cases hb : B v with
          | true => exact (pu_op' hc).mpr ((o v hv).1 hb)
          | false =>
            rw [hb] at o1
            cases hw : ew v with
            | true => rw [hw] at o1; exact o1
            | false => exact pu_op.mpr (((o v hv).2 (by rw [hb]; decide)).resolve_left (by show ¬ (ew v && !B v) = true; rw [hw]; exact Bool.false_ne_true)))
        have nr : ¬ mb_I (op_ c) = mb_I (fun v => !B v && !ew v) := fun h => nb (ob.symm.trans h)
        exact ⟨Or.inl ob, w1, w2, fun _ => ⟨fun z => absurd z nr, fun _ x => t.2.2 om ((A ob).mp x)⟩⟩
theorem pu_hl {b b' : Nat → Prop} (h : ∀ s, s < 256 → (b s ↔ b' s)) (p c : Nat) : hl_ b p c ↔ hl_ b' p c := by
  unfold hl_
  exact ⟨fun w => ⟨w.1, w.2.1, w.2.2.1, (h _ (by have := w.1; have := w.2.1; have := w.2.2.1; omega)).mp w.2.2.2⟩, fun w => ⟨w.1, w.2.1, w.2.2.1, (h _ (by have := w.1; have := w.2.1; have := w.2.2.1; omega)).mpr w.2.2.2⟩⟩
theorem pu_sx {b b' : Nat → Prop} {n m e c : Nat} {pp kk ff ss : Nat → Nat} {B ew : Nat → Bool} (h : ∀ s, s < 256 → (b s ↔ b' s)) : sx_ b n pp m kk ff ss B ew e c ↔ sx_ b' n pp m kk ff ss B ew e c := by
  have a1 : nh_ b n pp c ↔ nh_ b' n pp c := ⟨fun k i hi => (pu_hl h _ _).mp (k i hi), fun k i hi => (pu_hl h _ _).mpr (k i hi)⟩
  have a2 : (∃ s, s < 256 ∧ b s ∧ fx_ s e c) ↔ (∃ s, s < 256 ∧ b' s ∧ fx_ s e c) := ⟨fun ⟨s, k1, k2, k3⟩ => ⟨s, k1, (h s k1).mp k2, k3⟩, fun ⟨s, k1, k2, k3⟩ => ⟨s, k1, (h s k1).mpr k2, k3⟩⟩
  unfold sx_
  rw [a1, a2, pu_hl h]
