/-! groups: the least closed sets -/
/-- what every closed set with t in it has -/
def zCls (R : Nat → Nat → Prop) (t u : Nat) : Prop := ∀ S : Nat → Prop, S t → (∀ x y, S x → R x y → S y) → S u
theorem zCls.rf {R : Nat → Nat → Prop} {t : Nat} : zCls R t t := fun _ h _ => h
theorem zCls.st {R : Nat → Nat → Prop} {t u v : Nat} (h : zCls R t u) (hr : R u v) : zCls R t v := fun S h1 h2 => h2 u v (h S h1 h2) hr
theorem zCls.tr {R : Nat → Nat → Prop} {t u v : Nat} (h : zCls R t u) (h2 : zCls R u v) : zCls R t v := fun S h1 hc => h2 S (h S h1 hc) hc
theorem zCls.sym {R : Nat → Nat → Prop} (hs : ∀ x y, R x y → R y x) {t u : Nat} (h : zCls R t u) : zCls R u t := h (fun x => zCls R x t) zCls.rf (fun x y hx hr => (zCls.st (t := y) zCls.rf (hs x y hr)).tr hx)
theorem zCls.sub {R R' : Nat → Nat → Prop} (hs : ∀ x y, R x y → R' x y) {t u : Nat} (h : zCls R t u) : zCls R' t u := fun S h1 hc => h S h1 (fun x y hx hr => hc x y hx (hs x y hr))
/-- two things linked by a measure in use, both in a set -/
def lkP (A : zAb) (w : Nat → Prop) (x y : Nat) : Prop := ∃ m, m < aM A ∧ mO A m = true ∧ w (mA A m) ∧ w (mB A m) ∧ ((mA A m = x ∧ mB A m = y) ∨ (mA A m = y ∧ mB A m = x))
theorem lkP.sym {A : zAb} {w : Nat → Prop} {x y : Nat} (h : lkP A w x y) : lkP A w y x := by
  obtain ⟨m, h1, h2, h3, h4, h5⟩ := h
  exact ⟨m, h1, h2, h3, h4, h5.symm⟩
/-- a thing's group -/
def gr (A : zAb) (t u : Nat) : Prop := if 0 < aK A t then u = t else zCls (lkP A (fun x => aK A x = 0)) t u
noncomputable def grB (A : zAb) (t u : Nat) : Bool := @decide (gr A t u) (Classical.propDecidable _)
theorem grB_iff {A : zAb} {t u : Nat} : grB A t u = true ↔ gr A t u := by
  unfold grB
  exact @decide_eq_true_iff _ (Classical.propDecidable _)
theorem gr_self (A : zAb) (t : Nat) : gr A t t := by
  unfold gr
  split
  · rfl
  · exact zCls.rf
theorem cls_lt {A : zAb} (hW : zWf A) {w : Nat → Prop} {t u : Nat} (ht : t < aN A) (h : zCls (lkP A w) t u) : u < aN A := h (fun x => x < aN A) ht (fun x y _ ⟨m, h1, _, _, _, h5⟩ => by
  obtain ⟨w1, w2, w3, w4⟩ := hW.2.2.1 m h1
  rcases h5 with ⟨rfl, rfl⟩ | ⟨rfl, rfl⟩
  · exact w3
  · exact w2)
theorem gr_lt {A : zAb} (hW : zWf A) {t u : Nat} (ht : t < aN A) (h : gr A t u) : u < aN A := by
  unfold gr at h
  split at h
  · rw [h]; exact ht
  · exact cls_lt hW ht h
theorem cls_k {A : zAb} {t u : Nat} (ht : aK A t = 0) (h : zCls (lkP A (fun x => aK A x = 0)) t u) : aK A u = 0 := h (fun x => aK A x = 0) ht (fun x y _ ⟨m, _, _, h3, h4, h5⟩ => by
  rcases h5 with ⟨rfl, rfl⟩ | ⟨rfl, rfl⟩
  · exact h4
  · exact h3)
theorem gr_k {A : zAb} {t u : Nat} (h : gr A t u) : (aK A u = 0 ↔ aK A t = 0) := by
  unfold gr at h
  split at h
  · rw [h]
  · next hn => exact ⟨fun _ => by omega, fun hk => cls_k hk h⟩
theorem gr_sym {A : zAb} {t u : Nat} (h : gr A t u) : gr A u t := by
  have hk := gr_k h
  unfold gr at h ⊢
  split at h
  · next h1 => rw [h, if_pos h1]
  · next h1 => rw [if_neg (by omega)]; exact h.sym (fun _ _ => lkP.sym)
theorem gr_tr {A : zAb} {t u v : Nat} (h : gr A t u) (h2 : gr A u v) : gr A t v := by
  have hk := gr_k h
  unfold gr at h h2 ⊢
  split at h
  · next h1 =>
    subst h
    rw [if_pos h1] at h2
    rw [if_pos h1]
    exact h2
  · next h1 =>
    rw [if_neg (by omega)] at h2
    rw [if_neg h1]
    exact h.tr h2
theorem gr_eq {A : zAb} {t u : Nat} (h : gr A t u) (v : Nat) : grB A t v = grB A u v := by
  by_cases g : gr A t v
  · rw [grB_iff.mpr g, grB_iff.mpr (gr_tr (gr_sym h) g)]
  · have g2 : ¬ gr A u v := fun q => g (gr_tr h q)
    rw [Bool.eq_false_iff.mpr (fun q => g (grB_iff.mp q)), Bool.eq_false_iff.mpr (fun q => g2 (grB_iff.mp q))]
/-- sets of things between the first thing and the whole -/
theorem yset_bt (p : Nat → Bool) {i : Nat} (h : i < 32) : bt (yset p 32) i = p i := bt_set h
theorem zy_b1 {k : Nat} (hk : k < 32) (p : Nat → Bool) : zb (zlushr (yset p 32).toInt64 (nI k) &&& 1 = 1) = zb (p k = true) := zb_iff (by rw [zl_bit1 (by omega), tb_of32 _ hk, bt_set hk])
/-- a set with two things more -/
def yAd (p : Nat → Bool) (a b : Nat) (i : Nat) : Bool := p i || decide (i = a) || decide (i = b)
theorem yset_ad {p : Nat → Bool} {a b : Nat} (ha : a < 32) (hb : b < 32) : yset p 32 ||| (zishl 1 (nI a) ||| zishl 1 (nI b)) = yset (yAd p a b) 32 := yset_eq (fun i hi => by
  rw [b_or, b_or, bt_set hi, bt_bit ha, bt_bit hb]
  unfold yAd
  rw [Bool.or_assoc])
theorem yset_one {a : Nat} (ha : a < 32) : zishl 1 (nI a) = yset (fun i => decide (i = a)) 32 := yset_eq (fun i hi => bt_bit ha i)
theorem yset_inj {p q : Nat → Bool} : yset p 32 = yset q 32 ↔ ∀ i, i < 32 → p i = q i :=
  ⟨fun h i hi => by rw [← bt_set (p := p) hi, h, bt_set hi], yset_cong⟩
section zMn
variable {d kc ks : Nat} {σ : zSt} {A : zAb} {Q : Option zV → zSt → Prop}
/-- one measure of a pass: a set with what the measure links to it -/
def gSt (A : zAb) (w : Nat → Bool) (m : Nat) (p : Nat → Bool) : Nat → Bool := if mO A m = true ∧ w (mA A m) = true ∧ w (mB A m) = true ∧ (p (mA A m) = true ∨ p (mB A m) = true) then yAd p (mA A m) (mB A m) else p
theorem gSt_up {w : Nat → Bool} {m : Nat} {p : Nat → Bool} {i : Nat} (h : p i = true) : gSt A w m p i = true := by
  unfold gSt
  split
  · unfold yAd; rw [h]; rfl
  · exact h
/-- within the closed set -/
theorem gSt_in {w : Nat → Bool} {m t : Nat} (hm : m < aM A) {p : Nat → Bool} (h : ∀ i, p i = true → zCls (lkP A (fun x => w x = true)) t i) : ∀ i, gSt A w m p i = true → zCls (lkP A (fun x => w x = true)) t i := by
  intro i hi
  unfold gSt at hi
  split at hi
  · next hc =>
    obtain ⟨c1, c2, c3, c4⟩ := hc
    have l1 : lkP A (fun x => w x = true) (mA A m) (mB A m) := ⟨m, hm, c1, c2, c3, Or.inl ⟨rfl, rfl⟩⟩
    unfold yAd at hi
    rw [Bool.or_eq_true, Bool.or_eq_true, decide_eq_true_eq, decide_eq_true_eq] at hi
    rcases hi with (hi | rfl) | rfl
    · exact h i hi
    · rcases c4 with c4 | c4
      · exact h _ c4
      · exact (h _ c4).st l1.sym
    · rcases c4 with c4 | c4
      · exact (h _ c4).st l1
      · exact h _ c4
  · exact h i hi
/-- nothing more: the measure leads nowhere -/
theorem gSt_fix {w : Nat → Bool} {m : Nat} {p : Nat → Bool} (ha : mA A m < 32) (hb : mB A m < 32) (h : ∀ i, i < 32 → gSt A w m p i = p i) : mO A m = true → w (mA A m) = true → w (mB A m) = true → (p (mA A m) = true ↔ p (mB A m) = true) := by
  intro h1 h2 h3
  have ea := h _ ha
  have eb := h _ hb
  unfold gSt at ea eb
  constructor
  · intro q
    rw [if_pos ⟨h1, h2, h3, Or.inl q⟩] at eb
    rw [← eb]
    unfold yAd
    simp
  · intro q
    rw [if_pos ⟨h1, h2, h3, Or.inr q⟩] at ea
    rw [← ea]
    unfold yAd
    simp
/-- a set that no measure leads out of has the whole closed set -/
theorem gSt_end {w : Nat → Bool} {t : Nat} {p : Nat → Bool} (hp : p t = true) (h : ∀ m, m < aM A → mO A m = true → w (mA A m) = true → w (mB A m) = true → (p (mA A m) = true ↔ p (mB A m) = true)) {u : Nat} (hu : zCls (lkP A (fun x => w x = true)) t u) : p u = true := hu (fun x => p x = true) hp (fun x y hx ⟨m, h1, h2, h3, h4, h5⟩ => by
  rcases h5 with ⟨rfl, rfl⟩ | ⟨rfl, rfl⟩
  · exact (h m h1 h2 h3 h4).mp hx
  · exact (h m h1 h2 h3 h4).mpr hx)
theorem L_X12_grp29 (hW : zWf A) (hR : zRM A σ) {t : Nat} {p0 : Nat → Bool} (hnext : ∀ p : Nat → Bool, (∀ i, p0 i = true → p i = true) → (∀ i, p i = true → zCls (lkP A (fun x => decide (aK A x = 0) = true)) t i) → ((∀ i, i < 32 → p i = p0 i) → ∀ m, m < aM A → mO A m = true → decide (aK A (mA A m) = 0) = true → decide (aK A (mB A m) = 0) = true → (p (mA A m) = true ↔ p (mB A m) = true)) → zE true (d + 2) kc ks M_X12_groupOf 19 [some (.inr (.inr (54, 0))), none, some (.inl (yset p 32)), some (.inl (yset p0 32)), none, none] [] σ Q) : ∀ (n k : Nat), k + n = aM A → ∀ p : Nat → Bool, (∀ i, p0 i = true → p i = true) → (∀ i, p i = true → zCls (lkP A (fun x => decide (aK A x = 0) = true)) t i) → ((∀ i, i < 32 → p i = p0 i) → ∀ m, m < k → mO A m = true → decide (aK A (mA A m) = 0) = true → decide (aK A (mB A m) = 0) = true → (p (mA A m) = true ↔ p (mB A m) = true)) → zE true (d + 2) kc ks M_X12_groupOf 29 [some (.inr (.inr (54, 0))), none, some (.inl (yset p 32)), some (.inl (yset p0 32)), some (.inl (nI k)), none] [] σ Q := by
  have hM : aM A ≤ 60 := hW.1.2.2.2.2.2.1
  have hN : aN A ≤ 24 := hW.1.2.2.2.2.1
  intro n
  induction n with
  | zero =>
    intro k hk p h1 h2 h3
    have : k = aM A := by omega
    subst this
    exact T_X12_groupOf_29 ⟨fun _ => hnext p h1 h2 h3, fun h => absurd (by rw [hR.1.2.2.2.1]; exact Int32.le_refl _) h⟩
  | succ n ih =>
    intro k hk p h1 h2 h3
    have hkM : k < aM A := by omega
    obtain ⟨r1, r2, r3, r4, r5, r6⟩ := hR.2.2.1 k hkM
    obtain ⟨w1, w2, w3, w4⟩ := hW.2.2.1 k hkM
    have i60 : vp_in (nI k) 60 := nI_in (by omega) (by omega)
    have ka := (hR.2.1 _ w2).1
    have kb := (hR.2.1 _ w3).1
    have wa := (hW.2.1 _ w2).1
    have wb := (hW.2.1 _ w3).1
    have ca : nI (aK A (mA A k)) = 0 ↔ aK A (mA A k) = 0 := nI_eq (b := 0) (by omega) (by omega)
    have cb : nI (aK A (mB A k)) = 0 ↔ aK A (mB A k) = 0 := nI_eq (b := 0) (by omega) (by omega)
    have next : ∀ p' : Nat → Bool, p' = gSt A (fun x => decide (aK A x = 0)) k p → zE true (d + 2) kc ks M_X12_groupOf 29 [some (.inr (.inr (54, 0))), none, some (.inl (yset p' 32)), some (.inl (yset p0 32)), some (.inl ((nI k + 1))), none] [] σ Q := by
      intro p' e
      rw [← nI_succ]
      subst e
      refine ih (k + 1) (by omega) _ (fun i hi => gSt_up (h1 i hi)) (gSt_in hkM h2) (fun he m hm => ?_)
      have hsame : ∀ i, i < 32 → p i = p0 i := fun i hi => by
        have g := he i hi
        by_cases z : p i = true
        · rw [gSt_up z] at g
          rw [z]; exact g
        · by_cases z2 : p0 i = true
          · exact absurd (h1 i z2) z
          · rw [Bool.not_eq_true] at z z2
            rw [z, z2]
      have hfix : ∀ i, i < 32 → gSt A (fun x => decide (aK A x = 0)) k p i = p i := fun i hi => by rw [he i hi, hsame i hi]
      by_cases z : m = k
      · subst z
        intro a1 a2 a3
        rw [hfix _ (by omega), hfix _ (by omega)]
        exact gSt_fix (by omega) (by omega) hfix a1 a2 a3
      · intro a1 a2 a3
        obtain ⟨q1, q2, q3, q4⟩ := hW.2.2.1 m (by omega)
        rw [hfix _ (by omega), hfix _ (by omega)]
        exact h3 hsame m (by omega) a1 a2 a3
    refine T_X12_groupOf_29 ⟨fun g => ?_, fun _ => ?_⟩
    · rw [hR.1.2.2.2.1, nI_leI (by omega) (by omega)] at g
      omega
    · rw [nI_clamp (show k < 2 ^ 31 by omega), r2, r3, r6, nI_clamp (show mA A k < 2 ^ 31 by omega), nI_clamp (show mB A k < 2 ^ 31 by omega), ka, kb, zy_b1 (by omega), zy_b1 (by omega)]
      refine ⟨i60, fun _ => i60, fun _ => nI_in (by omega) (by omega), fun _ _ => i60, fun _ _ => nI_in (by omega) (by omega), fun x hx => ⟨fun _ => i60, fun _ _ => i60, fun g => ?_, fun g => T_X12_groupOf_120 ?_⟩⟩
      · have ex : x = 0 ↔ ¬ (mO A k = true ∧ aK A (mA A k) = 0 ∧ aK A (mB A k) = 0) := by
          rw [hx, zb_of0 (P := mO A k = true ∧ aK A (mA A k) = 0 ∧ aK A (mB A k) = 0) ?_, zb_0]
          rw [zb_0, ca, cb]
          by_cases z : mO A k = true
          · by_cases z2 : aK A (mA A k) = 0
            · simp [z, z2]
            · simp [z2]
          · simp [z]
        rw [ex, zb_0, zb_0] at g
        refine next p ?_
        unfold gSt
        rw [if_neg]
        simp only [decide_eq_true_eq]
        rintro ⟨q1, q2, q3, q4⟩
        rcases g with g | g
        · exact g ⟨q1, q2, q3⟩
        · exact q4.elim g.1 g.2
      · have ex : x = 0 ↔ ¬ (mO A k = true ∧ aK A (mA A k) = 0 ∧ aK A (mB A k) = 0) := by
          rw [hx, zb_of0 (P := mO A k = true ∧ aK A (mA A k) = 0 ∧ aK A (mB A k) = 0) ?_, zb_0]
          rw [zb_0, ca, cb]
          by_cases z : mO A k = true
          · by_cases z2 : aK A (mA A k) = 0
            · simp [z, z2]
            · simp [z2]
          · simp [z]
        rw [ex, zb_0, zb_0] at g
        rw [nI_clamp (show k < 2 ^ 31 by omega), r2, r3, yset_ad (by omega) (by omega)]
        refine ⟨i60, i60, next _ ?_⟩
        unfold gSt
        rw [if_pos]
        simp only [decide_eq_true_eq]
        have g1 : mO A k = true ∧ aK A (mA A k) = 0 ∧ aK A (mB A k) = 0 := Decidable.not_not.mp (fun z => g (Or.inl z))
        refine ⟨g1.1, g1.2.1, g1.2.2, ?_⟩
        by_cases z : p (mA A k) = true
        · exact Or.inl z
        · by_cases z2 : p (mB A k) = true
          · exact Or.inr z2
          · exact absurd (Or.inr ⟨z, z2⟩) g
theorem L_X12_grp19 (hW : zWf A) (hR : zRM A σ) {t : Nat} (hQ : ∀ p : Nat → Bool, p t = true → (∀ i, i < 32 → (p i = true ↔ zCls (lkP A (fun x => decide (aK A x = 0) = true)) t i)) → Q (some (.inl (yset p 32))) σ) : ∀ (n : Nat) (p p0 : Nat → Bool), 32 - fb_ct p 32 ≤ n → p t = true → (∀ i, p0 i = true → p i = true) → (∀ i, p i = true → zCls (lkP A (fun x => decide (aK A x = 0) = true)) t i) → ((∀ i, i < 32 → p i = p0 i) → ∀ m, m < aM A → mO A m = true → decide (aK A (mA A m) = 0) = true → decide (aK A (mB A m) = 0) = true → (p (mA A m) = true ↔ p (mB A m) = true)) → zE true (d + 2) kc ks M_X12_groupOf 19 [some (.inr (.inr (54, 0))), none, some (.inl (yset p 32)), some (.inl (yset p0 32)), none, none] [] σ Q := by
  have fin : ∀ (p p0 : Nat → Bool), p t = true → (∀ i, p i = true → zCls (lkP A (fun x => decide (aK A x = 0) = true)) t i) → ((∀ i, i < 32 → p i = p0 i) → ∀ m, m < aM A → mO A m = true → decide (aK A (mA A m) = 0) = true → decide (aK A (mB A m) = 0) = true → (p (mA A m) = true ↔ p (mB A m) = true)) → yset p0 32 = yset p 32 → Q (some (.inl (yset p 32))) σ := by
    intro p p0 h0 h2 h3 e
    have he : ∀ i, i < 32 → p i = p0 i := fun i hi => (yset_inj.mp e i hi).symm
    exact hQ p h0 (fun i hi => ⟨h2 i, fun q => gSt_end h0 (h3 he) q⟩)
  intro n
  induction n with
  | zero =>
    intro p p0 hn h0 h1 h2 h3
    have hall : ∀ i, i < 32 → p i = true := fb_ct_all.mp (by have := fb_ct_le p 32; omega)
    refine T_X12_groupOf_19 ⟨fun e => fin p p0 h0 h2 h3 e, fun _ => L_X12_grp29 hW hR (t := t) (p0 := p) (fun q g1 g2 g3 => T_X12_groupOf_19 ⟨fun e => fin q p (g1 t h0) g2 g3 e, fun e => ?_⟩) (aM A) 0 (by omega) p (fun _ h => h) h2 (fun _ m hm => absurd hm (Nat.not_lt_zero m))⟩
    exact absurd (yset_cong (fun i hi => by rw [hall i hi, g1 i (hall i hi)])) e
  | succ n ih =>
    intro p p0 hn h0 h1 h2 h3
    refine T_X12_groupOf_19 ⟨fun e => fin p p0 h0 h2 h3 e, fun _ => L_X12_grp29 hW hR (t := t) (p0 := p) (fun q g1 g2 g3 => ?_) (aM A) 0 (by omega) p (fun _ h => h) h2 (fun _ m hm => absurd hm (Nat.not_lt_zero m))⟩
    by_cases e : yset p 32 = yset q 32
    · exact T_X12_groupOf_19 ⟨fun e => fin q p (g1 t h0) g2 g3 e, fun z => absurd e z⟩
    · refine ih q p ?_ (g1 t h0) g1 g2 g3
      have : ∃ i, i < 32 ∧ ¬ (p i = q i) := by
        by_cases z : ∀ i, i < 32 → p i = q i
        · exact absurd (yset_cong z) e
        · obtain ⟨i, hi⟩ := Classical.not_forall.mp z
          obtain ⟨a, b⟩ := Classical.not_imp.mp hi
          exact ⟨i, a, b⟩
      obtain ⟨i, hi, hne⟩ := this
      have hq : q i = true := by
        by_cases z : p i = true
        · exact absurd (z.trans (g1 i z).symm) hne
        · by_cases z2 : q i = true
          · exact z2
          · rw [Bool.not_eq_true] at z z2
            exact absurd (z.trans z2.symm) hne
      have hp : p i = false := by
        by_cases z : p i = true
        · exact absurd (z.trans hq.symm) hne
        · simpa using z
      have := fb_ct_lt (p := q) (q := p) (fun c _ hc => g1 c hc) hi hq hp
      have := fb_ct_le q 32
      omega
theorem S_X12_groupOf {K : Int32 → zSt → Prop} (hW : zWf A) (hR : zRM A σ) {t : Nat} (ht : t < aN A) (hK : K (yset (grB A t) 32) σ) : zCi true (d + 2) 0 0 M_X12_groupOf [.inr (.inr (54, 0)), .inl (nI t)] σ K := by
  have hN : aN A ≤ 24 := hW.1.2.2.2.2.1
  have wt := (hW.2.1 t ht).1
  have c0 : (nI (aK A t) ≤ 0) ↔ aK A t ≤ 0 := nI_leI (b := 0) (by omega) (by omega)
  refine zC_intro pl_X12 (Nat.le_of_ble_eq_true rfl) (T_X12_groupOf_0 ?_)
  rw [nI_clamp (show t < 2 ^ 31 by omega), (hR.2.1 t ht).1, c0, yset_one (by omega)]
  refine ⟨nI_in (by omega) (by omega), fun g => ?_, fun g => ⟨_, rfl, ?_⟩⟩
  · have e0 : (0 : Int32) = yset (fun _ => false) 32 := yset_eq (fun i hi => by rw [b_0])
    have := L_X12_grp19 (d := d) (kc := 0) (ks := 0) (Q := fun r σ' => ∃ x, r = some (.inl x) ∧ K x σ') hW hR (t := t) (fun p _ hp => ⟨_, rfl, by
      have e : yset p 32 = yset (grB A t) 32 := yset_cong (fun i hi => by
        have h1 := hp i hi
        have h2 : (grB A t i = true) ↔ zCls (lkP A (fun x => decide (aK A x = 0) = true)) t i := by
          rw [grB_iff]
          unfold gr
          rw [if_neg (by omega)]
          simp only [decide_eq_true_eq]
        exact Bool.eq_iff_iff.mpr (h1.trans h2.symm))
      rw [e]
      exact hK⟩) 32 (fun i => decide (i = t)) (fun _ => false) (by omega) (by simp) (fun i h => by cases h) (fun i hi => by rw [decide_eq_true_eq] at hi; rw [hi]; exact zCls.rf) (fun he => by
      have := he t (by omega)
      simp at this)
    rw [← e0] at this
    exact this
  · have e : yset (fun i => decide (i = t)) 32 = yset (grB A t) 32 := yset_cong (fun i hi => by
      refine Bool.eq_iff_iff.mpr ?_
      rw [grB_iff, decide_eq_true_eq]
      unfold gr
      rw [if_pos (by omega)])
    rw [e]
    exact hK
theorem O_X12_group {K : Int32 → zSt → Prop} (hW : zWf A) (hR : zRM A σ) (a : Int32) (hno : ¬ tI A a = true → K 0 σ) (hyes : ∀ t, t < aN A → a = nI t → K (yset (grB A t) 32) σ) : zCi true (d + 3) 0 0 M_X12_group [.inr (.inr (54, 0)), .inl (a)] σ K := by
  refine zC_intro pl_X12 (Nat.le_of_ble_eq_true rfl) (T_X12_group_0 (S_X12_noThing hW hR a ⟨fun h => ?_, fun h => ⟨_, rfl, hno ?_⟩⟩))
  · rw [zb_0, Decidable.not_not] at h
    obtain ⟨t, ht, rfl⟩ := tI_nI h
    exact S_X12_groupOf hW hR ht ⟨_, rfl, hyes t ht rfl⟩
  · rw [zb_0, Decidable.not_not] at h
    exact h
end zMn
