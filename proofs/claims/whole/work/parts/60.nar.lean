/-! what measures let, and narrowing as the greatest sets that stand -/
def zdist (c d : Nat) : Nat := (((c % 8 : Nat) : Int) - ((d % 8 : Nat) : Int)).natAbs * (((c % 8 : Nat) : Int) - ((d % 8 : Nat) : Int)).natAbs + (((c / 8 : Nat) : Int) - ((d / 8 : Nat) : Int)).natAbs * (((c / 8 : Nat) : Int) - ((d / 8 : Nat) : Int)).natAbs
theorem zdist_sym (c d : Nat) : zdist c d = zdist d c := by
  unfold zdist
  rw [show (((c % 8 : Nat) : Int) - ((d % 8 : Nat) : Int)).natAbs = (((d % 8 : Nat) : Int) - ((c % 8 : Nat) : Int)).natAbs by omega, show (((c / 8 : Nat) : Int) - ((d / 8 : Nat) : Int)).natAbs = (((d / 8 : Nat) : Int) - ((c / 8 : Nat) : Int)).natAbs by omega]
/-- cells of the field come to from c in k hops of r at most -/
def hopLe (A : zAb) (r c : Nat) : Nat → Nat → Bool
  | 0, d => afree A c && decide (d = c)
  | k + 1, d => hopLe A r c k d || (afree A d && aAny (fun e => hopLe A r c k e && decide (zdist e d ≤ r)) 64)
/-- not in fewer -/
def hopAt (A : zAb) (r c : Nat) : Nat → Nat → Bool
  | 0, d => hopLe A r c 0 d
  | k + 1, d => hopLe A r c (k + 1) d && !hopLe A r c k d
theorem hopLe_succ {A : zAb} {r c k d : Nat} (h : hopLe A r c k d = true) : hopLe A r c (k + 1) d = true := by rw [hopLe, h, Bool.true_or]
theorem hopLe_mono {A : zAb} {r c k d : Nat} (h : hopLe A r c k d = true) : ∀ j, hopLe A r c (k + j) d = true
  | 0 => h
  | j + 1 => hopLe_succ (hopLe_mono h j)
theorem hopLe_le {A : zAb} {r c k m d : Nat} (h : hopLe A r c k d = true) (hm : k ≤ m) : hopLe A r c m d = true := by
  have := hopLe_mono h (m - k)
  rw [show k + (m - k) = m by omega] at this
  exact this
theorem hopLe_free {A : zAb} {r c : Nat} : ∀ {k d : Nat}, hopLe A r c k d = true → afree A d = true
  | 0, d, h => by
    simp only [hopLe, Bool.and_eq_true, decide_eq_true_eq] at h
    rw [h.2]; exact h.1
  | k + 1, d, h => by
    rw [hopLe, Bool.or_eq_true, Bool.and_eq_true] at h
    exact h.elim (fun q => hopLe_free q) (fun q => q.1)
theorem afree_64 {A : zAb} {c : Nat} (h : afree A c = true) : c < 64 := by
  unfold afree at h
  rw [Bool.and_eq_true] at h
  exact acell_64 h.1
theorem hopLe_step {A : zAb} {r c k e d : Nat} (h : hopLe A r c k e = true) (hd : afree A d = true) (hr : zdist e d ≤ r) : hopLe A r c (k + 1) d = true := by
  rw [hopLe, Bool.or_eq_true]
  refine Or.inr ?_
  rw [Bool.and_eq_true]
  refine ⟨hd, aAny_iff.mpr ⟨e, afree_64 (hopLe_free h), ?_⟩⟩
  rw [Bool.and_eq_true, decide_eq_true_eq]
  exact ⟨h, hr⟩
theorem hopLe_inv {A : zAb} {r c k d : Nat} (h : hopLe A r c (k + 1) d = true) : hopLe A r c k d = true ∨ (afree A d = true ∧ ∃ e, e < 64 ∧ hopLe A r c k e = true ∧ zdist e d ≤ r) := by
  rw [hopLe, Bool.or_eq_true, Bool.and_eq_true, aAny_iff] at h
  refine h.imp id (fun q => ⟨q.1, ?_⟩)
  obtain ⟨e, h1, h2⟩ := q.2
  rw [Bool.and_eq_true, decide_eq_true_eq] at h2
  exact ⟨e, h1, h2.1, h2.2⟩
theorem hopLe_add {A : zAb} {r c e : Nat} {k : Nat} (h1 : hopLe A r c k e = true) : ∀ {j d : Nat}, hopLe A r e j d = true → hopLe A r c (k + j) d = true
  | 0, d, h => by
    simp only [hopLe, Bool.and_eq_true, decide_eq_true_eq] at h
    rw [h.2]; exact h1
  | j + 1, d, h => by
    rcases hopLe_inv h with q | ⟨q1, x, q2, q3, q4⟩
    · exact hopLe_succ (hopLe_add h1 q)
    · exact hopLe_step (hopLe_add h1 q3) q1 q4
theorem hopLe_self {A : zAb} {r c : Nat} (h : afree A c = true) : hopLe A r c 0 c = true := by
  simp [hopLe, h]
theorem hopLe_from {A : zAb} {r c : Nat} : ∀ {k d : Nat}, hopLe A r c k d = true → afree A c = true
  | 0, d, h => by
    simp only [hopLe, Bool.and_eq_true] at h
    exact h.1
  | k + 1, d, h => by
    rcases hopLe_inv h with q | ⟨-, x, -, q, -⟩
    · exact hopLe_from q
    · exact hopLe_from q
theorem hopLe_sym {A : zAb} {r c : Nat} : ∀ {k d : Nat}, hopLe A r c k d = true → hopLe A r d k c = true
  | 0, d, h => by
    simp only [hopLe, Bool.and_eq_true, decide_eq_true_eq] at h
    rw [h.2]; exact hopLe_self h.1
  | k + 1, d, h => by
    rcases hopLe_inv h with q | ⟨q1, x, q2, q3, q4⟩
    · exact hopLe_succ (hopLe_sym q)
    · have h1 : hopLe A r d 1 x = true := hopLe_step (hopLe_self q1) (hopLe_free q3) (by rw [zdist_sym]; exact q4)
      have := hopLe_add h1 (hopLe_sym q3)
      rw [show 1 + k = k + 1 by omega] at this
      exact this
theorem hopLe_symB (A : zAb) (r c k d : Nat) : hopLe A r c k d = hopLe A r d k c := by
  by_cases h : hopLe A r c k d = true
  · rw [h, hopLe_sym h]
  · by_cases h2 : hopLe A r d k c = true
    · exact absurd (hopLe_sym h2) h
    · rw [Bool.not_eq_true] at h h2
      rw [h, h2]
theorem hopAt_sym (A : zAb) (r c : Nat) : ∀ k d, hopAt A r c k d = hopAt A r d k c
  | 0, d => hopLe_symB A r c 0 d
  | k + 1, d => by
    show (hopLe A r c (k + 1) d && !hopLe A r c k d) = (hopLe A r d (k + 1) c && !hopLe A r d k c)
    rw [hopLe_symB A r c (k + 1) d, hopLe_symB A r c k d]
theorem hopAt_le {A : zAb} {r c k d : Nat} (h : hopAt A r c k d = true) : hopLe A r c k d = true := by
  cases k with
  | zero => exact h
  | succ k =>
    unfold hopAt at h
    rw [Bool.and_eq_true] at h
    exact h.1
theorem hopAt_lt {A : zAb} {r c k j d : Nat} (h : hopAt A r c k d = true) (hj : j < k) : hopLe A r c j d = false := by
  cases k with
  | zero => omega
  | succ k =>
    unfold hopAt at h
    rw [Bool.and_eq_true] at h
    by_cases q : hopLe A r c j d = true
    · rw [hopLe_le q (by omega : j ≤ k)] at h
      simp at h
    · simpa using q
theorem hopAt_of {A : zAb} {r c k d : Nat} (h : hopLe A r c k d = true) (hl : ∀ j, j < k → hopLe A r c j d = false) : hopAt A r c k d = true := by
  cases k with
  | zero => exact h
  | succ k =>
    show (hopLe A r c (k + 1) d && !hopLe A r c k d) = true
    rw [h, hl k (by omega)]
    rfl
/-- the ring behind a ring -/
theorem hopAt_ring {A : zAb} {r c k d : Nat} : hopAt A r c (k + 1) d = (afree A d && aAny (fun e => hopAt A r c k e && decide (zdist e d ≤ r)) 64 && !hopLe A r c k d) := by
  by_cases h : hopLe A r c k d = true
  · show (hopLe A r c (k + 1) d && !hopLe A r c k d) = _
    rw [h]
    simp
  · rw [Bool.not_eq_true] at h
    show (hopLe A r c (k + 1) d && !hopLe A r c k d) = _
    rw [h, Bool.not_false, Bool.and_true, Bool.and_true, hopLe, h, Bool.false_or]
    by_cases hf : afree A d = true
    · rw [hf, Bool.true_and, Bool.true_and]
      by_cases g : aAny (fun e => hopLe A r c k e && decide (zdist e d ≤ r)) 64 = true
      · rw [g]
        obtain ⟨e, h1, h2⟩ := aAny_iff.mp g
        rw [Bool.and_eq_true, decide_eq_true_eq] at h2
        symm
        refine aAny_iff.mpr ⟨e, h1, ?_⟩
        rw [Bool.and_eq_true, decide_eq_true_eq]
        refine ⟨hopAt_of h2.1 (fun j hj => ?_), h2.2⟩
        by_cases q : hopLe A r c j e = true
        · have := hopLe_le (hopLe_step q hf h2.2) (by omega : j + 1 ≤ k)
          rw [this] at h
          cases h
        · simpa using q
      · have g2 : ¬ aAny (fun e => hopAt A r c k e && decide (zdist e d ≤ r)) 64 = true := by
          intro q
          apply g
          obtain ⟨e, h1, h2⟩ := aAny_iff.mp q
          rw [Bool.and_eq_true] at h2
          refine aAny_iff.mpr ⟨e, h1, ?_⟩
          rw [Bool.and_eq_true]
          exact ⟨hopAt_le h2.1, h2.2⟩
        rw [Bool.not_eq_true] at g g2
        rw [g, g2]
    · rw [Bool.not_eq_true] at hf
      rw [hf, Bool.false_and, Bool.false_and]
/-- an empty ring has none behind it -/
theorem hopAt_none {A : zAb} {r c k : Nat} (h : ∀ e, e < 64 → hopAt A r c k e = false) : ∀ j d, hopAt A r c (k + j) d = false
  | 0, d => by
    by_cases hd : d < 64
    · exact h d hd
    · by_cases q : hopAt A r c k d = true
      · exact absurd (afree_64 (hopLe_free (hopAt_le q))) hd
      · simpa using q
  | j + 1, d => by
    rw [← Nat.add_assoc, hopAt_ring]
    have : aAny (fun e => hopAt A r c (k + j) e && decide (zdist e d ≤ r)) 64 = false := by
      by_cases g : aAny (fun e => hopAt A r c (k + j) e && decide (zdist e d ≤ r)) 64 = true
      · obtain ⟨e, h1, h2⟩ := aAny_iff.mp g
        rw [hopAt_none h j e] at h2
        cases h2
      · simpa using g
    rw [this]
    simp
/-- on which side: 0 right, 1 down, 2 left, 3 up -/
def zside (c d p : Nat) : Bool :=
  let x : Int := ((d % 8 : Nat) : Int) - ((c % 8 : Nat) : Int)
  let y : Int := ((d / 8 : Nat) : Int) - ((c / 8 : Nat) : Int)
  if p = 0 then decide (0 < x) && decide ((y.natAbs : Int) ≤ x) else if p = 1 then decide (0 < y) && decide ((x.natAbs : Int) ≤ y) else if p = 2 then decide (x < 0) && decide ((y.natAbs : Int) ≤ -x) else decide (y < 0) && decide ((x.natAbs : Int) ≤ -y)
/-- a measure is kept with its things on c and d -/
def mKeep (A : zAb) (m c d : Nat) : Bool :=
  if mK A m = 0 then decide (mP A m ≤ zdist c d) && decide (zdist c d ≤ mQ A m)
  else if mK A m = 1 then decide (zdist c d ≤ mQ A m)
  else if mK A m = 2 then decide (mQ A m < zdist c d)
  else if mK A m = 3 then zside c d (mP A m)
  else hopAt A (mQ A m) c (mP A m) d
def kept (A : zAb) (m c d : Nat) : Bool := acell A c && acell A d && mKeep A m c d
theorem kept_c {A : zAb} {m c d : Nat} (h : kept A m c d = true) : acell A c = true ∧ acell A d = true := by
  unfold kept at h
  rw [Bool.and_eq_true, Bool.and_eq_true] at h
  exact h.1
/-- sets that stand -/
def zSb (A : zAb) (u : Nat → Bool) (X : Nat → Nat → Prop) : Prop :=
  (∀ t c, X t c → t < aN A ∧ c < 64 ∧ atold A t c = true) ∧
  ∀ m, m < aM A → u m = true → (∀ c, X (mA A m) c → ∃ d, d < 64 ∧ kept A m c d = true ∧ X (mB A m) d) ∧ (∀ d, X (mB A m) d → ∃ c, c < 64 ∧ kept A m c d = true ∧ X (mA A m) c)
def gN (A : zAb) (u : Nat → Bool) (t c : Nat) : Prop := ∃ X, zSb A u X ∧ X t c
theorem gN_sb (A : zAb) (u : Nat → Bool) : zSb A u (gN A u) := by
  refine ⟨fun t c ⟨X, h, hx⟩ => h.1 t c hx, fun m hm hu => ⟨fun c ⟨X, h, hx⟩ => ?_, fun c ⟨X, h, hx⟩ => ?_⟩⟩
  · obtain ⟨d, h1, h2, h3⟩ := (h.2 m hm hu).1 c hx
    exact ⟨d, h1, h2, X, h, h3⟩
  · obtain ⟨d, h1, h2, h3⟩ := (h.2 m hm hu).2 c hx
    exact ⟨d, h1, h2, X, h, h3⟩
theorem gN_mono {A : zAb} {u v : Nat → Bool} (h : ∀ m, m < aM A → u m = true → v m = true) {t c : Nat} (hg : gN A v t c) : gN A u t c := by
  obtain ⟨X, hX, hx⟩ := hg
  exact ⟨X, ⟨hX.1, fun m hm hu => hX.2 m hm (h m hm hu)⟩, hx⟩
theorem gN_cong {A : zAb} {u v : Nat → Bool} (h : ∀ m, m < aM A → u m = v m) {t c : Nat} : gN A v t c ↔ gN A u t c :=
  ⟨gN_mono (fun m hm hu => by rw [← h m hm]; exact hu), gN_mono (fun m hm hu => by rw [h m hm]; exact hu)⟩
noncomputable def gB (A : zAb) (u : Nat → Bool) (t c : Nat) : Bool := @decide (gN A u t c) (Classical.propDecidable _)
theorem gB_iff {A : zAb} {u : Nat → Bool} {t c : Nat} : gB A u t c = true ↔ gN A u t c := by
  unfold gB
  exact @decide_eq_true_iff _ (Classical.propDecidable _)
/-- a QUARREL: some thing has no cell -/
def zqu (A : zAb) (u : Nat → Bool) : Prop := ∃ t, t < aN A ∧ ∀ c, ¬ gN A u t c
theorem zqu_mono {A : zAb} {u v : Nat → Bool} (h : ∀ m, m < aM A → u m = true → v m = true) (hq : zqu A u) : zqu A v := by
  obtain ⟨t, ht, hc⟩ := hq
  exact ⟨t, ht, fun c q => hc c (gN_mono h q)⟩
theorem zqu_cong {A : zAb} {u v : Nat → Bool} (h : ∀ m, m < aM A → u m = v m) : zqu A u ↔ zqu A v :=
  ⟨zqu_mono (fun m hm hu => by rw [← h m hm]; exact hu), zqu_mono (fun m hm hu => by rw [h m hm]; exact hu)⟩
/-- sets above the narrowed ones -/
def zAv (A : zAb) (u : Nat → Bool) (X : Nat → Nat → Bool) : Prop := (∀ t c, gN A u t c → X t c = true) ∧ ∀ t c, t < aN A → X t c = true → c < 64 ∧ atold A t c = true
/-- a measure asks nothing more of them -/
def zSat (A : zAb) (X : Nat → Nat → Bool) (m : Nat) : Prop := (∀ c, X (mA A m) c = true → ∃ d, d < 64 ∧ kept A m c d = true ∧ X (mB A m) d = true) ∧ (∀ d, X (mB A m) d = true → ∃ c, c < 64 ∧ kept A m c d = true ∧ X (mA A m) c = true)
theorem zAv_end {A : zAb} {u : Nat → Bool} {X : Nat → Nat → Bool} (hW : zWf A) (h : zAv A u X) (hs : ∀ m, m < aM A → u m = true → zSat A X m) {t c : Nat} (ht : t < aN A) : X t c = gB A u t c := by
  have key : X t c = true → gN A u t c := fun hx => ⟨fun t c => t < aN A ∧ X t c = true, ⟨fun t c q => ⟨q.1, h.2 t c q.1 q.2⟩, fun m hm hu => ⟨fun c q => ?_, fun c q => ?_⟩⟩, ht, hx⟩
  · by_cases hx : X t c = true
    · rw [hx]; exact (gB_iff.mpr (key hx)).symm
    · by_cases hg : gN A u t c
      · exact absurd (h.1 t c hg) hx
      · have : ¬ gB A u t c = true := fun q => hg (gB_iff.mp q)
        rw [Bool.not_eq_true] at hx this
        rw [hx, this]
  · obtain ⟨d, q1, q2, q3⟩ := (hs m hm hu).1 c q.2
    exact ⟨d, q1, q2, (hW.2.2.1 m hm).2.2.1, q3⟩
  · obtain ⟨d, q1, q2, q3⟩ := (hs m hm hu).2 c q.2
    exact ⟨d, q1, q2, (hW.2.2.1 m hm).2.1, q3⟩
theorem zAv_told (A : zAb) (u : Nat → Bool) : zAv A u (fun t c => decide (c < 64) && atold A t c) := by
  refine ⟨fun t c h => ?_, fun t c _ h => ?_⟩
  · have := (gN_sb A u).1 t c h
    rw [Bool.and_eq_true, decide_eq_true_eq]
    exact this.2
  · rw [Bool.and_eq_true, decide_eq_true_eq] at h
    exact h
/-- those of a set that are kept with some of another -/
def nFor (A : zAb) (m : Nat) (a b : Nat → Bool) (c : Nat) : Bool := a c && aAny (fun d => kept A m c d && b d) 64
def nBak (A : zAb) (m : Nat) (a b : Nat → Bool) (d : Nat) : Bool := b d && aAny (fun c => kept A m c d && a c) 64
theorem nFor_iff {A : zAb} {m : Nat} {a b : Nat → Bool} {c : Nat} : nFor A m a b c = true ↔ a c = true ∧ ∃ d, d < 64 ∧ kept A m c d = true ∧ b d = true := by
  unfold nFor
  rw [Bool.and_eq_true, aAny_iff]
  simp only [Bool.and_eq_true]
theorem nBak_iff {A : zAb} {m : Nat} {a b : Nat → Bool} {d : Nat} : nBak A m a b d = true ↔ b d = true ∧ ∃ c, c < 64 ∧ kept A m c d = true ∧ a c = true := by
  unfold nBak
  rw [Bool.and_eq_true, aAny_iff]
  simp only [Bool.and_eq_true]
/-- a row of sets with two of them anew -/
def nSet (X : Nat → Nat → Bool) (i j : Nat) (p q : Nat → Bool) (t c : Nat) : Bool := if t = j then q c else if t = i then p c else X t c
theorem zAv_set {A : zAb} {u : Nat → Bool} {X : Nat → Nat → Bool} (h : zAv A u X) {m : Nat} {p q : Nat → Bool} (hp : ∀ c, p c = true → X (mA A m) c = true) (hq : ∀ c, q c = true → X (mB A m) c = true) (hp2 : ∀ c, gN A u (mA A m) c → p c = true) (hq2 : ∀ c, gN A u (mB A m) c → q c = true) : zAv A u (nSet X (mA A m) (mB A m) p q) := by
  refine ⟨fun t c hg => ?_, fun t c ht hx => ?_⟩
  · unfold nSet
    split
    · next e => subst e; exact hq2 c hg
    · split
      · next e => subst e; exact hp2 c hg
      · exact h.1 t c hg
  · unfold nSet at hx
    split at hx
    · next e => subst e; exact h.2 _ c ht (hq c hx)
    · split at hx
      · next e => subst e; exact h.2 _ c ht (hp c hx)
      · exact h.2 t c ht hx
/-- the reference's step, the class's step -/
theorem zAv_ref {A : zAb} {u : Nat → Bool} {X : Nat → Nat → Bool} (h : zAv A u X) {m : Nat} (hm : m < aM A) (hu : u m = true) : zAv A u (nSet X (mA A m) (mB A m) (nFor A m (X (mA A m)) (X (mB A m))) (nBak A m (X (mA A m)) (X (mB A m)))) := by
  refine zAv_set h (fun c q => (nFor_iff.mp q).1) (fun c q => (nBak_iff.mp q).1) (fun c hg => ?_) (fun c hg => ?_)
  · obtain ⟨d, q1, q2, q3⟩ := ((gN_sb A u).2 m hm hu).1 c hg
    exact nFor_iff.mpr ⟨h.1 _ _ hg, d, q1, q2, h.1 _ _ q3⟩
  · obtain ⟨d, q1, q2, q3⟩ := ((gN_sb A u).2 m hm hu).2 c hg
    exact nBak_iff.mpr ⟨h.1 _ _ hg, d, q1, q2, h.1 _ _ q3⟩
theorem zAv_cls {A : zAb} {u : Nat → Bool} {X : Nat → Nat → Bool} (h : zAv A u X) {m : Nat} (hm : m < aM A) (hu : u m = true) : zAv A u (nSet X (mA A m) (mB A m) (nFor A m (X (mA A m)) (X (mB A m))) (nBak A m (nFor A m (X (mA A m)) (X (mB A m))) (X (mB A m)))) := by
  have hf : ∀ c, gN A u (mA A m) c → nFor A m (X (mA A m)) (X (mB A m)) c = true := fun c hg => by
    obtain ⟨d, q1, q2, q3⟩ := ((gN_sb A u).2 m hm hu).1 c hg
    exact nFor_iff.mpr ⟨h.1 _ _ hg, d, q1, q2, h.1 _ _ q3⟩
  refine zAv_set h (fun c q => (nFor_iff.mp q).1) (fun c q => (nBak_iff.mp q).1) hf (fun c hg => ?_)
  obtain ⟨d, q1, q2, q3⟩ := ((gN_sb A u).2 m hm hu).2 c hg
  exact nBak_iff.mpr ⟨h.1 _ _ hg, d, q1, q2, hf _ q3⟩
/-- how many cells are left in all -/
def zTot (X : Nat → Nat → Bool) (n : Nat) : Nat := fb_sm (fun t => fb_ct (X t) 64) n
theorem zTot_le (X : Nat → Nat → Bool) (n : Nat) : zTot X n ≤ n * 64 := fb_sm_bound (fun k _ => fb_ct_le _ 64)
theorem zTot_mono {X Y : Nat → Nat → Bool} {n : Nat} (h : ∀ t c, t < n → c < 64 → Y t c = true → X t c = true) : zTot Y n ≤ zTot X n := fb_sm_le (fun k hk => fb_ct_sub (fun c hc => h k c hk hc))
theorem fb_ct_lt {p q : Nat → Bool} {n k : Nat} (h : ∀ c, c < n → q c = true → p c = true) (hk : k < n) (hp : p k = true) (hq : q k = false) : fb_ct q n < fb_ct p n := by
  have h1 : fb_ct q n ≤ fb_ct (fun c => if c = k then false else p c) n := fb_ct_sub (fun c hc hx => by
    by_cases e : c = k
    · subst e; rw [hq] at hx; cases hx
    · simp only [if_neg e]; exact h c hc hx)
  have h2 := fb_ct_upd p false hk
  rw [hp] at h2
  simp only [if_true, Bool.false_eq_true, if_false] at h2
  omega
theorem fb_sm_lt {f g : Nat → Nat} : ∀ {n k : Nat}, (∀ i, i < n → g i ≤ f i) → k < n → g k < f k → fb_sm g n < fb_sm f n
  | 0, k, _, h, _ => by omega
  | n + 1, k, h, hk, hl => by
    rw [fb_sm_succ, fb_sm_succ]
    have hn := h n (by omega)
    by_cases e : k = n
    · subst e
      have : fb_sm g k ≤ fb_sm f k := fb_sm_le (fun i hi => h i (by omega))
      omega
    · have := fb_sm_lt (n := n) (k := k) (fun i hi => h i (by omega)) (by omega) hl
      omega
theorem zTot_lt {X Y : Nat → Nat → Bool} {n t c : Nat} (h : ∀ t c, t < n → c < 64 → Y t c = true → X t c = true) (ht : t < n) (hc : c < 64) (hx : X t c = true) (hy : Y t c = false) : zTot Y n < zTot X n :=
  fb_sm_lt (fun k hk => fb_ct_sub (fun c hc => h k c hk hc)) ht (fb_ct_lt (fun c hc => h t c ht hc) hc hx hy)
