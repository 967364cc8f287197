/-! narrowing (class): a measure's step -/
theorem zb_or {P Q : Prop} [Decidable P] [Decidable Q] : zb P ||| zb Q = zb (P ∨ Q) := by
  unfold zb
  by_cases p : P <;> by_cases q : Q <;> simp [p, q]
theorem atold_c {A : zAb} (hW : zWf A) {t c : Nat} (ht : t < aN A) (h : atold A t c = true) : acell A c = true := by
  unfold atold at h
  split at h
  · next hk =>
    obtain ⟨x, e, hx⟩ := (hW.2.1 t ht).2.1 hk
    rw [decide_eq_true_eq, e] at h
    have : c = x := by omega
    subst this
    unfold afree at hx
    rw [Bool.and_eq_true] at hx
    exact hx.1
  · rw [Bool.and_eq_true] at h
    unfold afree at h
    rw [Bool.and_eq_true] at h
    exact h.1.1
/-- the class's step with a measure -/
def nCls (A : zAb) (m : Nat) (X : Nat → Nat → Bool) : Nat → Nat → Bool := nSet X (mA A m) (mB A m) (nFor A m (X (mA A m)) (X (mB A m))) (nBak A m (nFor A m (X (mA A m)) (X (mB A m))) (X (mB A m)))
theorem nCls_a {A : zAb} {m : Nat} {X : Nat → Nat → Bool} (h : mA A m ≠ mB A m) : nCls A m X (mA A m) = nFor A m (X (mA A m)) (X (mB A m)) := by
  funext c
  unfold nCls nSet
  rw [if_neg h, if_pos rfl]
theorem nCls_b {A : zAb} {m : Nat} {X : Nat → Nat → Bool} : nCls A m X (mB A m) = nBak A m (nFor A m (X (mA A m)) (X (mB A m))) (X (mB A m)) := by
  funext c
  unfold nCls nSet
  rw [if_pos rfl]
theorem nCls_o {A : zAb} {m t : Nat} {X : Nat → Nat → Bool} (ha : t ≠ mA A m) (hb : t ≠ mB A m) : nCls A m X t = X t := by
  funext c
  unfold nCls nSet
  rw [if_neg hb, if_neg ha]
theorem nCls_le {A : zAb} {m t c : Nat} {X : Nat → Nat → Bool} (h : nCls A m X t c = true) : X t c = true := by
  unfold nCls nSet at h
  split at h
  · next e => subst e; exact (nBak_iff.mp h).1
  · split at h
    · next e => subst e; exact (nFor_iff.mp h).1
    · exact h
theorem nCls_sat {A : zAb} {m : Nat} {X : Nat → Nat → Bool} (hne : mA A m ≠ mB A m) (h64 : ∀ c, X (mA A m) c = true → c < 64) : zSat A (nCls A m X) m := by
  refine ⟨fun c h => ?_, fun d h => ?_⟩
  · rw [nCls_a hne] at h
    obtain ⟨h1, d, h2, h3, h4⟩ := nFor_iff.mp h
    refine ⟨d, h2, h3, ?_⟩
    rw [nCls_b]
    exact nBak_iff.mpr ⟨h4, c, h64 c h1, h3, h⟩
  · rw [nCls_b] at h
    obtain ⟨h1, c, h2, h3, h4⟩ := nBak_iff.mp h
    refine ⟨c, h2, h3, ?_⟩
    rw [nCls_a hne]
    exact h4
/-- a thing whose cells are fewer -/
def nLs (X Y : Nat → Nat → Bool) (t : Nat) : Bool := !decide (zset (X t) 64 = zset (Y t) 64)
theorem nLs_f {X Y : Nat → Nat → Bool} {t : Nat} (h : nLs X Y t = false) : ∀ c, c < 64 → X t c = Y t c := by
  unfold nLs at h
  rw [Bool.not_eq_false', decide_eq_true_eq] at h
  exact zset_inj.mp h
theorem nLs_t {X Y : Nat → Nat → Bool} {t : Nat} (h : nLs X Y t = true) : ∃ c, c < 64 ∧ X t c ≠ Y t c := by
  by_cases q : ∃ c, c < 64 ∧ X t c ≠ Y t c
  · exact q
  · have : zset (X t) 64 = zset (Y t) 64 := zset_inj.mpr (fun i hi => by
      by_cases z : X t i = Y t i
      · exact z
      · exact absurd ⟨i, hi, z⟩ q)
    unfold nLs at h
    rw [decide_eq_true this] at h
    cases h
/-- so many things have none -/
def nEm (X : Nat → Nat → Bool) (n : Nat) : Bool := aAny (fun t => decide (zset (X t) 64 = 0)) n
theorem nEm_cls {A : zAb} (hW : zWf A) {m : Nat} (hm : m < aM A) {X : Nat → Nat → Bool} : nEm (nCls A m X) (aN A) = true ↔ (nEm X (aN A) = true ∨ (zset (nCls A m X (mA A m)) 64 = 0 ∨ zset (nCls A m X (mB A m)) 64 = 0)) := by
  obtain ⟨w1, w2, w3, w4⟩ := hW.2.2.1 m hm
  unfold nEm
  rw [aAny_iff, aAny_iff]
  constructor
  · rintro ⟨t, ht, h⟩
    rw [decide_eq_true_eq] at h
    by_cases ea : t = mA A m
    · subst ea; exact Or.inr (Or.inl h)
    · by_cases eb : t = mB A m
      · subst eb; exact Or.inr (Or.inr h)
      · rw [nCls_o ea eb] at h
        exact Or.inl ⟨t, ht, by rw [decide_eq_true_eq]; exact h⟩
  · rintro (⟨t, ht, h⟩ | h | h)
    · rw [decide_eq_true_eq, zset_0] at h
      refine ⟨t, ht, ?_⟩
      rw [decide_eq_true_eq, zset_0]
      intro c hc
      have := h c hc
      by_cases q : nCls A m X t c = true
      · rw [nCls_le q] at this; cases this
      · simpa using q
    · exact ⟨_, w2, by rw [decide_eq_true_eq]; exact h⟩
    · exact ⟨_, w3, by rw [decide_eq_true_eq]; exact h⟩
section zCc
variable {d kc ks : Nat} {σ : zSt} {A : zAb} {Q : Option zV → zSt → Prop}
theorem L_X6_supported (hW : zWf A) (hG : zGr σ) {n m : Nat} (hm : m < aM A) (hM : zMe A σ n m) (hS : zSp A σ m) {f : Int32} {O S : Nat → Bool} (hQ : Q (some (.inr (.inl (zset (fun c => S c && aAny (fun e => O e && kpB A m f e c) 64) 64)))) σ) : ∀ (r k : Nat), k + r = 64 → zE true (d + 2) kc ks M_X6_supported 6 [some (.inr (.inr (10, 0))), some (.inr (.inr (17, n))), some (.inl (f)), none, none, some (.inr (.inl (zset S 64))), none, some (.inr (.inl (zset (fun c => S c && aAny (fun e => O e && kpB A m f e c) k) 64))), none, some (.inr (.inl (zab O k))), none, none] [] σ Q := by
  intro r
  induction r with
  | zero =>
    intro k hk
    have : k = 64 := by omega
    subst this
    exact T_X6_supported_6 ⟨fun _ => hQ, fun q => absurd (Or.inl (by rw [lg_cmp_0, zab_64])) q⟩
  | succ r ih =>
    intro k hk
    by_cases hp : O k = true
    · obtain ⟨h1, h2, h3⟩ := zab_low (show k < 64 by omega) hp
      refine T_X6_supported_6 ⟨fun g => ?_, fun _ => ?_⟩
      · have g2 := g.resolve_left h2
        rw [lg_cmp_0, zset_inj] at g2
        have e : zset (fun c => S c && aAny (fun e => O e && kpB A m f e c) k) 64 = zset (fun c => S c && aAny (fun e => O e && kpB A m f e c) 64) 64 := zset_cong (fun c hc => by
          have q := g2 c hc
          by_cases z : S c = true
          · rw [z, Bool.true_and] at q
            obtain ⟨e, e1, e2⟩ := aAny_iff.mp q
            rw [z, q, aAny_iff.mpr ⟨e, by omega, e2⟩]
          · rw [Bool.not_eq_true] at z
            rw [z, Bool.false_and, Bool.false_and])
        rw [e]
        exact hQ
      · rw [h1, h3]
        refine S_X4_keeping hW hG hm hM hS (by omega) f ?_
        have e : zset (fun c => S c && aAny (fun e => O e && kpB A m f e c) k) 64 ||| (zset (kpB A m f k) 64 &&& zset S 64) = zset (fun c => S c && aAny (fun e => O e && kpB A m f e c) (k + 1)) 64 := zset_eq (fun i hi => by
          rw [tb_or, tb_and, tb_set hi, tb_set hi, tb_set hi, aAny, hp, Bool.true_and, Bool.and_or_distrib_left, Bool.and_comm (kpB A m f k i)])
        rw [e]
        exact ih (k + 1) (by omega)
    · rw [Bool.not_eq_true] at hp
      rw [zab_skip hp]
      have e : zset (fun c => S c && aAny (fun e => O e && kpB A m f e c) k) 64 = zset (fun c => S c && aAny (fun e => O e && kpB A m f e c) (k + 1)) 64 := zset_cong (fun i hi => by
        rw [aAny, hp, Bool.false_and, Bool.or_false])
      rw [e]
      exact ih (k + 1) (by omega)
theorem S_X6_supported {K : Int64 → zSt → Prop} (hW : zWf A) (hG : zGr σ) {n m : Nat} (hm : m < aM A) (hM : zMe A σ n m) (hS : zSp A σ m) {f : Int32} {O S : Nat → Bool} (hK : K (zset (fun c => S c && aAny (fun e => O e && kpB A m f e c) 64) 64) σ) : zCl true (d + 2) 0 0 M_X6_supported [.inr (.inr (10, 0)), .inr (.inr (17, n)), .inl (f), .inr (.inl (zset O 64)), .inr (.inl (zset S 64))] σ K := by
  refine zC_intro pl_X6 (Nat.le_of_ble_eq_true rfl) (T_X6_supported_0 ?_)
  have e : (0 : Int64) = zset (fun c => S c && aAny (fun e => O e && kpB A m f e c) 0) 64 := zset_eq (fun i hi => by rw [tb_0, aAny, Bool.and_false])
  rw [zab_0 O]
  have := L_X6_supported (d := d) (kc := 0) (ks := 0) (f := f) (O := O) (S := S) (Q := fun r σ' => ∃ x, r = some (.inr (.inl x)) ∧ K x σ') hW hG hm hM hS ⟨_, rfl, hK⟩ 64 0 rfl
  rw [← e] at this
  exact this
/-- rows of sets -/
def zRw (A : zAb) (σ : zSt) (ca : Nat) (X : Nat → Nat → Bool) : Prop := ∀ t, t < aN A → zgl σ ca 0 t = zset (X t) 64
theorem S_X6_narrowBy {K : Int32 → zSt → Prop} (hW : zWf A) (hG : zGr σ) {n m ca : Nat} (hca : ca = 37 ∨ ca = 38) (hm : m < aM A) (hM : zMe A σ n m) (hS : zSp A σ m) {X : Nat → Nat → Bool} (hX : zRw A σ ca X) (hc : ∀ t c, t < aN A → X t c = true → c < 64 ∧ acell A c = true)
    (hK : ∀ σ', zOnly (fun c _ _ => c = ca) σ σ' → σ'.2.2.2 = σ.2.2.2 → zRw A σ' ca (nCls A m X) → K (yset (fun t => (decide (t = mA A m) || decide (t = mB A m)) && nLs X (nCls A m X) t) 32) σ') : zCi true (d + 3) 0 0 M_X6_narrowBy [.inr (.inr (10, 0)), .inr (.inr (17, n)), .inr (.inr (ca, 0))] σ K := by
  have hN : aN A ≤ 24 := hW.1.2.2.2.2.1
  obtain ⟨w1, w2, w3, w4, -⟩ := hW.2.2.1 m hm
  obtain ⟨q1, q2, q3, q4, q5, q6, q7⟩ := id hM
  have hl : zLn.getD ca 0 = 24 := by rcases hca with rfl | rfl <;> rfl
  have hkd : zkd ca = 1 := by rcases hca with rfl | rfl <;> rfl
  have ia : vp_in (nI (mA A m)) 24 := nI_in (by omega) (by omega)
  have ib : vp_in (nI (mB A m)) 24 := nI_in (by omega) (by omega)
  have ca' : (nI (mA A m)).toNatClampNeg = mA A m := nI_clamp (by omega)
  have cb' : (nI (mB A m)).toNatClampNeg = mB A m := nI_clamp (by omega)
  refine zC_intro pl_X6 (Nat.le_of_ble_eq_true rfl) (T_X6_narrowBy_0 hkd (by omega) ?_)
  rw [hl, q4, q5, ca', cb', hX _ w2, hX _ w3]
  refine ⟨ib, ia, S_X6_supported hW hG hm hM hS ?_⟩
  have e1 : zset (fun c => X (mA A m) c && aAny (fun e => X (mB A m) e && kpB A m 0 e c) 64) 64 = zset (nCls A m X (mA A m)) 64 := zset_cong (fun c hc2 => by
    rw [nCls_a w4]
    unfold nFor
    by_cases z : X (mA A m) c = true
    · rw [z, Bool.true_and, Bool.true_and]
      refine Bool.eq_iff_iff.mpr ?_
      rw [aAny_iff, aAny_iff]
      constructor
      · rintro ⟨e, h1, h2⟩
        rw [Bool.and_eq_true] at h2
        refine ⟨e, h1, ?_⟩
        unfold kept
        rw [(hc _ c w2 z).2, (hc _ e w3 h2.1).2, h2.1]
        have := h2.2
        unfold kpB at this
        rw [if_pos rfl] at this
        rw [this]; rfl
      · rintro ⟨e, h1, h2⟩
        rw [Bool.and_eq_true] at h2
        refine ⟨e, h1, ?_⟩
        have := h2.1
        unfold kept at this
        rw [Bool.and_eq_true] at this
        unfold kpB
        rw [h2.2, if_pos rfl, this.2]; rfl
    · rw [Bool.not_eq_true] at z
      rw [z, Bool.false_and, Bool.false_and])
  rw [e1, q5, cb', hX _ w3]
  refine ⟨ib, S_X6_supported hW hG hm hM hS ?_⟩
  have e2 : zset (fun c => X (mB A m) c && aAny (fun e => nCls A m X (mA A m) e && kpB A m 1 e c) 64) 64 = zset (nCls A m X (mB A m)) 64 := zset_cong (fun c hc2 => by
    rw [nCls_b, ← nCls_a w4]
    unfold nBak
    by_cases z : X (mB A m) c = true
    · rw [z, Bool.true_and, Bool.true_and]
      refine Bool.eq_iff_iff.mpr ?_
      rw [aAny_iff, aAny_iff]
      have k1 : ∀ e, kpB A m 1 e c = mKeep A m e c := fun e => by unfold kpB; rw [if_neg (by decide)]
      constructor
      · rintro ⟨e, h1, h2⟩
        rw [Bool.and_eq_true] at h2
        refine ⟨e, h1, ?_⟩
        unfold kept
        have k2 := h2.2
        rw [k1] at k2
        rw [(hc _ c w3 z).2, (hc _ e w2 (nCls_le h2.1)).2, h2.1, k2]; rfl
      · rintro ⟨e, h1, h2⟩
        rw [Bool.and_eq_true] at h2
        refine ⟨e, h1, ?_⟩
        have := h2.1
        unfold kept at this
        rw [Bool.and_eq_true] at this
        rw [h2.2, k1, this.2]; rfl
    · rw [Bool.not_eq_true] at z
      rw [z, Bool.false_and, Bool.false_and])
  rw [e2, q4, q5, ca', cb', hX _ w2, hX _ w3]
  refine ⟨ia, fun x hx => ⟨ib, fun y hy => ⟨ia, ib, _, rfl, ?_⟩⟩⟩
  have key : x ||| y = yset (fun t => (decide (t = mA A m) || decide (t = mB A m)) && nLs X (nCls A m X) t) 32 := yset_eq (fun i hi => by
    have ex : bt x i = (decide (i = mA A m) && nLs X (nCls A m X) i) := by
      rw [hx]
      by_cases z : zset (nCls A m X (mA A m)) 64 = zset (X (mA A m)) 64
      · rw [if_pos ((lg_cmp_0 _ _).mpr z), b_0]
        by_cases e : i = mA A m
        · subst e
          unfold nLs
          rw [decide_eq_true z.symm]; simp
        · simp [e]
      · rw [if_neg (fun q => z ((lg_cmp_0 _ _).mp q)), bt_bit (by omega)]
        by_cases e : i = mA A m
        · subst e
          unfold nLs
          rw [show decide (zset (X (mA A m)) 64 = zset (nCls A m X (mA A m)) 64) = false from decide_eq_false (fun q => z q.symm)]; simp
        · simp [e]
    have ey : bt y i = (decide (i = mB A m) && nLs X (nCls A m X) i) := by
      rw [hy]
      by_cases z : zset (nCls A m X (mB A m)) 64 = zset (X (mB A m)) 64
      · rw [if_pos ((lg_cmp_0 _ _).mpr z), b_0]
        by_cases e : i = mB A m
        · subst e
          unfold nLs
          rw [decide_eq_true z.symm]; simp
        · simp [e]
      · rw [if_neg (fun q => z ((lg_cmp_0 _ _).mp q)), bt_bit (by omega)]
        by_cases e : i = mB A m
        · subst e
          unfold nLs
          rw [show decide (zset (X (mB A m)) 64 = zset (nCls A m X (mB A m)) 64) = false from decide_eq_false (fun q => z q.symm)]; simp
        · simp [e]
    rw [b_or, ex, ey, Bool.and_or_distrib_right])
  rw [key]
  refine hK _ ((zOnly.sl rfl).tr (zOnly.sl rfl)) rfl (fun t ht => ?_)
  rw [zgl_sl, zgl_sl]
  by_cases eb : t = mB A m
  · subst eb
    rw [if_pos ⟨rfl, rfl, rfl⟩]
  · rw [if_neg (fun q => eb q.2.2)]
    by_cases ea : t = mA A m
    · subst ea
      rw [if_pos ⟨rfl, rfl, rfl⟩]
    · rw [if_neg (fun q => ea q.2.2), hX t ht, nCls_o ea eb]
end zCc
