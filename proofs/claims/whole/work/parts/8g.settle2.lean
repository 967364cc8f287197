/-! narrowing (class): passes -/
theorem zAv_c {A : zAb} (hW : zWf A) {u : Nat → Bool} {X : Nat → Nat → Bool} (h : zAv A u X) : ∀ t c, t < aN A → X t c = true → c < 64 ∧ acell A c = true := fun t c ht hx => by
  obtain ⟨h1, h2⟩ := h.2 t c ht hx
  exact ⟨h1, atold_c hW ht h2⟩
theorem zSat_eq {A : zAb} {X Y : Nat → Nat → Bool} {m : Nat} (h : zSat A X m) (ha : Y (mA A m) = X (mA A m)) (hb : Y (mB A m) = X (mB A m)) : zSat A Y m := by
  unfold zSat
  rw [ha, hb]
  exact h
theorem nLs_eq {A : zAb} {X : Nat → Nat → Bool} {m t : Nat} (h64 : ∀ c, X t c = true → c < 64) (h : nLs X (nCls A m X) t = false) : nCls A m X t = X t := by
  funext c
  by_cases hc : c < 64
  · exact (nLs_f h c hc).symm
  · have h1 : X t c = false := by
      by_cases q : X t c = true
      · exact absurd (h64 c q) hc
      · simpa using q
    by_cases q : nCls A m X t c = true
    · rw [nCls_le q] at h1; cases h1
    · rw [h1]; simpa using q
section zCd
variable {d kc ks : Nat} {σ : zSt} {A : zAb} {Q : Option zV → zSt → Prop}
/-- what a pass keeps -/
def zPi (A : zAb) (u F N : Nat → Bool) (X : Nat → Nat → Bool) (i T0 : Nat) : Prop := zAv A u X ∧ (∀ m, m < aM A → u m = true → m < i → N (mA A m) = true ∨ N (mB A m) = true ∨ zSat A X m) ∧ (∀ m, m < aM A → u m = true → i ≤ m → F (mA A m) = true ∨ F (mB A m) = true ∨ N (mA A m) = true ∨ N (mB A m) = true ∨ zSat A X m) ∧ zTot X (aN A) + (if yset N 32 = 0 then 0 else 1) ≤ T0 ∧ ∀ t, N t = true → t < aN A
theorem zPi_step {A : zAb} (hW : zWf A) {u F N : Nat → Bool} {X : Nat → Nat → Bool} {i T0 : Nat} (hi : i < aM A) (hu : u i = true) (h : zPi A u F N X i T0) : zPi A u F (fun t => N t || ((decide (t = mA A i) || decide (t = mB A i)) && nLs X (nCls A i X) t)) (nCls A i X) (i + 1) T0 := by
  obtain ⟨h1, h2, h3, h4, h5⟩ := h
  obtain ⟨w1, w2, w3, w4, -⟩ := hW.2.2.1 i hi
  have hN : aN A ≤ 24 := hW.1.2.2.2.2.1
  have hc := zAv_c hW h1
  have keep : ∀ m, m < aM A → N (mA A m) = true ∨ N (mB A m) = true ∨ zSat A X m → (N (mA A m) || ((decide (mA A m = mA A i) || decide (mA A m = mB A i)) && nLs X (nCls A i X) (mA A m))) = true ∨ (N (mB A m) || ((decide (mB A m = mA A i) || decide (mB A m = mB A i)) && nLs X (nCls A i X) (mB A m))) = true ∨ zSat A (nCls A i X) m := by
    intro m hm q
    obtain ⟨v1, v2, v3, -⟩ := hW.2.2.1 m hm
    have same : ∀ t, t < aN A → (N t || ((decide (t = mA A i) || decide (t = mB A i)) && nLs X (nCls A i X) t)) = true ∨ nCls A i X t = X t := fun t ht => by
      by_cases e : t = mA A i ∨ t = mB A i
      · by_cases z : nLs X (nCls A i X) t = true
        · refine Or.inl ?_
          rw [z, Bool.and_true, Bool.or_eq_true, Bool.or_eq_true, decide_eq_true_eq, decide_eq_true_eq]
          exact Or.inr e
        · exact Or.inr (nLs_eq (fun c hx => (hc t c ht hx).1) (by simpa using z))
      · exact Or.inr (nCls_o (fun z => e (Or.inl z)) (fun z => e (Or.inr z)))
    rcases q with q | q | q
    · exact Or.inl (by rw [q]; rfl)
    · exact Or.inr (Or.inl (by rw [q]; rfl))
    · rcases same _ v2 with z | z
      · exact Or.inl z
      · rcases same _ v3 with z2 | z2
        · exact Or.inr (Or.inl z2)
        · exact Or.inr (Or.inr (zSat_eq q z z2))
  have sub : ∀ t c, t < aN A → c < 64 → nCls A i X t c = true → X t c = true := fun t c _ _ q => nCls_le q
  refine ⟨zAv_cls h1 hi hu, fun m hm hum hmi => ?_, fun m hm hum hmi => ?_, ?_, fun t ht => ?_⟩
  · by_cases e : m = i
    · subst e
      exact Or.inr (Or.inr (nCls_sat w4 (fun c hx => (hc _ c w2 hx).1)))
    · exact keep m hm (h2 m hm hum (by omega))
  · rcases h3 m hm hum (by omega) with q | q | q
    · exact Or.inl q
    · exact Or.inr (Or.inl q)
    · exact Or.inr (Or.inr (keep m hm q))
  · by_cases z : yset (fun t => N t || ((decide (t = mA A i) || decide (t = mB A i)) && nLs X (nCls A i X) t)) 32 = 0
    · rw [if_pos z]
      have := zTot_mono sub
      omega
    · rw [if_neg z]
      by_cases z2 : yset N 32 = 0
      · rw [yset_0] at z2
        have ⟨t, ht, hb⟩ : ∃ t, t < 32 ∧ ((decide (t = mA A i) || decide (t = mB A i)) && nLs X (nCls A i X) t) = true := by
          by_cases q : ∃ t, t < 32 ∧ ((decide (t = mA A i) || decide (t = mB A i)) && nLs X (nCls A i X) t) = true
          · exact q
          · exact absurd (yset_0.mpr (fun t ht => by
              rw [z2 t ht, Bool.false_or]
              by_cases y : ((decide (t = mA A i) || decide (t = mB A i)) && nLs X (nCls A i X) t) = true
              · exact absurd ⟨t, ht, y⟩ q
              · simpa using y)) z
        rw [Bool.and_eq_true, Bool.or_eq_true, decide_eq_true_eq, decide_eq_true_eq] at hb
        obtain ⟨c, hc64, hne⟩ := nLs_t hb.2
        have htN : t < aN A := by rcases hb.1 with rfl | rfl <;> assumption
        have hx : X t c = true ∧ nCls A i X t c = false := by
          by_cases q : nCls A i X t c = true
          · exact absurd (by rw [q, nCls_le q]) hne
          · rw [Bool.not_eq_true] at q
            rw [q] at hne
            exact ⟨by simpa using hne, q⟩
        have := zTot_lt sub htN hc64 hx.1 hx.2
        rw [if_pos (yset_0.mpr z2)] at h4
        omega
      · have := zTot_mono sub
        rw [if_neg z2] at h4
        omega
  · rw [Bool.or_eq_true, Bool.and_eq_true, Bool.or_eq_true, decide_eq_true_eq, decide_eq_true_eq] at ht
    rcases ht with q | ⟨q | q, _⟩
    · exact h5 t q
    · rw [q]; exact w2
    · rw [q]; exact w3
theorem zPi_skip {A : zAb} {u F N : Nat → Bool} {X : Nat → Nat → Bool} {i T0 : Nat} (h : zPi A u F N X i T0) (hs : ¬ u i = true ∨ (F (mA A i) = false ∧ F (mB A i) = false ∧ N (mA A i) = false ∧ N (mB A i) = false)) : zPi A u F N X (i + 1) T0 := by
  obtain ⟨h1, h2, h3, h4, h5⟩ := h
  refine ⟨h1, fun m hm hum hmi => ?_, fun m hm hum hmi => h3 m hm hum (by omega), h4, h5⟩
  by_cases e : m = i
  · subst e
    rcases hs with q | ⟨q1, q2, q3, q4⟩
    · exact absurd hum q
    · rcases h3 m hm hum (Nat.le_refl _) with z | z | z | z | z
      · rw [q1] at z; cases z
      · rw [q2] at z; cases z
      · rw [q3] at z; cases z
      · rw [q4] at z; cases z
      · exact Or.inr (Or.inr z)
  · exact h2 m hm hum (by omega)
theorem L_X6_set91 {σ0 : zSt} {ca : Nat} (hca : ca = 37 ∨ ca = 38) (hW : zWf A) (hR : zRD A σ0 0) (hG : zGr σ0) (hS : ∀ m, m < aM A → zSp A σ0 m) {u F : Nat → Bool} {e : Int32} {k T0 : Nat} (hnext : ∀ σ' N X, zOnly (fun c _ _ => c = ca) σ0 σ' → σ'.2.2.2 = σ0.2.2.2 → zRw A σ' ca X → zAv A u X → ((e = 0 ∧ nEm X (aN A) = true) ∨ ∀ m, m < aM A → u m = true → N (mA A m) = true ∨ N (mB A m) = true ∨ zSat A X m) → zTot X (aN A) + (if yset N 32 = 0 then 0 else 1) ≤ T0 → zE true (d + 4) kc ks M_X6_settle 62 [some (.inr (.inr (10, 0))), some (.inr (.inr (ca, 0))), some (.inr (.inl (zset u 64))), none, some (.inl (e)), some (.inl (zb (nEm X (aN A) = true))), some (.inl (yset N 32)), some (.inl ((nI k + 1))), none, none, none] [] (σ') Q) : ∀ (r i : Nat), i + r = aM A → ∀ (σ : zSt) (N : Nat → Bool) (X : Nat → Nat → Bool), zOnly (fun c _ _ => c = ca) σ0 σ → σ.2.2.2 = σ0.2.2.2 → zRw A σ ca X → zPi A u F N X i T0 → zE true (d + 4) kc ks M_X6_settle 91 [some (.inr (.inr (10, 0))), some (.inr (.inr (ca, 0))), some (.inr (.inl (zset u 64))), none, some (.inl (e)), some (.inl (zb (nEm X (aN A) = true))), some (.inl (yset F 32)), some (.inl (nI k)), some (.inl (yset N 32)), some (.inl (nI i)), none] [] σ Q := by
  have hN : aN A ≤ 24 := hW.1.2.2.2.2.1
  have hM : aM A ≤ 60 := hW.1.2.2.2.2.2.1
  have hl : zLn.getD ca 0 = 24 := by rcases hca with rfl | rfl <;> rfl
  have hkd : zkd ca = 1 := by rcases hca with rfl | rfl <;> rfl
  intro r
  induction r with
  | zero =>
    intro i hi σ N X ho hh hX hI
    have : i = aM A := by omega
    subst this
    have hR1 : zRD A σ 0 := hR.only ho hh (fun c j k h => by unfold zBD at h; omega)
    refine T_X6_settle_91 hkd (by omega) ⟨fun _ => hnext σ N X ho hh hX hI.1 (Or.inr (fun m hm hum => hI.2.1 m hm hum hm)) hI.2.2.2.1, fun g => absurd (Or.inl (by rw [zrd_nM hR1]; exact Int32.le_refl _)) g⟩
  | succ r ih =>
    intro i hi σ N X ho hh hX hI
    have hiM : i < aM A := by omega
    have hR1 : zRD A σ 0 := hR.only ho hh (fun c j k h => by unfold zBD at h; omega)
    have hG1 : zGr σ := hG.only ho (fun j k => by omega)
    have hS1 : zSp A σ i := fun h4 c hc => by rw [ho.l 36 i c (by omega)]; exact hS i hiM h4 c hc
    obtain ⟨n0, q0, hMe⟩ := hR1.2.2.1 i hiM
    obtain ⟨w1, w2, w3, w4, -⟩ := hW.2.2.1 i hiM
    refine T_X6_settle_91 hkd (by omega) ⟨fun g => hnext σ N X ho hh hX hI.1 (Or.inl ?_) hI.2.2.2.1, fun g => ?_⟩
    · rw [zrd_nM hR1, nI_leI (by omega) (by omega), zb_0, Decidable.not_not] at g
      exact g.resolve_left (by omega)
    · have q4 := hMe.2.2.2.1
      have q5 := hMe.2.2.2.2.1
      refine T_X6_settle_113 hkd (by omega) ⟨nI_in (by omega) (by omega), n0, by rw [nI_clamp (show i < 2 ^ 31 by omega)]; exact q0, ?_⟩
      have eF : yset F 32 ||| yset N 32 = yset (fun t => F t || N t) 32 := yset_eq (fun t ht => by rw [b_or, bt_set ht, bt_set ht])
      rw [q4, q5, eF, zh_b (by omega), yh_b (by omega), yh_b (by omega), zb_0, zb_0, zb_0, Bool.or_eq_true, Bool.or_eq_true]
      refine ⟨fun g2 => ?_, fun g2 => ?_⟩
      · rw [← nI_succ]
        refine ih (i + 1) (by omega) σ N X ho hh hX (zPi_skip hI (g2.imp id (fun z => ?_)))
        obtain ⟨z1, z2⟩ := z
        refine ⟨?_, ?_, ?_, ?_⟩
        · simpa using fun y => z1 (Or.inl y)
        · simpa using fun y => z2 (Or.inl y)
        · simpa using fun y => z1 (Or.inr y)
        · simpa using fun y => z2 (Or.inr y)
      · have hu : u i = true := Decidable.not_not.mp (fun z => g2 (Or.inl z))
        refine T_X6_settle_168 hkd (by omega) (S_X6_narrowBy hW hG1 hca hiM hMe hS1 hX (zAv_c hW hI.1) (fun σ1 o1 h1 x1 => ?_))
        rw [o1.i 17 n0 2 (by omega), o1.i 17 n0 3 (by omega), q4, q5, nI_clamp (show mA A i < 2 ^ 31 by omega), nI_clamp (show mB A i < 2 ^ 31 by omega), x1 _ w2, x1 _ w3, hl]
        refine ⟨nI_in (by omega) (by omega), fun _ => nI_in (by omega) (by omega), fun x hx => ?_⟩
        have e5 : zb (nEm X (aN A) = true) ||| x = zb (nEm (nCls A i X) (aN A) = true) := by
          rw [hx, zb_of1 (P := zset (nCls A i X (mA A i)) 64 = 0 ∨ zset (nCls A i X (mB A i)) 64 = 0) (by rw [lg_cmp_0, lg_cmp_0]), zb_or]
          exact zb_iff (nEm_cls hW hiM).symm
        have e8 : yset N 32 ||| yset (fun t => (decide (t = mA A i) || decide (t = mB A i)) && nLs X (nCls A i X) t) 32 = yset (fun t => N t || ((decide (t = mA A i) || decide (t = mB A i)) && nLs X (nCls A i X) t)) 32 := yset_eq (fun t ht => by rw [b_or, bt_set ht, bt_set ht])
        rw [e5, e8, ← nI_succ]
        exact ih (i + 1) (by omega) σ1 _ _ (ho.tr o1) (h1.trans hh) x1 (zPi_step hW hiM hu hI)
theorem nEm_qu {A : zAb} {u : Nat → Bool} {X : Nat → Nat → Bool} (h : zAv A u X) (he : nEm X (aN A) = true) : zqu A u := by
  unfold nEm at he
  obtain ⟨t, ht, hz⟩ := aAny_iff.mp he
  rw [decide_eq_true_eq, zset_0] at hz
  refine ⟨t, ht, fun c hg => ?_⟩
  have h1 := h.1 t c hg
  have h2 := ((gN_sb A u).1 t c hg).2.1
  rw [hz c h2] at h1
  cases h1
theorem qu_nEm {A : zAb} {u : Nat → Bool} {X : Nat → Nat → Bool} (h : ∀ t c, t < aN A → c < 64 → X t c = gB A u t c) (hq : zqu A u) : nEm X (aN A) = true := by
  obtain ⟨t, ht, hc⟩ := hq
  refine aAny_iff.mpr ⟨t, ht, ?_⟩
  rw [decide_eq_true_eq, zset_0]
  intro c hc64
  rw [h t c ht hc64]
  exact Bool.eq_false_iff.mpr (fun q => hc c (gB_iff.mp q))
theorem L_X6_set62 {σ0 : zSt} {ca : Nat} (hca : ca = 37 ∨ ca = 38) (hW : zWf A) (hR : zRD A σ0 0) (hG : zGr σ0) (hS : ∀ m, m < aM A → zSp A σ0 m) {u : Nat → Bool} {e : Int32} (hQ : ∀ σ', zOnly (fun c _ _ => c = ca) σ0 σ' → σ'.2.2.2 = σ0.2.2.2 → (¬ e = 0 → zRw A σ' ca (gB A u)) → Q (some (.inl (zb (quB A u = true)))) σ') : ∀ (r k : Nat), k + r = 1537 → ∀ (σ : zSt) (F : Nat → Bool) (X : Nat → Nat → Bool), zOnly (fun c _ _ => c = ca) σ0 σ → σ.2.2.2 = σ0.2.2.2 → zRw A σ ca X → zAv A u X → ((e = 0 ∧ nEm X (aN A) = true) ∨ ∀ m, m < aM A → u m = true → F (mA A m) = true ∨ F (mB A m) = true ∨ zSat A X m) → (¬ yset F 32 = 0 → zTot X (aN A) + k ≤ 1536) → zE true (d + 4) kc ks M_X6_settle 62 [some (.inr (.inr (10, 0))), some (.inr (.inr (ca, 0))), some (.inr (.inl (zset u 64))), none, some (.inl (e)), some (.inl (zb (nEm X (aN A) = true))), some (.inl (yset F 32)), some (.inl (nI k)), none, none, none] [] σ Q := by
  have hN : aN A ≤ 24 := hW.1.2.2.2.2.1
  have hM : aM A ≤ 60 := hW.1.2.2.2.2.2.1
  have hkd : zkd ca = 1 := by rcases hca with rfl | rfl <;> rfl
  have fin : ∀ (σ : zSt) (F : Nat → Bool) (X : Nat → Nat → Bool), zOnly (fun c _ _ => c = ca) σ0 σ → σ.2.2.2 = σ0.2.2.2 → zRw A σ ca X → zAv A u X → ((e = 0 ∧ nEm X (aN A) = true) ∨ ∀ m, m < aM A → u m = true → F (mA A m) = true ∨ F (mB A m) = true ∨ zSat A X m) → (yset F 32 = 0 ∨ (e = 0 ∧ nEm X (aN A) = true)) → Q (some (.inl (zb (nEm X (aN A) = true)))) σ := fun σ F X ho hh hX hA hI hD => by
    have full : ¬ (e = 0 ∧ nEm X (aN A) = true) → ∀ t c, t < aN A → c < 64 → X t c = gB A u t c := fun hne t c ht hc => by
      have hF := yset_0.mp (hD.resolve_right hne)
      have hs := hI.resolve_left hne
      refine zAv_end hW hA (fun m hm hum => ?_) ht
      obtain ⟨w1, w2, w3, w4, -⟩ := hW.2.2.1 m hm
      rcases hs m hm hum with q | q | q
      · rw [hF _ (by omega)] at q; cases q
      · rw [hF _ (by omega)] at q; cases q
      · exact q
    have ev : zb (nEm X (aN A) = true) = zb (quB A u = true) := zb_iff ⟨fun z => quB_iff.mpr (nEm_qu hA z), fun z => by
      by_cases y : e = 0 ∧ nEm X (aN A) = true
      · exact y.2
      · exact qu_nEm (full y) (quB_iff.mp z)⟩
    rw [ev]
    exact hQ σ ho hh (fun hne t ht => by
      rw [hX t ht]
      exact zset_cong (fun c hc => full (fun q => hne q.1) t c ht hc))
  intro r
  induction r with
  | zero =>
    intro k hk σ F X ho hh hX hA hI hT
    have : k = 1537 := by omega
    subst this
    refine T_X6_settle_62 hkd (by omega) ⟨fun _ => ⟨zb_01, fin σ F X ho hh hX hA hI (Or.inl ?_)⟩, fun g => absurd (Or.inl (show (1536 : Int32) < nI 1537 by decide)) g⟩
    by_cases q : yset F 32 = 0
    · exact q
    · have := hT q
      omega
  | succ r ih =>
    intro k hk σ F X ho hh hX hA hI hT
    have hR1 : zRD A σ 0 := hR.only ho hh (fun c j k h => by unfold zBD at h; omega)
    have hG1 : zGr σ := hG.only ho (fun j k => by omega)
    have hS1 : ∀ m, m < aM A → zSp A σ m := fun m hm h4 c hc => by rw [ho.l 36 m c (by omega)]; exact hS m hm h4 c hc
    refine T_X6_settle_62 hkd (by omega) ⟨fun g => ⟨zb_01, fin σ F X ho hh hX hA hI ?_⟩, fun g => ?_⟩
    · rw [show (1536 : Int32) = nI 1536 from rfl, nI_ltI (by omega) (by omega), zb_0, Decidable.not_not] at g
      exact g.resolve_left (by omega)
    · have g1 : ¬ yset F 32 = 0 := fun q => g (Or.inr (Or.inl q))
      have g2 : ¬ (e = 0 ∧ nEm X (aN A) = true) := fun q => g (Or.inr (Or.inr ⟨q.1, by rw [zb_0, Decidable.not_not]; exact q.2⟩))
      have hT1 := hT g1
      have e0 : (0 : Int32) = yset (fun _ => false) 32 := yset_eq (fun i hi => by rw [b_0])
      have := L_X6_set91 (d := d) (kc := kc) (ks := ks) (Q := Q) (T0 := zTot X (aN A)) (F := F) (e := e) (k := k) hca hW hR1 hG1 hS1 (fun σ' N Y o1 h1 x1 a1 i1 t1 => by
        rw [← nI_succ]
        refine ih (k + 1) (by omega) σ' N Y (ho.tr o1) (h1.trans hh) x1 a1 i1 (fun q => ?_)
        rw [if_neg q] at t1
        omega) (aM A) 0 (by omega) σ (fun _ => false) X zOnly.rf rfl hX ⟨hA, fun m hm hum h0 => absurd h0 (Nat.not_lt_zero m), fun m hm hum _ => by
        rcases hI.resolve_left g2 m hm hum with q | q | q
        · exact Or.inl q
        · exact Or.inr (Or.inl q)
        · exact Or.inr (Or.inr (Or.inr (Or.inr q))), by rw [if_pos e0.symm]; omega, fun t ht => by cases ht⟩
      rw [← e0] at this
      exact this
/-- the cells told -/
def zTd (A : zAb) (t c : Nat) : Bool := decide (c < 64) && atold A t c
theorem L_X6_set6 {σ0 : zSt} {ca : Nat} (hca : ca = 37 ∨ ca = 38) (hW : zWf A) (hR : zRD A σ0 0) {v2 : Int64} {e : Int32} (hnext : ∀ σ', zOnly (fun c _ _ => c = ca) σ0 σ' → σ'.2.2.2 = σ0.2.2.2 → zRw A σ' ca (zTd A) → zE true (d + 4) kc ks M_X6_settle 62 [some (.inr (.inr (10, 0))), some (.inr (.inr (ca, 0))), some (.inr (.inl (v2))), none, some (.inl (e)), some (.inl (zb (nEm (zTd A) (aN A) = true))), some (.inl ((-1))), some (.inl (0)), none, none, none] [] (σ') Q) : ∀ (r t : Nat), t + r = aN A → ∀ σ : zSt, zOnly (fun c _ _ => c = ca) σ0 σ → σ.2.2.2 = σ0.2.2.2 → (∀ u, u < t → zgl σ ca 0 u = zset (zTd A u) 64) → zE true (d + 4) kc ks M_X6_settle 6 [some (.inr (.inr (10, 0))), some (.inr (.inr (ca, 0))), some (.inr (.inl (v2))), none, some (.inl (e)), some (.inl (zb (nEm (zTd A) t = true))), some (.inl (nI t)), none, none, none, none] [] σ Q := by
  have hN : aN A ≤ 24 := hW.1.2.2.2.2.1
  have hl : zLn.getD ca 0 = 24 := by rcases hca with rfl | rfl <;> rfl
  have hkd : zkd ca = 1 := by rcases hca with rfl | rfl <;> rfl
  intro r
  induction r with
  | zero =>
    intro t ht σ ho hh hX
    have : t = aN A := by omega
    subst this
    have hR1 : zRD A σ 0 := hR.only ho hh (fun c j k h => by unfold zBD at h; omega)
    exact T_X6_settle_6 hkd (by omega) ⟨fun _ => hnext σ ho hh hX, fun g => absurd (by rw [zrd_nT hR1]; exact Int32.le_refl _) g⟩
  | succ r ih =>
    intro t ht σ ho hh hX
    have hR1 : zRD A σ 0 := hR.only ho hh (fun c j k h => by unfold zBD at h; omega)
    have i24 : vp_in (nI t) 24 := nI_in (by omega) (by omega)
    refine T_X6_settle_6 hkd (by omega) ⟨fun g => ?_, fun _ => S_X1_toldCells hW hR1 (by omega) ?_⟩
    · rw [zrd_nT hR1, nI_leI (by omega) (by omega)] at g
      omega
    · have ezl : zgl (zsl σ ca 0 t (zset (atold A t) 64)) ca 0 t = zset (atold A t) 64 := by rw [zgl_sl, if_pos ⟨rfl, rfl, rfl⟩]
      rw [hl, nI_clamp (show t < 2 ^ 31 by omega), ezl]
      refine ⟨i24, i24, fun x hx => ?_⟩
      have ez : zset (atold A t) 64 = zset (zTd A t) 64 := zset_cong (fun c hc => by unfold zTd; rw [decide_eq_true hc]; rfl)
      have e5 : zb (nEm (zTd A) t = true) ||| x = zb (nEm (zTd A) (t + 1) = true) := by
        rw [hx, zb_of0 (P := zset (zTd A t) 64 = 0) (by rw [lg_cmp_0, ez]), zb_or]
        refine zb_iff ?_
        unfold nEm
        rw [aAny, Bool.or_eq_true, decide_eq_true_eq]
      rw [e5, ← nI_succ]
      refine ih (t + 1) (by omega) _ (ho.tr (zOnly.sl rfl)) hh (fun u hu => ?_)
      rw [zgl_sl]
      by_cases e : u = t
      · subst e
        rw [if_pos ⟨rfl, rfl, rfl⟩, ez]
      · rw [if_neg (fun q => e q.2.2)]
        exact hX u (by omega)
theorem S_X6_settle {K : Int32 → zSt → Prop} {ca : Nat} (hca : ca = 37 ∨ ca = 38) (hW : zWf A) (hR : zRD A σ 0) (hG : zGr σ) (hS : ∀ m, m < aM A → zSp A σ m) {u : Nat → Bool} {e : Int32} (hK : ∀ σ', zOnly (fun c _ _ => c = ca) σ σ' → σ'.2.2.2 = σ.2.2.2 → (¬ e = 0 → zRw A σ' ca (gB A u)) → K (zb (quB A u = true)) σ') : zCi true (d + 4) 0 0 M_X6_settle [.inr (.inr (10, 0)), .inr (.inr (ca, 0)), .inr (.inl (zset u 64)), .inl (e)] σ K := by
  have hN : aN A ≤ 24 := hW.1.2.2.2.2.1
  have hkd : zkd ca = 1 := by rcases hca with rfl | rfl <;> rfl
  refine zC_intro pl_X6 (Nat.le_of_ble_eq_true rfl) (T_X6_settle_0 hkd (by omega) ?_)
  refine L_X6_set6 (Q := fun r σ' => ∃ x, r = some (.inl x) ∧ K x σ') hca hW hR (fun σ1 o1 h1 x1 => ?_) (aN A) 0 (by omega) σ zOnly.rf rfl (fun u hu => absurd hu (Nat.not_lt_zero u))
  have hR1 : zRD A σ1 0 := hR.only o1 h1 (fun c j k h => by unfold zBD at h; omega)
  have hG1 : zGr σ1 := hG.only o1 (fun j k => by omega)
  have hS1 : ∀ m, m < aM A → zSp A σ1 m := fun m hm h4 c hc => by rw [o1.l 36 m c (by omega)]; exact hS m hm h4 c hc
  have em : (-1 : Int32) = yset (fun _ => true) 32 := yset_eq (fun i hi => b_m1 i hi)
  have := L_X6_set62 (d := d) (kc := 0) (ks := 0) (e := e) (u := u) (Q := fun r σ' => ∃ x, r = some (.inl x) ∧ K x σ') hca hW hR1 hG1 hS1 (fun σ2 o2 h2 x2 => ⟨_, rfl, hK σ2 (o1.tr o2) (h2.trans h1) x2⟩) 1537 0 rfl σ1 (fun _ => true) (zTd A) zOnly.rf rfl x1 (zAv_told A u) (Or.inr (fun m hm hum => Or.inl rfl)) (fun _ => by
    have := zTot_le (zTd A) (aN A)
    omega)
  rw [← em] at this
  exact this
end zCd
