/-! hops, measures kept (class) -/
theorem hopAt_one {A : zAb} {r c i j d : Nat} (h : hopAt A r c i d = true) (h2 : hopAt A r c j d = true) : i = j := by
  rcases Nat.lt_trichotomy i j with q | q | q
  · have := hopAt_lt h2 q
    rw [hopAt_le h] at this
    cases this
  · exact q
  · have := hopAt_lt h q
    rw [hopAt_le h2] at this
    cases this
theorem hopAt_pre {A : zAb} {r c : Nat} : ∀ {n d : Nat}, hopAt A r c n d = true → ∀ j, j ≤ n → ∃ e, e < 64 ∧ hopAt A r c j e = true
  | 0, d, h, j, hj => by
    have : j = 0 := by omega
    subst this
    exact ⟨d, afree_64 (hopLe_free (hopAt_le h)), h⟩
  | n + 1, d, h, j, hj => by
    by_cases e : j = n + 1
    · subst e
      exact ⟨d, afree_64 (hopLe_free (hopAt_le h)), h⟩
    · rw [hopAt_ring, Bool.and_eq_true, Bool.and_eq_true] at h
      obtain ⟨x, h1, h2⟩ := aAny_iff.mp h.1.2
      rw [Bool.and_eq_true] at h2
      exact hopAt_pre h2.1 j (by omega)
theorem hopAt_64 {A : zAb} {r c n d : Nat} (h : hopAt A r c n d = true) : n < 64 := by
  have hp := hopAt_pre h
  have ch : ∀ j, ∃ e, j ≤ n → e < 64 ∧ hopAt A r c j e = true := fun j => by
    by_cases q : j ≤ n
    · obtain ⟨e, h1⟩ := hp j q
      exact ⟨e, fun _ => h1⟩
    · exact ⟨0, fun z => absurd z q⟩
  have := fb_holes 64 (n + 1) (fun j => Classical.choose (ch j)) (fun i hi => (Classical.choose_spec (ch i) (by omega)).1) (fun i j hij hj e => by
    have e1 := (Classical.choose_spec (ch i) (by omega)).2
    have e2 := (Classical.choose_spec (ch j) (by omega)).2
    have e' : Classical.choose (ch i) = Classical.choose (ch j) := e
    rw [e'] at e1
    have := hopAt_one e1 e2
    omega)
  omega
theorem hopLe_ex {A : zAb} {r c x : Nat} : ∀ {n : Nat}, hopLe A r c n x = true → ∃ k, k ≤ n ∧ hopAt A r c k x = true
  | 0, h => ⟨0, Nat.le_refl _, h⟩
  | n + 1, h => by
    by_cases q : hopLe A r c n x = true
    · obtain ⟨k, h1, h2⟩ := hopLe_ex q
      exact ⟨k, by omega, h2⟩
    · refine ⟨n + 1, Nat.le_refl _, ?_⟩
      show (hopLe A r c (n + 1) x && !hopLe A r c n x) = true
      rw [Bool.not_eq_true] at q
      rw [h, q]
      rfl
theorem aHops_at {A : zAb} {r c x k : Nat} (h : hopAt A r c k x = true) : aHops A r c x (k : Int) := by
  refine ⟨fun n => ⟨fun e => ?_, fun q => ?_⟩, ⟨fun e => by omega, fun q => ?_⟩, by omega, by have := hopAt_64 h; omega⟩
  · have : k = n := by omega
    rw [← this]; exact h
  · rw [hopAt_one h q]
  · have := q k
    rw [hopAt_le h] at this
    cases this
theorem aHops_no {A : zAb} {r c x : Nat} (h : ∀ n, hopAt A r c n x = false) : aHops A r c x (-1) := by
  refine ⟨fun n => ⟨fun e => by omega, fun q => ?_⟩, ⟨fun _ n => ?_, fun _ => rfl⟩, by omega, by omega⟩
  · rw [h n] at q
    cases q
  · by_cases q : hopLe A r c n x = true
    · obtain ⟨k, _, h2⟩ := hopLe_ex q
      rw [h k] at h2
      cases h2
    · simpa using q
theorem aHops_one {A : zAb} {r c x : Nat} {y z : Int} (h : aHops A r c x y) (h2 : aHops A r c x z) : y = z := by
  by_cases q : y = -1
  · rw [q]
    exact (h2.2.1.mpr (h.2.1.mp q)).symm
  · obtain ⟨n, rfl⟩ : ∃ n : Nat, y = (n : Int) := ⟨y.toNat, by have := h.2.2.1; omega⟩
    exact ((h2.1 n).mpr ((h.1 n).mp rfl)).symm
theorem zdrk_ring {A : zAb} {r c k : Nat} : (zset (fun e => aAny (fun x => hopAt A r c k x && decide (zdist x e ≤ r)) 64) 64 &&& zset (afree A) 64) &&& (zset (hopLe A r c k) 64 ^^^ (-1)) = zset (hopAt A r c (k + 1)) 64 := zset_eq (fun i hi => by
  rw [tb_and, tb_and, tb_set hi, tb_set hi, tb_not _ hi, tb_set hi, hopAt_ring, Bool.and_comm (aAny _ 64)])
theorem zdrk_seen {A : zAb} {r c k : Nat} : zset (hopLe A r c k) 64 ||| zset (hopAt A r c (k + 1)) 64 = zset (hopLe A r c (k + 1)) 64 := zset_eq (fun i hi => by
  rw [tb_or, tb_set hi, tb_set hi]
  show (hopLe A r c k i || (hopLe A r c (k + 1) i && !hopLe A r c k i)) = _
  by_cases q : hopLe A r c k i = true
  · rw [q, hopLe_succ q]; rfl
  · rw [Bool.not_eq_true] at q
    rw [q]; simp)
section zCb
variable {d kc ks : Nat} {σ : zSt} {A : zAb} {Q : Option zV → zSt → Prop}
theorem L_X4_hops {r c x : Nat} (hR : zRD A σ 0) (hG : zGr σ) (hr : r ≤ 98) (hx : x < 64) (hQ : ∀ z, aHops A r c x z → Q (some (.inl (iI z))) σ) : ∀ (n k : Nat), k + n = 64 → (∀ j, j < k → hopAt A r c j x = false) → zE true (d + 4) kc ks M_X4_hopsBetween 13 [some (.inr (.inr (9, 0))), none, some (.inl (nI x)), some (.inl (nI r)), some (.inr (.inl (zset (hopLe A r c k) 64))), none, some (.inr (.inl (zset (hopAt A r c k) 64))), none, some (.inl (nI k))] [] σ Q := by
  intro n
  induction n with
  | zero =>
    intro k hk h
    have : k = 64 := by omega
    subst this
    refine T_X4_hopsBetween_13 ⟨fun _ => hQ (-1) (aHops_no (fun n => ?_)), fun g => absurd (show (64 : Int32) ≤ nI 64 by decide) g⟩
    by_cases q : hopAt A r c n x = true
    · have := h n (hopAt_64 q)
      rw [q] at this
      cases this
    · simpa using q
  | succ n ih =>
    intro k hk h
    refine T_X4_hopsBetween_13 ⟨fun g => ?_, fun _ => ⟨fun g => ?_, fun _ => ?_⟩⟩
    · rw [show (64 : Int32) = nI 64 from rfl, nI_leI (by omega) (by omega)] at g
      omega
    · rw [lg_cmp_0, zset_0] at g
      refine hQ (-1) (aHops_no (fun n => ?_))
      by_cases q : n < k
      · exact h n q
      · have := hopAt_none g (n - k) x
        rw [show k + (n - k) = n by omega] at this
        exact this
    · rw [zh_b hx, zb_0]
      refine ⟨fun g => ?_, fun g => ?_⟩
      · refine S_X3_around hG (by omega) ?_
        rw [hR.1.2.2.1, zdrk_ring, zdrk_seen, ← nI_succ]
        refine ih (k + 1) (by omega) (fun j hj => ?_)
        by_cases e : j = k
        · subst e; simpa using g
        · exact h j (by omega)
      · rw [← iI_nat]
        exact hQ _ (aHops_at (Decidable.not_not.mp g))
theorem S_X4_hopsBetween {K : Int32 → zSt → Prop} {r c x : Nat} (hR : zRD A σ 0) (hG : zGr σ) (hr : r ≤ 98) (hc : afree A c = true) (hx : x < 64) (hK : ∀ z, aHops A r c x z → K (iI z) σ) : zCi true (d + 4) 0 0 M_X4_hopsBetween [.inr (.inr (9, 0)), .inl (nI c), .inl (nI x), .inl (nI r)] σ K := by
  refine zC_intro pl_X4 (Nat.le_of_ble_eq_true rfl) (T_X4_hopsBetween_0 ?_)
  have e : zlshl 1 (nI c) = zset (hopLe A r c 0) 64 := zset_eq (fun i hi => by
    rw [tb_bit (afree_64 hc)]
    show _ = (afree A c && decide (i = c))
    rw [hc, Bool.true_and])
  rw [e]
  exact L_X4_hops (d := d) (kc := 0) (ks := 0) (c := c) (Q := fun r σ' => ∃ x, r = some (.inl x) ∧ K x σ') hR hG hr hx (fun z hz => ⟨_, rfl, hK z hz⟩) 64 0 rfl (fun j hj => absurd hj (Nat.not_lt_zero j))
theorem L_X4_at {r c h : Nat} (hR : zRD A σ 0) (hG : zGr σ) (hr : r ≤ 98) (hh : h < 2 ^ 31) (hQ : Q (some (.inr (.inl (zset (hopAt A r c h) 64)))) σ) : ∀ (n k : Nat), k + n = h → zE true (d + 4) kc ks M_X4_atHops 21 [some (.inr (.inr (9, 0))), none, some (.inl (nI h)), some (.inl (nI r)), some (.inr (.inl (zset (hopLe A r c k) 64))), none, some (.inr (.inl (zset (hopAt A r c k) 64))), none, some (.inl (nI k))] [] σ Q := by
  intro n
  induction n with
  | zero =>
    intro k hk
    have : k = h := by omega
    subst this
    exact T_X4_atHops_21 ⟨fun _ => hQ, fun g => absurd (Or.inl (Int32.le_refl _)) g⟩
  | succ n ih =>
    intro k hk
    refine T_X4_atHops_21 ⟨fun g => ?_, fun _ => ?_⟩
    · rw [nI_leI (by omega) (by omega), lg_cmp_0, zset_0] at g
      have g2 := g.resolve_left (by omega)
      have e : zset (hopAt A r c k) 64 = zset (hopAt A r c h) 64 := zset_cong (fun i hi => by
        have := hopAt_none g2 (h - k) i
        rw [show k + (h - k) = h by omega] at this
        rw [g2 i hi, this])
      rw [e]
      exact hQ
    · refine S_X3_around hG (by omega) ?_
      rw [hR.1.2.2.1, zdrk_ring, zdrk_seen, ← nI_succ]
      exact ih (k + 1) (by omega)
theorem S_X4_atHops {K : Int64 → zSt → Prop} {r c h : Nat} (hR : zRD A σ 0) (hG : zGr σ) (hr : r ≤ 98) (hc : c < 64) (hh : h < 2 ^ 31) (hK : K (zset (hopAt A r c h) 64) σ) : zCl true (d + 4) 0 0 M_X4_atHops [.inr (.inr (9, 0)), .inl (nI c), .inl (nI h), .inl (nI r)] σ K := by
  refine zC_intro pl_X4 (Nat.le_of_ble_eq_true rfl) (T_X4_atHops_0 ?_)
  have e : zlshl 1 (nI c) &&& zgl σ 7 0 2 = zset (hopLe A r c 0) 64 := zset_eq (fun i hi => by
    rw [hR.1.2.2.1, tb_and, tb_bit hc, tb_set hi]
    show _ = (afree A c && decide (i = c))
    by_cases q : i = c
    · subst q; simp
    · simp [q])
  rw [e]
  exact L_X4_at (d := d) (kc := 0) (ks := 0) (Q := fun r σ' => ∃ x, r = some (.inr (.inl x)) ∧ K x σ') hR hG hr hh ⟨_, rfl, hK⟩ h 0 (Nat.zero_add _)
/-- the steps of a measure stand; those found so far -/
def zSp (A : zAb) (σ : zSt) (m : Nat) : Prop := mK A m = 4 → ∀ c, c < 64 → zgl σ 36 m c = zset (hopAt A (mQ A m) c (mP A m)) 64
def zKS (A : zAb) (σ : zSt) : Prop := ∀ m, m < 64 → tb (zgl σ 9 0 3) m = true → m < aM A ∧ zSp A σ m
abbrev zQs (c _j k : Nat) : Prop := c = 36 ∨ (c = 9 ∧ k = 3)
theorem L_X4_find44 {σ0 : zSt} {m : Nat} (hW : zWf A) (hR : zRD A σ0 0) (hG : zGr σ0) (hm : m < aM A) {n0 : Nat} (hM : zMe A σ0 n0 m) (hk4 : mK A m = 4) (hnext : ∀ σ', zOnly (fun c j _ => c = 36 ∧ j = m) σ0 σ' → σ'.2.2.2 = σ0.2.2.2 → zSp A σ' m → zE true (d + 5) kc ks M_X4_findSteps 77 [some (.inr (.inr (9, 0))), some (.inl (nI m)), none, none] [] (σ') Q) : ∀ (n k : Nat), k + n = 64 → ∀ σ : zSt, zOnly (fun c j _ => c = 36 ∧ j = m) σ0 σ → σ.2.2.2 = σ0.2.2.2 → (∀ c, c < k → zgl σ 36 m c = zset (hopAt A (mQ A m) c (mP A m)) 64) → zE true (d + 5) kc ks M_X4_findSteps 44 [some (.inr (.inr (9, 0))), some (.inl (nI m)), some (.inr (.inr (17, n0))), some (.inl (nI k))] [] σ Q := by
  have hM60 : aM A ≤ 60 := hW.1.2.2.2.2.2.1
  obtain ⟨w1, w2, w3, w4, w5, w6, w7, w8⟩ := hW.2.2.1 m hm
  intro n
  induction n with
  | zero =>
    intro k hk σ ho hh h
    have : k = 64 := by omega
    subst this
    exact T_X4_findSteps_44 ⟨fun _ => hnext σ ho hh (fun _ => h), fun g => absurd (show (64 : Int32) ≤ nI 64 by decide) g⟩
  | succ n ih =>
    intro k hk σ ho hh h
    refine T_X4_findSteps_44 ⟨fun g => ?_, fun _ => ⟨nI_in (by omega) (by omega), ?_⟩⟩
    · rw [show (64 : Int32) = nI 64 from rfl, nI_leI (by omega) (by omega)] at g
      omega
    · have hR1 : zRD A σ 0 := hR.only ho hh (fun c j k h => by unfold zBD at h; omega)
      have hG1 : zGr σ := hG.only ho (fun j k => by omega)
      obtain ⟨q1, q2, q3, q4, q5, q6, q7⟩ := hM
      rw [ho.i 17 n0 4 (by omega), ho.i 17 n0 5 (by omega), q6, q7]
      refine S_X4_atHops hR1 hG1 w6 (by omega) (by omega) ⟨nI_in (by omega) (by omega), ?_⟩
      rw [nI_clamp (show m < 2 ^ 31 by omega), nI_clamp (show k < 2 ^ 31 by omega), ← nI_succ]
      refine ih (k + 1) (by omega) _ (ho.tr (zOnly.sl ⟨rfl, rfl⟩)) hh (fun c hc => ?_)
      rw [zgl_sl]
      by_cases e : c = k
      · subst e
        rw [if_pos ⟨rfl, rfl, rfl⟩]
      · rw [if_neg (by omega)]
        exact h c (by omega)
theorem L_X4_find2 {σ0 : zSt} (hW : zWf A) (hR : zRD A σ0 0) (hG : zGr σ0) (hQ : ∀ σ', zOnly zQs σ0 σ' → σ'.2.2.2 = σ0.2.2.2 → zKS A σ' → (∀ m, m < aM A → zSp A σ' m) → Q none σ') : ∀ (n k : Nat), k + n = aM A → ∀ σ : zSt, zOnly zQs σ0 σ → σ.2.2.2 = σ0.2.2.2 → zKS A σ → (∀ m, m < k → zSp A σ m) → zE true (d + 5) kc ks M_X4_findSteps 2 [some (.inr (.inr (9, 0))), some (.inl (nI k)), none, none] [] σ Q := by
  have hM60 : aM A ≤ 60 := hW.1.2.2.2.2.2.1
  intro n
  induction n with
  | zero =>
    intro k hk σ ho hh hS h
    have : k = aM A := by omega
    subst this
    have hR1 : zRD A σ 0 := hR.only ho hh (fun c j k h => by unfold zBD at h; unfold zQs; omega)
    exact T_X4_findSteps_2 ⟨fun _ => hQ σ ho hh hS h, fun g => absurd (by rw [zrd_nM hR1]; exact Int32.le_refl _) g⟩
  | succ n ih =>
    intro k hk σ ho hh hS h
    have hkM : k < aM A := by omega
    have hR1 : zRD A σ 0 := hR.only ho hh (fun c j k h => by unfold zBD at h; unfold zQs; omega)
    have hG1 : zGr σ := hG.only ho (fun j k => by unfold zQs; omega)
    obtain ⟨n0, q0, hM⟩ := hR1.2.2.1 k hkM
    have hw := (hW.2.2.1 k hkM).1
    have step : ∀ σ' : zSt, zOnly (fun c j _ => c = 36 ∧ j = k) σ σ' → σ'.2.2.2 = σ.2.2.2 → zSp A σ' k → zE true (d + 5) kc ks M_X4_findSteps 77 [some (.inr (.inr (9, 0))), some (.inl (nI k)), none, none] [] (σ') Q := fun σ' o1 h1 s1 => T_X4_findSteps_77 (by
      rw [← nI_succ]
      have o2 : zOnly (fun c _ k => c = 9 ∧ k = 3) σ' (zsl σ' 9 0 3 (zgl σ' 9 0 3 ||| zlshl 1 (nI k))) := zOnly.sl ⟨rfl, rfl⟩
      have sp : ∀ m, m ≤ k → zSp A (zsl σ' 9 0 3 (zgl σ' 9 0 3 ||| zlshl 1 (nI k))) m := fun m hm h4 c hc => by
        rw [o2.l 36 m c (by omega)]
        by_cases e : m = k
        · subst e; exact s1 h4 c hc
        · rw [o1.l 36 m c (by omega)]
          exact h m (by omega) h4 c hc
      refine ih (k + 1) (by omega) _ ((ho.tr (o1.mono (fun c j k h => Or.inl h.1))).tr (o2.mono (fun c j k h => Or.inr h))) (h1.trans hh) (fun m hm hb => ?_) (fun m hm => sp m (by omega))
      rw [zgl_sl, if_pos ⟨rfl, rfl, rfl⟩, tb_or, tb_bit (by omega), Bool.or_eq_true, decide_eq_true_eq, o1.l 9 0 3 (by omega)] at hb
      by_cases e : m ≤ k
      · exact ⟨by omega, sp m e⟩
      · obtain ⟨z1, z2⟩ := hS m hm (hb.resolve_right (by omega))
        exact ⟨z1, fun h4 c hc => by rw [o2.l 36 m c (by omega), o1.l 36 m c (by omega)]; exact z2 h4 c hc⟩)
    refine T_X4_findSteps_2 ⟨fun g => ?_, fun _ => ⟨nI_in (by omega) (by omega), n0, by rw [nI_clamp (show k < 2 ^ 31 by omega)]; exact q0, ?_⟩⟩
    · rw [zrd_nM hR1, nI_leI (by omega) (by omega)] at g
      omega
    · have c4 : (nI (mK A k) = 4) ↔ mK A k = 4 := nI_eq (b := 4) (by omega) (by omega)
      rw [hM.2.2.1, c4]
      refine ⟨fun g => step σ zOnly.rf rfl (fun h4 => ?_), fun g => ?_⟩
      · have g2 := g.resolve_left (fun z => z h4)
        rw [zb_0, Decidable.not_not, zl_bit0 (by omega), Bool.not_eq_false] at g2
        exact (hS k (by omega) g2).2 h4
      · exact L_X4_find44 (d := d) hW hR1 hG1 hkM hM (Decidable.not_not.mp (fun z => g (Or.inl z))) step 64 0 rfl σ zOnly.rf rfl (fun c hc => absurd hc (Nat.not_lt_zero c))
theorem S_X4_findSteps {K : zSt → Prop} (hW : zWf A) (hR : zRD A σ 0) (hG : zGr σ) (hS : zKS A σ) (hK : ∀ σ', zOnly zQs σ σ' → σ'.2.2.2 = σ.2.2.2 → zKS A σ' → (∀ m, m < aM A → zSp A σ' m) → K σ') : zCv true (d + 5) 0 0 M_X4_findSteps [.inr (.inr (9, 0))] σ K :=
  zC_intro pl_X4 (Nat.le_of_ble_eq_true rfl) (T_X4_findSteps_0 (L_X4_find2 hW hR hG (fun σ' h1 h2 h3 h4 => ⟨rfl, hK σ' h1 h2 h3 h4⟩) (aM A) 0 (by omega) σ zOnly.rf rfl hS (fun m hm => absurd hm (Nat.not_lt_zero m))))
/-- the cells that keep a measure with a cell -/
def kpB (A : zAb) (m : Nat) (f : Int32) (c e : Nat) : Bool := if f = 0 then mKeep A m e c else mKeep A m c e
theorem S_X4_keeping {K : Int64 → zSt → Prop} (hW : zWf A) (hG : zGr σ) {n m c : Nat} (hm : m < aM A) (hM : zMe A σ n m) (hS : zSp A σ m) (hc : c < 64) (f : Int32) (hK : K (zset (kpB A m f c) 64) σ) : zCl true (d + 1) 0 0 M_X4_keeping [.inr (.inr (9, 0)), .inr (.inr (17, n)), .inl (f), .inl (nI c)] σ K := by
  obtain ⟨w1, w2, w3, w4, w5, w6, w7, w8⟩ := hW.2.2.1 m hm
  have hM60 : aM A ≤ 60 := hW.1.2.2.2.2.2.1
  obtain ⟨q1, q2, q3, q4, q5, q6, q7⟩ := hM
  have ck : ∀ b : Nat, b ≤ 4 → ((nI (mK A m) = nI b) ↔ mK A m = b) := fun b hb => nI_eq (by omega) (by omega)
  have c0 : (nI (mK A m) = 0) ↔ mK A m = 0 := ck 0 (by omega)
  have c1 : (nI (mK A m) = 1) ↔ mK A m = 1 := ck 1 (by omega)
  have c2 : (nI (mK A m) = 2) ↔ mK A m = 2 := ck 2 (by omega)
  have c3 : (nI (mK A m) = 3) ↔ mK A m = 3 := ck 3 (by omega)
  have i64 : vp_in (nI c) 64 := nI_in hc (by omega)
  have kp : ∀ p : Nat → Bool, (∀ e, e < 64 → p e = kpB A m f c e) → K (zset p 64) σ := fun p h => by
    rw [zset_cong h]; exact hK
  have sy : ∀ e, mK A m ≤ 2 → kpB A m f c e = mKeep A m c e := fun e he => by
    unfold kpB
    split
    · unfold mKeep
      rw [zdist_sym e c, if_neg (show ¬ mK A m = 3 by omega), if_neg (show ¬ mK A m = 3 by omega)]
      by_cases z0 : mK A m = 0
      · rw [if_pos z0, if_pos z0]
      · by_cases z1 : mK A m = 1
        · rw [if_neg z0, if_neg z0, if_pos z1, if_pos z1]
        · rw [if_neg z0, if_neg z0, if_neg z1, if_neg z1, if_pos (by omega), if_pos (by omega)]
    · rfl
  refine zC_intro pl_X4 (Nat.le_of_ble_eq_true rfl) (T_X4_keeping_0 ?_)
  rw [q3, c0, c1, c2, c3]
  refine ⟨fun h => ?_, fun h => ?_, fun h => ?_, fun h => ?_, fun h0 h1 h2 h3 => ?_⟩
  · rw [q6, q7, nI_clamp (show mQ A m < 2 ^ 31 by omega), nI_clamp (show c < 2 ^ 31 by omega)]
    have cp : (nI (mP A m) ≤ 0) ↔ mP A m = 0 := by
      rw [show (0 : Int32) = nI 0 from rfl, nI_leI (by omega) (by omega)]
      omega
    have ep : 0 < mP A m → nI (mP A m) - 1 = nI (mP A m - 1) := fun z => by
      rw [show (1 : Int32) = nI 1 from rfl, nI_sub (by omega)]
    refine ⟨nI_in (by omega) (by omega), i64, fun g => ?_, fun _ => i64, fun x hx => ⟨_, rfl, ?_⟩⟩
    · rw [cp] at g
      rw [ep (by omega)]
      exact nI_in (by omega) (by omega)
    · have ex : x = zset (fun e => decide (zdist c e < mP A m)) 64 := by
        rw [hx]
        by_cases z : mP A m = 0
        · rw [if_pos (cp.mpr z)]
          exact zset_eq (fun i hi => by rw [tb_0, z]; simp)
        · rw [if_neg (fun q => z (cp.mp q)), ep (by omega), nI_clamp (show mP A m - 1 < 2 ^ 31 by omega), hG.1 _ c (by omega) hc]
          exact zset_cong (fun i hi => decide_eq_decide.mpr (by omega))
      rw [ex, hG.1 _ c (by omega) hc]
      have e : zset (fun d => decide (zdist c d ≤ mQ A m)) 64 &&& (zset (fun e => decide (zdist c e < mP A m)) 64 ^^^ (-1)) = zset (fun e => decide (zdist c e ≤ mQ A m) && !decide (zdist c e < mP A m)) 64 := zset_eq (fun i hi => by
        rw [tb_and, tb_not _ hi, tb_set hi, tb_set hi])
      rw [e]
      refine kp _ (fun e he => ?_)
      rw [sy e (by omega)]
      unfold mKeep
      rw [if_pos h, Bool.and_comm]
      congr 1
      rw [← decide_not, decide_eq_decide]
      omega
  · rw [q7, nI_clamp (show mQ A m < 2 ^ 31 by omega), nI_clamp (show c < 2 ^ 31 by omega), hG.1 _ c (by omega) hc]
    refine ⟨nI_in (by omega) (by omega), i64, _, rfl, kp _ (fun e he => ?_)⟩
    rw [sy e (by omega)]
    unfold mKeep
    rw [if_neg (by omega), if_pos h]
  · rw [q7, nI_clamp (show mQ A m < 2 ^ 31 by omega), nI_clamp (show c < 2 ^ 31 by omega), hG.1 _ c (by omega) hc]
    have e : zset (fun d => decide (zdist c d ≤ mQ A m)) 64 ^^^ (-1) = zset (fun e => !decide (zdist c e ≤ mQ A m)) 64 := zset_eq (fun i hi => by rw [tb_not _ hi, tb_set hi])
    rw [e]
    refine ⟨nI_in (by omega) (by omega), i64, _, rfl, kp _ (fun e he => ?_)⟩
    rw [sy e (by omega)]
    unfold mKeep
    rw [if_neg (by omega), if_neg (by omega), if_pos h, ← decide_not, decide_eq_decide]
    omega
  · rw [q6]
    have w7' := w7 h
    refine fun x hx => ?_
    have e2 : ∀ p, p < 4 → (nI p + 2) &&& 3 = nI ((p + 2) % 4) := by decide +kernel
    have ex : x = nI (if f = 0 then (mP A m + 2) % 4 else mP A m) := by
      rw [hx, e2 _ (by omega)]
      by_cases z : f = 0
      · rw [if_pos z, if_pos z]
      · rw [if_neg z, if_neg z]
    have hl : (if f = 0 then (mP A m + 2) % 4 else mP A m) < 4 := by
      split <;> omega
    rw [ex, nI_clamp (by omega), nI_clamp (show c < 2 ^ 31 by omega), hG.2 _ c hl hc]
    refine ⟨nI_in hl (by omega), i64, _, rfl, kp _ (fun e he => ?_)⟩
    unfold kpB mKeep
    rw [if_neg (show ¬ mK A m = 0 by omega), if_neg (show ¬ mK A m = 1 by omega), if_neg (show ¬ mK A m = 2 by omega), if_pos h, if_neg (show ¬ mK A m = 0 by omega), if_neg (show ¬ mK A m = 1 by omega), if_neg (show ¬ mK A m = 2 by omega), if_pos h]
    by_cases z : f = 0
    · rw [if_pos z, if_pos z, zside_back _ (by omega)]
    · rw [if_neg z, if_neg z]
  · rw [q2, nI_clamp (show m < 2 ^ 31 by omega), nI_clamp (show c < 2 ^ 31 by omega), hS (by omega) c hc]
    refine ⟨nI_in (by omega) (by omega), i64, _, rfl, kp _ (fun e he => ?_)⟩
    unfold kpB mKeep
    rw [if_neg h0, if_neg h1, if_neg h2, if_neg h3, if_neg h0, if_neg h1, if_neg h2, if_neg h3]
    split
    · exact hopAt_sym A _ _ _ _
    · rfl
theorem S_X4_isKept {K : Int32 → zSt → Prop} (hW : zWf A) (hG : zGr σ) {n m c e : Nat} (hm : m < aM A) (hM : zMe A σ n m) (hS : zSp A σ m) (hc : c < 64) (he : e < 64) (hK : K (zb (mKeep A m c e = true)) σ) : zCi true (d + 2) 0 0 M_X4_isKept [.inr (.inr (9, 0)), .inr (.inr (17, n)), .inl (nI c), .inl (nI e)] σ K := by
  refine zC_intro pl_X4 (Nat.le_of_ble_eq_true rfl) (T_X4_isKept_0 (S_X4_keeping hW hG hm hM hS hc 1 ⟨_, rfl, ?_⟩))
  rw [zh_b he]
  exact hK
end zCb
