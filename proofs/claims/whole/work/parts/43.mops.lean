/-! the reference's plain calls -/
section zM3
variable {d kc ks : Nat} {σ : zSt} {A : zAb} {Q : Option zV → zSt → Prop}
theorem as3_eq (A : zAb) (a k : Nat) (v : Bool) : (as3 A a k v).2.2.2 a k = v := by simp [as3]
theorem as3_ne {A : zAb} {a k b i : Nat} {v : Bool} (h : ¬ (b = a ∧ i = k)) : (as3 A a k v).2.2.2 b i = A.2.2.2 b i := by simp [as3, h]
theorem zb_iff {P R : Prop} [Decidable P] [Decidable R] (h : P ↔ R) : zb P = zb R := by
  unfold zb
  by_cases p : P
  · rw [if_pos p, if_pos (h.mp p)]
  · rw [if_neg p, if_neg (fun q => p (h.mpr q))]
theorem zb_ne {p : Prop} [Decidable p] {a : Int32} (ha : a = 0 ∨ a = 1) : (¬ zb p = a) ↔ ¬ (p ↔ a = 1) := by
  rcases ha with rfl | rfl
  · rw [zb_0]
    by_cases h : p <;> simp [h]
  · rw [zb_1]
    by_cases h : p <;> simp [h]
theorem zb_self {a : Int32} (ha : a = 0 ∨ a = 1) : zb (decide (a = 1) = true) = a := by
  rcases ha with rfl | rfl <;> rfl
/-- the rule ALONE -/
theorem O_X12_alone {ph : Bool} {K : Int32 → zSt → Prop} (hR : zRM A σ) (a : Int32) (ha : a = 0 ∨ a = 1) (hK : ∀ σ', zRM (as3 A 3 0 (decide (a = 1))) σ' → zOnly (fun c _ k => c = 54 ∧ k = 23) σ σ' → K (zb (¬ aAl A = decide (a = 1))) σ') : zCi ph (d + 1) 0 0 M_X12_alone [.inr (.inr (54, 0)), .inl (a)] σ K := by
  refine zC_intro pl_X12 (Nat.le_of_ble_eq_true rfl) (T_X12_alone_0 ⟨ha, fun x hx => ⟨_, rfl, ?_⟩⟩)
  have e : x = zb (¬ aAl A = decide (a = 1)) := by
    rw [hx]
    apply zb_of1
    rw [hR.1.2.2.2.2.2.1, zb_ne ha]
    by_cases h : a = 1
    · simp [h]
    · simp [h]
  rw [e]
  refine hK _ ?_ (zOnly.si ⟨rfl, rfl⟩)
  obtain ⟨⟨a1, a2, a3, a4, a5, a6, a7⟩, h2, h3, h4⟩ := hR
  exact ⟨⟨a1, a2, a3, a4, a5, (zb_self ha).symm, a7⟩, h2, h3, h4⟩
/-- what the map has of a thing -/
theorem O_X12_put {K : Int32 → zSt → Prop} (hW : zWf A) (hR : zRM A σ) (a b : Int32) (hno : ¬ (tI A a = true ∧ (b = -9 ∨ acI A b = true)) → K (-1) σ)
    (hyes : ∀ t, t < aN A → a = nI t → ∀ z : Int, b = iI z → (z = -9 ∨ ∃ c : Nat, z = (c : Int) ∧ acell A c = true) → ∀ σ', zRM (as2 A 3 t z) σ' → zOnly (fun c _ _ => c = 62) σ σ' → K (iI (aMp A t)) σ') : zCi true (d + 3) 0 0 M_X12_put [.inr (.inr (54, 0)), .inl (a), .inl (b)] σ K := by
  have hN : aN A ≤ 24 := hW.1.2.2.2.2.1
  have fin : ∀ kc ks : Nat, tI A a = true → (b = -9 ∨ acI A b = true) → zE true (d + 3) kc ks M_X12_put 24 [some (.inr (.inr (54, 0))), some (.inl a), some (.inl b), none] [] σ (fun r σ' => ∃ x, r = some (.inl x) ∧ K x σ') := by
    intro kc ks h1 h2
    obtain ⟨t, ht, rfl⟩ := tI_nI h1
    obtain ⟨q1, q2, q3, q4, q5, q6, q7, q8, q9, q10⟩ := hR.2.1 t ht
    obtain ⟨z, hz, hz2⟩ : ∃ z : Int, b = iI z ∧ (z = -9 ∨ ∃ c : Nat, z = (c : Int) ∧ acell A c = true) := by
      rcases h2 with rfl | h2
      · exact ⟨-9, rfl, Or.inl rfl⟩
      · obtain ⟨c, -, hc, rfl⟩ := acI_nI h2
        exact ⟨(c : Int), rfl, Or.inr ⟨c, rfl, hc⟩⟩
    refine T_X12_put_24 ⟨nI_in ht (by omega) |> fun h => nI_in (by omega) (by omega), nI_in (by omega) (by omega), _, rfl, ?_⟩
    rw [nI_clamp (by omega), q10]
    refine hyes t ht rfl z hz hz2 _ ?_ (zOnly.si rfl)
    obtain ⟨g1, g2, g3, g4⟩ := hR
    refine ⟨g1, fun u hu => ?_, g3, g4⟩
    obtain ⟨r1, r2, r3, r4, r5, r6, r7, r8, r9, r10⟩ := g2 u hu
    refine ⟨r1, r2, r3, r4, r5, r6, r7, r8, r9, ?_⟩
    rw [zgi_si]
    by_cases e : u = t
    · subst e
      simp [aMp, as2, hz]
    · rw [if_neg (fun q => e q.2.2), r10]
      simp [aMp, as2, e]
  refine zC_intro pl_X12 (Nat.le_of_ble_eq_true rfl) (T_X12_put_0 (S_X12_noThing hW hR a ⟨fun h => ⟨_, rfl, hno ?_⟩, fun h => ⟨fun e => ?_, fun e => S_X12_isCell hW hR b ⟨fun h2 => ?_, fun h2 => ⟨_, rfl, hno ?_⟩⟩⟩⟩))
  · rw [zb_0, Decidable.not_not] at h
    exact fun q => h q.1
  · rw [zb_0, Decidable.not_not] at h
    exact fin _ _ h (Or.inl e)
  · rw [zb_0, Decidable.not_not] at h h2
    exact fin _ _ h (Or.inr h2)
  · rw [zb_0] at h2
    exact fun q => q.2.elim e h2
/-- trust -/
theorem O_X12_trust {K : Int32 → zSt → Prop} (hW : zWf A) (hR : zRM A σ) (a b : Int32) (hb : b = 0 ∨ b = 1) (hno : ¬ tI A a = true → K (-1) σ)
    (hyes : ∀ t, t < aN A → a = nI t → ∀ σ', zRM (as3 A 1 t (decide (b = 1))) σ' → zOnly (fun c _ k => c = 59 ∨ c = 54 ∧ k = 27) σ σ' → zgi σ' 54 0 27 = 0 → K (zb (¬ aTr A t = decide (b = 1))) σ') : zCi true (d + 3) 0 0 M_X12_trust [.inr (.inr (54, 0)), .inl (a), .inl (b)] σ K := by
  have hN : aN A ≤ 24 := hW.1.2.2.2.2.1
  refine zC_intro pl_X12 (Nat.le_of_ble_eq_true rfl) (T_X12_trust_0 (S_X12_noThing hW hR a ⟨fun h => ?_, fun h => ⟨_, rfl, hno ?_⟩⟩))
  · rw [zb_0, Decidable.not_not] at h
    obtain ⟨t, ht, rfl⟩ := tI_nI h
    obtain ⟨q1, q2, q3, q4, q5, q6, q7, q8, q9, q10⟩ := hR.2.1 t ht
    refine ⟨nI_in (by omega) (by omega), nI_in (by omega) (by omega), hb, fun x hx => ⟨_, rfl, ?_⟩⟩
    rw [nI_clamp (by omega)] at hx ⊢
    have e : x = zb (¬ aTr A t = decide (b = 1)) := by
      rw [hx]
      apply zb_of1
      rw [q7, zb_ne hb]
      by_cases h : b = 1
      · simp [h]
      · simp [h]
    rw [e]
    refine hyes t ht rfl _ ?_ ((zOnly.si (Or.inl rfl)).tr (zOnly.si (Or.inr ⟨rfl, rfl⟩))) (by simp [zgi_si])
    obtain ⟨⟨a1, a2, a3, a4, a5, a6, a7⟩, g2, g3, g4⟩ := hR
    refine ⟨⟨a1, a2, a3, a4, a5, a6, a7⟩, fun u hu => ?_, g3, g4⟩
    obtain ⟨r1, r2, r3, r4, r5, r6, r7, r8, r9, r10⟩ := g2 u hu
    refine ⟨r1, r2, r3, r4, r5, r6, ?_, r8, r9, r10⟩
    rw [zgi_si, if_neg (by omega), zgi_si]
    by_cases e : u = t
    · subst e
      rw [if_pos ⟨rfl, rfl, rfl⟩]
      show _ = zb ((as3 A 1 u (decide (b = 1))).2.2.2 1 u = true)
      rw [as3_eq, zb_self hb]
    · rw [if_neg (fun q => e q.2.2), r7]
      show _ = zb ((as3 A 1 _ (decide (b = 1))).2.2.2 1 u = true)
      rw [as3_ne (fun q => e q.2)]
      rfl
  · rw [zb_0] at h
    exact fun q => h (fun z => z q)
/-- a measure is on, or off -/
theorem O_X12_turn {K : Int32 → zSt → Prop} (hW : zWf A) (hR : zRM A σ) (a b : Int32) (hb : b = 0 ∨ b = 1) (hno : ¬ mI A a = true → K (-1) σ)
    (hyes : ∀ m, m < aM A → a = nI m → ∀ σ', zRM (as3 A 2 m (decide (b = 1))) σ' → zOnly (fun c _ k => c = 68 ∨ c = 54 ∧ (k = 25 ∨ k = 26 ∨ k = 27)) σ σ' → zgi σ' 54 0 25 = 0 → zgi σ' 54 0 26 = 0 → zgi σ' 54 0 27 = 0 → K (zb (¬ mO A m = decide (b = 1))) σ') : zCi true (d + 3) 0 0 M_X12_turn [.inr (.inr (54, 0)), .inl (a), .inl (b)] σ K := by
  have hM : aM A ≤ 60 := hW.1.2.2.2.2.2.1
  refine zC_intro pl_X12 (Nat.le_of_ble_eq_true rfl) (T_X12_turn_0 (S_X12_noMeasure hW hR a ⟨fun h => ?_, fun h => ⟨_, rfl, hno ?_⟩⟩))
  · rw [zb_0, Decidable.not_not] at h
    obtain ⟨m, hm, rfl⟩ := mI_nI h
    obtain ⟨q1, q2, q3, q4, q5, q6⟩ := hR.2.2.1 m hm
    refine ⟨nI_in (by omega) (by omega), nI_in (by omega) (by omega), hb, S_X12_other (fun σ' ho f1 f2 f3 x hx => ⟨_, rfl, ?_⟩)⟩
    rw [nI_clamp (by omega)] at hx ho
    have e : x = zb (¬ mO A m = decide (b = 1)) := by
      rw [hx]
      apply zb_of1
      rw [q6, zb_ne hb]
      by_cases h : b = 1
      · simp [h]
      · simp [h]
    rw [e]
    refine hyes m hm rfl _ ?_ ((zOnly.si (Or.inl rfl)).tr (ho.mono (fun c j k h => Or.inr h))) f1 f2 f3
    refine zRM.only (σ := zsi σ 68 0 m b) ?_ ho (fun c k h => by unfold zBM at h; omega)
    obtain ⟨⟨a1, a2, a3, a4, a5, a6, a7⟩, g2, g3, g4⟩ := hR
    refine ⟨⟨a1, a2, a3, a4, a5, a6, a7⟩, g2, fun u hu => ?_, g4⟩
    obtain ⟨r1, r2, r3, r4, r5, r6⟩ := g3 u hu
    refine ⟨r1, r2, r3, r4, r5, ?_⟩
    rw [zgi_si]
    by_cases e : u = m
    · subst e
      rw [if_pos ⟨rfl, rfl, rfl⟩]
      show _ = zb ((as3 A 2 u (decide (b = 1))).2.2.2 2 u = true)
      rw [as3_eq, zb_self hb]
    · rw [if_neg (fun q => e q.2.2), r6]
      show _ = zb ((as3 A 2 _ (decide (b = 1))).2.2.2 2 u = true)
      rw [as3_ne (fun q => e q.2)]
      rfl
  · rw [zb_0] at h
    exact fun q => h (fun z => z q)
/-- a wall, or none -/
theorem O_X12_wall {K : Int32 → zSt → Prop} (hW : zWf A) (hR : zRM A σ) (a b : Int32) (hb : b = 0 ∨ b = 1) (hno : ¬ acI A a = true → K (-1) σ) (hst : ∀ c, c < 64 → acell A c = true → a = nI c → anAt A c = true → K (-3) σ)
    (hyes : ∀ c, c < 64 → acell A c = true → a = nI c → anAt A c = false → ∀ σ', zRM (as3 A 0 c (decide (b = 1))) σ' → zOnly (fun c _ k => c = 55 ∨ zFl c 0 k) σ σ' → (∀ m, m < 60 → zgi σ' 72 0 m = 0) → zgi σ' 54 0 25 = 0 → zgi σ' 54 0 26 = 0 → zgi σ' 54 0 27 = 0 → K (zb (¬ aWl A c = decide (b = 1))) σ') : zCi true (d + 3) 0 0 M_X12_wall [.inr (.inr (54, 0)), .inl (a), .inl (b)] σ K := by
  refine zC_intro pl_X12 (Nat.le_of_ble_eq_true rfl) (T_X12_wall_0 (S_X12_isCell hW hR a ⟨fun h => ?_, fun h => ⟨_, rfl, hno ?_⟩⟩))
  · rw [zb_0, Decidable.not_not] at h
    obtain ⟨c, hc, hac, rfl⟩ := acI_nI h
    refine S_X12_isAnchorAt hW hR hc ⟨fun h2 => ?_, fun h2 => ⟨_, rfl, hst c hc hac rfl ?_⟩⟩
    · rw [zb_0] at h2
      refine ⟨nI_in (by omega) (by omega), nI_in (by omega) (by omega), hb, S_X12_otherField (fun σ' ho f0 f1 f2 f3 x hx => ⟨_, rfl, ?_⟩)⟩
      rw [nI_clamp (by omega)] at hx ho
      have e : x = zb (¬ aWl A c = decide (b = 1)) := by
        rw [hx]
        apply zb_of1
        rw [hR.1.2.2.2.2.2.2 c hc, zb_ne hb]
        by_cases h : b = 1
        · simp [h]
        · simp [h]
      rw [e]
      refine hyes c hc hac rfl (by simpa using h2) _ ?_ ((zOnly.si (Or.inl rfl)).tr (ho.mono (fun c j k h => Or.inr h))) f0 f1 f2 f3
      refine zRM.only (σ := zsi σ 55 0 c b) ?_ ho (fun c k h => by unfold zBM at h; unfold zFl; omega)
      obtain ⟨⟨a1, a2, a3, a4, a5, a6, a7⟩, g2, g3, g4⟩ := hR
      refine ⟨⟨a1, a2, a3, a4, a5, a6, fun y he => ?_⟩, g2, g3, g4⟩
      rw [zgi_si]
      by_cases q : y = c
      · subst q
        rw [if_pos ⟨rfl, rfl, rfl⟩]
        show _ = zb ((as3 A 0 y (decide (b = 1))).2.2.2 0 y = true)
        rw [as3_eq, zb_self hb]
      · rw [if_neg (fun z => q z.2.2), a7 y he]
        show _ = zb ((as3 A 0 c (decide (b = 1))).2.2.2 0 y = true)
        rw [as3_ne (fun z => q z.2)]
        rfl
    · rw [zb_0, Decidable.not_not] at h2
      exact h2
  · rw [zb_0] at h
    exact h
end zM3
