/-! flipped (class): the call -/
section zCv2
variable {d kc ks : Nat} {σ : zSt} {A : zAb} {Q : Option zV → zSt → Prop}
abbrev z25 (c j _k : Nat) : Prop := c = 25 ∧ j = 0
theorem zRD.map {σ0 σ : zSt} {f : Nat → Int} (h : zRD A σ0 0) (ho : zOnly z25 σ0 σ) (hh : σ.2.2.2 = σ0.2.2.2) (hz : ∀ t, t < aN A → zgi σ 25 0 t = iI (f t)) : zRD (mpS A f) σ 0 := by
  obtain ⟨⟨a1, a2, a3, a4, a5, a6, a7, a8, a9⟩, h2, h3, h4⟩ := h
  have cn : ∀ c, zcn σ c = zcn σ0 c := fun c => by unfold zcn; rw [hh]
  refine ⟨⟨?_, ?_, ?_, ?_, ?_, ?_, ?_, ?_, ?_⟩, fun t ht => ?_, fun m hm => ?_, fun v hv => ?_⟩
  · rw [ho.i 7 0 0 (by omega)]; exact a1
  · rw [ho.i 7 0 1 (by omega)]; exact a2
  · rw [ho.l 7 0 2 (by omega)]; exact a3
  · rw [ho.i 7 0 3 (by omega)]; exact a4
  · rw [ho.i 7 0 7 (by omega)]; exact a5
  · rw [ho.i 7 0 8 (by omega)]; exact a6
  · rw [ho.l 7 0 10 (by omega)]; exact a7
  · rw [ho.i 7 0 11 (by omega)]; exact a8
  · rw [ho.i 7 0 15 (by omega)]; exact a9
  · have ht' : t < aN A := ht
    obtain ⟨⟨n, q1, q2, q3, q4, q5, q6, q7⟩, q8, q9⟩ := h2 t ht'
    refine ⟨⟨n, ?_, ?_, ?_, ?_, ?_, ?_, ?_⟩, ?_, ?_⟩
    · rw [ho.r 23 0 t (by omega)]; exact q1
    · rw [cn]; exact q2
    · rw [ho.i 16 n 0 (by omega)]; exact q3
    · rw [ho.i 16 n 1 (by omega)]; exact q4
    · rw [ho.i 16 n 2 (by omega), q5]; simp [aC, mpS]
    · rw [ho.i 16 n 3 (by omega), q6]; simp [aMo, mpS]
    · rw [ho.i 16 n 4 (by omega), q7]; simp [aTi, mpS]
    · rw [ho.l 24 0 t (by omega)]; exact q8
    · rw [hz t ht']; simp [aMp, mpS]
  · obtain ⟨n, q1, q2, q3, q4, q5, q6, q7, q8⟩ := h3 m hm
    refine ⟨n, ?_, ?_, ?_, ?_, ?_, ?_, ?_, ?_⟩
    · rw [ho.r 26 0 m (by omega)]; exact q1
    · rw [cn]; exact q2
    · rw [ho.i 17 n 0 (by omega)]; exact q3
    · rw [ho.i 17 n 1 (by omega)]; exact q4
    · rw [ho.i 17 n 2 (by omega)]; exact q5
    · rw [ho.i 17 n 3 (by omega)]; exact q6
    · rw [ho.i 17 n 4 (by omega)]; exact q7
    · rw [ho.i 17 n 5 (by omega)]; exact q8
  · obtain ⟨q1, q2, q3⟩ := h4 v hv
    rw [ho.i 27 0 v (by omega), ho.i 28 0 v (by omega), ho.i 29 0 v (by omega)]
    exact ⟨q1, q2, q3⟩
theorem L_X2_settle {σ0 : zSt} (hW : zWf A) (hR : zRD A σ0 0) {x : zFl4} (hK : zKc A σ0 x) (hQ : ∀ σ', zOnly z25 σ0 σ' → σ'.2.2.2 = σ0.2.2.2 → zRD (aFlip A x) σ' 0 → Q (some (.inl (nI (mvC A x.2.2.1 x.1 x.2.2.2 (aN A))))) σ') : ∀ (n k : Nat), k + n = aN A → ∀ σ : zSt, zOnly z25 σ0 σ → σ.2.2.2 = σ0.2.2.2 → (∀ t, t < aN A → zgi σ 25 0 t = iI (if t < k then flM A x t else aMp A t)) → zE true (d + 2) kc ks M_X2_settleOnMap 4 [some (.inr (.inr (12, 0))), some (.inl (nI (mvC A x.2.2.1 x.1 x.2.2.2 k))), some (.inl (nI k))] [] σ Q := by
  have hN : aN A ≤ 24 := hW.1.2.2.2.2.1
  obtain ⟨k1, k2, k3, k4, k5⟩ := hK
  intro n
  induction n with
  | zero =>
    intro k hk σ ho hh hz
    have : k = aN A := by omega
    subst this
    refine T_X2_settleOnMap_4 ⟨fun _ => hQ σ ho hh (hR.map ho hh (fun t ht => by rw [hz t ht, if_pos ht])), fun g => absurd (by rw [ho.i 7 0 3 (by omega), zrd_nT hR]; exact Int32.le_refl _) g⟩
  | succ n ih =>
    intro k hk σ ho hh hz
    have hkN : k < aN A := by omega
    have i24 : vp_in (nI k) 24 := nI_in (by omega) (by omega)
    have r1 := (aMp_r hW hkN).1
    have r2 : -9 ≤ tnT A x.1 x.2.2.2 k ∧ tnT A x.1 x.2.2.2 k < 64 := by
      unfold tnT
      rcases tnC_r hW x.2.2.2 (aMp A x.1).toNat (aMp A k).toNat with q | ⟨c, q, q2, q3⟩ <;> omega
    refine T_X2_settleOnMap_4 ⟨fun g => ?_, fun _ => ?_⟩
    · rw [ho.i 7 0 3 (by omega), zrd_nT hR, nI_leI (by omega) (by omega)] at g
      omega
    · rw [nI_clamp (show k < 2 ^ 31 by omega), ho.i 12 0 9 (by omega), k4, yh_b (by omega), zb_0, hz k hkN, if_neg (Nat.lt_irrefl k), ho.i 50 0 k (by omega), ← nI_succ, ← nI_succ]
      have ec : mvC A x.2.2.1 x.1 x.2.2.2 (k + 1) = mvC A x.2.2.1 x.1 x.2.2.2 k + (if (x.2.2.1 k && !decide (tnT A x.1 x.2.2.2 k = aMp A k)) = true then 1 else 0) := fb_ct_succ _ _
      have cz : x.2.2.1 k = true → ((iI (aMp A k) = zgi σ0 50 0 k) ↔ tnT A x.1 x.2.2.2 k = aMp A k) := fun z => by
        rw [k5 k z, iI_eqI (by omega) (by omega)]
        exact ⟨fun q => q.symm, fun q => q.symm⟩
      have hz' : ∀ σ' : zSt, (∀ t, ¬ t = k → zgi σ' 25 0 t = zgi σ 25 0 t) → zgi σ' 25 0 k = iI (flM A x k) → ∀ t, t < aN A → zgi σ' 25 0 t = iI (if t < k + 1 then flM A x t else aMp A t) := fun σ' u1 u2 t ht => by
        by_cases e : t = k
        · subst e; rw [u2, if_pos (by omega)]
        · rw [u1 t e, hz t ht]
          by_cases l : t < k
          · rw [if_pos l, if_pos (by omega)]
          · rw [if_neg l, if_neg (by omega)]
      refine ⟨fun _ => i24, fun _ => i24, fun g => ?_, fun g => ⟨i24, i24, ?_⟩⟩
      · have hs : (x.2.2.1 k && !decide (tnT A x.1 x.2.2.2 k = aMp A k)) = false ∧ aMp A k = flM A x k := by
          by_cases z : x.2.2.1 k = true
          · have q := (cz z).mp (g.resolve_left (fun y => y z))
            unfold flM
            rw [if_pos z, decide_eq_true q, q, z]
            exact ⟨rfl, rfl⟩
          · unfold flM
            rw [if_neg z]
            rw [Bool.not_eq_true] at z
            rw [z]
            exact ⟨rfl, rfl⟩
        have := ih (k + 1) (by omega) σ ho hh (hz' σ (fun t _ => rfl) (by rw [hz k hkN, if_neg (Nat.lt_irrefl k), hs.2]))
        rw [ec, hs.1] at this
        exact this
      · have z : x.2.2.1 k = true := Decidable.not_not.mp (fun q => g (Or.inl q))
        have q : ¬ tnT A x.1 x.2.2.2 k = aMp A k := fun y => g (Or.inr ((cz z).mpr y))
        have hs : (x.2.2.1 k && !decide (tnT A x.1 x.2.2.2 k = aMp A k)) = true := by rw [z, decide_eq_false q]; rfl
        have := ih (k + 1) (by omega) _ (ho.tr (zOnly.si (m := z25) ⟨rfl, rfl⟩)) hh (hz' (zsi σ 25 0 k (zgi σ0 50 0 k)) (fun t e => by rw [zgi_si, if_neg (fun y => e y.2.2)]) (by rw [zgi_si, if_pos ⟨rfl, rfl, rfl⟩, k5 k z]; unfold flM; rw [if_pos z]))
        rw [ec, hs] at this
        exact this
end zCv2
