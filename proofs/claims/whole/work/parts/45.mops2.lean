/-! the reference: a thing more, a box, a measure more -/
def aThing (A : zAb) (k : Nat) (c m ti : Int) : zAb :=
  (fun i => if i = 2 then aN A + 1 else A.1 i,
   fun b i => if i = aN A ∧ b = 0 then k else if i = aN A ∧ (b = 1 ∨ b = 2) then 0 else if i = aN A ∧ (b = 3 ∨ b = 4) then 7 else A.2.1 b i,
   fun b i => if i = aN A ∧ b = 0 then (if k = 0 then -9 else c) else if i = aN A ∧ b = 1 then m else if i = aN A ∧ b = 2 then ti else if i = aN A ∧ b = 3 then -9 else A.2.2.1 b i,
   fun b i => if i = aN A ∧ b = 1 then false else A.2.2.2 b i)
section zTp
variable {A : zAb} {k : Nat} {c m ti : Int}
theorem tp_W : aW (aThing A k c m ti) = aW A := rfl
theorem tp_H : aH (aThing A k c m ti) = aH A := rfl
theorem tp_N : aN (aThing A k c m ti) = aN A + 1 := rfl
theorem tp_M : aM (aThing A k c m ti) = aM A := rfl
theorem tp_V : aV (aThing A k c m ti) = aV A := rfl
theorem tp_K (t : Nat) : aK (aThing A k c m ti) t = if t = aN A then k else aK A t := by simp [aK, aThing]
theorem tp_X1 (t : Nat) : aX1 (aThing A k c m ti) t = if t = aN A then 0 else aX1 A t := by simp [aX1, aThing]
theorem tp_Y1 (t : Nat) : aY1 (aThing A k c m ti) t = if t = aN A then 0 else aY1 A t := by simp [aY1, aThing]
theorem tp_X2 (t : Nat) : aX2 (aThing A k c m ti) t = if t = aN A then 7 else aX2 A t := by simp [aX2, aThing]
theorem tp_Y2 (t : Nat) : aY2 (aThing A k c m ti) t = if t = aN A then 7 else aY2 A t := by simp [aY2, aThing]
theorem tp_C (t : Nat) : aC (aThing A k c m ti) t = if t = aN A then (if k = 0 then -9 else c) else aC A t := by simp [aC, aThing]
theorem tp_Mo (t : Nat) : aMo (aThing A k c m ti) t = if t = aN A then m else aMo A t := by simp [aMo, aThing]
theorem tp_Ti (t : Nat) : aTi (aThing A k c m ti) t = if t = aN A then ti else aTi A t := by simp [aTi, aThing]
theorem tp_Mp (t : Nat) : aMp (aThing A k c m ti) t = if t = aN A then -9 else aMp A t := by simp [aMp, aThing]
theorem tp_Tr (t : Nat) : aTr (aThing A k c m ti) t = if t = aN A then false else aTr A t := by simp [aTr, aThing]
theorem tp_Wl (x : Nat) : aWl (aThing A k c m ti) x = aWl A x := by simp [aWl, aThing]
theorem tp_O (x : Nat) : mO (aThing A k c m ti) x = mO A x := by simp [mO, aThing]
theorem tp_Al : aAl (aThing A k c m ti) = aAl A := by simp [aAl, aThing]
theorem tp_mK (x : Nat) : mK (aThing A k c m ti) x = mK A x := by simp [mK, aThing]
theorem tp_mA (x : Nat) : mA (aThing A k c m ti) x = mA A x := by simp [mA, aThing]
theorem tp_mB (x : Nat) : mB (aThing A k c m ti) x = mB A x := by simp [mB, aThing]
theorem tp_mP (x : Nat) : mP (aThing A k c m ti) x = mP A x := by simp [mP, aThing]
theorem tp_mQ (x : Nat) : mQ (aThing A k c m ti) x = mQ A x := by simp [mQ, aThing]
theorem tp_vF (x : Nat) : vF (aThing A k c m ti) x = vF A x := by simp [vF, aThing]
theorem tp_vT (x : Nat) : vT (aThing A k c m ti) x = vT A x := by simp [vT, aThing]
theorem tp_vR (x : Nat) : vR (aThing A k c m ti) x = vR A x := by simp [vR, aThing]
theorem tp_cell (x : Nat) : acell (aThing A k c m ti) x = acell A x := rfl
theorem tp_free (x : Nat) : afree (aThing A k c m ti) x = afree A x := by unfold afree; rw [tp_cell, tp_Wl]
/-- the desk stays in order -/
theorem tp_wf (hW : zWf A) (hN : aN A < 24) (hk : k ≤ 2) (hc : 0 < k → ∃ x : Nat, c = (x : Int) ∧ afree A x = true) (hm : m = -9 ∨ 0 ≤ m ∧ m < 3) (ht : ti = -9 ∨ 0 ≤ ti ∧ ti < 8) : zWf (aThing A k c m ti) := by
  obtain ⟨⟨w1, w2, w3, w4, w5, w6, w7⟩, h2, h3, h4⟩ := hW
  refine ⟨⟨w1, w2, w3, w4, by rw [tp_N]; omega, w6, w7⟩, fun t ht' => ?_, fun x hx => ?_, fun v hv => ?_⟩
  · rw [tp_N] at ht'
    rw [tp_K, tp_C, tp_X1, tp_X2, tp_Y1, tp_Y2, tp_Mp, tp_Mo, tp_Ti]
    by_cases e : t = aN A
    · subst e
      simp only [if_true]
      refine ⟨hk, fun h => ?_, fun h => ?_, by omega, by omega, by omega, by omega, Or.inl trivial, hm, ht⟩
      · rw [if_neg (by omega)]
        obtain ⟨x, e, h⟩ := hc h
        exact ⟨x, e, by rw [tp_free]; exact h⟩
      · rw [if_pos h]
    · simp only [if_neg e]
      obtain ⟨q1, q2, q3, q4, q5, q6, q7, q8, q9, q10⟩ := h2 t (by omega)
      refine ⟨q1, fun h => ?_, q3, q4, q5, q6, q7, q8, q9, q10⟩
      obtain ⟨x, e, h⟩ := q2 h
      exact ⟨x, e, by rw [tp_free]; exact h⟩
  · rw [tp_mK, tp_mA, tp_mB, tp_mP, tp_mQ, tp_N]
    obtain ⟨q1, q2, q3, q4⟩ := h3 x hx
    exact ⟨q1, by omega, by omega, q4⟩
  · rw [tp_vT, tp_vF, tp_vR, tp_N]
    obtain ⟨q1, q2, q3, q4⟩ := h4 v hv
    exact ⟨q1, q2, by omega, q4⟩
end zTp
section zM4
variable {d kc ks : Nat} {σ : zSt} {A : zAb} {Q : Option zV → zSt → Prop}
def zTm (n c k : Nat) : Prop := ((c = 56 ∨ c = 57 ∨ c = 59 ∨ c = 60 ∨ c = 61 ∨ c = 62) ∧ k = n) ∨ (c = 58 ∧ 4 * n ≤ k ∧ k < 4 * n + 4) ∨ (c = 54 ∧ (k = 4 ∨ k = 25 ∨ k = 26 ∨ k = 27))
theorem S_X12_addThing {K : Int32 → zSt → Prop} (hR : zRM A σ) (k : Nat) (c m ti : Int) (hN : aN A < 24) (hk : k ≤ 2) (hK : ∀ σ', zRM (aThing A k c m ti) σ' → zOnly (fun c _ e => zTm (aN A) c e) σ σ' → zgi σ' 54 0 25 = 0 → zgi σ' 54 0 26 = 0 → zgi σ' 54 0 27 = 0 → K (nI (aN A)) σ') : zCi true (d + 2) 0 0 M_X12_addThing [.inr (.inr (54, 0)), .inl (nI k), .inl (iI c), .inl (iI m), .inl (iI ti)] σ K := by
  have hn : zgi σ 54 0 4 = nI (aN A) := hR.1.2.2.1
  have a4 : (4 : Int32) * nI (aN A) = nI (4 * aN A) := nI_4t _
  have a0 : (nI (4 * aN A)).toNatClampNeg = 4 * aN A := nI_clamp (by omega)
  have a1 : (nI (4 * aN A) + 1).toNatClampNeg = 4 * aN A + 1 := by rw [← nI_succ]; exact nI_clamp (by omega)
  have a2 : (nI (4 * aN A) + 2).toNatClampNeg = 4 * aN A + 2 := by rw [show (2 : Int32) = nI 2 from rfl, nI_add]; exact nI_clamp (by omega)
  have a3 : (nI (4 * aN A) + 3).toNatClampNeg = 4 * aN A + 3 := by rw [show (3 : Int32) = nI 3 from rfl, nI_add]; exact nI_clamp (by omega)
  have a9 : (nI (aN A)).toNatClampNeg = aN A := nI_clamp (by omega)
  have i9 : vp_in (nI (aN A)) 24 := nI_in (by omega) (by omega)
  refine zC_intro pl_X12 (Nat.le_of_ble_eq_true rfl) (T_X12_addThing_0 ?_)
  rw [hn, a4, a0, a1, a2, a3, a9]
  refine ⟨i9, fun x hx => ⟨i9, nI_in (by omega) (by omega), by rw [← nI_succ]; exact nI_in (by omega) (by omega), by rw [show (2 : Int32) = nI 2 from rfl, nI_add]; exact nI_in (by omega) (by omega), by rw [show (3 : Int32) = nI 3 from rfl, nI_add]; exact nI_in (by omega) (by omega), i9, i9, i9, i9, S_X12_other (fun σ' ho f1 f2 f3 => ⟨_, rfl, ?_⟩)⟩⟩
  have hO : zOnly (fun c _ e => zTm (aN A) c e) σ σ' := by
    refine zOnly.tr ?_ (ho.mono (fun c j k h => Or.inr (Or.inr ⟨h.1, Or.inr h.2⟩)))
    refine (((((((((((zOnly.si ?_).tr (zOnly.si ?_)).tr (zOnly.si ?_)).tr (zOnly.si ?_)).tr (zOnly.si ?_)).tr (zOnly.si ?_)).tr (zOnly.si ?_)).tr (zOnly.si ?_)).tr (zOnly.si ?_)).tr (zOnly.si ?_)).tr (zOnly.si ?_)) <;> (unfold zTm; omega)
  have e4 : zgi σ' 54 0 4 = nI (aN A + 1) := by
    rw [ho.i 54 0 4 (by omega), zgi_si, if_pos ⟨rfl, rfl, rfl⟩, nI_succ]
  have hans : zgi σ' 54 0 4 - 1 = nI (aN A) := by rw [e4, nI_succ]; simp
  rw [hans]
  refine hK σ' ?_ hO f1 f2 f3
  obtain ⟨⟨b1, b2, b3, b4, b5, b6, b7⟩, g2, g3, g4⟩ := hR
  refine ⟨⟨?_, ?_, e4, ?_, ?_, ?_, fun y hy => ?_⟩, fun t ht => ?_, fun y hy => ?_, fun v hv => ?_⟩
  · rw [hO.i 54 0 1 (by unfold zTm; omega)]; exact b1
  · rw [hO.i 54 0 2 (by unfold zTm; omega)]; exact b2
  · rw [hO.i 54 0 12 (by unfold zTm; omega)]; exact b4
  · rw [hO.i 54 0 19 (by unfold zTm; omega)]; exact b5
  · rw [hO.i 54 0 23 (by unfold zTm; omega), tp_Al]; exact b6
  · rw [hO.i 55 0 y (by unfold zTm; omega), tp_Wl]; exact b7 y hy
  · rw [tp_N] at ht
    rw [tp_K, tp_C, tp_X1, tp_X2, tp_Y1, tp_Y2, tp_Mp, tp_Mo, tp_Ti, tp_Tr]
    by_cases e : t = aN A
    · subst e
      simp only [if_true]
      have q : ∀ c e, ¬ (c = 54) → zgi σ' c 0 e = zgi _ c 0 e := fun c e h => ho.i c 0 e (by omega)
      rw [q 56 _ (by omega), q 57 _ (by omega), q 58 _ (by omega), q 58 _ (by omega), q 58 _ (by omega), q 58 _ (by omega), q 59 _ (by omega), q 60 _ (by omega), q 61 _ (by omega), q 62 _ (by omega)]
      simp [zgi_si]
      refine ⟨?_, rfl, rfl, by simp [zb], rfl⟩
      rw [hx]
      by_cases h : k = 0
      · subst h; rfl
      · rw [if_neg h, if_pos]
        rw [show (0 : Int32) = nI 0 from rfl, nI_eq (by omega) (by omega)]
        exact h
    · simp only [if_neg e]
      obtain ⟨r1, r2, r3, r4, r5, r6, r7, r8, r9, r10⟩ := g2 t (by omega)
      rw [hO.i 56 0 _ (by unfold zTm; omega), hO.i 57 0 _ (by unfold zTm; omega), hO.i 58 0 _ (by unfold zTm; omega), hO.i 58 0 _ (by unfold zTm; omega), hO.i 58 0 _ (by unfold zTm; omega), hO.i 58 0 _ (by unfold zTm; omega), hO.i 59 0 _ (by unfold zTm; omega), hO.i 60 0 _ (by unfold zTm; omega), hO.i 61 0 _ (by unfold zTm; omega), hO.i 62 0 _ (by unfold zTm; omega)]
      exact ⟨r1, r2, r3, r4, r5, r6, r7, r8, r9, r10⟩
  · rw [tp_mK, tp_mA, tp_mB, tp_mP, tp_mQ, tp_O, hO.i 63 0 _ (by unfold zTm; omega), hO.i 64 0 _ (by unfold zTm; omega), hO.i 65 0 _ (by unfold zTm; omega), hO.i 66 0 _ (by unfold zTm; omega), hO.i 67 0 _ (by unfold zTm; omega), hO.i 68 0 _ (by unfold zTm; omega)]
    exact g3 y hy
  · rw [tp_vT, tp_vF, tp_vR, hO.i 69 0 _ (by unfold zTm; omega), hO.i 70 0 _ (by unfold zTm; omega), hO.i 71 0 _ (by unfold zTm; omega)]
    exact g4 v hv
/-- a thing -/
theorem O_X12_thing {K : Int32 → zSt → Prop} (hW : zWf A) (hR : zRM A σ) (a b : Int32) (hout : ¬ (0 ≤ a.toInt ∧ a.toInt ≤ 2) → K (-2) σ) (hun : (0 < a.toInt ∧ a.toInt ≤ 2) → ¬ acI A b = true → K (-1) σ) (hst : ∀ x, (0 < a.toInt ∧ a.toInt ≤ 2) → x < 64 → b = nI x → acell A x = true → aWl A x = true → K (-3) σ)
    (hfull : (0 ≤ a.toInt ∧ a.toInt ≤ 2) → (0 < a.toInt → ∃ x, x < 64 ∧ b = nI x ∧ afree A x = true) → aN A = 24 → K (-4) σ)
    (hyes : ∀ k, k ≤ 2 → a = nI k → (0 < k → ∃ x, x < 64 ∧ b = nI x ∧ afree A x = true) → aN A < 24 → ∀ σ', zRM (aThing A k b.toInt (-9) (-9)) σ' → zOnly (fun c _ e => zTm (aN A) c e) σ σ' → zgi σ' 54 0 25 = 0 → zgi σ' 54 0 26 = 0 → zgi σ' 54 0 27 = 0 → K (nI (aN A)) σ') : zCi true (d + 3) 0 0 M_X12_thing [.inr (.inr (54, 0)), .inl (a), .inl (b)] σ K := by
  have hN : aN A ≤ 24 := hW.1.2.2.2.2.1
  have hin : (0 ≤ a.toInt64 ∧ a.toInt64 ≤ 2) ↔ (0 ≤ a.toInt ∧ a.toInt ≤ 2) := zin_c a (l := 0) (h := 2) (by omega) (by omega)
  have h45 : ∀ kc ks : Nat, (0 ≤ a.toInt ∧ a.toInt ≤ 2) → (0 < a.toInt → ∃ x, x < 64 ∧ b = nI x ∧ afree A x = true) → zE true (d + 3) kc ks M_X12_thing 45 [some (.inr (.inr (54, 0))), some (.inl a), some (.inl b)] [] σ (fun r σ' => ∃ x, r = some (.inl x) ∧ K x σ') := by
    intro kc ks h1 h2
    refine T_X12_thing_45 ⟨fun h => ?_, fun h => ⟨_, rfl, hfull h1 h2 ?_⟩⟩
    · rw [hR.1.2.2.1, show (24 : Int32) = nI 24 from rfl, nI_eq (by omega) (by omega)] at h
      obtain ⟨k, hk, e⟩ : ∃ k : Nat, k ≤ 2 ∧ a = nI k := ⟨a.toInt.toNat, by omega, zI_of h1.1⟩
      have eb : iI b.toInt = b := by rw [← Int32.toInt_inj, iI_toInt (by have := fb_rng b; omega) (by have := fb_rng b; omega)]
      subst e
      rw [nI_toInt (by omega)] at h1 h2
      have h3 := S_X12_addThing (d := d) (K := fun x σ' => ∃ y, some (Sum.inl x : zV) = some (.inl y) ∧ K y σ') hR k b.toInt (-9) (-9) (by omega) (by omega) (fun σ' q1 q2 q3 q4 q5 => ⟨_, rfl, hyes k (by omega) rfl (fun q => h2 (by omega)) (by omega) σ' q1 q2 q3 q4 q5⟩)
      rw [eb] at h3
      exact h3
    · rw [hR.1.2.2.1, show (24 : Int32) = nI 24 from rfl, nI_eq (by omega) (by omega)] at h
      exact h
  have hpos : (0 ≤ a.toInt) → ((a ≤ 0) ↔ a.toInt = 0) := fun h => by rw [Int32.le_iff_toInt_le, Int32.toInt_zero]; omega
  refine zC_intro pl_X12 (Nat.le_of_ble_eq_true rfl) (T_X12_thing_0 ⟨fun h => ⟨fun h2 => ?_, fun h2 => S_X12_isCell hW hR b ⟨fun h3 => ?_, fun h3 => ⟨_, rfl, hun ?_ ?_⟩⟩⟩, fun h => ⟨_, rfl, hout ?_⟩⟩)
  · rw [zb_0, Decidable.not_not, hin] at h
    rw [hpos h.1] at h2
    refine T_X12_thing_29 ⟨fun q => absurd ((hpos h.1).mpr h2) q, fun _ => h45 _ _ h (fun q => by omega), fun q => absurd (Or.inl ((hpos h.1).mpr h2)) q⟩
  · rw [zb_0, Decidable.not_not] at h3
    rw [zb_0, Decidable.not_not, hin] at h
    rw [hpos h.1] at h2
    obtain ⟨x, hx, hc, rfl⟩ := acI_nI h3
    refine T_X12_thing_29 ⟨fun q => nI_in (by omega) (by omega), fun q => h45 _ _ h (fun _ => ⟨x, hx, rfl, ?_⟩), fun q => ⟨_, rfl, hst x (by omega) hx rfl hc ?_⟩⟩
    · rcases q with q | q
      · exact absurd ((hpos h.1).mp q) h2
      · rw [nI_clamp (by omega), hR.1.2.2.2.2.2.2 x hx, zb_0] at q
        simp [afree, hc, q]
    · have q2 := fun z => q (Or.inr z)
      rw [nI_clamp (by omega), hR.1.2.2.2.2.2.2 x hx, zb_0] at q2
      exact Decidable.not_not.mp q2
  · rw [zb_0, Decidable.not_not, hin] at h
    rw [hpos h.1] at h2
    omega
  · rw [zb_0] at h3
    exact h3
  · rw [zb_0, hin] at h
    exact h
end zM4
