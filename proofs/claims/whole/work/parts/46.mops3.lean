/-! the reference: a measure more, a box -/
def aMeas (A : zAb) (k a b p q : Nat) : zAb :=
  (fun i => if i = 3 then aM A + 1 else A.1 i,
   fun x i => if i = aM A ∧ x = 5 then k else if i = aM A ∧ x = 6 then a else if i = aM A ∧ x = 7 then b else if i = aM A ∧ x = 8 then (if k = 1 ∨ k = 2 then 0 else p) else if i = aM A ∧ x = 9 then (if k = 3 then 0 else q) else A.2.1 x i,
   A.2.2.1,
   fun x i => if i = aM A ∧ x = 2 then true else A.2.2.2 x i)
section zMs
variable {A : zAb} {k a b p q : Nat}
theorem ms_N : aN (aMeas A k a b p q) = aN A := rfl
theorem ms_M : aM (aMeas A k a b p q) = aM A + 1 := rfl
theorem ms_V : aV (aMeas A k a b p q) = aV A := rfl
theorem ms_K (t : Nat) : aK (aMeas A k a b p q) t = aK A t := by simp [aK, aMeas]
theorem ms_X1 (t : Nat) : aX1 (aMeas A k a b p q) t = aX1 A t := by simp [aX1, aMeas]
theorem ms_Y1 (t : Nat) : aY1 (aMeas A k a b p q) t = aY1 A t := by simp [aY1, aMeas]
theorem ms_X2 (t : Nat) : aX2 (aMeas A k a b p q) t = aX2 A t := by simp [aX2, aMeas]
theorem ms_Y2 (t : Nat) : aY2 (aMeas A k a b p q) t = aY2 A t := by simp [aY2, aMeas]
theorem ms_C (t : Nat) : aC (aMeas A k a b p q) t = aC A t := rfl
theorem ms_Mo (t : Nat) : aMo (aMeas A k a b p q) t = aMo A t := rfl
theorem ms_Ti (t : Nat) : aTi (aMeas A k a b p q) t = aTi A t := rfl
theorem ms_Mp (t : Nat) : aMp (aMeas A k a b p q) t = aMp A t := rfl
theorem ms_Tr (t : Nat) : aTr (aMeas A k a b p q) t = aTr A t := by simp [aTr, aMeas]
theorem ms_Wl (x : Nat) : aWl (aMeas A k a b p q) x = aWl A x := by simp [aWl, aMeas]
theorem ms_O (x : Nat) : mO (aMeas A k a b p q) x = if x = aM A then true else mO A x := by simp [mO, aMeas]
theorem ms_Al : aAl (aMeas A k a b p q) = aAl A := by simp [aAl, aMeas]
theorem ms_mK (x : Nat) : mK (aMeas A k a b p q) x = if x = aM A then k else mK A x := by simp [mK, aMeas]
theorem ms_mA (x : Nat) : mA (aMeas A k a b p q) x = if x = aM A then a else mA A x := by simp [mA, aMeas]
theorem ms_mB (x : Nat) : mB (aMeas A k a b p q) x = if x = aM A then b else mB A x := by simp [mB, aMeas]
theorem ms_mP (x : Nat) : mP (aMeas A k a b p q) x = if x = aM A then (if k = 1 ∨ k = 2 then 0 else p) else mP A x := by simp [mP, aMeas]
theorem ms_mQ (x : Nat) : mQ (aMeas A k a b p q) x = if x = aM A then (if k = 3 then 0 else q) else mQ A x := by simp [mQ, aMeas]
theorem ms_vF (x : Nat) : vF (aMeas A k a b p q) x = vF A x := by simp [vF, aMeas]
theorem ms_vT (x : Nat) : vT (aMeas A k a b p q) x = vT A x := by simp [vT, aMeas]
theorem ms_vR (x : Nat) : vR (aMeas A k a b p q) x = vR A x := by simp [vR, aMeas]
theorem ms_cell (x : Nat) : acell (aMeas A k a b p q) x = acell A x := rfl
theorem ms_free (x : Nat) : afree (aMeas A k a b p q) x = afree A x := by unfold afree; rw [ms_cell, ms_Wl]
/-- numbers that a measure may have -/
abbrev zMs (k : Nat) (p q : Int) : Prop := (k = 0 ∧ 0 ≤ p ∧ p ≤ 98 ∧ p ≤ q ∧ q ≤ 98) ∨ ((k = 1 ∨ k = 2) ∧ 0 ≤ q ∧ q ≤ 98) ∨ (k = 3 ∧ 0 ≤ p ∧ p ≤ 3) ∨ (k = 4 ∧ 0 ≤ p ∧ p ≤ 20 ∧ 1 ≤ q ∧ q ≤ 98)
theorem ms_wf (hW : zWf A) (hN : aM A < 60) (ha : a < aN A) (hb : b < aN A) (hab : a ≠ b) (hm : k ≤ 4 ∧ (k = 0 → p ≤ 98 ∧ q ≤ 98) ∧ (k = 1 ∨ k = 2 → q ≤ 98) ∧ (k = 3 → p ≤ 3) ∧ (k = 4 → p ≤ 20 ∧ q ≤ 98)) : zWf (aMeas A k a b p q) := by
  obtain ⟨⟨w1, w2, w3, w4, w5, w6, w7⟩, h2, h3, h4⟩ := hW
  refine ⟨⟨w1, w2, w3, w4, w5, by rw [ms_M]; omega, w7⟩, fun t ht => ?_, fun x hx => ?_, fun v hv => ?_⟩
  · rw [ms_K, ms_C, ms_X1, ms_X2, ms_Y1, ms_Y2, ms_Mp, ms_Mo, ms_Ti]
    obtain ⟨q1, q2, q3⟩ := h2 t ht
    refine ⟨q1, fun h => ?_, q3⟩
    obtain ⟨x, e, h⟩ := q2 h
    exact ⟨x, e, by rw [ms_free]; exact h⟩
  · rw [ms_M] at hx
    rw [ms_mK, ms_mA, ms_mB, ms_mP, ms_mQ, ms_N]
    by_cases e : x = aM A
    · simp only [if_pos e]
      refine ⟨hm.1, ha, hb, hab, ?_, ?_, ?_, ?_⟩
      · split <;> omega
      · split <;> omega
      · intro h; split <;> omega
      · intro h; split <;> omega
    · simp only [if_neg e]
      exact h3 x (by omega)
  · rw [ms_vT, ms_vF, ms_vR, ms_N]
    exact h4 v hv
end zMs
section zM5
variable {d kc ks : Nat} {σ : zSt} {A : zAb} {Q : Option zV → zSt → Prop}
def zMm (n c k : Nat) : Prop := ((63 ≤ c ∧ c ≤ 68 ∨ c = 72) ∧ k = n) ∨ (c = 54 ∧ (k = 12 ∨ k = 25 ∨ k = 26 ∨ k = 27))
theorem S_X12_addMeasure {K : Int32 → zSt → Prop} (hR : zRM A σ) (k a b p q : Nat) (x4 x5 : Int32) (hN : aM A < 60) (hk : k ≤ 4) (h4 : ¬ (k = 1 ∨ k = 2) → x4 = nI p) (h5 : k ≠ 3 → x5 = nI q) (hK : ∀ σ', zRM (aMeas A k a b p q) σ' → zOnly (fun c _ e => zMm (aM A) c e) σ σ' → zgi σ' 72 0 (aM A) = 0 → zgi σ' 54 0 25 = 0 → zgi σ' 54 0 26 = 0 → zgi σ' 54 0 27 = 0 → K (nI (aM A)) σ') : zCi true (d + 2) 0 0 M_X12_addMeasure [.inr (.inr (54, 0)), .inl (nI k), .inl (nI a), .inl (nI b), .inl (x4), .inl (x5)] σ K := by
  have hn : zgi σ 54 0 12 = nI (aM A) := hR.1.2.2.2.1
  have a9 : (nI (aM A)).toNatClampNeg = aM A := nI_clamp (by omega)
  have i9 : vp_in (nI (aM A)) 60 := nI_in (by omega) (by omega)
  refine zC_intro pl_X12 (Nat.le_of_ble_eq_true rfl) (T_X12_addMeasure_0 ?_)
  rw [hn, a9]
  refine ⟨i9, i9, i9, fun x hx => ⟨i9, fun y hy => ⟨i9, i9, i9, S_X12_other (fun σ' ho f1 f2 f3 => ⟨_, rfl, ?_⟩)⟩⟩⟩
  have hO : zOnly (fun c _ e => zMm (aM A) c e) σ σ' := by
    refine zOnly.tr ?_ (ho.mono (fun c j k h => Or.inr ⟨h.1, Or.inr h.2⟩))
    refine ((((((((zOnly.si ?_).tr (zOnly.si ?_)).tr (zOnly.si ?_)).tr (zOnly.si ?_)).tr (zOnly.si ?_)).tr (zOnly.si ?_)).tr (zOnly.si ?_)).tr (zOnly.si ?_)) <;> (unfold zMm; omega)
  have e4 : zgi σ' 54 0 12 = nI (aM A + 1) := by
    rw [ho.i 54 0 12 (by omega), zgi_si, if_pos ⟨rfl, rfl, rfl⟩, nI_succ]
  have hans : zgi σ' 54 0 12 - 1 = nI (aM A) := by rw [e4, nI_succ]; simp
  have k1 : nI k = 1 ↔ k = 1 := nI_eqI (b := 1) (by omega) (by omega)
  have k2 : nI k = 2 ↔ k = 2 := nI_eqI (b := 2) (by omega) (by omega)
  have k3 : nI k = 3 ↔ k = 3 := nI_eqI (b := 3) (by omega) (by omega)
  have ex : x = nI (if k = 1 ∨ k = 2 then 0 else p) := by
    by_cases h : k = 1 ∨ k = 2
    · rw [hx, if_pos (h.imp k1.mpr k2.mpr), if_pos h]; rfl
    · rw [hx, if_neg (fun q => h (q.imp k1.mp k2.mp)), if_neg h]; exact h4 h
  have ey : y = nI (if k = 3 then 0 else q) := by
    by_cases h : k = 3
    · rw [hy, if_neg (fun z => z (k3.mpr h)), if_pos h]; rfl
    · rw [hy, if_pos (fun z => h (k3.mp z)), if_neg h]; exact h5 h
  rw [hans]
  have q1 : ∀ c e, ¬ (c = 54) → zgi σ' c 0 e = zgi _ c 0 e := fun c e h => ho.i c 0 e (by omega)
  refine hK σ' ?_ hO (by rw [q1 72 _ (by omega)]; simp [zgi_si]) f1 f2 f3
  obtain ⟨⟨b1, b2, b3, b4, b5, b6, b7⟩, g2, g3, g4⟩ := hR
  refine ⟨⟨?_, ?_, ?_, e4, ?_, ?_, fun y hy => ?_⟩, fun t ht => ?_, fun m hm => ?_, fun v hv => ?_⟩
  · rw [hO.i 54 0 1 (by unfold zMm; omega)]; exact b1
  · rw [hO.i 54 0 2 (by unfold zMm; omega)]; exact b2
  · rw [hO.i 54 0 4 (by unfold zMm; omega)]; exact b3
  · rw [hO.i 54 0 19 (by unfold zMm; omega)]; exact b5
  · rw [hO.i 54 0 23 (by unfold zMm; omega), ms_Al]; exact b6
  · rw [hO.i 55 0 y (by unfold zMm; omega), ms_Wl]; exact b7 y hy
  · rw [ms_K, ms_C, ms_X1, ms_X2, ms_Y1, ms_Y2, ms_Mp, ms_Mo, ms_Ti, ms_Tr]
    obtain ⟨r1, r2, r3, r4, r5, r6, r7, r8, r9, r10⟩ := g2 t ht
    rw [hO.i 56 0 _ (by unfold zMm; omega), hO.i 57 0 _ (by unfold zMm; omega), hO.i 58 0 _ (by unfold zMm; omega), hO.i 58 0 _ (by unfold zMm; omega), hO.i 58 0 _ (by unfold zMm; omega), hO.i 58 0 _ (by unfold zMm; omega), hO.i 59 0 _ (by unfold zMm; omega), hO.i 60 0 _ (by unfold zMm; omega), hO.i 61 0 _ (by unfold zMm; omega), hO.i 62 0 _ (by unfold zMm; omega)]
    exact ⟨r1, r2, r3, r4, r5, r6, r7, r8, r9, r10⟩
  · rw [ms_M] at hm
    rw [ms_mK, ms_mA, ms_mB, ms_mP, ms_mQ, ms_O]
    by_cases e : m = aM A
    · subst e
      simp only [if_true]
      rw [q1 63 _ (by omega), q1 64 _ (by omega), q1 65 _ (by omega), q1 66 _ (by omega), q1 67 _ (by omega), q1 68 _ (by omega)]
      simp [zgi_si]
      exact ⟨ex, ey, rfl⟩
    · simp only [if_neg e]
      rw [hO.i 63 0 _ (by unfold zMm; omega), hO.i 64 0 _ (by unfold zMm; omega), hO.i 65 0 _ (by unfold zMm; omega), hO.i 66 0 _ (by unfold zMm; omega), hO.i 67 0 _ (by unfold zMm; omega), hO.i 68 0 _ (by unfold zMm; omega)]
      exact g3 m (by omega)
  · rw [ms_vT, ms_vF, ms_vR, hO.i 69 0 _ (by unfold zMm; omega), hO.i 70 0 _ (by unfold zMm; omega), hO.i 71 0 _ (by unfold zMm; omega)]
    exact g4 v hv
/-- whether numbers may be a measure -/
theorem zin_v (a : Int32) (b : Int32) {h : Nat} (hh : h < 2 ^ 31) : ((b.toInt64) ≤ a.toInt64 ∧ a.toInt64 ≤ (lN h)) ↔ (b.toInt ≤ a.toInt ∧ a.toInt ≤ h) := by
  have e : ∀ n, n < 2 ^ 31 → (lN n).toInt = (n : Int) := fun n hn => by rw [lN_ti (by omega), if_pos (by omega)]
  rw [Int64.le_iff_toInt_le, Int64.le_iff_toInt_le, e h hh, i64_toInt, i64_toInt]
abbrev zMsI (a p q : Int32) : Prop := 0 ≤ a.toInt ∧ zMs a.toInt.toNat p.toInt q.toInt
theorem S_X12_isMeasure {ph : Bool} {K : Int32 → zSt → Prop} (a p q : Int32) (hK : K (zb (zMsI a p q)) σ) : zCi ph (d + 2) 0 0 M_X12_isMeasure [.inl (a), .inl (p), .inl (q)] σ K := by
  have c98 : ∀ x : Int32, (0 ≤ x.toInt64 ∧ x.toInt64 ≤ 98) ↔ (0 ≤ x.toInt ∧ x.toInt ≤ 98) := fun x => zin_c x (l := 0) (h := 98) (by omega) (by omega)
  have c3 : ∀ x : Int32, (0 ≤ x.toInt64 ∧ x.toInt64 ≤ 3) ↔ (0 ≤ x.toInt ∧ x.toInt ≤ 3) := fun x => zin_c x (l := 0) (h := 3) (by omega) (by omega)
  have c20 : ∀ x : Int32, (0 ≤ x.toInt64 ∧ x.toInt64 ≤ 20) ↔ (0 ≤ x.toInt ∧ x.toInt ≤ 20) := fun x => zin_c x (l := 0) (h := 20) (by omega) (by omega)
  have d98 : ∀ x : Int32, (1 ≤ x.toInt64 ∧ x.toInt64 ≤ 98) ↔ (1 ≤ x.toInt ∧ x.toInt ≤ 98) := fun x => zin_c x (l := 1) (h := 98) (by omega) (by omega)
  have p98 : (p.toInt64 ≤ q.toInt64 ∧ q.toInt64 ≤ 98) ↔ (p.toInt ≤ q.toInt ∧ q.toInt ≤ 98) := zin_v q p (h := 98) (by omega)
  refine zC_intro pl_X12 (Nat.le_of_ble_eq_true rfl) (T_X12_isMeasure_0 ⟨fun e x hx => ⟨_, rfl, ?_⟩, fun e => ⟨_, rfl, ?_⟩, fun e => ⟨_, rfl, ?_⟩, fun e => ⟨_, rfl, ?_⟩, fun e x hx => ⟨_, rfl, ?_⟩, fun e0 e1 e2 e3 e4 => ⟨_, rfl, ?_⟩⟩)
  · have hz : zMsI a p q ↔ (0 ≤ p.toInt ∧ p.toInt ≤ 98) ∧ (p.toInt ≤ q.toInt ∧ q.toInt ≤ 98) := by subst e; simp [zMsI, zMs]; omega
    rw [hx, zb_of0 (P := zMsI a p q) (by rw [hz, zb_0, zb_0, c98, p98]; omega)]
    exact hK
  · have hz : zMsI a p q ↔ (0 ≤ q.toInt ∧ q.toInt ≤ 98) := by subst e; simp [zMsI, zMs]
    rw [zb_iff (c98 q), ← zb_iff hz]
    exact hK
  · have hz : zMsI a p q ↔ (0 ≤ q.toInt ∧ q.toInt ≤ 98) := by subst e; simp [zMsI, zMs]
    rw [zb_iff (c98 q), ← zb_iff hz]
    exact hK
  · have hz : zMsI a p q ↔ (0 ≤ p.toInt ∧ p.toInt ≤ 3) := by subst e; simp [zMsI, zMs]
    rw [zb_iff (c3 p), ← zb_iff hz]
    exact hK
  · have hz : zMsI a p q ↔ (0 ≤ p.toInt ∧ p.toInt ≤ 20) ∧ (1 ≤ q.toInt ∧ q.toInt ≤ 98) := by subst e; simp [zMsI, zMs]; omega
    rw [hx, zb_of0 (P := zMsI a p q) (by rw [hz, zb_0, zb_0, c20, d98]; omega)]
    exact hK
  · have hz : ¬ zMsI a p q := by
      have n0 : ∀ n : Nat, n < 5 → a.toInt = (n : Int) → a = nI n := fun n hn h => by
        rw [← Int32.toInt_inj, nI_toInt (by omega)]; exact h
      intro h
      obtain ⟨h1, h2⟩ := h
      unfold zMs at h2
      have : a.toInt.toNat = 0 ∨ a.toInt.toNat = 1 ∨ a.toInt.toNat = 2 ∨ a.toInt.toNat = 3 ∨ a.toInt.toNat = 4 := by omega
      rcases this with h | h | h | h | h
      · exact e0 (n0 0 (by omega) (by omega))
      · exact e1 (n0 1 (by omega) (by omega))
      · exact e2 (n0 2 (by omega) (by omega))
      · exact e3 (n0 3 (by omega) (by omega))
      · exact e4 (n0 4 (by omega) (by omega))
    have : zb (zMsI a p q) = 0 := by rw [zb_0]; exact hz
    rw [← this]
    exact hK
end zM5
