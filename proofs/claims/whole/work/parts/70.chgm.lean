/-! changes and what was found before them; measure, box, tick, mover (reference) -/
theorem hopLe_of {A A' : zAb} (hf : ∀ c, afree A' c = afree A c) (r c : Nat) : ∀ k d, hopLe A' r c k d = hopLe A r c k d
  | 0, d => by simp only [hopLe, hf]
  | k + 1, d => by
    have h1 : ∀ e, hopLe A' r c k e = hopLe A r c k e := hopLe_of hf r c k
    simp only [hopLe, hf, h1]
theorem hopAt_of2 {A A' : zAb} (hf : ∀ c, afree A' c = afree A c) (r c : Nat) : ∀ k d, hopAt A' r c k d = hopAt A r c k d
  | 0, d => hopLe_of hf r c 0 d
  | k + 1, d => by
    show (hopLe A' r c (k + 1) d && !hopLe A' r c k d) = (hopLe A r c (k + 1) d && !hopLe A r c k d)
    rw [hopLe_of hf, hopLe_of hf]
theorem kept_of {A A' : zAb} {m : Nat} (hc : ∀ c, acell A' c = acell A c) (hf : ∀ c, afree A' c = afree A c) (hk : mK A' m = mK A m) (hp : mP A' m = mP A m) (hq : mQ A' m = mQ A m) : kept A' m = kept A m := by
  funext c d
  unfold kept mKeep
  rw [hc, hc, hk, hp, hq, hopAt_of2 hf]
theorem zCM.ch {A : zAb} {σ : zSt} (hl : zLdI A σ) (f0 : zgi σ 54 0 25 = 0) (f1 : zgi σ 54 0 26 = 0) (f2 : zgi σ 54 0 27 = 0) : zCM A σ := ⟨hl, fun h => absurd f0 h, fun h => absurd f1 h, fun h => absurd f2 h⟩
theorem zLdI.zero {A : zAb} {σ : zSt} (hW : zWf A) (h : ∀ m, m < 60 → zgi σ 72 0 m = 0) : zLdI A σ := fun m hm hz => absurd (h m (by have := hW.1.2.2.2.2.2.1; omega)) hz
/-- laid rows stay when cells and the measures laid are as they were -/
theorem zLdI.to {A A' : zAb} {σ σ' : zSt} {M : Nat → Nat → Nat → Prop} (h : zLdI A σ) (ho : zOnly M σ σ') (hm : ∀ k, ¬ M 75 0 k ∧ ¬ M 76 0 k) (hk : ∀ m, m < aM A' → ¬ zgi σ' 72 0 m = 0 → m < aM A ∧ ¬ zgi σ 72 0 m = 0 ∧ kept A' m = kept A m) : zLdI A' σ' := by
  intro m hm2 hz
  obtain ⟨h1, h2, h3⟩ := hk m hm2 hz
  intro c hc
  rw [ho.l 75 0 _ (hm _).1, ho.l 76 0 _ (hm _).2, h3]
  exact h m h1 h2 c hc
theorem tp_kept {A : zAb} {k : Nat} {c m ti : Int} (x : Nat) : kept (aThing A k c m ti) x = kept A x := kept_of tp_cell tp_free (tp_mK x) (tp_mP x) (tp_mQ x)
theorem ms_kept {A : zAb} {k a b p q : Nat} {x : Nat} (hx : x ≠ aM A) : kept (aMeas A k a b p q) x = kept A x := kept_of ms_cell ms_free (by rw [ms_mK, if_neg hx]) (by rw [ms_mP, if_neg hx]) (by rw [ms_mQ, if_neg hx])
def measF (A : zAb) (a b c p q : Int32) : Int × zAb := if ¬ (tI A b = true ∧ tI A c = true) then (-1, A) else if b = c ∨ ¬ zMsI a p q then (-2, A) else if aM A = 60 then (-4, A) else (aM A, aMeas A a.toInt.toNat b.toInt.toNat c.toInt.toNat p.toInt.toNat q.toInt.toNat)
theorem measF_wf {A : zAb} (hW : zWf A) (a b c p q : Int32) : zWf (measF A a b c p q).2 := by
  unfold measF
  split
  · exact hW
  · next h1 =>
    split
    · exact hW
    · next h2 =>
      split
      · exact hW
      · next h3 =>
        have h1' := Decidable.not_not.mp h1
        have hz : zMsI a p q := Decidable.not_not.mp (fun z => h2 (Or.inr z))
        have hbc : b ≠ c := fun z => h2 (Or.inl z)
        obtain ⟨x, hx, rfl⟩ := tI_nI h1'.1
        obtain ⟨y, hy, rfl⟩ := tI_nI h1'.2
        have hM : aM A ≤ 60 := hW.1.2.2.2.2.2.1
        have hN : aN A ≤ 24 := hW.1.2.2.2.2.1
        obtain ⟨z0, z⟩ := hz
        unfold zMs at z
        rw [nI_toInt (show x < 2 ^ 31 by omega), nI_toInt (show y < 2 ^ 31 by omega), Int.toNat_natCast, Int.toNat_natCast]
        exact ms_wf hW (by omega) hx hy (fun e => hbc (by rw [e])) ⟨by omega, fun e => by omega, fun e => by omega, fun e => by omega, fun e => by omega⟩
section zMh
variable {d kc ks : Nat} {σ : zSt} {A : zAb} {Q : Option zV → zSt → Prop}
abbrev zMq (c _j k : Nat) : Prop := (63 ≤ c ∧ c ≤ 68) ∨ c = 72 ∨ (c = 54 ∧ (k = 12 ∨ k = 25 ∨ k = 26 ∨ k = 27))
theorem zLdI.meas {σ' : zSt} {k a b p q : Nat} (h : zLdI A σ) (ho : zOnly (fun c _ e => zMm (aM A) c e) σ σ') (h0 : zgi σ' 72 0 (aM A) = 0) : zLdI (aMeas A k a b p q) σ' := by
  refine h.to ho (fun k => by unfold zMm; omega) (fun m hm hz => ?_)
  rw [ms_M] at hm
  by_cases e : m = aM A
  · rw [e] at hz; exact absurd h0 hz
  · rw [ho.i 72 0 m (by unfold zMm; omega)] at hz
    exact ⟨by omega, hz, ms_kept e⟩
theorem zLdI.thing {σ' : zSt} {k : Nat} {c m ti : Int} (h : zLdI A σ) (ho : zOnly (fun c _ e => zTm (aN A) c e) σ σ') : zLdI (aThing A k c m ti) σ' := by
  refine h.to ho (fun k => by unfold zTm; omega) (fun m hm hz => ?_)
  rw [ho.i 72 0 m (by unfold zTm; omega)] at hz
  exact ⟨hm, hz, tp_kept m⟩
theorem S_X12_measure {K : Int32 → zSt → Prop} (hW : zWf A) (hR : zRM A σ) (hC : zCM A σ) (a b c p q : Int32) (hK : ∀ σ', zRM (measF A a b c p q).2 σ' → zCM (measF A a b c p q).2 σ' → zOnly zMq σ σ' → K (iI (measF A a b c p q).1) σ') : zCi true (d + 3) 0 0 M_X12_measure [.inr (.inr (54, 0)), .inl (a), .inl (b), .inl (c), .inl (p), .inl (q)] σ K := by
  have hN : aN A ≤ 24 := hW.1.2.2.2.2.1
  have hM : aM A ≤ 60 := hW.1.2.2.2.2.2.1
  unfold measF at hK
  have c60 : (zgi σ 54 0 12 = 60) ↔ aM A = 60 := by rw [hR.1.2.2.2.1]; exact nI_eq (b := 60) (by omega) (by omega)
  refine zC_intro pl_X12 (Nat.le_of_ble_eq_true rfl) (T_X12_measure_0 (S_X12_noThing hW hR b ⟨fun h => ⟨_, rfl, ?_⟩, fun h => S_X12_noThing hW hR c ⟨fun h2 => ⟨fun h3 => ⟨_, rfl, ?_⟩, fun h3 => S_X12_isMeasure a p q ⟨fun h4 => ⟨fun h5 => ?_, fun h5 => ⟨_, rfl, ?_⟩⟩, fun h4 => ⟨_, rfl, ?_⟩⟩⟩, fun h2 => ⟨_, rfl, ?_⟩⟩⟩))
  · rw [zb_0, Decidable.not_not] at h
    rw [if_pos (fun z => h z.1)] at hK
    exact hK σ hR hC zOnly.rf
  · rw [zb_0, Decidable.not_not] at h h2
    rw [if_neg (fun z => z ⟨h, h2⟩), if_pos (Or.inl h3)] at hK
    exact hK σ hR hC zOnly.rf
  · rw [zb_0, Decidable.not_not] at h h2 h4
    rw [c60] at h5
    rw [if_neg (fun z => z ⟨h, h2⟩), if_neg (fun z => z.elim h3 (fun w => w h4)), if_neg h5] at hK
    obtain ⟨x, hx, rfl⟩ := tI_nI h
    obtain ⟨y, hy, rfl⟩ := tI_nI h2
    rw [nI_toInt (show x < 2 ^ 31 by omega), nI_toInt (show y < 2 ^ 31 by omega), Int.toNat_natCast, Int.toNat_natCast] at hK
    obtain ⟨z0, z⟩ := h4
    unfold zMs at z
    have ea : a = nI a.toInt.toNat := zI_of z0
    have h6 := S_X12_addMeasure (d := d) (K := fun x σ' => ∃ y, some (Sum.inl x : zV) = some (.inl y) ∧ K y σ') hR a.toInt.toNat x y p.toInt.toNat q.toInt.toNat p q (by omega) (by omega) (fun w => zI_of (by omega)) (fun w => zI_of (by omega)) (fun σ' q1 q2 q3 q4 q5 q6 => ⟨_, rfl, hK σ' q1 (zCM.ch (hC.1.meas q2 q3) q4 q5 q6) (q2.mono (fun c j k w => by unfold zMm at w; unfold zMq; omega))⟩)
    rw [← ea] at h6
    exact h6
  · rw [zb_0, Decidable.not_not] at h h2 h4
    rw [c60] at h5
    rw [if_neg (fun z => z ⟨h, h2⟩), if_neg (fun z => z.elim h3 (fun w => w h4)), if_pos h5] at hK
    exact hK σ hR hC zOnly.rf
  · rw [zb_0, Decidable.not_not] at h h2
    rw [zb_0] at h4
    rw [if_neg (fun z => z ⟨h, h2⟩), if_pos (Or.inr h4)] at hK
    exact hK σ hR hC zOnly.rf
  · rw [zb_0, Decidable.not_not] at h2
    rw [if_pos (fun z => h2 z.2)] at hK
    exact hK σ hR hC zOnly.rf
/-- a box -/
theorem bx_ne {t x1 y1 x2 y2 b i : Nat} (h : ¬ (i = t ∧ (b = 1 ∨ b = 2 ∨ b = 3 ∨ b = 4))) : (aBox A t x1 y1 x2 y2).2.1 b i = A.2.1 b i := by
  simp only [aBox]
  rw [if_neg (by omega), if_neg (by omega), if_neg (by omega), if_neg (by omega)]
theorem bx_kept {t x1 y1 x2 y2 : Nat} (m : Nat) : kept (aBox A t x1 y1 x2 y2) m = kept A m := kept_of (fun _ => rfl) (fun _ => rfl) (bx_ne (by omega)) (bx_ne (by omega)) (bx_ne (by omega))
theorem bx_wf {t x1 y1 x2 y2 : Nat} (hW : zWf A) (hx : x1 ≤ x2 ∧ x2 ≤ 7) (hy : y1 ≤ y2 ∧ y2 ≤ 7) : zWf (aBox A t x1 y1 x2 y2) := by
  obtain ⟨h1, h2, h3, h4⟩ := hW
  have e0 : ∀ u, aK (aBox A t x1 y1 x2 y2) u = aK A u := fun u => bx_ne (by omega)
  refine ⟨h1, fun u hu => ?_, fun m hm => ?_, fun v hv => ?_⟩
  · obtain ⟨q1, q2, q3, q4, q5, q6, q7, q8⟩ := h2 u hu
    rw [e0]
    refine ⟨q1, q2, q3, ?_, ?_, ?_, ?_, q8⟩
    · simp only [aX1, aX2, aBox]
      by_cases e : u = t
      · simp [e]; exact hx.1
      · simp [e]; exact q4
    · simp only [aX2, aBox]
      by_cases e : u = t
      · simp [e]; exact hx.2
      · simp [e]; exact q5
    · simp only [aY1, aY2, aBox]
      by_cases e : u = t
      · simp [e]; exact hy.1
      · simp [e]; exact q6
    · simp only [aY2, aBox]
      by_cases e : u = t
      · simp [e]; exact hy.2
      · simp [e]; exact q7
  · have e1 : ∀ b, 5 ≤ b → (aBox A t x1 y1 x2 y2).2.1 b m = A.2.1 b m := fun b hb => bx_ne (by omega)
    unfold mK mA mB mP mQ
    rw [e1 5 (by omega), e1 6 (by omega), e1 7 (by omega), e1 8 (by omega), e1 9 (by omega)]
    exact h3 m hm
  · have e1 : ∀ b, 5 ≤ b → (aBox A t x1 y1 x2 y2).2.1 b v = A.2.1 b v := fun b hb => bx_ne (by omega)
    unfold vF vT vR
    rw [e1 10 (by omega), e1 11 (by omega), e1 12 (by omega)]
    exact h4 v hv
abbrev spI (a b : Int32) : Prop := 0 ≤ a.toInt ∧ a.toInt ≤ b.toInt ∧ b.toInt ≤ 7
abbrev zBq (c _j k : Nat) : Prop := c = 58 ∨ (c = 54 ∧ (k = 25 ∨ k = 26 ∨ k = 27))
theorem O_X12_box {K : Int32 → zSt → Prop} (hW : zWf A) (hR : zRM A σ) (hC : zCM A σ) (a b c e f : Int32) (hno : ¬ tI A a = true → K (-1) σ) (hst : ∀ t, t < aN A → a = nI t → 0 < aK A t → K (-3) σ) (hout : ∀ t, t < aN A → a = nI t → aK A t = 0 → ¬ (spI b e ∧ spI c f) → K (-2) σ)
    (hyes : ∀ t x1 y1 x2 y2, t < aN A → a = nI t → aK A t = 0 → b = nI x1 → c = nI y1 → e = nI x2 → f = nI y2 → x1 ≤ x2 → x2 ≤ 7 → y1 ≤ y2 → y2 ≤ 7 → ∀ σ', zRM (aBox A t x1 y1 x2 y2) σ' → zCM (aBox A t x1 y1 x2 y2) σ' → zOnly zBq σ σ' → K (nI (fb_ct (atold (aBox A t x1 y1 x2 y2) t) 64)) σ') : zCi true (d + 5) 0 0 M_X12_box [.inr (.inr (54, 0)), .inl (a), .inl (b), .inl (c), .inl (e), .inl (f)] σ K := by
  have hN : aN A ≤ 24 := hW.1.2.2.2.2.1
  refine zC_intro pl_X12 (Nat.le_of_ble_eq_true rfl) (T_X12_box_0 (S_X12_noThing hW hR a ⟨fun h => ?_, fun h => ⟨_, rfl, hno ?_⟩⟩))
  · rw [zb_0, Decidable.not_not] at h
    obtain ⟨t, ht, rfl⟩ := tI_nI h
    have wt := (hW.2.1 t ht).1
    have c0 : (zgi σ 56 0 (nI t).toNatClampNeg ≤ 0) ↔ aK A t ≤ 0 := by
      rw [nI_clamp (show t < 2 ^ 31 by omega), (hR.2.1 t ht).1]
      exact nI_leI (b := 0) (by omega) (by omega)
    have cb : (0 ≤ b.toInt64 ∧ b.toInt64 ≤ 7) ↔ (0 ≤ b.toInt ∧ b.toInt ≤ 7) := zin_c b (l := 0) (h := 7) (by omega) (by omega)
    have cc : (0 ≤ c.toInt64 ∧ c.toInt64 ≤ 7) ↔ (0 ≤ c.toInt ∧ c.toInt ≤ 7) := zin_c c (l := 0) (h := 7) (by omega) (by omega)
    have ce : (b.toInt64 ≤ e.toInt64 ∧ e.toInt64 ≤ 7) ↔ (b.toInt ≤ e.toInt ∧ e.toInt ≤ 7) := zin_v e b (h := 7) (by omega)
    have cf : (c.toInt64 ≤ f.toInt64 ∧ f.toInt64 ≤ 7) ↔ (c.toInt ≤ f.toInt ∧ f.toInt ≤ 7) := zin_v f c (h := 7) (by omega)
    refine ⟨nI_in (by omega) (by omega), fun g => ⟨fun g2 => ⟨_, rfl, ?_⟩, fun g2 => ?_⟩, fun g => ⟨_, rfl, hst t ht rfl ?_⟩⟩
    · rw [c0] at g
      rw [zb_0, zb_0, zb_0, zb_0, cb, cc, ce, cf] at g2
      exact hout t ht rfl (by omega) (fun q => by unfold spI at q; omega)
    · rw [c0] at g
      rw [zb_0, zb_0, zb_0, zb_0, cb, cc, ce, cf] at g2
      have g3 : (0 ≤ b.toInt ∧ b.toInt ≤ e.toInt ∧ e.toInt ≤ 7) ∧ 0 ≤ c.toInt ∧ c.toInt ≤ f.toInt ∧ f.toInt ≤ 7 := by omega
      obtain ⟨x1, eb⟩ : ∃ n : Nat, b = nI n ∧ n ≤ 7 := ⟨b.toInt.toNat, zI_of (by omega), by omega⟩
      obtain ⟨y1, ec⟩ : ∃ n : Nat, c = nI n ∧ n ≤ 7 := ⟨c.toInt.toNat, zI_of (by omega), by omega⟩
      obtain ⟨x2, ee⟩ : ∃ n : Nat, e = nI n ∧ n ≤ 7 := ⟨e.toInt.toNat, zI_of (by omega), by omega⟩
      obtain ⟨y2, ef⟩ : ∃ n : Nat, f = nI n ∧ n ≤ 7 := ⟨f.toInt.toNat, zI_of (by omega), by omega⟩
      obtain ⟨rfl, hx1⟩ := eb
      obtain ⟨rfl, hy1⟩ := ec
      obtain ⟨rfl, hx2⟩ := ee
      obtain ⟨rfl, hy2⟩ := ef
      rw [nI_toInt (show x1 < 2 ^ 31 by omega), nI_toInt (show y1 < 2 ^ 31 by omega), nI_toInt (show x2 < 2 ^ 31 by omega), nI_toInt (show y2 < 2 ^ 31 by omega)] at g3
      have a0 : (nI (4 * t)).toNatClampNeg = 4 * t := nI_clamp (by omega)
      have a1 : (nI (4 * t) + 1).toNatClampNeg = 4 * t + 1 := by rw [← nI_succ]; exact nI_clamp (by omega)
      have a2 : (nI (4 * t) + 2).toNatClampNeg = 4 * t + 2 := by rw [show (2 : Int32) = nI 2 from rfl, nI_add]; exact nI_clamp (by omega)
      have a3 : (nI (4 * t) + 3).toNatClampNeg = 4 * t + 3 := by rw [show (3 : Int32) = nI 3 from rfl, nI_add]; exact nI_clamp (by omega)
      rw [nI_4t, a0, a1, a2, a3]
      refine ⟨nI_in (by omega) (by omega), by rw [← nI_succ]; exact nI_in (by omega) (by omega), by rw [show (2 : Int32) = nI 2 from rfl, nI_add]; exact nI_in (by omega) (by omega), by rw [show (3 : Int32) = nI 3 from rfl, nI_add]; exact nI_in (by omega) (by omega), S_X12_other (fun σ1 o1 f1 f2 f3 => ?_)⟩
      have hO : zOnly zBq σ σ1 := ((((zOnly.si (by unfold zBq; omega)).tr (zOnly.si (by unfold zBq; omega))).tr (zOnly.si (by unfold zBq; omega))).tr (zOnly.si (by unfold zBq; omega))).tr (o1.mono (fun c j k h => by unfold zBq; omega))
      have hR1 : zRM (aBox A t x1 y1 x2 y2) σ1 := by
        have e0 : ∀ b i, ¬ (i = t ∧ (b = 1 ∨ b = 2 ∨ b = 3 ∨ b = 4)) → (aBox A t x1 y1 x2 y2).2.1 b i = A.2.1 b i := fun b i h => bx_ne h
        obtain ⟨⟨b1, b2, b3, b4, b5, b6, b7⟩, h2, h3, h4⟩ := hR
        refine ⟨⟨?_, ?_, ?_, ?_, ?_, ?_, fun y hy => ?_⟩, fun u hu => ?_, fun m hm => ?_, fun v hv => ?_⟩
        · rw [hO.i 54 0 1 (by unfold zBq; omega)]; exact b1
        · rw [hO.i 54 0 2 (by unfold zBq; omega)]; exact b2
        · rw [hO.i 54 0 4 (by unfold zBq; omega)]; exact b3
        · rw [hO.i 54 0 12 (by unfold zBq; omega)]; exact b4
        · rw [hO.i 54 0 19 (by unfold zBq; omega)]; exact b5
        · rw [hO.i 54 0 23 (by unfold zBq; omega)]; exact b6
        · rw [hO.i 55 0 y (by unfold zBq; omega)]; exact b7 y hy
        · obtain ⟨r1, r2, r3, r4, r5, r6, r7, r8, r9, r10⟩ := h2 u hu
          rw [hO.i 56 0 _ (by unfold zBq; omega), hO.i 57 0 _ (by unfold zBq; omega), hO.i 59 0 _ (by unfold zBq; omega), hO.i 60 0 _ (by unfold zBq; omega), hO.i 61 0 _ (by unfold zBq; omega), hO.i 62 0 _ (by unfold zBq; omega), o1.i 58 0 _ (by omega), o1.i 58 0 _ (by omega), o1.i 58 0 _ (by omega), o1.i 58 0 _ (by omega)]
          have ek : aK (aBox A t x1 y1 x2 y2) u = aK A u := e0 0 u (by omega)
          rw [ek]
          simp only [zgi_si, aX1, aY1, aX2, aY2, aBox]
          by_cases z : u = t
          · subst z
            simp
            exact ⟨r1, r2, r7, r8, r9, r10⟩
          · simp [z, show ¬ (4 * u = 4 * t) by omega, show ¬ (4 * u = 4 * t + 3) by omega, show ¬ (4 * u = 4 * t + 2) by omega, show ¬ (4 * u = 4 * t + 1) by omega, show ¬ (4 * u + 1 = 4 * t + 3) by omega, show ¬ (4 * u + 1 = 4 * t + 2) by omega, show ¬ (4 * u + 1 = 4 * t) by omega, show ¬ (4 * u + 2 = 4 * t + 3) by omega, show ¬ (4 * u + 2 = 4 * t + 1) by omega, show ¬ (4 * u + 2 = 4 * t) by omega, show ¬ (4 * u + 3 = 4 * t + 2) by omega, show ¬ (4 * u + 3 = 4 * t + 1) by omega, show ¬ (4 * u + 3 = 4 * t) by omega]
            exact ⟨r1, r2, r3, r4, r5, r6, r7, r8, r9, r10⟩
        · have e1 : ∀ b, 5 ≤ b → (aBox A t x1 y1 x2 y2).2.1 b m = A.2.1 b m := fun b hb => e0 b m (by omega)
          unfold mK mA mB mP mQ
          rw [e1 5 (by omega), e1 6 (by omega), e1 7 (by omega), e1 8 (by omega), e1 9 (by omega), hO.i 63 0 _ (by unfold zBq; omega), hO.i 64 0 _ (by unfold zBq; omega), hO.i 65 0 _ (by unfold zBq; omega), hO.i 66 0 _ (by unfold zBq; omega), hO.i 67 0 _ (by unfold zBq; omega), hO.i 68 0 _ (by unfold zBq; omega)]
          exact h3 m hm
        · have e1 : ∀ b, 5 ≤ b → (aBox A t x1 y1 x2 y2).2.1 b v = A.2.1 b v := fun b hb => e0 b v (by omega)
          unfold vF vT vR
          rw [e1 10 (by omega), e1 11 (by omega), e1 12 (by omega), hO.i 69 0 _ (by unfold zBq; omega), hO.i 70 0 _ (by unfold zBq; omega), hO.i 71 0 _ (by unfold zBq; omega)]
          exact h4 v hv
      have hW1 : zWf (aBox A t x1 y1 x2 y2) := bx_wf hW (by omega) (by omega)
      have hl1 : zLdI (aBox A t x1 y1 x2 y2) σ1 := hC.1.to hO (fun k => by unfold zBq; omega) (fun m hm hz => ⟨hm, by rw [hO.i 72 0 m (by unfold zBq; omega)] at hz; exact hz, bx_kept m⟩)
      refine S_X12_toldOf hW1 hR1 (t := t) ht (S_X12_count _ ⟨_, rfl, ?_⟩)
      rw [fb_ct_cong (q := atold (aBox A t x1 y1 x2 y2) t) (fun k hk => tb_set hk)]
      exact hyes t x1 y1 x2 y2 ht rfl (by omega) rfl rfl rfl rfl (by omega) (by omega) (by omega) (by omega) σ1 hR1 (zCM.ch hl1 f1 f2 f3) hO
    · rw [c0] at g
      omega
  · rw [zb_0, Decidable.not_not] at h
    exact h
/-- a tick's thing -/
theorem S_X12_noTick {K : Int32 → zSt → Prop} (hW : zWf A) (hR : zRM A σ) (a b : Int32) (hK : K (zb (¬ (vI A a = true ∧ 0 ≤ b.toInt ∧ b.toInt < vT A a.toInt.toNat))) σ) : zCi true (d + 2) 0 0 M_X12_noTick [.inr (.inr (54, 0)), .inl (a), .inl (b)] σ K := by
  have hV : aV A ≤ 3 := hW.1.2.2.2.2.2.2
  have hz : (0 ≤ a.toInt64 ∧ a.toInt64 ≤ (nI (aV A)).toInt64 - 1) ↔ vI A a = true := by
    rw [zin_n a (by omega)]
    simp [vI]
  refine zC_intro pl_X12 (Nat.le_of_ble_eq_true rfl) (T_X12_noTick_0 ?_)
  rw [hR.1.2.2.2.2.1]
  refine ⟨fun g => ?_, fun x hx => ⟨_, rfl, ?_⟩⟩
  · rw [zb_0, Decidable.not_not, hz] at g
    obtain ⟨v, hv, rfl⟩ := vI_nI g
    exact nI_in (by omega) (by omega)
  · rw [hx, zb_of1 (P := ¬ (vI A a = true ∧ 0 ≤ b.toInt ∧ b.toInt < vT A a.toInt.toNat)) ?_]
    · exact hK
    · rw [zb_0, zb_0, hz]
      by_cases g : vI A a = true
      · obtain ⟨v, hv, rfl⟩ := vI_nI g
        have w := hW.2.2.2 v hv
        rw [nI_clamp (show v < 2 ^ 31 by omega), (hR.2.2.2 v hv).2.1, zin_n b (by omega), nI_toInt (show v < 2 ^ 31 by omega), Int.toNat_natCast]
        simp only [g, true_and, not_true_eq_false, false_or]
      · simp [g]
def tkV (A : zAb) (a b : Int32) : Int := if vI A a = true ∧ 0 ≤ b.toInt ∧ b.toInt < vT A a.toInt.toNat then vF A a.toInt.toNat + b.toInt else -1
theorem O_X12_tick {K : Int32 → zSt → Prop} (hW : zWf A) (hR : zRM A σ) (a b : Int32) (hK : K (iI (tkV A a b)) σ) : zCi true (d + 3) 0 0 M_X12_tick [.inr (.inr (54, 0)), .inl (a), .inl (b)] σ K := by
  have hV : aV A ≤ 3 := hW.1.2.2.2.2.2.2
  refine zC_intro pl_X12 (Nat.le_of_ble_eq_true rfl) (T_X12_tick_0 (S_X12_noTick hW hR a b ⟨fun g => ?_, fun x hx => ⟨_, rfl, ?_⟩⟩))
  · rw [zb_0, Decidable.not_not] at g
    obtain ⟨v, hv, rfl⟩ := vI_nI g.1
    exact nI_in (by omega) (by omega)
  · have ex : x = iI (tkV A a b) := by
      rw [hx]
      unfold tkV
      by_cases g : vI A a = true ∧ 0 ≤ b.toInt ∧ b.toInt < vT A a.toInt.toNat
      · rw [if_pos (by rw [zb_0]; exact fun z => z g), if_pos g]
        obtain ⟨g1, g2⟩ := g
        obtain ⟨v, hv, rfl⟩ := vI_nI g1
        rw [nI_clamp (show v < 2 ^ 31 by omega), (hR.2.2.2 v hv).1, nI_toInt (show v < 2 ^ 31 by omega), Int.toNat_natCast, ← iI_add, iI_nat, iI_of]
      · rw [if_neg (by rw [zb_0]; exact fun z => z g), if_neg g]
        rfl
    rw [ex]
    exact hK
end zMh
