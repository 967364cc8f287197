/-! flips (reference): the calls -/
section zMab
variable {d kc ks : Nat} {σ : zSt} {A : zAb} {Q : Option zV → zSt → Prop}
abbrev zQh (c j k : Nat) : Prop := zQt c j k ∨ (c = 54 ∧ (k = 54 ∨ k = 55))
abbrev zQo (c j k : Nat) : Prop := zQh c j k ∨ (72 ≤ c ∧ c ≤ 76) ∨ (c = 54 ∧ (k = 53 ∨ k = 59))
theorem mbJ_map {A : zAb} {g t : Nat} (h : mbJ A g t = true) : 0 ≤ aMp A t := by
  unfold mbJ at h
  rw [Bool.and_eq_true, decide_eq_true_eq] at h
  exact h.1
theorem L_X12_go98 {σ0 : zSt} (hW : zWf A) (hR : zRM A σ0) (hL : ∀ m, m < aM A → zLd A σ0 m) {g j : Nat} {w : Int32} {LT : List zFl4} (hj : j < aN A) (h53 : zgi σ0 54 0 53 = yset (grB A g) 32) (hgN : ∀ u, gr A g u → u < aN A) (hpl : ∀ u, gr A g u → 0 ≤ aMp A u) (hB : LT.length < 2 ^ 30) (hnext : ∀ σ', zOnly zQh σ0 σ' → zgi σ' 54 0 54 = nI (j + 1) → zFk A σ' LT w → zE true (d + 7) kc ks M_X12_goThroughFlips 77 [some (.inr (.inr (54, 0))), none, none] [] (σ') Q) : ∀ (r b : Nat), b + r = aN A → ∀ (σ : zSt) (L : List zFl4), zOnly zQh σ0 σ → zgi σ 54 0 54 = nI j → zgi σ 54 0 55 = nI b → zFk A σ L w → L ++ fl2 A g j r b = LT → zE true (d + 7) kc ks M_X12_goThroughFlips 98 [some (.inr (.inr (54, 0))), none, none] [] σ Q := by
  have hN : aN A ≤ 24 := hW.1.2.2.2.2.1
  intro r
  induction r with
  | zero =>
    intro b hb σ L ho h54 h55 hK hLT
    have : b = aN A := by omega
    subst this
    have e : L = LT := by rw [← hLT]; unfold fl2; rw [List.append_nil]
    subst e
    refine T_X12_goThroughFlips_98 ⟨fun _ => ?_, fun q => absurd (by rw [ho.i 54 0 4 (by unfold zQh zQt; omega), hR.1.2.2.1, h55]; exact Int32.le_refl _) q⟩
    rw [h54, ← nI_succ]
    have o2 : zOnly (fun c _ k => c = 54 ∧ k = 54) σ (zsi σ 54 0 54 (nI (j + 1))) := zOnly.si ⟨rfl, rfl⟩
    exact hnext _ (ho.tr (o2.mono (fun c j k h => by unfold zQh; omega))) (by rw [zgi_si, if_pos ⟨rfl, rfl, rfl⟩]) (hK.only o2 ⟨fun k k1 k2 => by omega, fun k => by omega⟩)
  | succ r ih =>
    intro b hb σ L ho h54 h55 hK hLT
    have hR1 : zRM A σ := hR.only ho (fun c k hb => by unfold zBM at hb; unfold zQh zQt; omega)
    have hL1 : ∀ m, m < aM A → zLd A σ m := fun m hm c hc => by rw [ho.l 75 0 _ (by unfold zQh zQt; omega), ho.l 76 0 _ (by unfold zQh zQt; omega)]; exact hL m hm c hc
    have e53 : zgi σ 54 0 53 = yset (grB A g) 32 := by rw [ho.i 54 0 53 (by unfold zQh zQt; omega)]; exact h53
    have hbN : b < aN A := by omega
    unfold fl2 at hLT
    have step : ∀ (σ' : zSt) (L' : List zFl4), zOnly zQt σ σ' → zFk A σ' L' w → L' ++ fl2 A g j r (b + 1) = LT → zE true (d + 7) kc ks M_X12_goThroughFlips 135 [some (.inr (.inr (54, 0))), none, none] [] (σ') Q := fun σ' L' o1 k1 e => T_X12_goThroughFlips_135 (by
      rw [o1.i 54 0 55 (by unfold zQt; omega), h55, ← nI_succ]
      have o2 : zOnly (fun c _ k => c = 54 ∧ k = 55) σ' (zsi σ' 54 0 55 (nI (b + 1))) := zOnly.si ⟨rfl, rfl⟩
      exact ih (b + 1) (by omega) _ L' ((ho.tr (o1.mono (fun c j k h => Or.inl h))).tr (o2.mono (fun c j k h => by unfold zQh; omega))) (by rw [o2.i 54 0 54 (by omega), o1.i 54 0 54 (by unfold zQt; omega)]; exact h54) (by rw [zgi_si, if_pos ⟨rfl, rfl, rfl⟩]) (k1.only o2 ⟨fun k k1 k2 => by omega, fun k => by omega⟩) e)
    refine T_X12_goThroughFlips_98 ⟨fun q => ?_, fun _ => ?_⟩
    · rw [hR1.1.2.2.1, h55, nI_leI (by omega) (by omega)] at q
      omega
    · rw [h54]
      refine S_X12_mayBeJoint hW hR1 e53 hj ⟨fun q => ?_, fun q => ?_⟩
      · rw [zb_0] at q
        rw [if_neg (fun z => q z.1), List.nil_append] at hLT
        exact step σ L zOnly.rf hK hLT
      · rw [zb_0] at q
        have q1 := Decidable.not_not.mp q
        rw [h55]
        refine S_X12_mayBeJoint hW hR1 e53 hbN ⟨fun q2 => ?_, fun q2 => ?_⟩
        · rw [zb_0] at q2
          rw [if_neg (fun z => q2 z.2), List.nil_append] at hLT
          exact step σ L zOnly.rf hK hLT
        · rw [zb_0] at q2
          have q3 := Decidable.not_not.mp q2
          rw [if_pos ⟨q1, q3⟩, ← List.append_assoc] at hLT
          have hlen : (L ++ flS A g j (b : Int) (aN A) 0 (rsB A g j (b : Int))).length < 2 ^ 30 := by
            have := congrArg List.length hLT
            rw [List.length_append] at this
            omega
          have hF : zFj A σ j (b : Int) := ⟨h54, by rw [h55, iI_nat], hj, mbJ_map q1, by omega, by omega, fun _ => by rw [Int.toNat_natCast]; exact mbJ_map q3⟩
          exact S_X12_tryJoints hW hR1 hL1 hF e53 hgN hpl hlen hK (fun σ' o1 k1 => step σ' _ o1 k1 hLT)
theorem L_X12_go77 {σ0 : zSt} (hW : zWf A) (hR : zRM A σ0) (hL : ∀ m, m < aM A → zLd A σ0 m) {g : Nat} {w : Int32} {LT : List zFl4} (h53 : zgi σ0 54 0 53 = yset (grB A g) 32) (hgN : ∀ u, gr A g u → u < aN A) (hpl : ∀ u, gr A g u → 0 ≤ aMp A u) (hB : LT.length < 2 ^ 30) (hQ : ∀ σ', zOnly zQh σ0 σ' → zFk A σ' LT w → Q none σ') : ∀ (r j : Nat), j + r = aN A → ∀ (σ : zSt) (L : List zFl4), zOnly zQh σ0 σ → zgi σ 54 0 54 = nI j → zFk A σ L w → L ++ fl3 A g r j = LT → zE true (d + 7) kc ks M_X12_goThroughFlips 77 [some (.inr (.inr (54, 0))), none, none] [] σ Q := by
  have hN : aN A ≤ 24 := hW.1.2.2.2.2.1
  intro r
  induction r with
  | zero =>
    intro j hj σ L ho h54 hK hLT
    have : j = aN A := by omega
    subst this
    have e : L = LT := by rw [← hLT]; unfold fl3; rw [List.append_nil]
    subst e
    exact T_X12_goThroughFlips_77 ⟨fun _ => hQ σ ho hK, fun q => absurd (by rw [ho.i 54 0 4 (by unfold zQh zQt; omega), hR.1.2.2.1, h54]; exact Int32.le_refl _) q⟩
  | succ r ih =>
    intro j hj σ L ho h54 hK hLT
    have e4 : zgi σ 54 0 4 = nI (aN A) := by rw [ho.i 54 0 4 (by unfold zQh zQt; omega)]; exact hR.1.2.2.1
    unfold fl3 at hLT
    rw [← List.append_assoc] at hLT
    refine T_X12_goThroughFlips_77 ⟨fun q => ?_, fun _ => ?_⟩
    · rw [e4, h54, nI_leI (by omega) (by omega)] at q
      omega
    · rw [h54, ← nI_succ]
      have o2 : zOnly (fun c _ k => c = 54 ∧ k = 55) σ (zsi σ 54 0 55 (nI (j + 1))) := zOnly.si ⟨rfl, rfl⟩
      have hlen : (L ++ fl2 A g j r (j + 1)).length < 2 ^ 30 := by
        have := congrArg List.length hLT
        rw [List.length_append] at this
        omega
      exact L_X12_go98 (LT := L ++ fl2 A g j r (j + 1)) hW hR hL (by omega) h53 hgN hpl hlen (fun σ' o1 z1 k1 => ih (j + 1) (by omega) σ' _ o1 z1 k1 hLT) r (j + 1) (by omega) _ L (ho.tr (o2.mono (fun c j k h => by unfold zQh; omega))) (by rw [o2.i 54 0 54 (by omega)]; exact h54) (by rw [zgi_si, if_pos ⟨rfl, rfl, rfl⟩]) (hK.only o2 ⟨fun k k1 k2 => by omega, fun k => by omega⟩) rfl
theorem L_X12_go28 {σ0 : zSt} (hW : zWf A) (hR : zRM A σ0) (hL : ∀ m, m < aM A → zLd A σ0 m) {g : Nat} {w : Int32} {LT : List zFl4} (h53 : zgi σ0 54 0 53 = yset (grB A g) 32) (hgN : ∀ u, gr A g u → u < aN A) (hpl : ∀ u, gr A g u → 0 ≤ aMp A u) (hB : LT.length < 2 ^ 30) (hnext : ∀ σ', zOnly zQh σ0 σ' → zgi σ' 54 0 54 = nI 0 → zFk A σ' LT w → zE true (d + 7) kc ks M_X12_goThroughFlips 77 [some (.inr (.inr (54, 0))), none, none] [] (σ') Q) : ∀ (r j : Nat), j + r = aN A → ∀ (σ : zSt) (L : List zFl4), zOnly zQh σ0 σ → zgi σ 54 0 54 = nI j → zFk A σ L w → L ++ fl1 A g r j = LT → zE true (d + 7) kc ks M_X12_goThroughFlips 28 [some (.inr (.inr (54, 0))), none, none] [] σ Q := by
  have hN : aN A ≤ 24 := hW.1.2.2.2.2.1
  intro r
  induction r with
  | zero =>
    intro j hj σ L ho h54 hK hLT
    have : j = aN A := by omega
    subst this
    have e : L = LT := by rw [← hLT]; unfold fl1; rw [List.append_nil]
    subst e
    refine T_X12_goThroughFlips_28 ⟨fun _ => ?_, fun q => absurd (by rw [ho.i 54 0 4 (by unfold zQh zQt; omega), hR.1.2.2.1, h54]; exact Int32.le_refl _) q⟩
    have o2 : zOnly (fun c _ k => c = 54 ∧ k = 54) σ (zsi σ 54 0 54 0) := zOnly.si ⟨rfl, rfl⟩
    exact hnext _ (ho.tr (o2.mono (fun c j k h => by unfold zQh; omega))) (by rw [zgi_si, if_pos ⟨rfl, rfl, rfl⟩]; rfl) (hK.only o2 ⟨fun k k1 k2 => by omega, fun k => by omega⟩)
  | succ r ih =>
    intro j hj σ L ho h54 hK hLT
    have hjN : j < aN A := by omega
    have e4 : zgi σ 54 0 4 = nI (aN A) := by rw [ho.i 54 0 4 (by unfold zQh zQt; omega)]; exact hR.1.2.2.1
    unfold fl1 at hLT
    refine T_X12_goThroughFlips_28 ⟨fun q => ?_, fun _ => ?_⟩
    · rw [e4, h54, nI_leI (by omega) (by omega)] at q
      omega
    · rw [h54]
      have o2 : zOnly (fun c _ k => c = 54 ∧ k = 55) σ (zsi σ 54 0 55 (-1)) := zOnly.si ⟨rfl, rfl⟩
      have e55 : zgi (zsi σ 54 0 55 (-1)) 54 0 55 = iI (-1) := by rw [zgi_si, if_pos ⟨rfl, rfl, rfl⟩]; rfl
      generalize zsi σ 54 0 55 (-1) = σ1 at o2 e55 ⊢
      have oo : zOnly zQh σ0 σ1 := ho.tr (o2.mono (fun c j k h => by unfold zQh; omega))
      have hR1 : zRM A σ1 := hR.only oo (fun c k hb => by unfold zBM at hb; unfold zQh zQt; omega)
      have hL1 : ∀ m, m < aM A → zLd A σ1 m := fun m hm c hc => by rw [oo.l 75 0 _ (by unfold zQh zQt; omega), oo.l 76 0 _ (by unfold zQh zQt; omega)]; exact hL m hm c hc
      have e53 : zgi σ1 54 0 53 = yset (grB A g) 32 := by rw [oo.i 54 0 53 (by unfold zQh zQt; omega)]; exact h53
      have e54 : zgi σ1 54 0 54 = nI j := by rw [o2.i 54 0 54 (by omega)]; exact h54
      have hK1 : zFk A σ1 L w := hK.only o2 ⟨fun k k1 k2 => by omega, fun k => by omega⟩
      have step : ∀ (σ' : zSt) (L' : List zFl4), zOnly zQt σ1 σ' → zFk A σ' L' w → L' ++ fl1 A g r (j + 1) = LT → zE true (d + 7) kc ks M_X12_goThroughFlips 59 [some (.inr (.inr (54, 0))), none, none] [] (σ') Q := fun σ' L' o1 k1 e => T_X12_goThroughFlips_59 (by
        rw [o1.i 54 0 54 (by unfold zQt; omega), e54, ← nI_succ]
        have o3 : zOnly (fun c _ k => c = 54 ∧ k = 54) σ' (zsi σ' 54 0 54 (nI (j + 1))) := zOnly.si ⟨rfl, rfl⟩
        exact ih (j + 1) (by omega) _ L' ((oo.tr (o1.mono (fun c j k h => Or.inl h))).tr (o3.mono (fun c j k h => by unfold zQh; omega))) (by rw [zgi_si, if_pos ⟨rfl, rfl, rfl⟩]) (k1.only o3 ⟨fun k k1 k2 => by omega, fun k => by omega⟩) e)
      refine S_X12_mayBeJoint hW hR1 e53 hjN ⟨fun q => ?_, fun q => ?_⟩
      · rw [zb_0] at q
        rw [if_neg q, List.nil_append] at hLT
        exact step σ1 L zOnly.rf hK1 hLT
      · rw [zb_0] at q
        have q1 := Decidable.not_not.mp q
        rw [if_pos q1, ← List.append_assoc] at hLT
        have hlen : (L ++ flS A g j (-1) (aN A) 0 (rsB A g j (-1))).length < 2 ^ 30 := by
          have := congrArg List.length hLT
          rw [List.length_append] at this
          omega
        have hF : zFj A σ1 j (-1) := ⟨e54, e55, hjN, mbJ_map q1, by omega, by omega, fun z => by omega⟩
        exact S_X12_tryJoints hW hR1 hL1 hF e53 hgN hpl hlen hK1 (fun σ' o1 k1 => step σ' _ o1 k1 hLT)
theorem S_X12_goThroughFlips {K : zSt → Prop} (hW : zWf A) (hR : zRM A σ) (hC : zCM A σ) {g : Nat} {w : Int32} (hg : g < aN A) (hpl : plcd A g = true) (hK : ∀ σ', zOnly zQo σ σ' → zCM A σ' → zFk A σ' (flP A g) w → K σ') : zCv true (d + 7) 0 0 M_X12_goThroughFlips [.inr (.inr (54, 0)), .inl (nI g), .inl (w)] σ K := by
  have hN : aN A ≤ 24 := hW.1.2.2.2.2.1
  have hgN : ∀ u, gr A g u → u < aN A := fun u h => gr_lt hW hg h
  have hpl2 : ∀ u, gr A g u → 0 ≤ aMp A u := fun u h => by
    unfold plcd at hpl
    rw [Bool.not_eq_true'] at hpl
    have := aAny_f.mp hpl u (hgN u h)
    rw [grB_iff.mpr h, Bool.true_and, Bool.not_eq_false', decide_eq_true_eq] at this
    exact this
  have hlen := flP_len (g := g) hN
  refine zC_intro pl_X12 (Nat.le_of_ble_eq_true rfl) (T_X12_goThroughFlips_0 (S_X12_layAll hW hR hC.1 (fun σ1 o1 d1 l1 => ?_)))
  have hR1 : zRM A σ1 := hR.only o1 (fun c k hb => by unfold zBM at hb; omega)
  have hC1 : zCM A σ1 := ⟨l1, hC.2.1.only o1 ⟨by omega, fun k => by omega⟩, hC.2.2.1.only o1 ⟨by omega, by omega, fun k => by omega⟩, hC.2.2.2.only o1 ⟨by omega, by omega, by omega, fun k => by omega⟩⟩
  refine S_X12_groupOf hW hR1 hg ?_
  have o2 : zOnly (fun c _ k => c = 54 ∧ (k = 53 ∨ k = 54 ∨ k = 58 ∨ k = 59)) σ1 (zsi (zsi (zsi (zsi σ1 54 0 53 (yset (grB A g) 32)) 54 0 58 0) 54 0 59 w) 54 0 54 0) := (((zOnly.si ⟨rfl, by omega⟩).tr (zOnly.si ⟨rfl, by omega⟩)).tr (zOnly.si ⟨rfl, by omega⟩)).tr (zOnly.si ⟨rfl, by omega⟩)
  have e53 : zgi (zsi (zsi (zsi (zsi σ1 54 0 53 (yset (grB A g) 32)) 54 0 58 0) 54 0 59 w) 54 0 54 0) 54 0 53 = yset (grB A g) 32 := by simp [zgi_si]
  have e54 : zgi (zsi (zsi (zsi (zsi σ1 54 0 53 (yset (grB A g) 32)) 54 0 58 0) 54 0 59 w) 54 0 54 0) 54 0 54 = nI 0 := by simp [zgi_si]; rfl
  have e58 : zgi (zsi (zsi (zsi (zsi σ1 54 0 53 (yset (grB A g) 32)) 54 0 58 0) 54 0 59 w) 54 0 54 0) 54 0 58 = nI 0 := by simp [zgi_si]; rfl
  have e59 : zgi (zsi (zsi (zsi (zsi σ1 54 0 53 (yset (grB A g) 32)) 54 0 58 0) 54 0 59 w) 54 0 54 0) 54 0 59 = w := by simp [zgi_si]
  generalize zsi (zsi (zsi (zsi σ1 54 0 53 (yset (grB A g) 32)) 54 0 58 0) 54 0 59 w) 54 0 54 0 = σ2 at o2 e53 e54 e58 e59 ⊢
  have hR2 : zRM A σ2 := hR1.only o2 (fun c k hb => by unfold zBM at hb; omega)
  have hL2 : ∀ m, m < aM A → zLd A σ2 m := fun m hm c hc => by rw [o2.l 75 0 _ (by omega), o2.l 76 0 _ (by omega)]; exact d1 m hm c hc
  have hC2 : zCM A σ2 := hC1.only o2 (fun c k h => by unfold zQm at h; omega)
  have hK2 : zFk A σ2 [] w := ⟨e58, e59, fun i x h => by rw [List.getElem?_nil] at h; cases h⟩
  have h1 : (fl1 A g (aN A) 0).length < 2 ^ 30 := by
    unfold flP at hlen
    rw [List.length_append] at hlen
    omega
  refine L_X12_go28 (Q := fun r σ' => r = none ∧ K σ') (LT := fl1 A g (aN A) 0) hW hR2 hL2 e53 hgN hpl2 h1 (fun σ3 o3 z3 k3 => L_X12_go77 (Q := fun r σ' => r = none ∧ K σ') (LT := flP A g) hW hR2 hL2 e53 hgN hpl2 (by omega) (fun σ4 o4 k4 => ⟨rfl, hK σ4 (((o1.mono (fun c j k h => Or.inr (Or.inl h))).tr (o2.mono (fun c j k h => by unfold zQh zQt; omega))).tr (o4.mono (fun c j k h => Or.inl h))) (hC2.only o4 (fun c k h => by unfold zQm at h; unfold zQh zQt; omega)) k4⟩) (aN A) 0 (by omega) σ3 _ o3 z3 k3 rfl) (aN A) 0 (by omega) σ2 [] zOnly.rf e54 hK2 (List.nil_append _)
theorem O_X12_flips {K : Int32 → zSt → Prop} (hW : zWf A) (hR : zRM A σ) (hC : zCM A σ) (a : Int32) (hno : ¬ tI A a = true → K (-1) σ) (hyes : ∀ t, t < aN A → a = nI t → (¬ plcd A t = true → K (-3) σ) ∧ (plcd A t = true → ∀ σ', zOnly zQo σ σ' → zCM A σ' → K (nI (flP A t).length) σ')) : zCi true (d + 8) 0 0 M_X12_flips [.inr (.inr (54, 0)), .inl (a)] σ K := by
  refine zC_intro pl_X12 (Nat.le_of_ble_eq_true rfl) (T_X12_flips_0 (S_X12_noThing hW hR a ⟨fun h => ?_, fun h => ⟨_, rfl, hno ?_⟩⟩))
  · rw [zb_0, Decidable.not_not] at h
    obtain ⟨t, ht, rfl⟩ := tI_nI h
    obtain ⟨y1, y2⟩ := hyes t ht rfl
    refine S_X12_isPlaced hW hR ht ⟨fun g => ?_, fun g => ⟨_, rfl, y1 (zb_0.mp g)⟩⟩
    have g1 := Decidable.not_not.mp (fun q => g (zb_0.mpr q))
    exact S_X12_goThroughFlips hW hR hC ht g1 (fun σ' o c k => by
      rw [k.1]
      exact ⟨_, rfl, y2 g1 σ' o c⟩)
  · exact fun q => h (zb_0.mpr (fun z => z q))
theorem S_X12_seek {K : Int32 → zSt → Prop} (hW : zWf A) (hR : zRM A σ) (hC : zCM A σ) (a b : Int32) (hno : ¬ tI A a = true → K (-1) σ) (hyes : ∀ t, t < aN A → a = nI t → (¬ plcd A t = true → K (-3) σ) ∧ (plcd A t = true → ∀ σ', zOnly zQo σ σ' → zCM A σ' → (¬ (0 ≤ b.toInt ∧ b.toInt < (flP A t).length) → K (-1) σ') ∧ ∀ n x, b = nI n → (flP A t)[n]? = some x → zKp A σ' x → K 0 σ')) : zCi true (d + 8) 0 0 M_X12_seek [.inr (.inr (54, 0)), .inl (a), .inl (b)] σ K := by
  have hN : aN A ≤ 24 := hW.1.2.2.2.2.1
  refine zC_intro pl_X12 (Nat.le_of_ble_eq_true rfl) (T_X12_seek_0 (S_X12_noThing hW hR a ⟨fun h => ?_, fun h => ⟨_, rfl, hno ?_⟩⟩))
  · rw [zb_0, Decidable.not_not] at h
    obtain ⟨t, ht, rfl⟩ := tI_nI h
    obtain ⟨y1, y2⟩ := hyes t ht rfl
    refine S_X12_isPlaced hW hR ht ⟨fun g => ?_, fun g => ⟨_, rfl, y1 (zb_0.mp g)⟩⟩
    have g1 := Decidable.not_not.mp (fun q => g (zb_0.mpr q))
    refine S_X12_goThroughFlips hW hR hC ht g1 (fun σ' o c k x hx => ⟨_, rfl, ?_⟩)
    obtain ⟨z1, z2⟩ := y2 g1 σ' o c
    have hlen := flP_len (g := t) hN
    have cz := zin_n b (N := (flP A t).length) (by omega)
    rw [k.1] at hx
    by_cases q : 0 ≤ b.toInt ∧ b.toInt < (flP A t).length
    · have ex : x = 0 := by
        rw [hx, if_neg (by rw [zb_0, cz]; exact fun z => z q)]
      rw [ex]
      have hb : b = nI b.toInt.toNat := zI_of q.1
      have hl : b.toInt.toNat < (flP A t).length := by omega
      exact z2 b.toInt.toNat _ hb (List.getElem?_eq_getElem hl) (k.2.2 _ _ (List.getElem?_eq_getElem hl) hb)
    · have ex : x = -1 := by
        rw [hx, if_pos (by rw [zb_0, cz]; exact q)]
      rw [ex]
      exact z1 q
  · exact fun q => h (zb_0.mpr (fun z => z q))
/-- what flip answers -/
def flV (x : zFl4) (w : Int32) : Int32 := if w = 0 then nI x.1 else if w = 1 then iI (if 0 ≤ x.2.1 then x.2.1 else -9) else if w = 2 then nI x.2.2.2 else if w = 3 then yset x.2.2.1 32 else -2
theorem O_X12_flip {K : Int32 → zSt → Prop} (hW : zWf A) (hR : zRM A σ) (hC : zCM A σ) (a b w : Int32) (hno : ¬ tI A a = true → K (-1) σ) (hyes : ∀ t, t < aN A → a = nI t → (¬ plcd A t = true → K (-3) σ) ∧ (plcd A t = true → ∀ σ', zOnly zQo σ σ' → zCM A σ' → (¬ (0 ≤ b.toInt ∧ b.toInt < (flP A t).length) → K (-1) σ') ∧ ∀ n x, b = nI n → (flP A t)[n]? = some x → K (flV x w) σ')) : zCi true (d + 9) 0 0 M_X12_flip [.inr (.inr (54, 0)), .inl (a), .inl (b), .inl (w)] σ K := by
  have n1 : ¬ (0 : Int32) ≤ -1 := by decide
  have n3 : ¬ (0 : Int32) ≤ -3 := by decide
  refine zC_intro pl_X12 (Nat.le_of_ble_eq_true rfl) (T_X12_flip_0 (S_X12_seek hW hR hC a b (fun h => ⟨fun q => absurd q n1, fun _ => ⟨_, rfl, hno h⟩⟩) (fun t ht e => ⟨fun q => ⟨fun z => absurd z n3, fun _ => ⟨_, rfl, (hyes t ht e).1 q⟩⟩, fun q σ' o c => ⟨fun z => ⟨fun z2 => absurd z2 n1, fun _ => ⟨_, rfl, ((hyes t ht e).2 q σ' o c).1 z⟩⟩, fun n x hb hx k => ?_⟩⟩)))
  have fin := ((hyes t ht e).2 q σ' o c).2 n x hb hx
  obtain ⟨k1, k2, k3, k4, k5, k6⟩ := k
  unfold flV at fin
  refine ⟨fun _ => ⟨fun h => ?_, fun h => ?_, fun h => ?_, fun h => ?_, fun h0 h1 h2 h3 => ?_⟩, fun z => absurd (Int32.le_refl 0) z⟩
  · subst h
    rw [k1]
    exact ⟨_, rfl, fin⟩
  · subst h
    rw [k2]
    exact ⟨_, rfl, fin⟩
  · subst h
    rw [k4]
    exact ⟨_, rfl, fin⟩
  · subst h
    rw [k3]
    exact ⟨_, rfl, fin⟩
  · rw [if_neg h0, if_neg h1, if_neg h2, if_neg h3] at fin
    exact ⟨_, rfl, fin⟩
theorem zRM.map {σ0 σ : zSt} {f : Nat → Int} (h : zRM A σ0) (ho : zOnly (fun c _ _ => c = 62) σ0 σ) (hz : ∀ t, t < aN A → zgi σ 62 0 t = iI (f t)) : zRM (mpS A f) σ := by
  obtain ⟨⟨b1, b2, b3, b4, b5, b6, b7⟩, h2, h3, h4⟩ := h
  refine ⟨⟨?_, ?_, ?_, ?_, ?_, ?_, fun c hc => ?_⟩, fun u hu => ?_, fun m hm => ?_, fun v hv => ?_⟩
  · rw [ho.i 54 0 1 (by omega)]; exact b1
  · rw [ho.i 54 0 2 (by omega)]; exact b2
  · rw [ho.i 54 0 4 (by omega)]; exact b3
  · rw [ho.i 54 0 12 (by omega)]; exact b4
  · rw [ho.i 54 0 19 (by omega)]; exact b5
  · rw [ho.i 54 0 23 (by omega)]; exact b6
  · rw [ho.i 55 0 c (by omega)]; exact b7 c hc
  · have hu' : u < aN A := hu
    obtain ⟨r1, r2, r3, r4, r5, r6, r7, r8, r9, r10⟩ := h2 u hu'
    rw [ho.i 56 0 _ (by omega), ho.i 57 0 _ (by omega), ho.i 58 0 _ (by omega), ho.i 58 0 _ (by omega), ho.i 58 0 _ (by omega), ho.i 58 0 _ (by omega), ho.i 59 0 _ (by omega), ho.i 60 0 _ (by omega), ho.i 61 0 _ (by omega)]
    refine ⟨r1, ?_, r3, r4, r5, r6, r7, ?_, ?_, ?_⟩
    · rw [r2]; simp [aC, mpS]
    · rw [r8]; simp [aMo, mpS]
    · rw [r9]; simp [aTi, mpS]
    · rw [hz u hu']; simp [aMp, mpS]
  · rw [ho.i 63 0 _ (by omega), ho.i 64 0 _ (by omega), ho.i 65 0 _ (by omega), ho.i 66 0 _ (by omega), ho.i 67 0 _ (by omega), ho.i 68 0 _ (by omega)]
    exact h3 m hm
  · rw [ho.i 69 0 _ (by omega), ho.i 70 0 _ (by omega), ho.i 71 0 _ (by omega)]
    exact h4 v hv
/-- the desk with a flip done -/
def flM (A : zAb) (x : zFl4) (t : Nat) : Int := if x.2.2.1 t = true then tnT A x.1 x.2.2.2 t else aMp A t
def aFlip (A : zAb) (x : zFl4) : zAb := mpS A (flM A x)
theorem aFlip_wf (hW : zWf A) (x : zFl4) : zWf (aFlip A x) := by
  refine (sm_map A _).t_wf hW (fun u hu => ?_) (fun _ => by simp [aMo, mpS]) (fun _ => by simp [aTi, mpS])
  have e : aMp (mpS A (flM A x)) u = flM A x u := by simp [aMp, mpS]
  rw [e]
  unfold flM
  split
  · unfold tnT
    rcases tnC_r hW x.2.2.2 (aMp A x.1).toNat (aMp A u).toNat with q | ⟨c, q, q2, q3⟩
    · exact Or.inl q
    · exact Or.inr ⟨c, q, q3⟩
  · exact (hW.2.1 u hu).2.2.2.2.2.2.2.1
abbrev zQf (c j k : Nat) : Prop := zQo c j k ∨ c = 62
theorem L_X12_fl16 {σ0 : zSt} (hW : zWf A) (hR : zRM A σ0) {x : zFl4} (hK : zKp A σ0 x) (hQ : ∀ σ', zOnly (fun c _ _ => c = 62) σ0 σ' → zRM (aFlip A x) σ' → Q (some (.inl (nI (mvN A x.2.2.1 x.1 x.2.1 x.2.2.2)))) σ') : ∀ (n k : Nat), k + n = aN A → ∀ σ : zSt, zOnly (fun c _ _ => c = 62) σ0 σ → (∀ t, t < aN A → zgi σ 62 0 t = iI (if t < k then flM A x t else aMp A t)) → zE true (d + 9) kc ks M_X12_flipped 16 [some (.inr (.inr (54, 0))), none, none, none, some (.inl (nI k))] [] σ Q := by
  have hN : aN A ≤ 24 := hW.1.2.2.2.2.1
  obtain ⟨k1, k2, k3, k4, k5, k6⟩ := hK
  intro n
  induction n with
  | zero =>
    intro k hk σ ho hz
    have : k = aN A := by omega
    subst this
    refine T_X12_flipped_16 ⟨fun _ => ?_, fun g => absurd (by rw [ho.i 54 0 4 (by omega), hR.1.2.2.1]; exact Int32.le_refl _) g⟩
    rw [ho.i 54 0 64 (by omega), k5]
    exact hQ σ ho (hR.map ho (fun t ht => by rw [hz t ht, if_pos ht]))
  | succ n ih =>
    intro k hk σ ho hz
    have i24 : vp_in (nI k) 24 := nI_in (by omega) (by omega)
    refine T_X12_flipped_16 ⟨fun g => ?_, fun _ => ⟨fun _ => i24, fun _ => i24, fun y hy => ⟨i24, ?_⟩⟩⟩
    · rw [ho.i 54 0 4 (by omega), hR.1.2.2.1, nI_leI (by omega) (by omega)] at g
      omega
    · rw [nI_clamp (show k < 2 ^ 31 by omega), ← nI_succ]
      refine ih (k + 1) (by omega) _ (ho.tr (zOnly.si rfl)) (fun t ht => ?_)
      rw [zgi_si]
      by_cases e : t = k
      · subst e
        rw [if_pos ⟨rfl, rfl, rfl⟩, if_pos (Nat.lt_succ_self t), hy, nI_clamp (show t < 2 ^ 31 by omega), ho.i 54 0 62 (by omega), k3, ho.i 88 0 t (by omega)]
        unfold flM
        by_cases z : x.2.2.1 t = true
        · rw [if_neg (by rw [zy_b1 (by omega), zb_0]; exact fun q => q z), if_pos z, k6 t ht z]
        · rw [if_pos (by rw [zy_b1 (by omega), zb_0]; exact z), if_neg z, hz t ht, if_neg (Nat.lt_irrefl t)]
      · rw [if_neg (fun q => e q.2.2), hz t ht]
        congr 1
        by_cases z : t < k
        · rw [if_pos z, if_pos (by omega)]
        · rw [if_neg z, if_neg (by omega)]
theorem O_X12_flipped {K : Int32 → zSt → Prop} (hW : zWf A) (hR : zRM A σ) (hC : zCM A σ) (a b : Int32) (hno : ¬ tI A a = true → K (-1) σ) (hyes : ∀ t, t < aN A → a = nI t → (¬ plcd A t = true → K (-3) σ) ∧ (plcd A t = true → (¬ (0 ≤ b.toInt ∧ b.toInt < (flP A t).length) → ∀ σ', zOnly zQo σ σ' → zCM A σ' → K (-1) σ') ∧ ∀ n x, b = nI n → (flP A t)[n]? = some x → ∀ σ', zOnly zQf σ σ' → zRM (aFlip A x) σ' → zCM (aFlip A x) σ' → K (nI (mvN A x.2.2.1 x.1 x.2.1 x.2.2.2)) σ')) : zCi true (d + 9) 0 0 M_X12_flipped [.inr (.inr (54, 0)), .inl (a), .inl (b)] σ K := by
  have n1 : ¬ (0 : Int32) ≤ -1 := by decide
  have n3 : ¬ (0 : Int32) ≤ -3 := by decide
  refine zC_intro pl_X12 (Nat.le_of_ble_eq_true rfl) (T_X12_flipped_0 (S_X12_seek hW hR hC a b (fun h => ⟨fun q => absurd q n1, fun _ => ⟨_, rfl, hno h⟩⟩) (fun t ht e => ⟨fun q => ⟨fun z => absurd z n3, fun _ => ⟨_, rfl, (hyes t ht e).1 q⟩⟩, fun q σ1 o c => ⟨fun z => ⟨fun z2 => absurd z2 n1, fun _ => ⟨_, rfl, ((hyes t ht e).2 q).1 z σ1 o c⟩⟩, fun n x hb hx k => ⟨fun _ => ?_, fun z => absurd (Int32.le_refl 0) z⟩⟩⟩)))
  have hR1 : zRM A σ1 := hR.only o (fun c k hb => by unfold zBM at hb; unfold zQo zQh zQt; omega)
  refine L_X12_fl16 (A := A) (Q := fun r σ' => ∃ x, r = some (.inl x) ∧ K x σ') hW hR1 k (fun σ2 o2 r2 => ⟨_, rfl, ((hyes t ht e).2 q).2 n x hb hx σ2 ((o.mono (fun c j k h => Or.inl h)).tr (o2.mono (fun c j k h => Or.inr h))) r2 ((sm_map A _).t_cm (fun _ => rfl) (c.only o2 (fun c k h => by unfold zQm at h; omega)))⟩) (aN A) 0 (by omega) σ1 zOnly.rf (fun u hu => ?_)
  rw [if_neg (Nat.not_lt_zero u)]
  exact (hR1.2.1 u hu).2.2.2.2.2.2.2.2.2
end zMab
