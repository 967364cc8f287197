/-! flips (class): all of them sought -/
section zCs
variable {d kc ks : Nat} {σ : zSt} {A : zAb} {Q : Option zV → zSt → Prop}
noncomputable def jsB (A : zAb) (g u : Nat) : Bool := decide (u < aN A) && mbJ A g u
theorem L_X2_seek108 {σ0 : zSt} (hW : zWf A) (hV : zHf A σ0) {g j : Nat} {w : Int32} {LT : List zFl4} (hj : j < aN A) (hgN : ∀ u, gr A g u → u < aN A) (hpl : ∀ u, gr A g u → 0 ≤ aMp A u) (hB : LT.length < 2 ^ 30) (hnext : ∀ σ', zOnly zQcc σ0 σ' → σ'.2.2.2 = σ0.2.2.2 → zFc A σ' LT w → zE true (d + 6) kc ks M_X2_seek 90 [some (.inr (.inr (12, 0))), some (.inl (yset (grB A g) 32)), none, some (.inl (yset (jsB A g) 32)), some (.inl ((nI j + 1))), none] [] (σ') Q) : ∀ (r b : Nat), b + r = aN A → ∀ (σ : zSt) (L : List zFl4), zOnly zQcc σ0 σ → σ.2.2.2 = σ0.2.2.2 → zFc A σ L w → L ++ fl2 A g j r b = LT → zE true (d + 6) kc ks M_X2_seek 108 [some (.inr (.inr (12, 0))), some (.inl (yset (grB A g) 32)), none, some (.inl (yset (jsB A g) 32)), some (.inl (nI j)), some (.inl (nI b))] [] σ Q := by
  have hN : aN A ≤ 24 := hW.1.2.2.2.2.1
  intro r
  induction r with
  | zero =>
    intro b hb σ L ho hh hF hLT
    have : b = aN A := by omega
    subst this
    have e : L = LT := by rw [← hLT]; unfold fl2; rw [List.append_nil]
    subst e
    exact T_X2_seek_108 ⟨fun _ => hnext σ ho hh hF, fun q => absurd (by rw [zrd_nT (hV.only ho hh).1]; exact Int32.le_refl _) q⟩
  | succ r ih =>
    intro b hb σ L ho hh hF hLT
    have hbN : b < aN A := by omega
    have hV1 := hV.only ho hh
    by_cases hr : zgi σ 12 0 4 = 0
    · unfold fl2 at hLT
      refine T_X2_seek_108 ⟨fun q => ?_, fun _ => ⟨fun q => absurd hr q, fun _ => ?_⟩⟩
      · rw [zrd_nT hV1.1, nI_leI (by omega) (by omega)] at q
        omega
      · rw [yh_b (by omega), yh_b (by omega), zb_0, zb_0]
        have ej : jsB A g j = mbJ A g j := by unfold jsB; rw [decide_eq_true hj]; rfl
        have eb : jsB A g b = mbJ A g b := by unfold jsB; rw [decide_eq_true hbN]; rfl
        rw [ej, eb, ← nI_succ]
        refine ⟨fun q => ?_, fun q => ?_⟩
        · rw [if_neg (fun z => q.elim (fun y => y z.1) (fun y => y z.2)), List.nil_append] at hLT
          exact ih (b + 1) (by omega) σ L ho hh hF hLT
        · have q1 : mbJ A g j = true := Decidable.not_not.mp (fun z => q (Or.inl z))
          have q2 : mbJ A g b = true := Decidable.not_not.mp (fun z => q (Or.inr z))
          rw [if_pos ⟨q1, q2⟩, ← List.append_assoc] at hLT
          have hlen : (L ++ flS A g j (b : Int) (aN A) 0 (rsB A g j (b : Int))).length < 2 ^ 30 := by
            have := congrArg List.length hLT
            rw [List.length_append] at this
            omega
          have eI : nI b = iI (if 0 ≤ ((b : Nat) : Int) then ((b : Nat) : Int) else -9) := by rw [if_pos (by omega), iI_nat]
          have := S_X2_seekAbout (d := d) (K := fun s12 => zE true (d + 6) kc ks M_X2_seek 108 [some (.inr (.inr (12, 0))), some (.inl (yset (grB A g) 32)), none, some (.inl (yset (jsB A g) 32)), some (.inl (nI j)), some (.inl (nI (b + 1)))] [] s12 Q) hW hV1 hj (mbJ_map q1) (b := (b : Int)) ⟨by omega, by omega⟩ (fun _ => by rw [Int.toNat_natCast]; exact mbJ_map q2) hgN hpl hlen hF (fun σ' o1 h1 f1 => ih (b + 1) (by omega) σ' _ (ho.tr o1) (h1.trans hh) f1 hLT)
          rw [← eI] at this
          exact this
    · refine T_X2_seek_108 ⟨fun q => ?_, fun _ => ⟨fun _ => ?_, fun q => absurd q hr⟩⟩
      · rw [zrd_nT hV1.1, nI_leI (by omega) (by omega)] at q
        omega
      · refine hnext σ ho hh ?_
        rw [← hLT]
        exact hF.app hr _
theorem L_X2_seek90 {σ0 : zSt} (hW : zWf A) (hV : zHf A σ0) {g : Nat} {w : Int32} {LT : List zFl4} (hgN : ∀ u, gr A g u → u < aN A) (hpl : ∀ u, gr A g u → 0 ≤ aMp A u) (hB : LT.length < 2 ^ 30) (hQ : ∀ σ', zOnly zQcc σ0 σ' → σ'.2.2.2 = σ0.2.2.2 → zFc A σ' LT w → Q (some (.inl (zgi σ' 12 0 4))) σ') : ∀ (r j : Nat), j + r = aN A → ∀ (σ : zSt) (L : List zFl4), zOnly zQcc σ0 σ → σ.2.2.2 = σ0.2.2.2 → zFc A σ L w → L ++ fl3 A g r j = LT → zE true (d + 6) kc ks M_X2_seek 90 [some (.inr (.inr (12, 0))), some (.inl (yset (grB A g) 32)), none, some (.inl (yset (jsB A g) 32)), some (.inl (nI j)), none] [] σ Q := by
  have hN : aN A ≤ 24 := hW.1.2.2.2.2.1
  intro r
  induction r with
  | zero =>
    intro j hj σ L ho hh hF hLT
    have : j = aN A := by omega
    subst this
    have e : L = LT := by rw [← hLT]; unfold fl3; rw [List.append_nil]
    subst e
    exact T_X2_seek_90 ⟨fun _ => ⟨hF.2.imp (fun q => q.1) (fun q => q.1), hQ σ ho hh hF⟩, fun q => absurd (by rw [zrd_nT (hV.only ho hh).1]; exact Int32.le_refl _) q⟩
  | succ r ih =>
    intro j hj σ L ho hh hF hLT
    have hV1 := hV.only ho hh
    unfold fl3 at hLT
    rw [← List.append_assoc] at hLT
    have hlen : (L ++ fl2 A g j r (j + 1)).length < 2 ^ 30 := by
      have := congrArg List.length hLT
      rw [List.length_append] at this
      omega
    refine T_X2_seek_90 ⟨fun q => ?_, fun _ => ?_⟩
    · rw [zrd_nT hV1.1, nI_leI (by omega) (by omega)] at q
      omega
    · rw [← nI_succ]
      exact L_X2_seek108 (LT := L ++ fl2 A g j r (j + 1)) hW hV1 (by omega) hgN hpl hlen (fun σ' o1 h1 f1 => by
        rw [← nI_succ]
        exact ih (j + 1) (by omega) σ' _ (ho.tr o1) (h1.trans hh) f1 hLT) r (j + 1) (by omega) σ L zOnly.rf rfl hF rfl
theorem L_X2_seek43 {σ0 : zSt} (hW : zWf A) (hV : zHf A σ0) {g : Nat} {w : Int32} {LT : List zFl4} (hgN : ∀ u, gr A g u → u < aN A) (hpl : ∀ u, gr A g u → 0 ≤ aMp A u) (hB : LT.length < 2 ^ 30) (hnext : ∀ σ', zOnly zQcc σ0 σ' → σ'.2.2.2 = σ0.2.2.2 → zFc A σ' LT w → zE true (d + 6) kc ks M_X2_seek 90 [some (.inr (.inr (12, 0))), some (.inl (yset (grB A g) 32)), none, some (.inl (yset (jsB A g) 32)), some (.inl (0)), none] [] (σ') Q) : ∀ (r j : Nat), j + r = aN A → ∀ (σ : zSt) (L : List zFl4), zOnly zQcc σ0 σ → σ.2.2.2 = σ0.2.2.2 → zFc A σ L w → L ++ fl1 A g r j = LT → zE true (d + 6) kc ks M_X2_seek 43 [some (.inr (.inr (12, 0))), some (.inl (yset (grB A g) 32)), none, some (.inl (yset (jsB A g) 32)), some (.inl (nI j)), none] [] σ Q := by
  have hN : aN A ≤ 24 := hW.1.2.2.2.2.1
  intro r
  induction r with
  | zero =>
    intro j hj σ L ho hh hF hLT
    have : j = aN A := by omega
    subst this
    have e : L = LT := by rw [← hLT]; unfold fl1; rw [List.append_nil]
    subst e
    exact T_X2_seek_43 ⟨fun _ => hnext σ ho hh hF, fun q => absurd (by rw [zrd_nT (hV.only ho hh).1]; exact Int32.le_refl _) q⟩
  | succ r ih =>
    intro j hj σ L ho hh hF hLT
    have hjN : j < aN A := by omega
    have hV1 := hV.only ho hh
    by_cases hr : zgi σ 12 0 4 = 0
    · unfold fl1 at hLT
      refine T_X2_seek_43 ⟨fun q => ?_, fun _ => ⟨fun q => absurd hr q, fun _ => ?_⟩⟩
      · rw [zrd_nT hV1.1, nI_leI (by omega) (by omega)] at q
        omega
      · rw [yh_b (by omega), zb_0]
        have ej : jsB A g j = mbJ A g j := by unfold jsB; rw [decide_eq_true hjN]; rfl
        rw [ej, ← nI_succ]
        refine ⟨fun q => ?_, fun q => ?_⟩
        · rw [if_neg q, List.nil_append] at hLT
          exact ih (j + 1) (by omega) σ L ho hh hF hLT
        · have q1 := Decidable.not_not.mp q
          rw [if_pos q1, ← List.append_assoc] at hLT
          have hlen : (L ++ flS A g j (-1) (aN A) 0 (rsB A g j (-1))).length < 2 ^ 30 := by
            have := congrArg List.length hLT
            rw [List.length_append] at this
            omega
          exact S_X2_seekAbout (b := -1) hW hV1 hjN (mbJ_map q1) ⟨by omega, by omega⟩ (fun z => absurd z (by omega)) hgN hpl hlen hF (fun σ' o1 h1 f1 => ih (j + 1) (by omega) σ' _ (ho.tr o1) (h1.trans hh) f1 hLT)
    · refine T_X2_seek_43 ⟨fun _ => hnext σ ho hh ?_, fun _ => ⟨fun _ => hnext σ ho hh ?_, fun q => absurd q hr⟩⟩
      · rw [← hLT]
        exact hF.app hr _
      · rw [← hLT]
        exact hF.app hr _
theorem S_X2_seek {K : Int32 → zSt → Prop} (hW : zWf A) (hR : zRD A σ 0) (hG : zGr σ) (hS : ∀ m, m < aM A → zSp A σ m) (hX : zXT σ) {g : Nat} {w : Int32} (hg : g < aN A) (hpl : ∀ u, gr A g u → 0 ≤ aMp A u) (hK : ∀ σ', zOnly (fun c j k => zQcc c j k ∨ z30 c j k ∨ (c = 12 ∧ k = 3)) σ σ' → σ'.2.2.2 = σ.2.2.2 → zFc A σ' (flP A g) w → K (zgi σ' 12 0 4) σ') : zCi true (d + 6) 0 0 M_X2_seek [.inr (.inr (12, 0)), .inl (yset (grB A g) 32), .inl (w)] σ K := by
  have hN : aN A ≤ 24 := hW.1.2.2.2.2.1
  have hgN : ∀ u, gr A g u → u < aN A := fun u h => gr_lt hW hg h
  have hlen := flP_len (g := g) hN
  refine zC_intro pl_X2 (Nat.le_of_ble_eq_true rfl) (T_X2_seek_0 ?_)
  have o1 : zOnly (fun c _ k => c = 12 ∧ (k = 3 ∨ k = 5)) σ (zsi (zsi σ 12 0 3 w) 12 0 5 0) := (zOnly.si ⟨rfl, Or.inl rfl⟩).tr (zOnly.si ⟨rfl, Or.inr rfl⟩)
  have e3 : zgi (zsi (zsi σ 12 0 3 w) 12 0 5 0) 12 0 3 = w := by simp [zgi_si]
  have e5 : zgi (zsi (zsi σ 12 0 3 w) 12 0 5 0) 12 0 5 = nI 0 := by simp [zgi_si]; rfl
  have h1 : (zsi (zsi σ 12 0 3 w) 12 0 5 0).2.2.2 = σ.2.2.2 := rfl
  generalize zsi (zsi σ 12 0 3 w) 12 0 5 0 = σ1 at o1 e3 e5 h1 ⊢
  have hR1 : zRD A σ1 0 := hR.only o1 h1 (fun c j k h => by unfold zBD at h; omega)
  refine S_X1_link hW hR1 (fun σ2 o2 h2 l2 => ?_)
  have o3 : zOnly (fun c _ k => c = 12 ∧ k = 4) σ2 (zsi σ2 12 0 4 0) := zOnly.si ⟨rfl, rfl⟩
  have e4 : zgi (zsi σ2 12 0 4 0) 12 0 4 = 0 := by simp [zgi_si]
  have h3 : (zsi σ2 12 0 4 0).2.2.2 = σ2.2.2.2 := rfl
  generalize zsi σ2 12 0 4 0 = σ3 at o3 e4 h3 ⊢
  have oA : zOnly (fun c j k => zQcc c j k ∨ z30 c j k ∨ (c = 12 ∧ k = 3)) σ σ3 := ((o1.mono (fun c j k h => by unfold zQcc z30; omega)).tr (o2.mono (fun c j k h => Or.inr (Or.inl h)))).tr (o3.mono (fun c j k h => by unfold zQcc z30; omega))
  have hA : σ3.2.2.2 = σ.2.2.2 := (h3.trans h2).trans h1
  have hV : zHf A σ3 := by
    refine ⟨hR.only oA hA (fun c j k h => by unfold zBD at h; unfold zQcc z30; omega), hG.only oA (fun j k => by unfold zQcc z30; omega), fun m hm => (hS m hm).only oA (fun j k => by unfold zQcc z30; omega), hX.only oA (fun c k h1 h2 => by unfold zQcc z30; omega), fun t ht => ?_⟩
    rw [o3.i 30 0 t (by omega)]
    exact l2 t ht
  refine S_X1_anchors hW hV.1 (S_X1_thingsOnMap hW hV.1 ?_)
  have ejs : (yset (grB A g) 32 ||| yset (fun t => decide (t < aN A) && ancB A t) 32) &&& yset (fun t => decide (t < aN A) && decide (0 ≤ aMp A t)) 32 = yset (jsB A g) 32 := yset_eq (fun i hi => by
    rw [b_and, b_or, bt_set hi, bt_set hi, bt_set hi]
    unfold jsB mbJ ancB
    cases decide (i < aN A) <;> cases grB A g i <;> cases decide (0 < aK A i) <;> cases decide (0 ≤ aMp A i) <;> rfl)
  rw [ejs]
  have hF : zFc A σ3 [] w := ⟨by rw [o3.i 12 0 3 (by omega), o2.i 12 0 3 (by omega)]; exact e3, Or.inl ⟨e4, by rw [o3.i 12 0 5 (by omega), o2.i 12 0 5 (by omega)]; exact e5, fun i hi => absurd hi (Nat.not_lt_zero i)⟩⟩
  have l1 : (fl1 A g (aN A) 0).length < 2 ^ 30 := by
    unfold flP at hlen
    rw [List.length_append] at hlen
    omega
  exact L_X2_seek43 (Q := fun r σ' => ∃ x, r = some (.inl x) ∧ K x σ') (LT := fl1 A g (aN A) 0) hW hV hgN hpl l1 (fun σ4 o4 h4 f4 => L_X2_seek90 (Q := fun r σ' => ∃ x, r = some (.inl x) ∧ K x σ') (LT := flP A g) hW hV hgN hpl (by omega) (fun σ5 o5 h5 f5 => ⟨_, rfl, hK σ5 (oA.tr (o5.mono (fun c j k h => Or.inl h))) (h5.trans hA) f5⟩) (aN A) 0 (by omega) σ4 _ o4 h4 f4 rfl) (aN A) 0 (by omega) σ3 [] zOnly.rf rfl hF (List.nil_append _)
end zCs
