/-! flips (class): a part turned -/
def cnB (A : zAb) (p : Nat → Bool) (j k : Nat) : Bool := decide (0 < mvC A p j k (aN A)) && !aAny (mv2 A p j k) (aN A) && !aAny (mv3 A p j k) (aM A) && (!aAl A || !aAny (fun t => aAny (mv4 A p j k t) (aN A)) (aN A))
theorem mvN_pos {A : zAb} {p : Nat → Bool} {j k : Nat} {b : Int} : 0 < mvN A p j b k ↔ mv1 A j b k = true ∧ cnB A p j k = true := by
  unfold mvN cnB
  rw [Bool.and_eq_true, Bool.and_eq_true, Bool.and_eq_true, Bool.or_eq_true, Bool.not_eq_true', Bool.not_eq_true', Bool.not_eq_true', Bool.not_eq_true', decide_eq_true_eq]
  by_cases al : aAl A = true
  · simp only [al, true_imp_iff]
    split
    · next h =>
      obtain ⟨h1, h2, h3, h4⟩ := h
      exact ⟨fun q => ⟨h1, ⟨⟨q, h2⟩, h3⟩, Or.inr h4⟩, fun q => q.2.1.1.1⟩
    · next h =>
      exact ⟨fun q => absurd q (Nat.lt_irrefl 0), fun ⟨q1, ⟨⟨q2, q3⟩, q4⟩, q5⟩ => absurd ⟨q1, q3, q4, q5.resolve_left (by decide)⟩ h⟩
  · split
    · next h =>
      obtain ⟨h1, h2, h3, h4⟩ := h
      exact ⟨fun q => ⟨h1, ⟨⟨q, h2⟩, h3⟩, Or.inl (by simpa using al)⟩, fun q => q.2.1.1.1⟩
    · next h =>
      exact ⟨fun q => absurd q (Nat.lt_irrefl 0), fun ⟨q1, ⟨⟨q2, q3⟩, q4⟩, q5⟩ => absurd ⟨q1, q3, q4, fun z => absurd z al⟩ h⟩
section zCp
variable {d kc ks : Nat} {σ : zSt} {A : zAb} {Q : Option zV → zSt → Prop}
abbrev z50 (c _j _k : Nat) : Prop := c = 50
/-- things that move -/
def mvW (A : zAb) (p : Nat → Bool) (j k t : Nat) : Bool := p t && !decide (tnT A j k t = aMp A t)
theorem L_X2_canTurn {σ0 : zSt} (hW : zWf A) (hR : zRD A σ0 0) (hG : zGr σ0) (hS : ∀ m, m < aM A → zSp A σ0 m) (hX : zXT σ0) {p : Nat → Bool} {j k : Nat} {b : Int} (hk : k < 8) (hj : j < aN A) (hp : ∀ t, p t = true → t < aN A ∧ 0 ≤ aMp A t) (hmj : 0 ≤ aMp A j) (hmb : 0 ≤ b → 0 ≤ aMp A b.toNat) (hg : hgB A p j b = true) (hQ : ∀ σ', zOnly z50 σ0 σ' → σ'.2.2.2 = σ0.2.2.2 → (cnB A p j k = true → ∀ t, p t = true → zgi σ' 50 0 t = iI (tnT A j k t)) → Q (some (.inl (zb (cnB A p j k = true)))) σ') : ∀ (n i : Nat), i + n = 32 → ∀ σ : zSt, zOnly z50 σ0 σ → σ.2.2.2 = σ0.2.2.2 → (∀ t, t < i → p t = true → zgi σ 50 0 t = iI (tnT A j k t)) → (∀ t, t < i → mv2 A p j k t = false) → zE true (d + 4) kc ks M_X2_canTurn 6 [some (.inr (.inr (12, 0))), some (.inl (nI k)), some (.inl (nI j)), some (.inl (yset p 32)), some (.inl (zb (aAny (mvW A p j k) i = true))), some (.inl (yab p i)), none, none] [] σ Q := by
  have hN : aN A ≤ 24 := hW.1.2.2.2.2.1
  have bad : ∀ σ', zOnly z50 σ0 σ' → σ'.2.2.2 = σ0.2.2.2 → cnB A p j k = false → Q (some (.inl 0)) σ' := fun σ' o h e => by
    have := hQ σ' o h (fun q => by rw [e] at q; cases q)
    rw [zb_f (by rw [e]; decide)] at this
    exact this
  intro n
  induction n with
  | zero =>
    intro i hi σ ho hh h50 h2
    have : i = 32 := by omega
    subst this
    have m2 : aAny (mv2 A p j k) (aN A) = false := aAny_f.mpr (fun t ht => h2 t (by omega))
    have hR1 : zRD A σ 0 := hR.only ho hh (fun c j k h => by unfold zBD at h; omega)
    have hG1 : zGr σ := hG.only ho (fun j k => by omega)
    have hS1 : ∀ m, m < aM A → zSp A σ m := fun m hm => (hS m hm).only ho (fun j k => by omega)
    have all50 : ∀ t, t < aN A → p t = true → zgi σ 50 0 t = iI (tnT A j k t) := fun t ht hz => h50 t (by omega) hz
    have cpos : aAny (mvW A p j k) 32 = true ↔ 0 < mvC A p j k (aN A) := by
      unfold mvC
      rw [aAny_iff, fb_ct_pos]
      constructor
      · rintro ⟨t, _, h⟩
        unfold mvW at h
        rw [Bool.and_eq_true] at h
        exact ⟨t, (hp t h.1).1, by rw [Bool.and_eq_true]; exact h⟩
      · rintro ⟨t, h1, h⟩
        exact ⟨t, by omega, h⟩
    refine T_X2_canTurn_6 ⟨fun _ => ?_, fun g => absurd (yab_32 p) g⟩
    rw [zb_0]
    refine ⟨fun g => bad σ ho hh ?_, fun g => ?_⟩
    · unfold cnB
      rw [decide_eq_false (fun q => g (cpos.mpr q))]
      rfl
    · have g1 := cpos.mp (Decidable.not_not.mp g)
      have e140 : (aAl A = true → aAny (fun t => aAny (mv4 A p j k t) (aN A)) (aN A) = false) → zE true (d + 4) kc ks M_X2_canTurn 140 [some (.inr (.inr (12, 0))), none, none, some (.inl (yset p 32)), none, none, none, none] [] σ Q := fun q4 => T_X2_canTurn_140 (S_X2_isKeeping (b := b) hW hR1 hG1 hS1 hp hmj hmb hg m2 all50 (fun x hx => by
        have eb : cnB A p j k = !aAny (mv3 A p j k) (aM A) := by
          unfold cnB
          rw [decide_eq_true g1, m2, Bool.not_false, Bool.true_and, Bool.true_and]
          by_cases al : aAl A = true
          · rw [q4 al]; simp
          · rw [Bool.not_eq_true] at al
            rw [al]; simp
        have ex : x = zb (cnB A p j k = true) := by
          rw [hx]
          apply zb_of0
          rw [zb_0, eb, Bool.not_eq_true']
        rw [ex]
        exact hQ σ ho hh (fun _ t hz => all50 t (hp t hz).1 hz)))
      rw [hR1.1.2.2.2.2.2.2.2.2, zb_0]
      refine ⟨fun al => e140 (fun q => absurd q al), fun al => S_X2_isAlone hW hR1 (fun t hz => (hp t hz).1) m2 all50 ?_⟩
      rw [zb_0]
      refine ⟨fun q => bad σ ho hh ?_, fun q => e140 (fun _ => Decidable.not_not.mp q)⟩
      unfold cnB
      rw [Bool.not_eq_false] at q
      rw [q, Decidable.not_not.mp al]
      simp
  | succ n ih =>
    intro i hi σ ho hh h50 h2
    by_cases z : p i = true
    · obtain ⟨y1, y2, y3⟩ := yab_low (show i < 32 by omega) z
      obtain ⟨hiN, him⟩ := hp i z
      have hR1 : zRD A σ 0 := hR.only ho hh (fun c j k h => by unfold zBD at h; omega)
      have hX1 : zXT σ := fun k hk => by
        obtain ⟨a1, a2, a3, a4⟩ := hX k hk
        exact ⟨by rw [ho.i 2 0 k (by omega)]; exact a1, by rw [ho.i 3 0 k (by omega)]; exact a2, by rw [ho.i 4 0 k (by omega)]; exact a3, by rw [ho.i 5 0 k (by omega)]; exact a4⟩
      obtain ⟨e1, e2⟩ := vMpD hW hR1 hj hmj
      obtain ⟨e3, e4⟩ := vMpD hW hR1 hiN him
      have ii : vp_in (nI i) 24 := nI_in (by omega) (by omega)
      have hbad : mv2 A p j k i = true → cnB A p j k = false := fun q => by
        unfold cnB
        rw [aAny_iff.mpr ⟨i, hiN, q⟩]
        simp
      refine T_X2_canTurn_6 ⟨fun q => absurd q y2, fun _ => ?_⟩
      rw [y1, y3, nI_clamp (show j < 2 ^ 31 by omega), nI_clamp (show i < 2 ^ 31 by omega), e1, e3]
      have rr : -9 ≤ tnD k (aMp A j).toNat (aMp A i).toNat ∧ tnD k (aMp A j).toNat (aMp A i).toNat < 64 := by
        rcases tnD_r k (aMp A j).toNat (aMp A i).toNat with q | ⟨x, q, q2⟩ <;> omega
      have c9 : (iI (tnD k (aMp A j).toNat (aMp A i).toNat) = -9) ↔ tnD k (aMp A j).toNat (aMp A i).toNat = -9 := by
        rw [show (-9 : Int32) = iI (-9) from rfl, iI_eqI (by omega) (by omega)]
      refine ⟨nI_in (by omega) (by omega), ii, S_X2_turnedCell hX1 hk e2 e4 ?_⟩
      rw [c9]
      refine ⟨fun g => bad σ ho hh (hbad ?_), fun g => S_X1_toldCells hW hR1 hiN ?_⟩
      · unfold mv2 tnT
        rw [z, tnC_no9 hW g]
        rfl
      · obtain ⟨e, q1, q2⟩ := (tnD_r k (aMp A j).toNat (aMp A i).toNat).resolve_left g
        rw [q1, iI_nat, zh_b q2, zb_0]
        refine ⟨fun g2 => ⟨ii, ii, fun x hx => ?_⟩, fun g2 => bad σ ho hh (hbad ?_)⟩
        · have t1 := Decidable.not_not.mp g2
          have ac := atold_c hW hiN t1
          have eT : tnT A j k i = (e : Int) := (tnD_C hW ac).mp q1
          have em2 : mv2 A p j k i = false := by
            unfold mv2
            rw [z, eT, decide_eq_true (by omega), Int.toNat_natCast, t1]; rfl
          have e5 : zb (aAny (mvW A p j k) i = true) ||| x = zb (aAny (mvW A p j k) (i + 1) = true) := by
            have cz : (nI e = zgi σ 25 0 i) ↔ tnT A j k i = aMp A i := by
              rw [e3, nI_eq (by omega) (by omega), eT]
              omega
            rw [hx, zb_of0 (P := mvW A p j k i = true) (by
              rw [cz]
              unfold mvW
              rw [z, Bool.true_and, Bool.not_eq_true', decide_eq_false_iff_not, Decidable.not_not]), zb_or]
            exact zb_iff (by rw [aAny, Bool.or_eq_true])
          rw [e5]
          refine ih (i + 1) (by omega) _ (ho.tr (zOnly.si rfl)) hh (fun t ht hz => ?_) (fun t ht => ?_)
          · rw [zgi_si]
            by_cases et : t = i
            · subst et
              rw [if_pos ⟨rfl, rfl, rfl⟩, eT, iI_nat]
            · rw [if_neg (fun q => et q.2.2)]
              exact h50 t (by omega) hz
          · by_cases et : t = i
            · subst et; exact em2
            · exact h2 t (by omega)
        · rw [Bool.not_eq_true] at g2
          unfold mv2
          rw [z, Bool.true_and]
          by_cases ac : acell A e = true
          · have eT : tnT A j k i = (e : Int) := (tnD_C hW ac).mp q1
            rw [eT, Int.toNat_natCast, g2, Bool.and_false]; rfl
          · have eT : tnT A j k i = -9 := tnC_no hW q1 (by simpa using ac)
            rw [eT]; rfl
    · rw [Bool.not_eq_true] at z
      rw [yab_skip z]
      have e : zb (aAny (mvW A p j k) i = true) = zb (aAny (mvW A p j k) (i + 1) = true) := zb_iff (by
        rw [aAny]
        unfold mvW
        rw [z, Bool.false_and, Bool.or_false])
      rw [e]
      refine ih (i + 1) (by omega) σ ho hh (fun t ht hz => ?_) (fun t ht => ?_)
      · by_cases et : t = i
        · subst et; rw [z] at hz; cases hz
        · exact h50 t (by omega) hz
      · by_cases et : t = i
        · subst et; unfold mv2; rw [z]; rfl
        · exact h2 t (by omega)
theorem S_X2_canTurn {K : Int32 → zSt → Prop} (hW : zWf A) (hR : zRD A σ 0) (hG : zGr σ) (hS : ∀ m, m < aM A → zSp A σ m) (hX : zXT σ) {p : Nat → Bool} {j k : Nat} {b : Int} (hk : k < 8) (hj : j < aN A) (hp : ∀ t, p t = true → t < aN A ∧ 0 ≤ aMp A t) (hmj : 0 ≤ aMp A j) (hmb : 0 ≤ b → 0 ≤ aMp A b.toNat) (hg : hgB A p j b = true) (hK : ∀ σ', zOnly z50 σ σ' → σ'.2.2.2 = σ.2.2.2 → (cnB A p j k = true → ∀ t, p t = true → zgi σ' 50 0 t = iI (tnT A j k t)) → K (zb (cnB A p j k = true)) σ') : zCi true (d + 4) 0 0 M_X2_canTurn [.inr (.inr (12, 0)), .inl (nI k), .inl (nI j), .inl (yset p 32)] σ K := by
  refine zC_intro pl_X2 (Nat.le_of_ble_eq_true rfl) (T_X2_canTurn_0 ?_)
  have := L_X2_canTurn (d := d) (kc := 0) (ks := 0) (Q := fun r σ' => ∃ x, r = some (.inl x) ∧ K x σ') (b := b) hW hR hG hS hX hk hj hp hmj hmb hg (fun σ' o h q => ⟨_, rfl, hK σ' o h q⟩) 32 0 rfl σ zOnly.rf rfl (fun t ht => absurd ht (Nat.not_lt_zero t)) (fun t ht => absurd ht (Nat.not_lt_zero t))
  rw [← yab_0] at this
  exact this
end zCp
