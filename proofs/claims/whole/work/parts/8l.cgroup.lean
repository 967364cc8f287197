/-! groups (class): links, spreading -/
def lkK (A : zAb) (t u : Nat) (k : Nat) : Bool := aAny (fun m => mO A m && ((decide (mA A m = t) && decide (mB A m = u)) || (decide (mB A m = t) && decide (mA A m = u)))) k
def lkB (A : zAb) (t u : Nat) : Bool := lkK A t u (aM A)
theorem lkB_iff {A : zAb} {t u : Nat} : lkB A t u = true ↔ ∃ m, m < aM A ∧ mO A m = true ∧ ((mA A m = t ∧ mB A m = u) ∨ (mA A m = u ∧ mB A m = t)) := by
  unfold lkB lkK
  rw [aAny_iff]
  constructor
  · rintro ⟨m, h1, h2⟩
    rw [Bool.and_eq_true, Bool.or_eq_true, Bool.and_eq_true, Bool.and_eq_true, decide_eq_true_eq, decide_eq_true_eq, decide_eq_true_eq, decide_eq_true_eq] at h2
    exact ⟨m, h1, h2.1, h2.2.imp id (fun q => ⟨q.2, q.1⟩)⟩
  · rintro ⟨m, h1, h2, h3⟩
    refine ⟨m, h1, ?_⟩
    rw [Bool.and_eq_true, Bool.or_eq_true, Bool.and_eq_true, Bool.and_eq_true, decide_eq_true_eq, decide_eq_true_eq, decide_eq_true_eq, decide_eq_true_eq]
    exact ⟨h2, h3.imp id (fun q => ⟨q.2, q.1⟩)⟩
section zCi2
variable {d kc ks : Nat} {σ : zSt} {A : zAb} {Q : Option zV → zSt → Prop}
def zLk (A : zAb) (σ : zSt) : Prop := ∀ t, t < aN A → zgi σ 30 0 t = yset (lkB A t) 32
abbrev z30 (c j _k : Nat) : Prop := c = 30 ∧ j = 0
theorem L_X1_link {σ0 : zSt} (hW : zWf A) (hR : zRD A σ0 0) (hQ : ∀ σ', zOnly z30 σ0 σ' → σ'.2.2.2 = σ0.2.2.2 → zLk A σ' → Q none σ') : ∀ (n k : Nat), k + n = aM A → ∀ σ : zSt, zOnly z30 σ0 σ → σ.2.2.2 = σ0.2.2.2 → (∀ t, t < aN A → zgi σ 30 0 t = yset (fun u => lkK A t u k) 32) → zE true (d + 2) kc ks M_X1_link 10 [some (.inr (.inr (7, 0))), some (.inl (nI k))] [] σ Q := by
  have hM : aM A ≤ 60 := hW.1.2.2.2.2.2.1
  have hN : aN A ≤ 24 := hW.1.2.2.2.2.1
  intro n
  induction n with
  | zero =>
    intro k hk σ ho hh h
    have : k = aM A := by omega
    subst this
    have hR1 : zRD A σ 0 := hR.only ho hh (fun c j k h => by unfold zBD at h; omega)
    exact T_X1_link_10 ⟨fun _ => hQ σ ho hh h, fun g => absurd (by rw [zrd_nM hR1]; exact Int32.le_refl _) g⟩
  | succ n ih =>
    intro k hk σ ho hh h
    have hkM : k < aM A := by omega
    have hR1 : zRD A σ 0 := hR.only ho hh (fun c j k h => by unfold zBD at h; omega)
    obtain ⟨n0, q0, hMe⟩ := hR1.2.2.1 k hkM
    obtain ⟨w1, w2, w3, w4, -⟩ := hW.2.2.1 k hkM
    have i60 : vp_in (nI k) 60 := nI_in (by omega) (by omega)
    have q0' : zgr σ 26 0 (nI k).toNatClampNeg = (17, n0) := by rw [nI_clamp (show k < 2 ^ 31 by omega)]; exact q0
    have ia : vp_in (nI (mA A k)) 24 := nI_in (by omega) (by omega)
    have ib : vp_in (nI (mB A k)) 24 := nI_in (by omega) (by omega)
    have qa := hMe.2.2.2.1
    have qb := hMe.2.2.2.2.1
    refine T_X1_link_10 ⟨fun g => ?_, fun _ => ?_⟩
    · rw [zrd_nM hR1, nI_leI (by omega) (by omega)] at g
      omega
    · rw [hR1.1.2.2.2.2.2.2.1, zh_b (by omega), zb_0, decide_eq_true hkM, Bool.true_and]
      refine ⟨fun g => ?_, fun g => ⟨i60, n0, q0', ?_⟩⟩
      · rw [← nI_succ]
        rw [Bool.not_eq_true] at g
        refine ih (k + 1) (by omega) σ ho hh (fun t ht => ?_)
        rw [h t ht]
        exact yset_cong (fun u hu => by unfold lkK; rw [aAny, g]; simp)
      · have g1 : mO A k = true := Decidable.not_not.mp g
        rw [qa]
        refine ⟨ia, i60, n0, q0', ia, i60, n0, q0', by rw [qb]; exact ib, i60, n0, q0', by rw [qb]; exact ib, ?_⟩
        rw [qa, qb, nI_clamp (show mA A k < 2 ^ 31 by omega), nI_clamp (show mB A k < 2 ^ 31 by omega), ← nI_succ]
        refine ih (k + 1) (by omega) _ ((ho.tr (zOnly.si ⟨rfl, rfl⟩)).tr (zOnly.si ⟨rfl, rfl⟩)) hh (fun t ht => ?_)
        have es : ∀ x u : Nat, lkK A x u (k + 1) = (lkK A x u k || ((decide (mA A k = x) && decide (mB A k = u)) || (decide (mB A k = x) && decide (mA A k = u)))) := fun x u => by
          unfold lkK
          rw [aAny, g1, Bool.true_and]
        rw [zgi_si]
        by_cases eb : t = mB A k
        · subst eb
          rw [if_pos ⟨rfl, rfl, rfl⟩, zgi_si, if_neg (fun q => w4 q.2.2.symm), h _ ht]
          refine yset_eq (fun u hu => ?_)
          rw [b_or, bt_set hu, bt_bit (by omega), es]
          rw [show decide (mA A k = mB A k) = false from decide_eq_false w4, Bool.false_and, Bool.false_or, show decide (mB A k = mB A k) = true from decide_eq_true rfl, Bool.true_and]
          congr 1
          exact decide_eq_decide.mpr ⟨fun q => q.symm, fun q => q.symm⟩
        · rw [if_neg (fun q => eb q.2.2), zgi_si]
          by_cases ea : t = mA A k
          · subst ea
            rw [if_pos ⟨rfl, rfl, rfl⟩, h _ ht]
            refine yset_eq (fun u hu => ?_)
            rw [b_or, bt_set hu, bt_bit (by omega), es]
            rw [show decide (mA A k = mA A k) = true from decide_eq_true rfl, Bool.true_and, show decide (mB A k = mA A k) = false from decide_eq_false (fun q => eb q.symm), Bool.false_and, Bool.or_false]
            congr 1
            exact decide_eq_decide.mpr ⟨fun q => q.symm, fun q => q.symm⟩
          · rw [if_neg (fun q => ea q.2.2), h t ht]
            refine yset_cong (fun u hu => ?_)
            rw [es, show decide (mA A k = t) = false from decide_eq_false (fun q => ea q.symm), show decide (mB A k = t) = false from decide_eq_false (fun q => eb q.symm)]
            simp
theorem S_X1_link {K : zSt → Prop} (hW : zWf A) (hR : zRD A σ 0) (hK : ∀ σ', zOnly z30 σ σ' → σ'.2.2.2 = σ.2.2.2 → zLk A σ' → K σ') : zCv true (d + 2) 0 0 M_X1_link [.inr (.inr (7, 0))] σ K := by
  have hN : aN A ≤ 24 := hW.1.2.2.2.2.1
  refine zC_intro pl_X1 (Nat.le_of_ble_eq_true rfl) (T_X1_link_0 (S_J7_fill (N := 24) rfl (by omega) rfl (by omega) (fun σ1 o1 h1 z1 => ?_)))
  have hR1 : zRD A σ1 0 := hR.only o1 h1 (fun c j k h => by unfold zBD at h; omega)
  refine L_X1_link (Q := fun r σ' => r = none ∧ K σ') hW hR1 (fun σ2 o2 h2 l2 => ⟨rfl, hK σ2 (o1.tr o2) (h2.trans h1) l2⟩) (aM A) 0 (by omega) σ1 zOnly.rf rfl (fun t ht => ?_)
  rw [z1 t (by omega)]
  exact yset_eq (fun u hu => by rw [b_0]; rfl)
/-- things come to so far, those still to go through -/
def zSpr (A : zAb) (w S L : Nat → Bool) (t k : Nat) : Prop := S t = true ∧ (∀ u, S u = true → u < aN A ∧ w u = true ∧ zCls (lkP A (fun x => w x = true)) t u) ∧ (∀ u, L u = true → S u = true) ∧ (∀ x u, S x = true → L x = false → lkB A x u = true → w u = true → S u = true) ∧ fb_ct (fun u => S u && !L u) 32 = k
theorem L_X1_spread (hW : zWf A) (hR : zRD A σ 0) (hL : zLk A σ) {w wn : Nat → Bool} {t : Nat} (hwn : ∀ u, u < aN A → wn u = w u) (hQ : Q (some (.inl (yset (ptB A w t) 32))) σ) : ∀ (n k : Nat), k + n = 24 → ∀ S L : Nat → Bool, zSpr A w S L t k → zE true (d + 3) kc ks M_X1_spread 10 [some (.inr (.inr (7, 0))), none, some (.inl (yset wn 32)), some (.inl (yset S 32)), some (.inl (yset L 32)), some (.inl (nI k)), none, none] [] σ Q := by
  have hN : aN A ≤ 24 := hW.1.2.2.2.2.1
  have fin : ∀ S L : Nat → Bool, ∀ k, zSpr A w S L t k → (∀ u, u < 32 → L u = false) → yset S 32 = yset (ptB A w t) 32 := fun S L k h hz => yset_cong (fun u hu => Bool.eq_iff_iff.mpr ⟨fun q => ptB_iff.mpr (h.2.1 u q).2.2, fun q => (ptB_iff.mp q) (fun x => S x = true) h.1 (fun x y hx ⟨m, m1, m2, m3, m4, m5⟩ => by
    refine h.2.2.2.1 x y hx (hz x (by have := (h.2.1 x hx).1; omega)) (lkB_iff.mpr ⟨m, m1, m2, m5⟩) ?_
    rcases m5 with ⟨_, rfl⟩ | ⟨rfl, _⟩
    · exact m4
    · exact m3)⟩)
  intro n
  induction n with
  | zero =>
    intro k hk S L h
    have : k = 24 := by omega
    subst this
    refine T_X1_spread_10 ⟨fun _ => ?_, fun g => absurd (Or.inl (show (24 : Int32) ≤ nI 24 by decide)) g⟩
    rw [fin S L 24 h (fun u hu => ?_)]
    · exact hQ
    · by_cases z : L u = true
      · exfalso
        have hu24 : u < 24 := by have := (h.2.1 u (h.2.2.1 u z)).1; omega
        have h5 := h.2.2.2.2
        have e : fb_ct (fun u => S u && !L u) 32 = fb_ct (fun u => S u && !L u) 24 := by
          rw [show 32 = 24 + 8 from rfl, fb_ct_split, fb_ct_zero (p := fun k => S (24 + k) && !L (24 + k)) |>.mpr (fun i hi => by
            by_cases y : S (24 + i) = true
            · have := (h.2.1 _ y).1
              omega
            · rw [Bool.not_eq_true] at y
              rw [y]; rfl), Nat.add_zero]
        rw [e] at h5
        have := (fb_ct_all (p := fun u => S u && !L u) (n := 24)).mp h5 u hu24
        simp [z] at this
      · simpa using z
  | succ n ih =>
    intro k hk S L h
    obtain ⟨h1, h2, h3, h4, h5⟩ := id h
    by_cases hz : ∃ u, u < 32 ∧ L u = true
    · obtain ⟨x, hx, hxL, hxm⟩ := fb_first (p := fun u => L u = true) hz
      have hxN : x < aN A := (h2 x (h3 x hxL)).1
      have e0 : yset L 32 = yab L x := yset_cong (fun i hi => by
        by_cases q : x ≤ i
        · rw [decide_eq_true q, Bool.and_true]
        · have := hxm i (by omega)
          rw [Bool.not_eq_true] at this
          rw [this]; rfl)
      obtain ⟨y1, y2, y3⟩ := yab_low hx hxL
      refine T_X1_spread_10 ⟨fun g => ?_, fun _ => ?_⟩
      · rw [e0, show (24 : Int32) = nI 24 from rfl, nI_leI (by omega) (by omega)] at g
        rcases g with g | g
        · omega
        · exact absurd g y2
      · rw [e0, y1, y3, nI_clamp (show x < 2 ^ 31 by omega), hL x hxN, ← nI_succ]
        refine ⟨nI_in (by omega) (by omega), ?_⟩
        have em : (yset (lkB A x) 32 &&& yset wn 32) &&& (yset S 32 ^^^ (-1)) = yset (fun u => lkB A x u && w u && !S u) 32 := yset_eq (fun u hu => by
          rw [b_and, b_and, bt_not _ hu, bt_set hu, bt_set hu, bt_set hu]
          by_cases z : lkB A x u = true
          · have huN : u < aN A := by
              obtain ⟨m, m1, m2, m3⟩ := lkB_iff.mp z
              obtain ⟨v1, v2, v3, -⟩ := hW.2.2.1 m m1
              rcases m3 with ⟨_, rfl⟩ | ⟨rfl, _⟩
              · exact v3
              · exact v2
            rw [hwn u huN]
          · rw [Bool.not_eq_true] at z
            rw [z]; rfl)
        have eS : yset S 32 ||| yset (fun u => lkB A x u && w u && !S u) 32 = yset (fun u => S u || (lkB A x u && w u && !S u)) 32 := yset_eq (fun u hu => by rw [b_or, bt_set hu, bt_set hu])
        have eL : yab L (x + 1) ||| yset (fun u => lkB A x u && w u && !S u) 32 = yset (fun u => (L u && !decide (u = x)) || (lkB A x u && w u && !S u)) 32 := yset_eq (fun u hu => by
          rw [b_or, yab_t hu, bt_set hu]
          congr 1
          by_cases q : x + 1 ≤ u
          · simp [q, show ¬ u = x by omega]
          · by_cases q2 : u = x
            · subst q2; simp
            · have := hxm u (by omega)
              rw [Bool.not_eq_true] at this
              rw [this]; rfl)
        rw [em, eS, eL]
        refine ih (k + 1) (by omega) _ _ ⟨by show (S t || _) = true; rw [h1]; rfl, fun u hu => ?_, fun u hu => ?_, fun y u hy hyL hl hw => ?_, ?_⟩
        · rw [Bool.or_eq_true, Bool.and_eq_true, Bool.and_eq_true] at hu
          rcases hu with hu | ⟨⟨u1, u2⟩, u3⟩
          · exact h2 u hu
          · obtain ⟨m, m1, m2, m3⟩ := lkB_iff.mp u1
            obtain ⟨v1, v2, v3, -⟩ := hW.2.2.1 m m1
            have hxS := h2 x (h3 x hxL)
            refine ⟨?_, u2, hxS.2.2.st ⟨m, m1, m2, ?_, ?_, m3⟩⟩
            · rcases m3 with ⟨_, rfl⟩ | ⟨rfl, _⟩
              · exact v3
              · exact v2
            · rcases m3 with ⟨z1, z2⟩ | ⟨z1, z2⟩
              · rw [z1]; exact hxS.2.1
              · rw [z1]; exact u2
            · rcases m3 with ⟨z1, z2⟩ | ⟨z1, z2⟩
              · rw [z2]; exact u2
              · rw [z2]; exact hxS.2.1
        · rw [Bool.or_eq_true, Bool.and_eq_true] at hu
          rw [Bool.or_eq_true]
          exact hu.imp (fun q => h3 u q.1) id
        · rw [Bool.or_eq_true] at hy ⊢
          by_cases hS : S u = true
          · exact Or.inl hS
          · refine Or.inr ?_
            rw [Bool.not_eq_true] at hS
            rw [hS, hw, Bool.and_true, Bool.not_false, Bool.and_true]
            rw [Bool.or_eq_false_iff] at hyL
            by_cases e : y = x
            · subst e; exact hl
            · rcases hy with hy | hy
              · have : L y = false := by
                  have := hyL.1
                  rw [decide_eq_false e, Bool.not_false, Bool.and_true] at this
                  exact this
                have := h4 y u hy this hl hw
                rw [hS] at this
                cases this
              · rw [hyL.2] at hy
                cases hy
        · have e : fb_ct (fun u => (S u || (lkB A x u && w u && !S u)) && !((L u && !decide (u = x)) || (lkB A x u && w u && !S u))) 32 = fb_ct (fun u => if u = x then true else (S u && !L u)) 32 := fb_ct_cong (fun u hu => by
            by_cases e : u = x
            · subst e
              rw [if_pos rfl, h3 u hxL, decide_eq_true rfl]
              simp
            · rw [if_neg e, decide_eq_false e]
              cases S u <;> cases L u <;> cases lkB A x u <;> cases w u <;> rfl)
          rw [e]
          have := fb_ct_upd (fun u => S u && !L u) true (i := x) (n := 32) hx
          rw [hxL, Bool.not_true, Bool.and_false, if_neg (by decide), if_pos rfl] at this
          omega
    · have hz' : ∀ u, u < 32 → L u = false := fun u hu => by
        by_cases z : L u = true
        · exact absurd ⟨u, hu, z⟩ hz
        · simpa using z
      refine T_X1_spread_10 ⟨fun _ => ?_, fun g => absurd (Or.inr (yset_0.mpr hz')) g⟩
      rw [fin S L k h hz']
      exact hQ
theorem S_X1_spread {K : Int32 → zSt → Prop} (hW : zWf A) (hR : zRD A σ 0) (hL : zLk A σ) {w wn : Nat → Bool} {t : Nat} (ht : t < aN A) (hwt : w t = true) (hwn : ∀ u, u < aN A → wn u = w u) (hK : K (yset (ptB A w t) 32) σ) : zCi true (d + 3) 0 0 M_X1_spread [.inr (.inr (7, 0)), .inl (nI t), .inl (yset wn 32)] σ K := by
  have hN : aN A ≤ 24 := hW.1.2.2.2.2.1
  refine zC_intro pl_X1 (Nat.le_of_ble_eq_true rfl) (T_X1_spread_0 ?_)
  rw [yset_one (by omega)]
  exact L_X1_spread (Q := fun r σ' => ∃ x, r = some (.inl x) ∧ K x σ') hW hR hL hwn ⟨_, rfl, hK⟩ 24 0 rfl (fun u => decide (u = t)) (fun u => decide (u = t)) ⟨decide_eq_true rfl, fun u hu => by rw [decide_eq_true_eq] at hu; subst hu; exact ⟨ht, hwt, zCls.rf⟩, fun u hu => hu, fun x u h1 h2 _ _ => absurd (h1.symm.trans h2) (by decide), fb_ct_zero.mpr (fun u hu => Bool.and_not_self (decide (u = t)))⟩
end zCi2
