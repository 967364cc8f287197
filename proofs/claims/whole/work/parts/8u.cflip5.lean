/-! flips (class): all parts about some joints -/
section zCr2
variable {d kc ks : Nat} {σ : zSt} {A : zAb} {Q : Option zV → zSt → Prop}
def jnB (j : Nat) (b : Int) (u : Nat) : Bool := decide (u = j) || decide ((u : Int) = b)
theorem L_X2_about30 {σ0 : zSt} (hW : zWf A) (hV : zHf A σ0) {g j : Nat} {b : Int} {w : Int32} {LT : List zFl4} (hj : j < aN A) (hmj : 0 ≤ aMp A j) (hb : -1 ≤ b ∧ b < aN A) (hmb : 0 ≤ b → 0 ≤ aMp A b.toNat) (hgN : ∀ u, gr A g u → u < aN A) (hpl : ∀ u, gr A g u → 0 ≤ aMp A u) (hB : LT.length < 2 ^ 30) (hQ : ∀ σ', zOnly zQcc σ0 σ' → σ'.2.2.2 = σ0.2.2.2 → zFc A σ' LT w → Q none σ') : ∀ (r t : Nat), t + r = aN A → ∀ (c : Nat) (σ : zSt) (L : List zFl4) (w' : Nat → Bool), c ≤ t → zOnly zQcc σ0 σ → σ.2.2.2 = σ0.2.2.2 → zFc A σ L w → (∀ u, w' u = true → rsB A g j b u = true) → (∀ u, u < t → w' u = false) → (∀ u v, w' u = true → lkP A (fun x => rsB A g j b x = true) u v → w' v = true) → L ++ flS A g j b r t w' = LT → zE true (d + 5) kc ks M_X2_seekAbout 30 [some (.inr (.inr (12, 0))), none, some (.inl (nI j)), some (.inl (iI (if 0 ≤ b then b else -9))), some (.inl (yset (jnB j b) 32)), some (.inl (yset w' 32)), some (.inl (nI c)), none, none, none] [] σ Q := by
  have hN : aN A ≤ 24 := hW.1.2.2.2.2.1
  intro r
  induction r with
  | zero =>
    intro t ht c σ L w' hc ho hh hF hw hlow hcl hLT
    have : t = aN A := by omega
    subst this
    have e : L = LT := by rw [← hLT]; unfold flS; rw [List.append_nil]
    subst e
    refine T_X2_seekAbout_30 ⟨fun _ => hQ σ ho hh hF, fun q => absurd (Or.inr (yset_0.mpr (fun u hu => ?_))) q⟩
    by_cases z : w' u = true
    · have q := hw u z
      unfold rsB at q
      rw [Bool.and_eq_true, Bool.and_eq_true] at q
      have := hlow u (hgN u (grB_iff.mp q.1.1))
      rw [z] at this
      cases this
    · simpa using z
  | succ r ih =>
    intro t ht c σ L w' hc ho hh hF hw hlow hcl hLT
    have htN : t < aN A := by omega
    unfold flS at hLT
    by_cases z : w' t = true
    · rw [if_pos z] at hLT
      obtain ⟨hR1, hG1, hS1, hX1, hL1⟩ := hV.only ho hh
      have e0 : yset w' 32 = yab w' t := yset_cong (fun i hi => by
        by_cases q : t ≤ i
        · rw [decide_eq_true q, Bool.and_true]
        · rw [hlow i (by omega)]; rfl)
      obtain ⟨y1, y2, -⟩ := yab_low (show t < 32 by omega) z
      rw [← e0] at y1 y2
      have eP : ptB A w' t = ptB A (rsB A g j b) t := ptB_rest z hw hcl
      have hp : ∀ u, ptB A (rsB A g j b) t u = true → rsB A g j b u = true ∧ u < aN A ∧ 0 ≤ aMp A u := fun u hu => by
        have q := pt_rs (hw t z) hu
        have q0 := q
        unfold rsB at q
        rw [Bool.and_eq_true, Bool.and_eq_true] at q
        have q1 := grB_iff.mp q.1.1
        exact ⟨q0, hgN u q1, hpl u q1⟩
      have nj : ptB A (rsB A g j b) t j = false := by
        by_cases q : ptB A (rsB A g j b) t j = true
        · have := (hp j q).1
          unfold rsB at this
          rw [decide_eq_true (rfl : j = j)] at this
          simp at this
        · simpa using q
      have nb : ∀ n : Nat, b = (n : Int) → ptB A (rsB A g j b) t n = false := fun n hn => by
        by_cases q : ptB A (rsB A g j b) t n = true
        · have := (hp n q).1
          unfold rsB at this
          rw [decide_eq_true (hn.symm : (n : Int) = b)] at this
          simp at this
        · simpa using q
      refine T_X2_seekAbout_30 ⟨fun q => ?_, fun _ => ?_⟩
      · exfalso
        rw [show (24 : Int32) = nI 24 from rfl, nI_leI (by omega) (by omega)] at q
        rcases q with q | q
        · omega
        · exact y2 q
      · rw [y1]
        refine S_X1_spread hW hR1 hL1 htN z (fun _ _ => rfl) ?_
        rw [eP]
        refine S_X1_around hW hL1 (fun u hu => (hp u hu).2.1) (fun x hx => ?_)
        have ew : yset w' 32 &&& (yset (ptB A (rsB A g j b) t) 32 ^^^ (-1)) = yset (fun u => w' u && !ptB A (rsB A g j b) t u) 32 := yset_eq (fun i hi => by rw [b_and, bt_set hi, bt_not _ hi, bt_set hi])
        rw [ew]
        have hgq : (yset (arB A (ptB A (rsB A g j b) t)) 32 = yset (jnB j b) 32) ↔ hgB A (ptB A (rsB A g j b) t) j b = true := arB_hg hW (fun u hu => (hp u hu).2.1) hj hb nj nb
        have next : ∀ LS : List zFl4, LS ++ flS A g j b r (t + 1) (fun u => w' u && !ptB A (rsB A g j b) t u) = LT → ∀ σ', zOnly zQcc σ σ' → σ'.2.2.2 = σ.2.2.2 → zFc A σ' LS w → zE true (d + 5) kc ks M_X2_seekAbout 30 [some (.inr (.inr (12, 0))), none, some (.inl (nI j)), some (.inl (iI (if 0 ≤ b then b else -9))), some (.inl (yset (jnB j b) 32)), some (.inl (yset (fun u => w' u && !ptB A (rsB A g j b) t u) 32)), some (.inl ((nI c + 1))), none, none, none] [] (σ') Q := fun LS e σ' o1 h1 f1 => by
          rw [← nI_succ]
          refine ih (t + 1) (by omega) (c + 1) σ' LS _ (by omega) (ho.tr o1) (h1.trans hh) f1 (fun u hu => ?_) (fun u hu => ?_) (fun u v hu hr => ?_) e
          · rw [Bool.and_eq_true] at hu
            exact hw u hu.1
          · by_cases eu : u = t
            · subst eu
              show (w' u && !ptB A (rsB A g j b) u u) = false
              rw [ptB_iff.mpr zCls.rf]; simp
            · show (w' u && _) = false
              rw [hlow u (by omega)]; rfl
          · have hu' : w' u = true ∧ ptB A (rsB A g j b) t u = false := by
              rw [Bool.and_eq_true, Bool.not_eq_true'] at hu
              exact hu
            show (w' v && !ptB A (rsB A g j b) t v) = true
            rw [hcl u v hu'.1 hr, Bool.true_and, Bool.not_eq_true']
            by_cases q : ptB A (rsB A g j b) t v = true
            · have := ptB_iff.mpr ((ptB_iff.mp q).st hr.sym)
              rw [hu'.2] at this
              cases this
            · simpa using q
        by_cases hg : hgB A (ptB A (rsB A g j b) t) j b = true
        · rw [if_pos hg, ← List.append_assoc] at hLT
          have ex : x = 1 := by rw [hx, if_neg (fun q => q (hgq.mpr hg))]
          rw [ex]
          have hlen : (L ++ flK A (ptB A (rsB A g j b) t) j b 7 1).length < 2 ^ 30 := by
            have := congrArg List.length hLT
            rw [List.length_append] at this
            omega
          exact L_X2_about92 (LT := L ++ flK A (ptB A (rsB A g j b) t) j b 7 1) hW (hV.only ho hh) hj hmj hb hmb (fun u hu => (hp u hu).2) hg hlen (fun σ' o1 h1 f1 => next _ hLT σ' o1 h1 f1) 7 1 rfl (Nat.le_refl _) σ L zOnly.rf rfl hF rfl
        · rw [if_neg hg, List.nil_append] at hLT
          have ex : x = 0 := by rw [hx, if_pos (fun q => hg (hgq.mp q))]
          rw [ex]
          exact T_X2_seekAbout_92 ⟨fun _ => next L hLT σ zOnly.rf rfl hF, fun q => absurd (Or.inr (Or.inl rfl)) q⟩
    · rw [if_neg z] at hLT
      rw [Bool.not_eq_true] at z
      exact ih (t + 1) (by omega) c σ L w' (by omega) ho hh hF hw (fun u hu => by
        by_cases e : u = t
        · subst e; exact z
        · exact hlow u (by omega)) hcl hLT
theorem S_X2_seekAbout {K : zSt → Prop} (hW : zWf A) (hV : zHf A σ) {g j : Nat} {b : Int} {w : Int32} {L : List zFl4} (hj : j < aN A) (hmj : 0 ≤ aMp A j) (hb : -1 ≤ b ∧ b < aN A) (hmb : 0 ≤ b → 0 ≤ aMp A b.toNat) (hgN : ∀ u, gr A g u → u < aN A) (hpl : ∀ u, gr A g u → 0 ≤ aMp A u) (hB : (L ++ flS A g j b (aN A) 0 (rsB A g j b)).length < 2 ^ 30) (hF : zFc A σ L w) (hK : ∀ σ', zOnly zQcc σ σ' → σ'.2.2.2 = σ.2.2.2 → zFc A σ' (L ++ flS A g j b (aN A) 0 (rsB A g j b)) w → K σ') : zCv true (d + 5) 0 0 M_X2_seekAbout [.inr (.inr (12, 0)), .inl (yset (grB A g) 32), .inl (nI j), .inl (iI (if 0 ≤ b then b else -9))] σ K := by
  have hN : aN A ≤ 24 := hW.1.2.2.2.2.1
  refine zC_intro pl_X2 (Nat.le_of_ble_eq_true rfl) (T_X2_seekAbout_0 (fun x hx => ?_))
  have c9 : (iI (if 0 ≤ b then b else -9) = -9) ↔ b < 0 := by
    by_cases z : 0 ≤ b
    · rw [if_pos z, show (-9 : Int32) = iI (-9) from rfl, iI_eqI (by omega) (by omega)]; omega
    · rw [if_neg z]; exact ⟨fun _ => by omega, fun _ => rfl⟩
  have ej : zishl 1 (nI j) ||| x = yset (jnB j b) 32 := yset_eq (fun i hi => by
    have ex : bt x i = decide ((i : Int) = b) := by
      rw [hx]
      by_cases z : b < 0
      · rw [if_pos (c9.mpr z), b_0, decide_eq_false (by omega)]
      · obtain ⟨n, rfl⟩ : ∃ n : Nat, b = (n : Int) := ⟨b.toNat, by omega⟩
        rw [if_neg (fun q => z (c9.mp q)), if_pos (by omega : (0 : Int) ≤ (n : Int)), iI_nat, bt_bit (by omega)]
        exact decide_eq_decide.mpr (by omega)
    rw [b_or, bt_bit (by omega), ex]
    rfl)
  have er : yset (grB A g) 32 &&& (yset (jnB j b) 32 ^^^ (-1)) = yset (rsB A g j b) 32 := yset_eq (fun i hi => by
    rw [b_and, bt_set hi, bt_not _ hi, bt_set hi]
    unfold rsB jnB
    rw [Bool.not_or, Bool.and_assoc])
  rw [ej, er]
  exact L_X2_about30 (Q := fun r σ' => r = none ∧ K σ') hW hV hj hmj hb hmb hgN hpl hB (fun σ' o h f => ⟨rfl, hK σ' o h f⟩) (aN A) 0 (by omega) 0 σ L _ (Nat.le_refl _) zOnly.rf rfl hF (fun u h => h) (fun u hu => absurd hu (Nat.not_lt_zero u)) (fun u v hu ⟨m, m1, m2, m3, m4, m5⟩ => by
    rcases m5 with ⟨rfl, rfl⟩ | ⟨rfl, rfl⟩
    · exact m4
    · exact m3) rfl
end zCr2
