/-! a mover; walls by a sheet; measures by a sheet (reference) -/
def aMv (X : zAb) (f n r : Nat) : zAb := (fun i => if i = 4 then aV X + 1 else X.1 i, fun b i => if i = aV X ∧ b = 10 then f else if i = aV X ∧ b = 11 then n else if i = aV X ∧ b = 12 then r else X.2.1 b i, X.2.2)
/-- the things and measures of a mover's first ticks -/
def mvS (A : zAb) (r : Nat) : Nat → zAb
  | 0 => A
  | k + 1 => if k = 0 then aThing (mvS A r k) 0 (-9) (aV A) k else aMeas (aThing (mvS A r k) 0 (-9) (aV A) k) 1 (aN (mvS A r k) - 1) (aN (mvS A r k)) 0 r
def aMover (A : zAb) (n r : Nat) : zAb := aMv (mvS A r n) (aN A) n r
theorem mvS_N (A : zAb) (r : Nat) : ∀ k, aN (mvS A r k) = aN A + k
  | 0 => rfl
  | k + 1 => by
    unfold mvS
    split
    · rw [tp_N, mvS_N A r k]; omega
    · rw [ms_N, tp_N, mvS_N A r k]; omega
theorem mvS_M (A : zAb) (r : Nat) : ∀ k, aM (mvS A r k) = aM A + (k - 1)
  | 0 => rfl
  | k + 1 => by
    unfold mvS
    split
    · next h => rw [tp_M, mvS_M A r k]; omega
    · next h => rw [ms_M, tp_M, mvS_M A r k]; omega
theorem mvS_V (A : zAb) (r : Nat) : ∀ k, aV (mvS A r k) = aV A
  | 0 => rfl
  | k + 1 => by
    unfold mvS
    split
    · rw [tp_V, mvS_V A r k]
    · rw [ms_V, tp_V, mvS_V A r k]
theorem mvS_wf {A : zAb} {r : Nat} (hW : zWf A) (hr : r ≤ 98) (hV : aV A < 3) : ∀ k, k ≤ 8 → aN A + k ≤ 24 → aM A + (k - 1) ≤ 60 → zWf (mvS A r k)
  | 0, _, _, _ => hW
  | k + 1, h1, h2, h3 => by
    have ih := mvS_wf hW hr hV k (by omega) (by omega) (by omega)
    have hn := mvS_N A r k
    have hm := mvS_M A r k
    have ht : zWf (aThing (mvS A r k) 0 (-9) (aV A) k) := tp_wf ih (by omega) (by omega) (fun h => by omega) (Or.inr (by omega)) (Or.inr (by omega))
    unfold mvS
    split
    · exact ht
    · exact ms_wf ht (by rw [tp_M]; omega) (by rw [tp_N]; omega) (by rw [tp_N]; omega) (by omega) (by omega)
theorem mv_wf {X : zAb} {f n r : Nat} (hW : zWf X) (hV : aV X < 3) (hn : 2 ≤ n ∧ n ≤ 8) (hf : f + n ≤ aN X) (hr : r ≤ 98) : zWf (aMv X f n r) := by
  obtain ⟨⟨w1, w2, w3, w4, w5, w6, w7⟩, h2, h3, h4⟩ := hW
  have e0 : ∀ b i, b < 10 → (aMv X f n r).2.1 b i = X.2.1 b i := fun b i hb => by
    simp only [aMv]
    rw [if_neg (by omega), if_neg (by omega), if_neg (by omega)]
  refine ⟨⟨w1, w2, w3, w4, w5, w6, ?_⟩, fun t ht => ?_, fun m hm => ?_, fun v hv => ?_⟩
  · show aV X + 1 ≤ 3; omega
  · unfold aK aX1 aY1 aX2 aY2
    rw [e0 0 _ (by omega), e0 1 _ (by omega), e0 2 _ (by omega), e0 3 _ (by omega), e0 4 _ (by omega)]
    exact h2 t ht
  · unfold mK mA mB mP mQ
    rw [e0 5 _ (by omega), e0 6 _ (by omega), e0 7 _ (by omega), e0 8 _ (by omega), e0 9 _ (by omega)]
    exact h3 m hm
  · have hv' : v < aV X + 1 := hv
    show 2 ≤ (aMv X f n r).2.1 11 v ∧ (aMv X f n r).2.1 11 v ≤ 8 ∧ (aMv X f n r).2.1 10 v + (aMv X f n r).2.1 11 v ≤ aN X ∧ (aMv X f n r).2.1 12 v ≤ 98
    by_cases e : v = aV X
    · simp [aMv, e]
      omega
    · simp [aMv, e]
      exact h4 v (by omega)
theorem aMover_wf {A : zAb} {n r : Nat} (hW : zWf A) (hr : r ≤ 98) (hV : aV A < 3) (hn : 2 ≤ n ∧ n ≤ 8) (hN : aN A + n ≤ 24) (hM : aM A + (n - 1) ≤ 60) : zWf (aMover A n r) :=
  mv_wf (mvS_wf hW hr hV n (by omega) hN hM) (by rw [mvS_V]; exact hV) hn (by rw [mvS_N]; omega) hr
/-- walls by a row of numbers -/
def aPlan (A : zAb) (f : Nat → Bool) : zAb := (A.1, A.2.1, A.2.2.1, fun b i => if b = 0 ∧ acell A i = true then f ((i / 8) * aW A + i % 8) else A.2.2.2 b i)
section zMi
variable {d kc ks : Nat} {σ : zSt} {A : zAb} {B : zSh} {Q : Option zV → zSt → Prop}
abbrev zVq (c _j k : Nat) : Prop := (56 ≤ c ∧ c ≤ 72) ∨ (c = 54 ∧ (k = 4 ∨ k = 12 ∨ k = 19 ∨ k = 25 ∨ k = 26 ∨ k = 27))
theorem L_X12_mover {r n : Nat} (hW : zWf A) (hr : r ≤ 98) (hV : aV A < 3) (hn : 2 ≤ n ∧ n ≤ 8) (hN : aN A + n ≤ 24) (hM : aM A + (n - 1) ≤ 60) {σ0 : zSt} {K : Int32 → zSt → Prop} (hK : ∀ σ', zRM (aMover A n r) σ' → zCM (aMover A n r) σ' → zOnly zVq σ0 σ' → K (nI (aV A)) σ') : ∀ (m k : Nat), k + m = n → ∀ (σ : zSt), zRM (mvS A r k) σ → zCM (mvS A r k) σ → zOnly zVq σ0 σ → (zgi σ 69 0 (aV A) = nI (aN A) ∧ zgi σ 70 0 (aV A) = nI n ∧ zgi σ 71 0 (aV A) = nI r) → (0 < k → zgi σ 54 0 25 = 0 ∧ zgi σ 54 0 26 = 0 ∧ zgi σ 54 0 27 = 0) → zE true (d + 3) kc ks M_X12_mover 99 [some (.inr (.inr (54, 0))), some (.inl (nI n)), some (.inl (nI r)), some (.inl (nI k))] [] σ (fun r σ' => ∃ x, r = some (.inl x) ∧ K x σ') := by
  intro m
  induction m with
  | zero =>
    intro k hk σ hR hC ho hv hf
    have : k = n := by omega
    subst this
    have e19 : zgi σ 54 0 19 = nI (aV A) := by rw [hR.1.2.2.2.2.1, mvS_V]
    refine T_X12_mover_99 ⟨fun _ => ⟨_, rfl, ?_⟩, fun h => absurd (Int32.le_refl _) h⟩
    have e1 : nI (aV A) + 1 - 1 = nI (aV A) := by simp
    rw [e19, e1, ← nI_succ]
    have hO : zOnly zVq σ0 (zsi σ 54 0 19 (nI (aV A + 1))) := ho.tr (zOnly.si (by unfold zVq; omega))
    have hR2 : zRM (aMover A k r) (zsi σ 54 0 19 (nI (aV A + 1))) := by
      obtain ⟨⟨b1, b2, b3, b4, b5, b6, b7⟩, h2, h3, h4⟩ := hR
      have hvv := mvS_V A r k
      have ev : ∀ b i, b < 10 → (aMover A k r).2.1 b i = (mvS A r k).2.1 b i := fun b i hb => by
        simp only [aMover, aMv]
        rw [if_neg (by omega), if_neg (by omega), if_neg (by omega)]
      refine ⟨⟨?_, ?_, ?_, ?_, ?_, ?_, fun y hy => ?_⟩, fun t ht => ?_, fun m hm => ?_, fun v hvl => ?_⟩
      · rw [zgi_si, if_neg (by omega)]; exact b1
      · rw [zgi_si, if_neg (by omega)]; exact b2
      · rw [zgi_si, if_neg (by omega)]; exact b3
      · rw [zgi_si, if_neg (by omega)]; exact b4
      · rw [zgi_si, if_pos ⟨rfl, rfl, rfl⟩]
        show _ = nI (aV (mvS A r k) + 1)
        rw [hvv]
      · rw [zgi_si, if_neg (by omega)]; exact b6
      · rw [zgi_si, if_neg (by omega)]; exact b7 y hy
      · have q := h2 t ht
        unfold aK aX1 aY1 aX2 aY2 at q ⊢
        rw [ev 0 _ (by omega), ev 1 _ (by omega), ev 2 _ (by omega), ev 3 _ (by omega), ev 4 _ (by omega)]
        simp [zgi_si]
        exact q
      · have q := h3 m hm
        unfold mK mA mB mP mQ at q ⊢
        rw [ev 5 _ (by omega), ev 6 _ (by omega), ev 7 _ (by omega), ev 8 _ (by omega), ev 9 _ (by omega)]
        simp [zgi_si]
        exact q
      · have hv2 : v < aV (mvS A r k) + 1 := hvl
        rw [zgi_si, if_neg (by omega), zgi_si, if_neg (by omega), zgi_si, if_neg (by omega)]
        show zgi σ 69 0 v = nI ((aMover A k r).2.1 10 v) ∧ zgi σ 70 0 v = nI ((aMover A k r).2.1 11 v) ∧ zgi σ 71 0 v = nI ((aMover A k r).2.1 12 v)
        by_cases e : v = aV A
        · subst e
          simp only [aMover, aMv, hvv]
          simpa using hv
        · simp only [aMover, aMv, hvv]
          simp [e]
          exact h4 v (by omega)
    have hl2 : zLdI (aMover A k r) (zsi σ 54 0 19 (nI (aV A + 1))) := hC.1.to (zOnly.si (m := fun c _ k => c = 54 ∧ k = 19) ⟨rfl, rfl⟩) (fun k => by omega) (fun m hm hz => ⟨hm, by rw [zgi_si, if_neg (by omega)] at hz; exact hz, kept_of (fun _ => rfl) (fun _ => rfl) (by simp [mK, aMover, aMv]) (by simp [mP, aMover, aMv]) (by simp [mQ, aMover, aMv])⟩)
    obtain ⟨f1, f2, f3⟩ := hf (by omega)
    exact hK _ hR2 (zCM.ch hl2 (by rw [zgi_si, if_neg (by omega)]; exact f1) (by rw [zgi_si, if_neg (by omega)]; exact f2) (by rw [zgi_si, if_neg (by omega)]; exact f3)) hO
  | succ m ih =>
    intro k hk σ hR hC ho hv hf
    have hWk := mvS_wf hW hr hV k (by omega) (by omega) (by omega)
    have hn2 := mvS_N A r k
    have hm2 := mvS_M A r k
    have e19 : zgi σ 54 0 19 = nI (aV A) := by rw [hR.1.2.2.2.2.1, mvS_V]
    refine T_X12_mover_99 ⟨fun g => ?_, fun _ => ?_⟩
    · rw [nI_leI (by omega) (by omega)] at g
      omega
    · rw [e19]
      have h6 := S_X12_addThing (d := d) (K := fun _ s3 => (((nI k ≤ 0) → (zE true (d + 3) kc ks M_X12_mover 99 [some (.inr (.inr (54, 0))), some (.inl (nI n)), some (.inl (nI r)), some (.inl (nI k + 1))] [] s3 (fun r σ' => ∃ x, r = some (.inl x) ∧ K x σ'))) ∧ ((¬ (nI k ≤ 0)) → (zCi true (d + 2) 0 0 M_X12_addMeasure [.inr (.inr (54, 0)), .inl 1, .inl ((zgi s3 54 0 4) - 2), .inl ((zgi s3 54 0 4) - 1), .inl 0, .inl (nI r)] s3 fun _ s7 => (zE true (d + 3) kc ks M_X12_mover 99 [some (.inr (.inr (54, 0))), some (.inl (nI n)), some (.inl (nI r)), some (.inl (nI k + 1))] [] s7 (fun r σ' => ∃ x, r = some (.inl x) ∧ K x σ')))))) hR 0 (-9) (aV A) k (by omega) (by omega) (fun σ1 q1 q2 q3 q4 q5 => ?_)
      · exact h6
      · have hC1 : zCM (aThing (mvS A r k) 0 (-9) (aV A) k) σ1 := zCM.ch (hC.1.thing q2) q3 q4 q5
        have ho1 : zOnly zVq σ0 σ1 := ho.tr (q2.mono (fun c j k h => by unfold zTm at h; unfold zVq; omega))
        have hv1 : zgi σ1 69 0 (aV A) = nI (aN A) ∧ zgi σ1 70 0 (aV A) = nI n ∧ zgi σ1 71 0 (aV A) = nI r := by
          rw [q2.i 69 0 _ (by unfold zTm; omega), q2.i 70 0 _ (by unfold zTm; omega), q2.i 71 0 _ (by unfold zTm; omega)]
          exact hv
        have ck : (nI k ≤ 0) ↔ k ≤ 0 := nI_leI (b := 0) (by omega) (by omega)
        rw [← nI_succ]
        refine ⟨fun g => ?_, fun g => ?_⟩
        · rw [ck] at g
          have e : mvS A r (k + 1) = aThing (mvS A r k) 0 (-9) (aV A) k := by
            show (if k = 0 then _ else _) = _
            rw [if_pos (by omega)]
          refine ih (k + 1) (by omega) σ1 (by rw [e]; exact q1) (by rw [e]; exact hC1) ho1 hv1 (fun _ => ⟨q3, q4, q5⟩)
        · rw [ck] at g
          have e : mvS A r (k + 1) = aMeas (aThing (mvS A r k) 0 (-9) (aV A) k) 1 (aN (mvS A r k) - 1) (aN (mvS A r k)) 0 r := by
            show (if k = 0 then _ else _) = _
            rw [if_neg (by omega)]
          have eN : zgi σ1 54 0 4 = nI (aN (mvS A r k) + 1) := by rw [q1.1.2.2.1, tp_N]
          have x2 : nI (aN (mvS A r k) + 1) - 2 = nI (aN (mvS A r k) - 1) := by
            rw [show (2 : Int32) = nI 2 from rfl, nI_sub (by omega)]
            congr 1
          have x1 : nI (aN (mvS A r k) + 1) - 1 = nI (aN (mvS A r k)) := by
            rw [show (1 : Int32) = nI 1 from rfl, nI_sub (by omega)]
            congr 1
          rw [eN, x2, x1]
          exact S_X12_addMeasure q1 1 _ _ 0 r 0 (nI r) (by rw [tp_M]; omega) (by omega) (fun z => absurd (Or.inl rfl) z) (fun _ => rfl) (fun σ2 p1 p2 p3 p4 p5 p6 => ih (k + 1) (by omega) σ2 (by rw [e]; exact p1) (by rw [e]; exact zCM.ch (hC1.1.meas p2 p3) p4 p5 p6) (ho1.tr (p2.mono (fun c j k h => by unfold zMm at h; unfold zVq; omega))) (by
            rw [p2.i 69 0 _ (by unfold zMm; omega), p2.i 70 0 _ (by unfold zMm; omega), p2.i 71 0 _ (by unfold zMm; omega)]
            exact hv1) (fun _ => ⟨p4, p5, p6⟩))
theorem O_X12_mover {K : Int32 → zSt → Prop} (hW : zWf A) (hR : zRM A σ) (hC : zCM A σ) (a b : Int32) (hout : ¬ ((2 ≤ a.toInt ∧ a.toInt ≤ 8) ∧ 0 ≤ b.toInt ∧ b.toInt ≤ 98) → K (-2) σ) (hfull : ∀ n r, 2 ≤ n → n ≤ 8 → r ≤ 98 → a = nI n → b = nI r → aV A = 3 ∨ 24 < aN A + n ∨ 60 < aM A + (n - 1) → K (-4) σ)
    (hyes : ∀ n r, 2 ≤ n → n ≤ 8 → r ≤ 98 → a = nI n → b = nI r → aV A < 3 → aN A + n ≤ 24 → aM A + (n - 1) ≤ 60 → ∀ σ', zRM (aMover A n r) σ' → zCM (aMover A n r) σ' → zOnly zVq σ σ' → K (nI (aV A)) σ') : zCi true (d + 3) 0 0 M_X12_mover [.inr (.inr (54, 0)), .inl (a), .inl (b)] σ K := by
  have hN : aN A ≤ 24 := hW.1.2.2.2.2.1
  have hM : aM A ≤ 60 := hW.1.2.2.2.2.2.1
  have hV : aV A ≤ 3 := hW.1.2.2.2.2.2.2
  have ca : (2 ≤ a.toInt64 ∧ a.toInt64 ≤ 8) ↔ (2 ≤ a.toInt ∧ a.toInt ≤ 8) := zin_c a (l := 2) (h := 8) (by omega) (by omega)
  have cb : (0 ≤ b.toInt64 ∧ b.toInt64 ≤ 98) ↔ (0 ≤ b.toInt ∧ b.toInt ≤ 98) := zin_c b (l := 0) (h := 98) (by omega) (by omega)
  refine zC_intro pl_X12 (Nat.le_of_ble_eq_true rfl) (T_X12_mover_0 ⟨fun g => ⟨_, rfl, hout ?_⟩, fun g => ⟨fun g2 => ⟨fun g3 => ⟨_, rfl, ?_⟩, fun g3 => ?_⟩, fun g2 => ⟨_, rfl, hout ?_⟩⟩⟩)
  · rw [zb_0, ca] at g
    exact fun q => g q.1
  · rw [zb_0, Decidable.not_not, ca] at g
    rw [zb_0, Decidable.not_not, cb] at g2
    obtain ⟨n, hn, rfl⟩ : ∃ n : Nat, (2 ≤ n ∧ n ≤ 8) ∧ a = nI n := ⟨a.toInt.toNat, by omega, zI_of (by omega)⟩
    obtain ⟨r, hr, rfl⟩ : ∃ r : Nat, r ≤ 98 ∧ b = nI r := ⟨b.toInt.toNat, by omega, zI_of (by omega)⟩
    rw [hR.1.2.2.2.2.1, hR.1.2.2.1, hR.1.2.2.2.1, nI_add, nI_add, show (1 : Int32) = nI 1 from rfl, nI_sub (by omega), show (3 : Int32) = nI 3 from rfl, show (24 : Int32) = nI 24 from rfl, show (60 : Int32) = nI 60 from rfl, nI_eq (by omega) (by omega), nI_ltI (by omega) (by omega), nI_leI (by omega) (by omega)] at g3
    exact hfull n r hn.1 hn.2 hr rfl rfl (by omega)
  · rw [zb_0, Decidable.not_not, ca] at g
    rw [zb_0, Decidable.not_not, cb] at g2
    obtain ⟨n, hn, rfl⟩ : ∃ n : Nat, (2 ≤ n ∧ n ≤ 8) ∧ a = nI n := ⟨a.toInt.toNat, by omega, zI_of (by omega)⟩
    obtain ⟨r, hr, rfl⟩ : ∃ r : Nat, r ≤ 98 ∧ b = nI r := ⟨b.toInt.toNat, by omega, zI_of (by omega)⟩
    rw [hR.1.2.2.2.2.1, hR.1.2.2.1, hR.1.2.2.2.1, nI_add, nI_add, show (1 : Int32) = nI 1 from rfl, nI_sub (by omega), show (3 : Int32) = nI 3 from rfl, show (24 : Int32) = nI 24 from rfl, show (60 : Int32) = nI 60 from rfl, nI_eq (by omega) (by omega), nI_ltI (by omega) (by omega), nI_leI (by omega) (by omega)] at g3
    have hV3 : aV A < 3 := by omega
    rw [hR.1.2.2.2.2.1, hR.1.2.2.1, nI_clamp (show aV A < 2 ^ 31 by omega)]
    refine ⟨nI_in (by omega) (by omega), nI_in (by omega) (by omega), nI_in (by omega) (by omega), ?_⟩
    have oo : zOnly (fun c _ _ => 69 ≤ c ∧ c ≤ 71) σ (zsi (zsi (zsi σ 69 0 (aV A) (nI (aN A))) 70 0 (aV A) (nI n)) 71 0 (aV A) (nI r)) := ((zOnly.si (by omega)).tr (zOnly.si (by omega))).tr (zOnly.si (by omega))
    have hR1 : zRM A (zsi (zsi (zsi σ 69 0 (aV A) (nI (aN A))) 70 0 (aV A) (nI n)) 71 0 (aV A) (nI r)) := by
      obtain ⟨h1, h2, h3, h4⟩ := hR
      refine ⟨h1, h2, h3, fun v hv => ?_⟩
      have e : ¬ v = aV A := by omega
      simp [zgi_si, e]
      exact h4 v hv
    have hC1 : zCM A (zsi (zsi (zsi σ 69 0 (aV A) (nI (aN A))) 70 0 (aV A) (nI n)) 71 0 (aV A) (nI r)) := ⟨hC.1.only oo (fun k => by omega), hC.2.1.only oo ⟨by omega, fun k => by omega⟩, hC.2.2.1.only oo ⟨by omega, by omega, fun k => by omega⟩, hC.2.2.2.only oo ⟨by omega, by omega, by omega, fun k => by omega⟩⟩
    refine L_X12_mover hW hr hV3 hn (by omega) (by omega) (σ0 := σ) (K := K) (hyes n r hn.1 hn.2 hr rfl rfl hV3 (by omega) (by omega)) n 0 (by omega) _ hR1 hC1 (oo.mono (fun c j k h => by unfold zVq; omega)) ?_ (fun h => absurd h (Nat.lt_irrefl 0))
    simp [zgi_si]
  · rw [zb_0, cb] at g2
    exact fun q => g2 q.2
end zMi
