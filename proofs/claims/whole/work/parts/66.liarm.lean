/-! liars, as the reference finds them -/
section zMd
variable {d kc ks : Nat} {σ : zSt} {A : zAb} {Q : Option zV → zSt → Prop}
theorem S_X12_mayLie {K : Int32 → zSt → Prop} (hW : zWf A) (hR : zRM A σ) {t : Nat} (ht : t < aN A) (hK : K (zb (lyM A t = true)) σ) : zCi true (d + 1) 0 0 M_X12_mayLie [.inr (.inr (54, 0)), .inl (nI t)] σ K := by
  have hN : aN A ≤ 24 := hW.1.2.2.2.2.1
  obtain ⟨q1, -, -, -, -, -, q7, -⟩ := hR.2.1 t ht
  have w1 := (hW.2.1 t ht).1
  refine zC_intro pl_X12 (Nat.le_of_ble_eq_true rfl) (T_X12_mayLie_0 ?_)
  rw [nI_clamp (show t < 2 ^ 31 by omega), q1, q7]
  refine ⟨nI_in (by omega) (by omega), fun _ => nI_in (by omega) (by omega), fun x hx => ⟨_, rfl, ?_⟩⟩
  rw [hx, zb_of0 (P := lyM A t = true) ?_]
  · exact hK
  · unfold lyM
    rw [zb_0, Decidable.not_not, show (2 : Int32) = nI 2 from rfl, nI_leI (by omega) (by omega), Bool.and_eq_true, decide_eq_true_iff]
    by_cases z : aTr A t = true
    · simp [z]
    · simp [z]
theorem L_X12_quiet (hW : zWf A) {σ0 : zSt} (hR : zRM A σ0) (hl : zLdI A σ0) {a b : Int} (ha : -1 ≤ a ∧ a < 24) (hb : -1 ≤ b ∧ b < 24) (hQ : ∀ σ', zOnly (fun c _ _ => 72 ≤ c ∧ c ≤ 78) σ0 σ' → zLdI A σ' → Q (some (.inl (zb (¬ quB A (lyU A a b) = true)))) σ') : ∀ (n k : Nat), k + n = aM A → ∀ σ : zSt, zOnly (fun c _ _ => c = 77) σ0 σ → (∀ m, m < k → zgi σ 77 0 m = zb (lyU A a b m = true)) → zE true (d + 8) kc ks M_X12_isQuietWithout 2 [some (.inr (.inr (54, 0))), some (.inl (iI a)), some (.inl (iI b)), some (.inl (nI k))] [] σ Q := by
  have hM : aM A ≤ 60 := hW.1.2.2.2.2.2.1
  have hN : aN A ≤ 24 := hW.1.2.2.2.2.1
  intro n
  induction n with
  | zero =>
    intro k hk σ ho hz
    have hR2 : zRM A σ := hR.only ho (fun c k hb => by unfold zBM at hb; omega)
    have : k = aM A := by omega
    subst this
    refine T_X12_isQuietWithout_2 ⟨fun _ => S_X12_narrow hW hR2 (hl.only ho (fun k => by omega)) hz (fun σ' o1 l1 _ x hx => ?_), fun h => absurd (by rw [hR2.1.2.2.2.1]; exact Int32.le_refl _) h⟩
    rw [hx, zb_of0 (P := ¬ quB A (lyU A a b) = true) (by rw [zb_0])]
    exact hQ σ' ((ho.mono (fun c j k h => by omega)).tr (o1.mono (fun c j k h => by unfold zNm1 at h; omega))) l1
  | succ n ih =>
    intro k hk σ ho hz
    have hR2 : zRM A σ := hR.only ho (fun c k hb => by unfold zBM at hb; omega)
    obtain ⟨r1, r2, r3, r4, r5, r6⟩ := hR2.2.2.1 k (by omega)
    obtain ⟨w1, w2, w3, w4⟩ := hW.2.2.1 k (by omega)
    have i60 : vp_in (nI k) 60 := nI_in (by omega) (by omega)
    refine T_X12_isQuietWithout_2 ⟨fun g => ?_, fun _ => ?_⟩
    · rw [hR2.1.2.2.2.1, nI_leI (by omega) (by omega)] at g
      omega
    · rw [nI_clamp (show k < 2 ^ 31 by omega), r2, r3, r6, ← nI_succ]
      refine ⟨i60, fun _ => i60, fun _ _ => i60, fun _ _ _ => i60, fun _ _ _ _ => i60, fun x hx => ⟨i60, ?_⟩⟩
      have ex : x = zb (lyU A a b k = true) := by
        rw [hx]
        apply zb_of0
        unfold lyU
        rw [zb_0, ← iI_nat, ← iI_nat, iI_eqI (by omega) (by omega), iI_eqI (by omega) (by omega), iI_eqI (by omega) (by omega), iI_eqI (by omega) (by omega)]
        by_cases z : mO A k = true
        · simp only [z, Bool.true_and, Bool.not_eq_true', Bool.or_eq_false_iff, decide_eq_false_iff_not, not_true_eq_false, false_or]
          omega
        · simp [z]
      refine ih (k + 1) (by omega) _ (ho.tr (zOnly.si rfl)) (fun m hm => ?_)
      rw [zgi_si]
      by_cases z : m = k
      · rw [if_pos ⟨rfl, rfl, z⟩, ex, z]
      · rw [if_neg (fun w => z w.2.2)]
        exact hz m (by omega)
theorem S_X12_isQuietWithout {K : Int32 → zSt → Prop} (hW : zWf A) (hR : zRM A σ) (hl : zLdI A σ) {a b : Int} (ha : -1 ≤ a ∧ a < 24) (hb : -1 ≤ b ∧ b < 24) (hK : ∀ σ', zOnly (fun c _ _ => 72 ≤ c ∧ c ≤ 78) σ σ' → zLdI A σ' → K (zb (¬ quB A (lyU A a b) = true)) σ') : zCi true (d + 8) 0 0 M_X12_isQuietWithout [.inr (.inr (54, 0)), .inl (iI a), .inl (iI b)] σ K :=
  zC_intro pl_X12 (Nat.le_of_ble_eq_true rfl) (T_X12_isQuietWithout_0 (L_X12_quiet hW hR hl ha hb (fun σ' h1 h2 => ⟨_, rfl, hK σ' h1 h2⟩) (aM A) 0 (by omega) σ zOnly.rf (fun m hm => absurd hm (Nat.not_lt_zero m))))
/-- counters of sets: in all, and with each thing -/
def zCt (σ : zSt) (s : Nat) (f : Nat → Nat) : Prop := zgi σ 54 0 69 = nI s ∧ ∀ t, t < 24 → zgi σ 90 0 t = nI (f t)
theorem zCt.only {σ' : zSt} {M : Nat → Nat → Nat → Prop} {s : Nat} {f : Nat → Nat} (h : zCt σ s f) (ho : zOnly M σ σ') (hm : ¬ M 54 0 69 ∧ ∀ k, ¬ M 90 0 k) : zCt σ' s f := ⟨by rw [ho.i 54 0 69 hm.1]; exact h.1, fun t ht => by rw [ho.i 90 0 t (hm.2 t)]; exact h.2 t ht⟩
theorem S_X12_countSet {K : zSt → Prop} {a b : Int} (ha : -1 ≤ a ∧ a < 24) (hb : -1 ≤ b ∧ b < 24) {s : Nat} {f : Nat → Nat} (hC : zCt σ s f) (hK : ∀ σ', zOnly (fun c _ k => c = 90 ∨ (c = 54 ∧ k = 69)) σ σ' → zCt σ' (s + 1) (fun t => f t + (if (t : Int) = a then 1 else 0) + (if (t : Int) = b then 1 else 0)) → K σ') : zCv true (d + 1) 0 0 M_X12_countSet [.inr (.inr (54, 0)), .inl (iI a), .inl (iI b)] σ K := by
  have l0 : ∀ x : Int, -1 ≤ x ∧ x < 24 → (iI x < 0 ↔ x < 0) := fun x hx => by
    have := iI_lt (a := x) (b := 0) (by omega) (by omega)
    exact this
  have two : ∀ (σ1 : zSt) (f1 : Nat → Nat), zOnly (fun c _ k => c = 90 ∨ (c = 54 ∧ k = 69)) σ σ1 → zCt σ1 (s + 1) f1 → (∀ t, f1 t = f t + (if (t : Int) = a then 1 else 0)) → zE true (d + 1) 0 0 M_X12_countSet 24 [some (.inr (.inr (54, 0))), none, some (.inl (iI b))] [] σ1 (fun r σ' => r = none ∧ K σ') := by
    intro σ1 f1 o1 c1 e1
    refine T_X12_countSet_24 ⟨fun g => ⟨rfl, ?_⟩, fun g => ?_⟩
    · rw [l0 b hb] at g
      refine hK σ1 o1 ⟨c1.1, fun t ht => ?_⟩
      show zgi σ1 90 0 t = nI (f t + (if (t : Int) = a then 1 else 0) + (if (t : Int) = b then 1 else 0))
      rw [c1.2 t ht, e1, if_neg (show ¬ (t : Int) = b by omega), Nat.add_zero]
    · rw [l0 b hb] at g
      obtain ⟨n, rfl⟩ : ∃ n : Nat, b = (n : Int) := ⟨b.toNat, by omega⟩
      rw [iI_nat, nI_clamp (show n < 2 ^ 31 by omega), c1.2 n (by omega), ← nI_succ]
      refine ⟨nI_in (by omega) (by omega), nI_in (by omega) (by omega), rfl, hK _ (o1.tr (zOnly.si (Or.inl rfl))) ⟨by rw [zgi_si, if_neg (by omega)]; exact c1.1, fun t ht => ?_⟩⟩
      show _ = nI (f t + (if (t : Int) = a then 1 else 0) + (if (t : Int) = (n : Int) then 1 else 0))
      rw [zgi_si]
      by_cases z : t = n
      · subst z
        rw [if_pos ⟨rfl, rfl, rfl⟩, e1, if_pos (show ((t : Nat) : Int) = ((t : Nat) : Int) from rfl)]
      · rw [if_neg (fun w => z w.2.2), c1.2 t ht, e1, if_neg (show ¬ (t : Int) = (n : Int) by omega), Nat.add_zero]
  refine zC_intro pl_X12 (Nat.le_of_ble_eq_true rfl) (T_X12_countSet_0 ?_)
  rw [l0 a ha, hC.1, ← nI_succ]
  have c0 : zCt (zsi σ 54 0 69 (nI (s + 1))) (s + 1) f := ⟨by rw [zgi_si, if_pos ⟨rfl, rfl, rfl⟩], fun t ht => by rw [zgi_si, if_neg (by omega)]; exact hC.2 t ht⟩
  have o0 : zOnly (fun c _ k => c = 90 ∨ (c = 54 ∧ k = 69)) σ (zsi σ 54 0 69 (nI (s + 1))) := zOnly.si (Or.inr ⟨rfl, rfl⟩)
  refine ⟨fun g => two _ f o0 c0 (fun t => ?_), fun g => ?_⟩
  · rw [if_neg (show ¬ (t : Int) = a by omega), Nat.add_zero]
  · obtain ⟨n, rfl⟩ : ∃ n : Nat, a = (n : Int) := ⟨a.toNat, by omega⟩
    rw [iI_nat, nI_clamp (show n < 2 ^ 31 by omega), hC.2 n (by omega), ← nI_succ]
    refine ⟨nI_in (by omega) (by omega), nI_in (by omega) (by omega), two _ (fun t => f t + (if (t : Int) = (n : Int) then 1 else 0)) (o0.tr (zOnly.si (Or.inl rfl))) ⟨by rw [zgi_si, if_neg (by omega)]; exact c0.1, fun t ht => ?_⟩ (fun t => rfl)⟩
    show _ = nI (f t + (if (t : Int) = (n : Int) then 1 else 0))
    rw [zgi_si]
    by_cases z : t = n
    · subst z
      rw [if_pos ⟨rfl, rfl, rfl⟩, if_pos (show ((t : Nat) : Int) = ((t : Nat) : Int) from rfl)]
    · rw [if_neg (fun w => z w.2.2), c0.2 t ht, if_neg (show ¬ (t : Int) = (n : Int) by omega), Nat.add_zero]
abbrev zSm (c _j k : Nat) : Prop := (72 ≤ c ∧ c ≤ 78) ∨ c = 90 ∨ (c = 54 ∧ (k = 68 ∨ k = 69))
/-- the end of the search for liars -/
def zSe (A : zAb) (σ : zSt) : Prop := zgi σ 54 0 68 = iI (lyR A).1 ∧ ((lyR A).1 ≠ -9 → zgi σ 54 0 69 = nI (lyR A).2.1 ∧ ∀ t, t < aN A → zgi σ 90 0 t = nI ((lyR A).2.2 t))
theorem lyP_le (t k : Nat) : lyP A t k ≤ k := fb_ct_le _ k
theorem lyS_le (n : Nat) (hn : n ≤ 24) (hN : aN A ≤ 24) : fb_sm (fun t => lyP A t (aN A)) n ≤ 576 := by
  have := fb_sm_bound (f := fun t => lyP A t (aN A)) (c := 24) (n := n) (fun k _ => Nat.le_trans (lyP_le k (aN A)) hN)
  omega
theorem ly2_le (hN : aN A ≤ 24) (t : Nat) (ht : t < aN A) (k : Nat) (hk : k ≤ aN A) : True := trivial
theorem L_X12_liar131 (hW : zWf A) {σ0 : zSt} (hR : zRM A σ0) (_hl : zLdI A σ0) {t : Nat} (ht : t < aN A) (hnext : ∀ σ', zOnly zSm σ0 σ' → zgi σ' 54 0 68 = zgi σ0 54 0 68 → zLdI A σ' → zCt σ' (fb_sm (fun t => lyP A t (aN A)) (t + 1)) (fun x => fb_sm (fun t => lyQ A x t (aN A)) (t + 1)) → zE true (d + 9) kc ks M_X12_seekLiars 119 [some (.inr (.inr (54, 0))), some (.inl (nI (t + 1))), none] [] (σ') Q) : ∀ (n k : Nat), k + n = aN A → t < k → ∀ σ : zSt, zOnly zSm σ0 σ → zgi σ 54 0 68 = zgi σ0 54 0 68 → zLdI A σ → zCt σ (fb_sm (fun t => lyP A t (aN A)) t + lyP A t k) (fun x => fb_sm (fun t => lyQ A x t (aN A)) t + lyQ A x t k) → zE true (d + 9) kc ks M_X12_seekLiars 131 [some (.inr (.inr (54, 0))), some (.inl (nI t)), some (.inl (nI k))] [] σ Q := by
  have hN : aN A ≤ 24 := hW.1.2.2.2.2.1
  intro n
  induction n with
  | zero =>
    intro k hk htk σ ho e68 hl hC
    have hR2 : zRM A σ := hR.only ho (fun c k hb => by unfold zBM at hb; unfold zSm; omega)
    have : k = aN A := by omega
    subst this
    refine T_X12_seekLiars_131 ⟨fun _ => ?_, fun h => absurd (by rw [hR2.1.2.2.1]; exact Int32.le_refl _) h⟩
    rw [← nI_succ]
    exact hnext σ ho e68 hl hC
  | succ n ih =>
    intro k hk htk σ ho e68 hl hC
    have hR2 : zRM A σ := hR.only ho (fun c k hb => by unfold zBM at hb; unfold zSm; omega)
    have hkN : k < aN A := by omega
    have hno : ly2 A t k = false → zCt σ (fb_sm (fun t => lyP A t (aN A)) t + lyP A t (k + 1)) (fun x => fb_sm (fun t => lyQ A x t (aN A)) t + lyQ A x t (k + 1)) := by
      intro h
      have e1 : lyP A t (k + 1) = lyP A t k := by unfold lyP; rw [fb_ct_succ, h]; simp
      have e2 : ∀ x, lyQ A x t (k + 1) = lyQ A x t k := fun x => by unfold lyQ; rw [fb_ct_succ, h]; simp
      rw [e1]
      refine ⟨hC.1, fun x hx => ?_⟩
      rw [hC.2 x hx]
      show _ = nI (_ + lyQ A x t (k + 1))
      rw [e2]
    refine T_X12_seekLiars_131 ⟨fun g => ?_, fun _ => S_X12_mayLie hW hR2 ht ⟨fun g => ?_, fun g => S_X12_mayLie hW hR2 hkN ⟨fun g2 => ?_, fun g2 => ?_⟩⟩⟩
    · rw [hR2.1.2.2.1, nI_leI (by omega) (by omega)] at g
      omega
    · rw [zb_0, Bool.not_eq_true] at g
      rw [← nI_succ]
      exact ih (k + 1) (by omega) (by omega) σ ho e68 hl (hno (by unfold ly2; rw [g, Bool.false_and, Bool.false_and]))
    · rw [zb_0, Bool.not_eq_true] at g2
      rw [← nI_succ]
      exact ih (k + 1) (by omega) (by omega) σ ho e68 hl (hno (by unfold ly2; rw [g2, Bool.and_false, Bool.false_and]))
    · rw [zb_0, Decidable.not_not] at g g2
      rw [← iI_nat, ← iI_nat]
      refine S_X12_isQuietWithout hW hR2 hl (by omega) (by omega) (fun σ1 o1 l1 => ⟨fun g3 => ?_, fun g3 => S_X12_countSet (by omega) (by omega) (hC.only o1 ⟨by omega, fun k => by omega⟩) (fun σ2 o2 c2 => ?_)⟩)
      · rw [zb_0, Decidable.not_not] at g3
        rw [iI_add1, iI_nat, show ((k : Int) + 1) = ((k + 1 : Nat) : Int) from rfl, iI_nat]
        have hC1 := (hno (by unfold ly2; rw [g3, Bool.not_true, Bool.and_false])).only o1 ⟨by omega, fun k => by omega⟩
        exact ih (k + 1) (by omega) (by omega) σ1 (ho.tr (o1.mono (fun c j k h => Or.inl h))) (by rw [o1.i 54 0 68 (by omega)]; exact e68) l1 hC1
      · rw [zb_0, Decidable.not_not, Bool.not_eq_true] at g3
        have h2 : ly2 A t k = true := by unfold ly2; rw [g, g2, g3]; rfl
        rw [iI_add1, iI_nat, show ((k : Int) + 1) = ((k + 1 : Nat) : Int) from rfl, iI_nat]
        have e1 : lyP A t (k + 1) = lyP A t k + 1 := by unfold lyP; rw [fb_ct_succ, h2]; simp [htk]
        have e2 : ∀ x, lyQ A x t (k + 1) = lyQ A x t k + (if (x : Int) = (t : Int) then 1 else 0) + (if (x : Int) = (k : Int) then 1 else 0) := fun x => by
          unfold lyQ
          rw [fb_ct_succ, h2]
          by_cases z : x = t
          · subst z
            simp [htk, show ¬ (x = k) by omega, show ¬ ((x : Int) = (k : Int)) by omega]
          · by_cases z2 : x = k
            · subst z2
              simp [htk, z, show ¬ ((x : Int) = (t : Int)) by omega]
            · simp [z, z2, show ¬ ((x : Int) = (t : Int)) by omega, show ¬ ((x : Int) = (k : Int)) by omega]
        refine ih (k + 1) (by omega) (by omega) σ2 ((ho.tr (o1.mono (fun c j k h => Or.inl h))).tr (o2.mono (fun c j k h => by unfold zSm; omega))) (by rw [o2.i 54 0 68 (by omega), o1.i 54 0 68 (by omega)]; exact e68) (l1.only o2 (fun k => by omega)) ⟨?_, fun x hx => ?_⟩
        · rw [c2.1, e1, Nat.add_assoc]
        · rw [c2.2 x hx]
          show nI (fb_sm (fun t => lyQ A x t (aN A)) t + lyQ A x t k + (if (x : Int) = (t : Int) then 1 else 0) + (if (x : Int) = (k : Int) then 1 else 0)) = nI (_ + lyQ A x t (k + 1))
          rw [e2]
          congr 1
          omega
theorem L_X12_liar119 (hW : zWf A) {σ0 : zSt} (hR : zRM A σ0) (hq : quB A (mO A) = true) (h1 : fb_ct (ly1 A) (aN A) = 0) (hQ : ∀ σ', zOnly zSm σ0 σ' → zLdI A σ' → zSe A σ' → Q none σ') : ∀ (n t : Nat), t + n = aN A → ∀ σ : zSt, zOnly zSm σ0 σ → zgi σ 54 0 68 = 2 → zLdI A σ → zCt σ (fb_sm (fun t => lyP A t (aN A)) t) (fun x => fb_sm (fun t => lyQ A x t (aN A)) t) → zE true (d + 9) kc ks M_X12_seekLiars 119 [some (.inr (.inr (54, 0))), some (.inl (nI t)), none] [] σ Q := by
  have hN : aN A ≤ 24 := hW.1.2.2.2.2.1
  intro n
  induction n with
  | zero =>
    intro t ht σ ho e68 hl hC
    have hR2 : zRM A σ := hR.only ho (fun c k hb => by unfold zBM at hb; unfold zSm; omega)
    have : t = aN A := by omega
    subst this
    refine T_X12_seekLiars_119 ⟨fun _ x hx => hQ _ (ho.tr (zOnly.si (by unfold zSm; omega))) (hl.only (zOnly.si (m := fun c _ k => c = 54 ∧ k = 68) ⟨rfl, rfl⟩) (fun k => by omega)) ?_, fun h => absurd (by rw [hR2.1.2.2.1]; exact Int32.le_refl _) h⟩
    have hle := lyS_le (A := A) (aN A) hN hN
    have er : lyR A = (if 0 < fb_sm (fun t => lyP A t (aN A)) (aN A) then 2 else -9, fb_sm (fun t => lyP A t (aN A)) (aN A), fun x => fb_sm (fun t => lyQ A x t (aN A)) (aN A)) := by
      unfold lyR
      rw [if_neg (by rw [hq]; decide), if_neg (by omega)]
    refine ⟨?_, fun _ => ⟨?_, fun t ht => ?_⟩⟩
    · rw [zgi_si, if_pos ⟨rfl, rfl, rfl⟩, hx, hC.1, er]
      have hc : (nI (fb_sm (fun t => lyP A t (aN A)) (aN A)) ≤ 0) ↔ fb_sm (fun t => lyP A t (aN A)) (aN A) ≤ 0 := nI_leI (b := 0) (by omega) (by omega)
      by_cases z : 0 < fb_sm (fun t => lyP A t (aN A)) (aN A)
      · rw [if_neg (fun q => by have := hc.mp q; omega), if_pos z]; rfl
      · rw [if_pos (hc.mpr (by omega)), if_neg z]; rfl
    · rw [zgi_si, if_neg (by omega), hC.1, er]
    · rw [zgi_si, if_neg (by omega), hC.2 t (by omega), er]
  | succ n ih =>
    intro t ht σ ho e68 hl hC
    have hR2 : zRM A σ := hR.only ho (fun c k hb => by unfold zBM at hb; unfold zSm; omega)
    refine T_X12_seekLiars_119 ⟨fun g => ?_, fun _ => ?_⟩
    · rw [hR2.1.2.2.1, nI_leI (by omega) (by omega)] at g
      omega
    · rw [← nI_succ]
      have e1 : lyP A t (t + 1) = 0 := fb_ct_zero.mpr (fun k hk => by simp [show ¬ t < k by omega])
      have e2 : ∀ x, lyQ A x t (t + 1) = 0 := fun x => fb_ct_zero.mpr (fun k hk => by simp [show ¬ t < k by omega])
      refine L_X12_liar131 (A := A) (σ0 := σ) hW hR2 hl (by omega) (fun σ' o1 e1 l1 c1 => ih (t + 1) (by omega) σ' (ho.tr o1) (by rw [e1]; exact e68) l1 c1) (aN A - (t + 1)) (t + 1) (by omega) (by omega) σ zOnly.rf rfl hl ⟨?_, fun x hx => ?_⟩
      · rw [hC.1, e1, Nat.add_zero]
      · rw [hC.2 x hx]
        show _ = nI (_ + lyQ A x t (t + 1))
        rw [e2, Nat.add_zero]
theorem L_X12_liar67 (hW : zWf A) {σ0 : zSt} (hR : zRM A σ0) (hq : quB A (mO A) = true) (hQ : ∀ σ', zOnly zSm σ0 σ' → zLdI A σ' → zSe A σ' → Q none σ') : ∀ (n t : Nat), t + n = aN A → ∀ σ : zSt, zOnly zSm σ0 σ → zgi σ 54 0 68 = 1 → zLdI A σ → zCt σ (fb_ct (ly1 A) t) (fun x => if x < t ∧ ly1 A x = true then 1 else 0) → zE true (d + 9) kc ks M_X12_seekLiars 67 [some (.inr (.inr (54, 0))), some (.inl (nI t)), none] [] σ Q := by
  have hN : aN A ≤ 24 := hW.1.2.2.2.2.1
  intro n
  induction n with
  | zero =>
    intro t ht σ ho e68 hl hC
    have hR2 : zRM A σ := hR.only ho (fun c k hb => by unfold zBM at hb; unfold zSm; omega)
    have : t = aN A := by omega
    subst this
    have hle := fb_ct_le (ly1 A) (aN A)
    have hc : (zgi σ 54 0 69 ≤ 0) ↔ fb_ct (ly1 A) (aN A) ≤ 0 := by rw [hC.1]; exact nI_leI (b := 0) (by omega) (by omega)
    refine T_X12_seekLiars_67 ⟨fun _ => ⟨fun g => ?_, fun g => hQ σ ho hl ?_⟩, fun h => absurd (by rw [hR2.1.2.2.1]; exact Int32.le_refl _) h⟩
    · rw [hc] at g
      have h0 : fb_ct (ly1 A) (aN A) = 0 := by omega
      have o2 : zOnly zSm σ (zsi σ 54 0 68 2) := zOnly.si (by unfold zSm; omega)
      refine L_X12_liar119 (A := A) hW (hR2.only o2 (fun c k hb => by unfold zBM at hb; unfold zSm; omega)) hq h0 (fun σ' o3 l3 s3 => hQ σ' ((ho.tr o2).tr o3) l3 s3) (aN A) 0 (by omega) _ zOnly.rf (by rw [zgi_si, if_pos ⟨rfl, rfl, rfl⟩]) (hl.only (zOnly.si (m := fun c _ k => c = 54 ∧ k = 68) ⟨rfl, rfl⟩) (fun k => by omega)) ⟨?_, fun x hx => ?_⟩
      · rw [zgi_si, if_neg (by omega), hC.1, h0]; rfl
      · rw [zgi_si, if_neg (by omega), hC.2 x hx]
        show nI (if x < aN A ∧ ly1 A x = true then 1 else 0) = nI 0
        rw [if_neg]
        · rintro ⟨q1, q2⟩
          rw [fb_ct_zero] at h0
          rw [h0 x q1] at q2
          cases q2
    · rw [hc] at g
      have er : lyR A = (1, fb_ct (ly1 A) (aN A), fun t => if ly1 A t = true then 1 else 0) := by
        unfold lyR
        rw [if_neg (by rw [hq]; decide), if_pos (by omega)]
      refine ⟨by rw [e68, er]; rfl, fun _ => ⟨by rw [hC.1, er], fun t ht => ?_⟩⟩
      rw [hC.2 t (by omega), er]
      show nI (if t < aN A ∧ ly1 A t = true then 1 else 0) = nI (if ly1 A t = true then 1 else 0)
      by_cases z : ly1 A t = true
      · rw [if_pos ⟨ht, z⟩, if_pos z]
      · rw [if_neg (fun q => z q.2), if_neg z]
  | succ n ih =>
    intro t ht σ ho e68 hl hC
    have hR2 : zRM A σ := hR.only ho (fun c k hb => by unfold zBM at hb; unfold zSm; omega)
    have htN : t < aN A := by omega
    have hno : ∀ σ', zCt σ' (fb_ct (ly1 A) t) (fun x => if x < t ∧ ly1 A x = true then 1 else 0) → ly1 A t = false → zCt σ' (fb_ct (ly1 A) (t + 1)) (fun x => if x < t + 1 ∧ ly1 A x = true then 1 else 0) := by
      intro σ' c h
      refine ⟨by rw [c.1, fb_ct_succ, h]; rfl, fun x hx => ?_⟩
      rw [c.2 x hx]
      by_cases z : x = t
      · subst z; simp [h]
      · by_cases z2 : x < t
        · simp [z2, show x < t + 1 by omega]
        · simp [z2, show ¬ x < t + 1 by omega]
    refine T_X12_seekLiars_67 ⟨fun g => ?_, fun _ => S_X12_mayLie hW hR2 htN ⟨fun g => ?_, fun g => ?_⟩⟩
    · rw [hR2.1.2.2.1, nI_leI (by omega) (by omega)] at g
      omega
    · rw [zb_0, Bool.not_eq_true] at g
      rw [← nI_succ]
      exact ih (t + 1) (by omega) σ ho e68 hl (hno σ hC (by unfold ly1; rw [g, Bool.false_and]))
    · rw [zb_0, Decidable.not_not] at g
      rw [← iI_nat, show ((-1 : Int32)) = iI (-1) from rfl]
      refine S_X12_isQuietWithout hW hR2 hl (by omega) (by omega) (fun σ1 o1 l1 => ⟨fun g3 => ?_, fun g3 => S_X12_countSet (by omega) (by omega) (hC.only o1 ⟨by omega, fun k => by omega⟩) (fun σ2 o2 c2 => ?_)⟩)
      · rw [zb_0, Decidable.not_not] at g3
        rw [iI_add1, show ((t : Int) + 1) = ((t + 1 : Nat) : Int) from rfl, iI_nat]
        exact ih (t + 1) (by omega) σ1 (ho.tr (o1.mono (fun c j k h => Or.inl h))) (by rw [o1.i 54 0 68 (by omega)]; exact e68) l1 (hno σ1 (hC.only o1 ⟨by omega, fun k => by omega⟩) (by unfold ly1; rw [g3, Bool.not_true, Bool.and_false]))
      · rw [zb_0, Decidable.not_not, Bool.not_eq_true] at g3
        have h1 : ly1 A t = true := by unfold ly1; rw [g, g3]; rfl
        rw [iI_add1, show ((t : Int) + 1) = ((t + 1 : Nat) : Int) from rfl, iI_nat]
        refine ih (t + 1) (by omega) σ2 ((ho.tr (o1.mono (fun c j k h => Or.inl h))).tr (o2.mono (fun c j k h => by unfold zSm; omega))) (by rw [o2.i 54 0 68 (by omega), o1.i 54 0 68 (by omega)]; exact e68) (l1.only o2 (fun k => by omega)) ⟨?_, fun x hx => ?_⟩
        · rw [c2.1, fb_ct_succ, h1]; rfl
        · rw [c2.2 x hx]
          show nI ((if x < t ∧ ly1 A x = true then 1 else 0) + (if (x : Int) = (t : Int) then 1 else 0) + (if (x : Int) = -1 then 1 else 0)) = nI (if x < t + 1 ∧ ly1 A x = true then 1 else 0)
          rw [if_neg (show ¬ (x : Int) = -1 by omega), Nat.add_zero]
          by_cases z : x = t
          · subst z
            simp [h1]
          · rw [if_neg (show ¬ (x : Int) = (t : Int) by omega), Nat.add_zero]
            by_cases z2 : x < t
            · simp [z2, show x < t + 1 by omega]
            · simp [z2, show ¬ x < t + 1 by omega]
theorem L_X12_liar20 (hW : zWf A) {σ0 : zSt} (hR : zRM A σ0) (hQ : ∀ σ', zOnly zSm σ0 σ' → zLdI A σ' → zSe A σ' → Q none σ') : ∀ (n k : Nat), k + n = 24 → ∀ σ : zSt, zOnly zSm σ0 σ → zLdI A σ → zgi σ 54 0 69 = 0 → (∀ t, t < k → zgi σ 90 0 t = 0) → zE true (d + 9) kc ks M_X12_seekLiars 20 [some (.inr (.inr (54, 0))), some (.inl (nI k)), none] [] σ Q := by
  have hN : aN A ≤ 24 := hW.1.2.2.2.2.1
  intro n
  induction n with
  | zero =>
    intro k hk σ ho hl h69 hz
    have hR2 : zRM A σ := hR.only ho (fun c k hb => by unfold zBM at hb; unfold zSm; omega)
    have : k = 24 := by omega
    subst this
    have o2 : zOnly zSm σ (zsi σ 54 0 68 0) := zOnly.si (by unfold zSm; omega)
    have hR3 := hR2.only o2 (fun c k hb => by unfold zBM at hb; unfold zSm; omega)
    have hl3 : zLdI A (zsi σ 54 0 68 0) := hl.only (zOnly.si (m := fun c _ k => c = 54 ∧ k = 68) ⟨rfl, rfl⟩) (fun k => by omega)
    have c0 : zCt (zsi σ 54 0 68 0) 0 (fun _ => 0) := ⟨by rw [zgi_si, if_neg (by omega)]; exact h69, fun t ht => by rw [zgi_si, if_neg (by omega)]; exact hz t ht⟩
    have hall : quB A (lyU A (-1) (-1)) = quB A (mO A) := quB_cong (fun m hm => by
      unfold lyU
      have a1 : ¬ ((mA A m : Int) = -1) := by omega
      have a2 : ¬ ((mB A m : Int) = -1) := by omega
      simp [a1, a2])
    refine T_X12_seekLiars_20 ⟨fun _ => ?_, fun h => absurd (show (24 : Int32) ≤ nI 24 by decide) h⟩
    rw [show ((-1 : Int32)) = iI (-1) from rfl]
    refine S_X12_isQuietWithout hW hR3 hl3 (by omega) (by omega) (fun σ1 o1 l1 => ⟨fun g => ?_, fun g => S_X12_countSet (by omega) (by omega) (c0.only o1 ⟨by omega, fun k => by omega⟩) (fun σ2 o2' c2 => ?_)⟩)
    · rw [zb_0, Decidable.not_not, hall] at g
      have hR4 := hR3.only o1 (fun c k hb => by unfold zBM at hb; omega)
      have o4 : zOnly zSm σ1 (zsi σ1 54 0 68 1) := zOnly.si (by unfold zSm; omega)
      refine L_X12_liar67 (A := A) hW (hR4.only o4 (fun c k hb => by unfold zBM at hb; unfold zSm; omega)) g (fun σ' o3 l3 s3 => hQ σ' ((((ho.tr o2).tr (o1.mono (fun c j k h => Or.inl h))).tr o4).tr o3) l3 s3) (aN A) 0 (by omega) _ zOnly.rf (by rw [zgi_si, if_pos ⟨rfl, rfl, rfl⟩]) (l1.only (zOnly.si (m := fun c _ k => c = 54 ∧ k = 68) ⟨rfl, rfl⟩) (fun k => by omega)) ?_
      have c1 := (c0.only o1 ⟨by omega, fun k => by omega⟩).only (zOnly.si (m := fun c _ k => c = 54 ∧ k = 68) (σ := σ1) (j := 0) (x := 1) ⟨rfl, rfl⟩) ⟨by omega, fun k => by omega⟩
      refine ⟨c1.1, fun x hx => ?_⟩
      rw [c1.2 x hx]
      simp
    · rw [zb_0, Decidable.not_not, hall, Bool.not_eq_true] at g
      have er : lyR A = (0, 1, fun _ => 0) := by
        unfold lyR
        rw [if_pos g]
      refine hQ σ2 (((ho.tr o2).tr (o1.mono (fun c j k h => Or.inl h))).tr (o2'.mono (fun c j k h => by unfold zSm; omega))) (l1.only o2' (fun k => by omega)) ⟨?_, fun _ => ⟨?_, fun t ht => ?_⟩⟩
      · rw [o2'.i 54 0 68 (by omega), o1.i 54 0 68 (by omega), zgi_si, if_pos ⟨rfl, rfl, rfl⟩, er]; rfl
      · rw [c2.1, er]
      · rw [c2.2 t (by omega), er]
        show nI (0 + (if (t : Int) = -1 then 1 else 0) + (if (t : Int) = -1 then 1 else 0)) = nI 0
        rw [if_neg (show ¬ (t : Int) = -1 by omega)]
  | succ n ih =>
    intro k hk σ ho hl h69 hz
    refine T_X12_seekLiars_20 ⟨fun g => ?_, fun _ => ?_⟩
    · rw [show (24 : Int32) = nI 24 from rfl, nI_leI (by omega) (by omega)] at g
      omega
    · rw [nI_clamp (show k < 2 ^ 31 by omega), ← nI_succ]
      refine ⟨nI_in (by omega) (by omega), ih (k + 1) (by omega) _ (ho.tr (zOnly.si (by unfold zSm; omega))) (hl.only (zOnly.si (m := fun c _ _ => c = 90) rfl) (fun k => by omega)) (by rw [zgi_si, if_neg (by omega)]; exact h69) (fun t ht => ?_)⟩
      rw [zgi_si]
      by_cases z : t = k
      · rw [if_pos ⟨rfl, rfl, z⟩]
      · rw [if_neg (fun w => z w.2.2)]
        exact hz t (by omega)
theorem S_X12_seekLiars {K : zSt → Prop} (hW : zWf A) (hR : zRM A σ) (hC : zCM A σ) (hK : ∀ σ', zOnly zQm σ σ' → zCM A σ' → zSe A σ' → K σ') : zCv true (d + 9) 0 0 M_X12_seekLiars [.inr (.inr (54, 0))] σ K := by
  refine zC_intro pl_X12 (Nat.le_of_ble_eq_true rfl) (T_X12_seekLiars_0 ⟨fun _ => ?_, fun g => ⟨rfl, hK σ zOnly.rf hC (hC.2.2.2 g)⟩⟩)
  have o0 : zOnly (fun c _ k => c = 54 ∧ (k = 27 ∨ k = 69)) σ (zsi (zsi σ 54 0 27 1) 54 0 69 0) := (zOnly.si ⟨rfl, Or.inl rfl⟩).tr (zOnly.si ⟨rfl, Or.inr rfl⟩)
  have hR0 : zRM A (zsi (zsi σ 54 0 27 1) 54 0 69 0) := hR.only o0 (fun c k hb => by unfold zBM at hb; omega)
  refine L_X12_liar20 (A := A) (Q := fun r σ' => r = none ∧ K σ') hW hR0 (fun σ1 o1 l1 s1 => ⟨rfl, ?_⟩) 24 0 rfl _ zOnly.rf (hC.1.only o0 (fun k => by omega)) (by rw [zgi_si, if_pos ⟨rfl, rfl, rfl⟩]) (fun t ht => absurd ht (Nat.not_lt_zero t))
  have oo : zOnly (fun c j k => zSm c j k ∨ (c = 54 ∧ k = 27)) σ σ1 := (o0.mono (fun c j k h => by unfold zSm; omega)).tr (o1.mono (fun c j k h => Or.inl h))
  exact hK σ1 (oo.mono (fun c j k h => by unfold zSm at h; unfold zQm; omega)) ⟨l1, hC.2.1.only oo ⟨by unfold zSm; omega, fun k => by unfold zSm; omega⟩, hC.2.2.1.only oo ⟨by unfold zSm; omega, by unfold zSm; omega, fun k => by unfold zSm; omega⟩, fun _ => s1⟩ s1
theorem lyR_1 (A : zAb) : (lyR A).1 = 0 ∨ (lyR A).1 = 1 ∨ (lyR A).1 = 2 ∨ (lyR A).1 = -9 := by
  unfold lyR
  split
  · exact Or.inl rfl
  · split
    · exact Or.inr (Or.inl rfl)
    · show (if _ then (2 : Int) else -9) = 0 ∨ (if _ then (2 : Int) else -9) = 1 ∨ (if _ then (2 : Int) else -9) = 2 ∨ (if _ then (2 : Int) else -9) = -9
      split <;> simp
theorem lyR_2 (A : zAb) (hN : aN A ≤ 24) : (lyR A).2.1 ≤ 576 := by
  unfold lyR
  split
  · show 1 ≤ 576; omega
  · split
    · have := fb_ct_le (ly1 A) (aN A)
      show fb_ct (ly1 A) (aN A) ≤ 576
      omega
    · exact lyS_le (A := A) (aN A) hN hN
theorem lyR_3 (A : zAb) (hN : aN A ≤ 24) (t : Nat) : (lyR A).2.2 t ≤ 576 := by
  unfold lyR
  split
  · show 0 ≤ 576; omega
  · split
    · show (if _ then 1 else 0) ≤ 576
      split <;> omega
    · have := fb_sm_bound (f := fun u => lyQ A t u (aN A)) (c := 24) (n := aN A) (fun k _ => Nat.le_trans (fb_ct_le _ (aN A)) hN)
      show fb_sm (fun u => lyQ A t u (aN A)) (aN A) ≤ 576
      have := Nat.mul_le_mul_right 24 hN
      omega
noncomputable def lyV (A : zAb) (e : Int32) : Int32 := if (lyR A).1 = -9 ∨ e = 0 then iI (lyR A).1 else nI (lyR A).2.1
theorem O_X12_liars {K : Int32 → zSt → Prop} (hW : zWf A) (hR : zRM A σ) (hC : zCM A σ) (e : Int32) (hout : ¬ (e = 0 ∨ e = 1) → K (-2) σ) (hyes : (e = 0 ∨ e = 1) → ∀ σ', zOnly zQm σ σ' → zCM A σ' → K (lyV A e) σ') : zCi true (d + 10) 0 0 M_X12_liars [.inr (.inr (54, 0)), .inl (e)] σ K := by
  have he : (0 ≤ e.toInt64 ∧ e.toInt64 ≤ 1) ↔ (e = 0 ∨ e = 1) := by
    have h2 : (0 ≤ e.toInt64 ∧ e.toInt64 ≤ 1) ↔ (((0 : Nat) : Int) ≤ e.toInt ∧ e.toInt ≤ ((1 : Nat) : Int)) := zin_c e (l := 0) (h := 1) (by omega) (by omega)
    have e0 : (0 : Int32).toInt = 0 := rfl
    have e1 : (1 : Int32).toInt = 1 := rfl
    rw [h2, ← Int32.toInt_inj, ← Int32.toInt_inj, e0, e1]
    omega
  refine zC_intro pl_X12 (Nat.le_of_ble_eq_true rfl) (T_X12_liars_0 ⟨fun h => S_X12_seekLiars hW hR hC (fun σ' o1 c1 s1 => ?_), fun h => ⟨_, rfl, hout ?_⟩⟩)
  · rw [zb_0, Decidable.not_not, he] at h
    have hy := hyes h σ' o1 c1
    have r1 := lyR_1 A
    have hc : (zgi σ' 54 0 68 < 0) ↔ (lyR A).1 = -9 := by
      rw [s1.1]
      have := iI_lt (a := (lyR A).1) (b := 0) (by omega) (by omega)
      rw [show (0 : Int32) = iI 0 from rfl, this]
      omega
    refine ⟨fun g => ⟨_, rfl, ?_⟩, fun g => ⟨_, rfl, ?_⟩⟩
    · rw [hc] at g
      rw [s1.1]
      unfold lyV at hy
      rw [if_pos g] at hy
      exact hy
    · rw [hc] at g
      rw [(s1.2 (fun z => g (Or.inl z))).1]
      unfold lyV at hy
      rw [if_neg g] at hy
      exact hy
  · rw [zb_0, he] at h
    exact h
noncomputable def lsV (A : zAb) (t : Nat) : Int32 := if (lyR A).1 = -9 then -9 else if (lyR A).2.2 t = 0 then 0 else if (lyR A).2.2 t = (lyR A).2.1 then 2 else 1
theorem O_X12_lies {K : Int32 → zSt → Prop} (hW : zWf A) (hR : zRM A σ) (hC : zCM A σ) (a : Int32) (hno : ¬ tI A a = true → K (-1) σ) (hyes : ∀ t, t < aN A → a = nI t → ∀ σ', zOnly zQm σ σ' → zCM A σ' → K (lsV A t) σ') : zCi true (d + 10) 0 0 M_X12_lies [.inr (.inr (54, 0)), .inl (a)] σ K := by
  have hN : aN A ≤ 24 := hW.1.2.2.2.2.1
  refine zC_intro pl_X12 (Nat.le_of_ble_eq_true rfl) (T_X12_lies_0 (S_X12_noThing hW hR a ⟨fun h => ?_, fun h => ⟨_, rfl, hno ?_⟩⟩))
  · rw [zb_0, Decidable.not_not] at h
    obtain ⟨t, ht, rfl⟩ := tI_nI h
    refine S_X12_seekLiars hW hR hC (fun σ' o1 c1 s1 => ⟨fun _ => nI_in (by omega) (by omega), fun _ _ => nI_in (by omega) (by omega), fun x hx => ⟨_, rfl, ?_⟩⟩)
    have hy := hyes t ht rfl σ' o1 c1
    have r1 := lyR_1 A
    have hc : (0 ≤ zgi σ' 54 0 68) ↔ ¬ (lyR A).1 = -9 := by
      rw [s1.1]
      have := iI_le (a := 0) (b := (lyR A).1) (by omega) (by omega)
      rw [show (0 : Int32) = iI 0 from rfl, this]
      omega
    have ex : x = lsV A t := by
      unfold lsV
      rw [hx, nI_clamp (show t < 2 ^ 31 by omega)]
      by_cases z : (lyR A).1 = -9
      · rw [if_neg (fun q => hc.mp q z), if_pos z]
      · obtain ⟨s2, s3⟩ := s1.2 z
        rw [if_pos (hc.mpr z), if_neg z, s3 t ht, s2]
        have b3 := lyR_3 A hN t
        have b2 := lyR_2 A hN
        have c1 : nI ((lyR A).2.2 t) = 0 ↔ (lyR A).2.2 t = 0 := nI_eq (b := 0) (by omega) (by omega)
        have c2 : nI ((lyR A).2.2 t) = nI (lyR A).2.1 ↔ (lyR A).2.2 t = (lyR A).2.1 := nI_eq (by omega) (by omega)
        by_cases z1 : (lyR A).2.2 t = 0
        · rw [if_neg (fun q => q (c1.mpr z1)), if_pos z1]
        · rw [if_pos (fun q => z1 (c1.mp q)), if_neg z1]
          by_cases z2 : (lyR A).2.2 t = (lyR A).2.1
          · rw [if_neg (fun q => q (c2.mpr z2)), if_pos z2]
          · rw [if_pos (fun q => z2 (c2.mp q)), if_neg z2]
    rw [ex]
    exact hy
  · rw [zb_0, Decidable.not_not] at h
    exact h
end zMd
