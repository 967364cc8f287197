/-! placings, nth, sure, could, together, ask, between, take (reference) -/
/-- the first best of some numbers -/
def bsN (f : Nat → Nat) : Nat → Nat
  | 0 => 0
  | n + 1 => if f n < f (bsN f n) then n else bsN f n
/-- the greatest of some numbers -/
def mxN (f : Nat → Nat) : Nat → Nat
  | 0 => 0
  | n + 1 => if mxN f n ≤ f n then f n else mxN f n
theorem bsN_lt {f : Nat → Nat} : ∀ {n : Nat}, 0 < n → bsN f n < n
  | 0, h => absurd h (Nat.lt_irrefl 0)
  | n + 1, _ => by
    unfold bsN
    split
    · omega
    · cases n with
      | zero => unfold bsN; omega
      | succ n => have := bsN_lt (f := f) (n := n + 1) (by omega); omega
theorem mxN_le {f : Nat → Nat} {b : Nat} (h : ∀ i, f i ≤ b) : ∀ n, mxN f n ≤ b
  | 0 => Nat.zero_le _
  | n + 1 => by
    unfold mxN
    split
    · exact h n
    · exact mxN_le h n
/-- a group's answers: what is asked of its placings F, with G members -/
noncomputable def plV (A : zAb) (t : Nat) : Int32 := nI (plF A t).length
noncomputable def suV (A : zAb) (t i : Nat) : Int := if 0 < (plF A t).length then zfst (fun c => decide (cnO (plF A t) i c = (plF A t).length)) 64 else -9
noncomputable def coV (A : zAb) (t i : Nat) : Nat := fb_ct (fun c => decide (0 < cnO (plF A t) i c)) 64
noncomputable def woV (A : zAb) (t i : Nat) : Nat := mxN (cnO (plF A t) i) 64
noncomputable def btV (A : zAb) (t k : Nat) : Nat := mxN (cnD (plF A t) (k / 9) (k % 9)) 99
/-- the first best pair: over i, then over j from i + 1 -/
noncomputable def bpJ (A : zAb) (t i : Nat) : Nat → Option Nat → Option Nat
  | 0, b => b
  | n + 1, b => bpJ A t i n (match b with | none => some (9 * i + (gn A t - (n + 1))) | some k => if btV A t (9 * i + (gn A t - (n + 1))) < btV A t k then some (9 * i + (gn A t - (n + 1))) else some k)
noncomputable def bpI (A : zAb) (t : Nat) : Nat → Option Nat → Option Nat
  | 0, b => b
  | n + 1, b => bpI A t n (bpJ A t (gn A t - (n + 1)) (gn A t - (gn A t - (n + 1)) - 1) b)
section zMs2
variable {d kc ks : Nat} {σ : zSt} {A : zAb} {Q : Option zV → zSt → Prop}
abbrev zSqr (c j k : Nat) : Prop := zSqq c j k ∨ (c = 54 ∧ (k = 42 ∨ k = 49 ∨ k = 50 ∨ k = 51))
abbrev zSqn (c j k : Nat) : Prop := zSqq c j k ∨ (c = 54 ∧ (k = 49 ∨ k = 50 ∨ k = 51))
theorem plF_le {t : Nat} (h : ¬ spB A t) : (plF A t).length ≤ 60000 := by
  have := List.length_filterMap_le id (evT A t)
  unfold spB at h
  unfold plF
  omega
theorem O_X12_placings {K : Int32 → zSt → Prop} (hW : zWf A) (hR : zRM A σ) (hC : zCM A σ) (a : Int32) (hno : ¬ tI A a = true → K (-1) σ) (hyes : ∀ t, t < aN A → a = nI t → ∀ σ', zOnly zSqr σ σ' → zCM A σ' → (spB A t → zgi σ' 54 0 42 = (if 9 < gn A t then 0 else 60000) → K (-6) σ') ∧ (¬ spB A t → zgi σ' 54 0 42 = nI (evT A t).length → K (plV A t) σ')) : zCi true (d + 11) 0 0 M_X12_placings [.inr (.inr (54, 0)), .inl (a)] σ K := by
  refine zC_intro pl_X12 (Nat.le_of_ble_eq_true rfl) (T_X12_placings_0 (S_X12_noThing hW hR a ⟨fun h => ?_, fun h => ⟨_, rfl, hno ?_⟩⟩))
  · rw [zb_0, Decidable.not_not] at h
    obtain ⟨t, ht, rfl⟩ := tI_nI h
    rw [show (-1 : Int32) = iI (-1) from rfl]
    refine S_X12_searchFor hW hR ht hC (by omega) (fun x σ' o1 c1 s1 _ y hy => ⟨_, rfl, ?_⟩)
    have o2 : zOnly (fun c _ k => c = 54 ∧ k = 42) σ' (zsi σ' 54 0 42 (zgi σ' 54 0 41)) := zOnly.si ⟨rfl, rfl⟩
    have h2 := hyes t ht rfl _ ((o1.mono (fun c j k h => Or.inl h)).tr (o2.mono (fun c j k h => Or.inr (by omega)))) (c1.only o2 (fun c k h => by unfold zQm at h; omega))
    have e42 : zgi (zsi σ' 54 0 42 (zgi σ' 54 0 41)) 54 0 42 = zgi σ' 54 0 41 := by rw [zgi_si, if_pos ⟨rfl, rfl, rfl⟩]
    rcases s1.2 with ⟨rfl, q1, q2, q3, q4⟩ | ⟨rfl, q1, q2⟩
    · rw [hy, if_neg (by decide), q3.1]
      exact h2.2 q1 (by rw [e42, q2])
    · rw [hy, if_pos rfl]
      exact h2.1 q1 (by rw [e42, q2])
  · rw [zb_0, Decidable.not_not] at h
    exact h
theorem O_X12_trials {ph : Bool} {K : Int32 → zSt → Prop} (hK : K (zgi σ 54 0 42) σ) : zCi ph (d + 1) 0 0 M_X12_trials [.inr (.inr (54, 0))] σ K := zC_intro pl_X12 (Nat.le_of_ble_eq_true rfl) (T_X12_trials_0 ⟨_, rfl, hK⟩)
theorem O_X12_nth {K : Int32 → zSt → Prop} (hW : zWf A) (hR : zRM A σ) (hC : zCM A σ) (a b : Int32) (hno : ¬ (tI A a = true ∧ 0 ≤ b.toInt) → K (-1) σ) (hyes : ∀ t n, t < aN A → a = nI t → b = nI n → n < 2147483648 → ∀ σ', zOnly zSqn σ σ' → zCM A σ' → (spB A t → K (-6) σ') ∧ (¬ spB A t → ((plF A t).length ≤ n → K (-1) σ') ∧ ∀ s, (plF A t)[n]? = some s → K (nI (s (fb_ct (grB A t) t))) σ')) : zCi true (d + 11) 0 0 M_X12_nth [.inr (.inr (54, 0)), .inl (a), .inl (b)] σ K := by
  have hN : aN A ≤ 24 := hW.1.2.2.2.2.1
  have b0 : (0 ≤ b) ↔ 0 ≤ b.toInt := by rw [Int32.le_iff_toInt_le]; rfl
  refine zC_intro pl_X12 (Nat.le_of_ble_eq_true rfl) (T_X12_nth_0 (S_X12_noThing hW hR a ⟨fun h => ⟨_, rfl, hno ?_⟩, fun h => ?_⟩))
  · rw [b0, zb_0] at h
    rintro ⟨q1, q2⟩
    rcases h with h | h
    · exact h (fun z => z q1)
    · exact h q2
  · rw [b0, zb_0] at h
    have h1 : tI A a = true := by
      by_cases z : tI A a = true
      · exact z
      · exact absurd (Or.inl (fun q => q z)) h
    have h2 : 0 ≤ b.toInt := Decidable.not_not.mp (fun z => h (Or.inr z))
    obtain ⟨t, ht, rfl⟩ := tI_nI h1
    have rb := fb_rng b
    obtain ⟨n, hn, rfl⟩ : ∃ n : Nat, n < 2147483648 ∧ b = nI n := ⟨b.toInt.toNat, by omega, zI_of h2⟩
    have gl := gn_le A t
    obtain ⟨m1, m2⟩ := mbr_of ht (gr_self A t)
    rw [← iI_nat n]
    refine S_X12_searchFor hW hR ht hC (by omega) (fun x σ' o1 c1 s1 _ => ⟨fun g => ?_, fun g => ⟨_, rfl, ?_⟩⟩)
    · have h2 := hyes t n ht rfl rfl hn σ' (o1.mono (fun c j k h => Or.inl h)) c1
      rcases s1.2 with ⟨rfl, q1, q2, q3, q4⟩ | ⟨rfl, q1, q2⟩
      · have h3 := h2.2 q1
        have hl := plF_le q1
        have cl : (zgi σ' 54 0 43 ≤ iI (n : Int)) ↔ (plF A t).length ≤ n := by rw [q3.1, iI_nat]; exact nI_leI (by omega) (by omega)
        rw [cl]
        refine ⟨fun z => ⟨_, rfl, h3.1 z⟩, fun z => S_X12_placeOf hW ht (gr_self A t) s1.1 ⟨?_, _, rfl, ?_⟩⟩
        · have : gn A t ≤ 9 := by unfold spB at q1; omega
          exact nI_in (by omega) (by omega)
        · rw [nI_clamp (by omega)]
          obtain ⟨s, hs⟩ : ∃ s, (plF A t)[n]? = some s := ⟨_, List.getElem?_eq_getElem (by omega)⟩
          rw [q3.2.2.2 (by omega) s (by rw [Int.toNat_natCast]; exact hs) _ m1]
          exact h3.2 s hs
      · exact absurd rfl g
    · have h2 := hyes t n ht rfl rfl hn σ' (o1.mono (fun c j k h => Or.inl h)) c1
      rcases s1.2 with ⟨rfl, q1, q2, q3, q4⟩ | ⟨rfl, q1, q2⟩
      · exact absurd g (by decide)
      · exact h2.1 q1
theorem L_X12_sure30 {t i : Nat} {F : List (Nat → Nat)} {w : Int} (h9 : gn A t ≤ 9) (hi : i < gn A t) (hF : F.length ≤ 60000) (hT : zTa A σ t w F) (hQ : Q (some (.inl (iI (if 0 < F.length then zfst (fun c => decide (cnO F i c = F.length)) 64 else -9)))) σ) : ∀ (n k : Nat), k + n = 64 → (0 < F.length → ∀ c, c < k → ¬ cnO F i c = F.length) → zE true (d + 11) kc ks M_X12_sure 30 [some (.inr (.inr (54, 0))), none, some (.inl (nI i)), some (.inl (nI k))] [] σ Q := by
  intro n
  induction n with
  | zero =>
    intro k hk h
    have : k = 64 := by omega
    subst this
    refine T_X12_sure_30 ⟨fun _ => ?_, fun h => absurd (show (64 : Int32) ≤ nI 64 by decide) h⟩
    by_cases z : 0 < F.length
    · rw [if_pos z, zfst_none.mpr (fun c hc => by rw [decide_eq_false_iff_not]; exact h z c hc)] at hQ
      exact hQ
    · rw [if_neg z] at hQ
      exact hQ
  | succ n ih =>
    intro k hk h
    have cle := cnO_le F i k
    have c0 : (zgi σ 54 0 43 ≤ 0) ↔ F.length ≤ 0 := by rw [hT.1]; exact nI_leI (b := 0) (by omega) (by omega)
    have c1 : (zgi σ 84 0 (64 * i + k) = zgi σ 54 0 43) ↔ cnO F i k = F.length := by rw [hT.1, hT.2.1 i hi k (by omega)]; exact nI_eq (by omega) (by omega)
    refine T_X12_sure_30 ⟨fun g => ?_, fun _ => ?_⟩
    · rw [show (64 : Int32) = nI 64 from rfl, nI_leI (by omega) (by omega)] at g
      omega
    · rw [e64, nI_clamp (show 64 * i + k < 2 ^ 31 by omega), ← nI_succ, c0, c1]
      refine ⟨fun _ => nI_in (by omega) (by omega), fun g => ih (k + 1) (by omega) (fun z c hc => ?_), fun g => ?_⟩
      · by_cases e : c = k
        · subst e
          exact g.resolve_left (by omega)
        · exact h z c (by omega)
      · have z : 0 < F.length := by
          have : ¬ F.length ≤ 0 := fun q => g (Or.inl q)
          omega
        have z2 : cnO F i k = F.length := Decidable.not_not.mp (fun q => g (Or.inr q))
        rw [if_pos z, zfst_some (k := k) (by rw [decide_eq_true_eq]; exact z2) (fun c hc => by rw [decide_eq_false_iff_not]; exact h z c hc) (by omega)] at hQ
        exact hQ
theorem O_X12_sure {K : Int32 → zSt → Prop} (hW : zWf A) (hR : zRM A σ) (hC : zCM A σ) (a : Int32) (hno : ¬ tI A a = true → K (-1) σ) (hyes : ∀ t, t < aN A → a = nI t → ∀ σ', zOnly zSqn σ σ' → zCM A σ' → (spB A t → K (-6) σ') ∧ (¬ spB A t → K (iI (suV A t (fb_ct (grB A t) t))) σ')) : zCi true (d + 11) 0 0 M_X12_sure [.inr (.inr (54, 0)), .inl (a)] σ K := by
  have hN : aN A ≤ 24 := hW.1.2.2.2.2.1
  refine zC_intro pl_X12 (Nat.le_of_ble_eq_true rfl) (T_X12_sure_0 (S_X12_noThing hW hR a ⟨fun h => ?_, fun h => ⟨_, rfl, hno ?_⟩⟩))
  · rw [zb_0, Decidable.not_not] at h
    obtain ⟨t, ht, rfl⟩ := tI_nI h
    obtain ⟨m1, m2⟩ := mbr_of ht (gr_self A t)
    rw [show (-1 : Int32) = iI (-1) from rfl]
    refine S_X12_searchFor hW hR ht hC (by omega) (fun x σ' o1 c1 s1 _ => ⟨fun g => ?_, fun g => ⟨_, rfl, ?_⟩⟩)
    · have h2 := hyes t ht rfl σ' (o1.mono (fun c j k h => Or.inl h)) c1
      rcases s1.2 with ⟨rfl, q1, q2, q3, q4⟩ | ⟨rfl, q1, q2⟩
      · have h3 := h2.2 q1
        have h9 : gn A t ≤ 9 := by unfold spB at q1; omega
        exact S_X12_placeOf hW ht (gr_self A t) s1.1 (L_X12_sure30 (A := A) (Q := fun r σ' => ∃ x, r = some (.inl x) ∧ K x σ') h9 m1 (plF_le q1) q3 ⟨_, rfl, h3⟩ 64 0 rfl (fun _ c hc => absurd hc (Nat.not_lt_zero c)))
      · exact absurd rfl g
    · have h2 := hyes t ht rfl σ' (o1.mono (fun c j k h => Or.inl h)) c1
      rcases s1.2 with ⟨rfl, q1, q2, q3, q4⟩ | ⟨rfl, q1, q2⟩
      · exact absurd g (by decide)
      · exact h2.1 q1
  · rw [zb_0, Decidable.not_not] at h
    exact h
theorem L_X12_cellsHad {t i : Nat} {F : List (Nat → Nat)} {w : Int} (h9 : gn A t ≤ 9) (hi : i < gn A t) (hF : F.length ≤ 60000) (hT : zTa A σ t w F) (hQ : Q (some (.inl (nI (fb_ct (fun c => decide (0 < cnO F i c)) 64)))) σ) : ∀ (n k : Nat), k + n = 64 → zE true (d + 1) kc ks M_X12_cellsHad 4 [some (.inr (.inr (54, 0))), some (.inl (nI i)), some (.inl (nI (fb_ct (fun c => decide (0 < cnO F i c)) k))), some (.inl (nI k))] [] σ Q := by
  intro n
  induction n with
  | zero =>
    intro k hk
    have : k = 64 := by omega
    subst this
    exact T_X12_cellsHad_4 ⟨fun _ => hQ, fun h => absurd (show (64 : Int32) ≤ nI 64 by decide) h⟩
  | succ n ih =>
    intro k hk
    have cle := cnO_le F i k
    refine T_X12_cellsHad_4 ⟨fun g => ?_, fun _ => ?_⟩
    · rw [show (64 : Int32) = nI 64 from rfl, nI_leI (by omega) (by omega)] at g
      omega
    · rw [e64, nI_clamp (show 64 * i + k < 2 ^ 31 by omega), hT.2.1 i hi k (by omega), ← nI_succ]
      refine ⟨nI_in (by omega) (by omega), fun x hx => ?_⟩
      have c0 : nI (cnO F i k) ≤ 0 ↔ cnO F i k ≤ 0 := nI_leI (b := 0) (by omega) (by omega)
      have ex : x = nI (if decide (0 < cnO F i k) = true then 1 else 0) := by
        rw [hx]
        by_cases z : 0 < cnO F i k
        · rw [if_neg (fun q => by have := c0.mp q; omega), if_pos (by rw [decide_eq_true_eq]; exact z)]; rfl
        · rw [if_pos (c0.mpr (by omega)), if_neg (by rw [decide_eq_true_eq]; exact z)]; rfl
      rw [ex, nI_add, ← fb_ct_succ (fun c => decide (0 < cnO F i c))]
      exact ih (k + 1) (by omega)
theorem O_X12_could {K : Int32 → zSt → Prop} (hW : zWf A) (hR : zRM A σ) (hC : zCM A σ) (a : Int32) (hno : ¬ tI A a = true → K (-1) σ) (hyes : ∀ t, t < aN A → a = nI t → ∀ σ', zOnly zSqn σ σ' → zCM A σ' → (spB A t → K (-6) σ') ∧ (¬ spB A t → K (nI (coV A t (fb_ct (grB A t) t))) σ')) : zCi true (d + 11) 0 0 M_X12_could [.inr (.inr (54, 0)), .inl (a)] σ K := by
  have hN : aN A ≤ 24 := hW.1.2.2.2.2.1
  refine zC_intro pl_X12 (Nat.le_of_ble_eq_true rfl) (T_X12_could_0 (S_X12_noThing hW hR a ⟨fun h => ?_, fun h => ⟨_, rfl, hno ?_⟩⟩))
  · rw [zb_0, Decidable.not_not] at h
    obtain ⟨t, ht, rfl⟩ := tI_nI h
    obtain ⟨m1, m2⟩ := mbr_of ht (gr_self A t)
    rw [show (-1 : Int32) = iI (-1) from rfl]
    refine S_X12_searchFor hW hR ht hC (by omega) (fun x σ' o1 c1 s1 _ => ⟨fun g => ⟨_, rfl, ?_⟩, fun g => ?_⟩)
    · have h2 := hyes t ht rfl σ' (o1.mono (fun c j k h => Or.inl h)) c1
      rcases s1.2 with ⟨rfl, q1, q2, q3, q4⟩ | ⟨rfl, q1, q2⟩
      · exact absurd g (by decide)
      · exact h2.1 q1
    · have h2 := hyes t ht rfl σ' (o1.mono (fun c j k h => Or.inl h)) c1
      rcases s1.2 with ⟨rfl, q1, q2, q3, q4⟩ | ⟨rfl, q1, q2⟩
      · have h3 := h2.2 q1
        have h9 : gn A t ≤ 9 := by unfold spB at q1; omega
        exact S_X12_placeOf hW ht (gr_self A t) s1.1 (zC_intro pl_X12 (Nat.le_of_ble_eq_true rfl) (T_X12_cellsHad_0 (L_X12_cellsHad (A := A) (Q := fun r σ' => ∃ x, r = some (.inl x) ∧ ∃ y, some (Sum.inl x : zV) = some (.inl y) ∧ K y σ') h9 m1 (plF_le q1) q3 ⟨_, rfl, _, rfl, h3⟩ 64 0 rfl)))
      · exact absurd rfl g
  · rw [zb_0, Decidable.not_not] at h
    exact h
end zMs2
