/-! desks that differ in the map, in ALONE, in trust alone; take (reference) -/
def zSa (A A' : zAb) : Prop := A'.1 = A.1 ∧ A'.2.1 = A.2.1 ∧ (∀ t, aC A' t = aC A t) ∧ (∀ c, aWl A' c = aWl A c) ∧ ∀ m, mO A' m = mO A m
section zSaS
variable {A A' : zAb}
theorem zSa.t_N (h : zSa A A') : aN A' = aN A := by unfold aN; rw [h.1]
theorem zSa.t_M (h : zSa A A') : aM A' = aM A := by unfold aM; rw [h.1]
theorem zSa.t_K (h : zSa A A') (t : Nat) : aK A' t = aK A t := by unfold aK; rw [h.2.1]
theorem zSa.t_mA (h : zSa A A') (t : Nat) : mA A' t = mA A t := by unfold mA; rw [h.2.1]
theorem zSa.t_mB (h : zSa A A') (t : Nat) : mB A' t = mB A t := by unfold mB; rw [h.2.1]
theorem zSa.t_cell (h : zSa A A') (c : Nat) : acell A' c = acell A c := by unfold acell aW aH; rw [h.1]
theorem zSa.t_free (h : zSa A A') (c : Nat) : afree A' c = afree A c := by unfold afree; rw [h.t_cell, h.2.2.2.1]
theorem zSa.t_told (h : zSa A A') (t c : Nat) : atold A' t c = atold A t c := by
  unfold atold abox aX1 aX2 aY1 aY2
  rw [h.t_K, h.t_free, h.2.2.1, h.2.1]
theorem zSa.t_kept (h : zSa A A') (m : Nat) : kept A' m = kept A m := kept_of h.t_cell h.t_free (by unfold mK; rw [h.2.1]) (by unfold mP; rw [h.2.1]) (by unfold mQ; rw [h.2.1])
theorem zSa.t_sb (h : zSa A A') {u : Nat → Bool} {X : Nat → Nat → Prop} (hx : zSb A u X) : zSb A' u X := by
  obtain ⟨h1, h2⟩ := hx
  refine ⟨fun t c q => ?_, fun m hm hu => ?_⟩
  · rw [h.t_N, h.t_told]; exact h1 t c q
  · rw [h.t_M] at hm
    rw [h.t_mA, h.t_mB, h.t_kept]
    exact h2 m hm hu
theorem zSa.t_symm (h : zSa A A') : zSa A' A := ⟨h.1.symm, h.2.1.symm, fun t => (h.2.2.1 t).symm, fun t => (h.2.2.2.1 t).symm, fun t => (h.2.2.2.2 t).symm⟩
theorem zSa.t_gN (h : zSa A A') {u : Nat → Bool} {t c : Nat} : gN A' u t c ↔ gN A u t c := ⟨fun ⟨X, q, x⟩ => ⟨X, h.t_symm.t_sb q, x⟩, fun ⟨X, q, x⟩ => ⟨X, h.t_sb q, x⟩⟩
theorem zSa.t_gB (h : zSa A A') (u : Nat → Bool) (t c : Nat) : gB A' u t c = gB A u t c := Bool.eq_iff_iff.mpr (by rw [gB_iff, gB_iff]; exact h.t_gN)
theorem zSa.t_qu (h : zSa A A') {u : Nat → Bool} : zqu A' u ↔ zqu A u := by
  unfold zqu
  rw [h.t_N]
  exact ⟨fun ⟨t, a, b⟩ => ⟨t, a, fun c q => b c (h.t_gN.mpr q)⟩, fun ⟨t, a, b⟩ => ⟨t, a, fun c q => b c (h.t_gN.mp q)⟩⟩
theorem zSa.t_quB (h : zSa A A') (u : Nat → Bool) : quB A' u = quB A u := Bool.eq_iff_iff.mpr (by rw [quB_iff, quB_iff]; exact h.t_qu)
theorem zSa.t_mO (h : zSa A A') : mO A' = mO A := funext h.2.2.2.2
theorem zSa.t_lqU (h : zSa A A') : ∀ k, lqU A' k = lqU A k
  | 0 => h.t_mO
  | k + 1 => by
    funext m
    show (if m = k then _ else _) = (if m = k then _ else _)
    rw [zSa.t_lqU h k, h.t_mO, h.t_quB]
theorem zSa.t_lqB (h : zSa A A') (m : Nat) : lqB A' m = lqB A m := by
  unfold lqB
  rw [h.t_quB, h.t_mO, h.t_lqU, h.t_M]
theorem zSa.t_lqN (h : zSa A A') : lqN A' = lqN A := by
  unfold lqN
  rw [h.t_quB, h.t_mO, h.t_M, show lqB A' = lqB A from funext h.t_lqB]
theorem zSa.t_lyM (h : zSa A A') (ht : ∀ t, aTr A' t = aTr A t) (t : Nat) : lyM A' t = lyM A t := by
  unfold lyM
  rw [h.t_K, ht]
theorem zSa.t_lyU (h : zSa A A') (a b : Int) : lyU A' a b = lyU A a b := by
  funext m
  unfold lyU
  rw [h.t_mO, h.t_mA, h.t_mB]
theorem zSa.t_lyR (h : zSa A A') (ht : ∀ t, aTr A' t = aTr A t) : lyR A' = lyR A := by
  have h1 : ly1 A' = ly1 A := funext fun t => by unfold ly1; rw [h.t_lyM ht, h.t_quB, h.t_lyU]
  have h2 : ∀ t u, ly2 A' t u = ly2 A t u := fun t u => by unfold ly2; rw [h.t_lyM ht, h.t_lyM ht, h.t_quB, h.t_lyU]
  have h3 : ∀ t k, lyP A' t k = lyP A t k := fun t k => by unfold lyP; simp only [h2]
  have h4 : ∀ x t k, lyQ A' x t k = lyQ A x t k := fun x t k => by unfold lyQ; simp only [h2]
  unfold lyR
  rw [h.t_quB, h.t_mO, h1, h.t_N]
  simp only [h3, h4]
theorem zSa.t_cm (h : zSa A A') (ht : ∀ t, aTr A' t = aTr A t) {σ : zSt} (hC : zCM A σ) : zCM A' σ := by
  obtain ⟨c1, c2, c3, c4⟩ := hC
  refine ⟨fun m hm hz c hc => ?_, fun hz t ht' => ?_, fun hz => ?_, fun hz => ?_⟩
  · rw [h.t_M] at hm
    rw [h.t_kept]
    exact c1 m hm hz c hc
  · rw [h.t_N] at ht'
    rw [h.t_mO, show gB A' (mO A) t = gB A (mO A) t from funext (h.t_gB _ t)]
    exact c2 hz t ht'
  · rw [h.t_lqN, h.t_M]
    simp only [h.t_lqB]
    exact c3 hz
  · rw [h.t_lyR ht, h.t_N]
    exact c4 hz
theorem sm_map (A : zAb) (f : Nat → Int) : zSa A (mpS A f) := ⟨rfl, rfl, fun t => by simp [aC, mpS], fun _ => rfl, fun _ => rfl⟩
theorem sm_as2 (A : zAb) (t : Nat) (z : Int) : zSa A (as2 A 3 t z) := ⟨rfl, rfl, fun t => by simp [aC, as2], fun _ => rfl, fun _ => rfl⟩
theorem sm_al (A : zAb) (v : Bool) : zSa A (as3 A 3 0 v) := ⟨rfl, rfl, fun _ => rfl, fun c => as3_ne (by omega), fun m => as3_ne (by omega)⟩
theorem sm_tr (A : zAb) (t : Nat) (v : Bool) : zSa A (as3 A 1 t v) := ⟨rfl, rfl, fun _ => rfl, fun c => as3_ne (by omega), fun m => as3_ne (by omega)⟩
/-- the desk stays in order -/
theorem zSa.t_wf (h : zSa A A') (hW : zWf A) (hm : ∀ t, t < aN A → aMp A' t = -9 ∨ ∃ c : Nat, aMp A' t = (c : Int) ∧ acell A c = true) (ho : ∀ t, aMo A' t = aMo A t) (hi : ∀ t, aTi A' t = aTi A t) : zWf A' := by
  obtain ⟨h1, h2, h3, h4⟩ := hW
  have e1 := h.1
  have e2 := h.2.1
  refine ⟨?_, fun t ht => ?_, fun m hm' => ?_, fun v hv => ?_⟩
  · unfold aW aH aN aM aV at h1 ⊢
    rw [e1]; exact h1
  · rw [h.t_N] at ht
    obtain ⟨q1, q2, q3, q4, q5, q6, q7, q8, q9, q10⟩ := h2 t ht
    have f1 : aX1 A' t = aX1 A t := by unfold aX1; rw [e2]
    have f2 : aX2 A' t = aX2 A t := by unfold aX2; rw [e2]
    have f3 : aY1 A' t = aY1 A t := by unfold aY1; rw [e2]
    have f4 : aY2 A' t = aY2 A t := by unfold aY2; rw [e2]
    rw [h.t_K, h.2.2.1, f1, f2, f3, f4, ho, hi]
    simp only [h.t_free, h.t_cell]
    exact ⟨q1, q2, q3, q4, q5, q6, q7, hm t ht, q9, q10⟩
  · rw [h.t_M] at hm'
    have := h3 m hm'
    rw [h.t_mA, h.t_mB, h.t_N]
    unfold mK mP mQ at this ⊢
    rw [e2]
    exact this
  · unfold aV at hv
    rw [e1] at hv
    have := h4 v hv
    rw [h.t_N]
    unfold vT vF vR at this ⊢
    rw [e2]
    exact this
end zSaS
section zMu
variable {d kc ks : Nat} {σ : zSt} {A : zAb} {Q : Option zV → zSt → Prop}
theorem gB_cell {u : Nat → Bool} (hW : zWf A) {t c : Nat} (h : gB A u t c = true) : acell A c = true := by
  have := ((gN_sb A u).1 t c (gB_iff.mp h))
  obtain ⟨h1, h2, h3⟩ := this
  unfold atold at h3
  split at h3
  · next hk =>
    rw [decide_eq_true_eq] at h3
    obtain ⟨x, ex, hx⟩ := (hW.2.1 t h1).2.1 hk
    rw [ex] at h3
    have : c = x := by omega
    rw [this]
    unfold afree at hx
    rw [Bool.and_eq_true] at hx
    exact hx.1
  · rw [Bool.and_eq_true] at h3
    unfold afree at h3
    rw [Bool.and_eq_true] at h3
    exact h3.1.1
/-- a placing's members stand on cells that are left to them -/
theorem evC_mem {cs st : Nat → Bool} {nx : Nat → zEv} {x : Option (Nat → Nat)} : ∀ {k : Nat}, k ≤ 64 → x ∈ evC cs st nx k → x = none ∨ ∃ c, c < 64 ∧ cs c = true ∧ st c = true ∧ x ∈ nx c
  | 0, _, h => by simp [evC] at h
  | k + 1, hk, h => by
    unfold evC at h
    rw [List.mem_append] at h
    rcases h with h | h
    · split at h
      · next h1 =>
        split at h
        · next h2 => exact Or.inr ⟨63 - k, by omega, h1, h2, h⟩
        · simp at h; exact Or.inl h
      · simp at h
    · exact evC_mem (by omega) h
theorem evs_mem {t : Nat} : ∀ (r d : Nat) (s : Nat → Nat) (k : Nat), k ≤ 64 → r = gn A t - d → (∀ i, i < d → gB A (mO A) (mbr A t i) (s i) = true) → ∀ x, some x ∈ evs A t r d s k → ∀ i, i < gn A t → gB A (mO A) (mbr A t i) (x i) = true
  | 0, d, s, k, _, _, _, x, h => by simp [evs] at h
  | r + 1, d, s, k, hk, hr, hs, x, h => by
    unfold evs at h
    rcases evC_mem hk h with q | ⟨c, hc, h1, h2, h3⟩
    · cases q
    · have hz : ∀ i, i < d + 1 → gB A (mO A) (mbr A t i) (zup s d c i) = true := fun i hi => by
        unfold zup
        by_cases e : i = d
        · rw [if_pos e, e]; exact h1
        · rw [if_neg e]; exact hs i (by omega)
      by_cases e : r = 0
      · rw [if_pos e] at h3
        simp at h3
        rw [h3]
        intro i hi
        exact hz i (by omega)
      · rw [if_neg e] at h3
        simp at h3
        exact evs_mem r (d + 1) (zup s d c) 64 (by omega) (by omega) hz x h3
theorem plF_mem {t : Nat} {s : Nat → Nat} (h : s ∈ plF A t) : ∀ i, i < gn A t → gB A (mO A) (mbr A t i) (s i) = true := by
  unfold plF at h
  rw [List.mem_filterMap] at h
  obtain ⟨o, h1, h2⟩ := h
  simp at h2
  subst h2
  exact evs_mem (gn A t) 0 _ 64 (by omega) (by omega) (fun i hi => absurd hi (Nat.not_lt_zero i)) s h1
theorem aTake_wf (hW : zWf A) {t : Nat} {s : Nat → Nat} (h : s ∈ plF A t) : zWf (aTake A t s) := by
  refine (sm_map A _).t_wf hW (fun u hu => ?_) (fun _ => by simp [aMo, aTake, mpS]) (fun _ => by simp [aTi, aTake, mpS])
  show (if u < aN A ∧ grB A t u = true then (s (fb_ct (grB A t) u) : Int) else aMp A u) = -9 ∨ ∃ c : Nat, (if u < aN A ∧ grB A t u = true then (s (fb_ct (grB A t) u) : Int) else aMp A u) = (c : Int) ∧ acell A c = true
  by_cases z : u < aN A ∧ grB A t u = true
  · rw [if_pos z]
    refine Or.inr ⟨_, rfl, ?_⟩
    exact gB_cell hW (plF_mem h _ (mbr_of hu (grB_iff.mp z.2)).1)
  · rw [if_neg z]
    exact (hW.2.1 u hu).2.2.2.2.2.2.2.1
theorem L_X12_take38 (hW : zWf A) {t : Nat} (ht : t < aN A) {s : Nat → Nat} (h9 : gn A t ≤ 9) {σ0 : zSt} (hR : zRM A σ0) (hG : zGm A σ0 t) (h86 : ∀ i, i < gn A t → zgi σ0 86 0 i = nI (s i)) (hQ : ∀ σ', zOnly (fun c _ _ => c = 62) σ0 σ' → zRM (aTake A t s) σ' → Q (some (.inl (nI (gn A t)))) σ') : ∀ (n k : Nat), k + n = gn A t → ∀ σ : zSt, zOnly (fun c _ _ => c = 62) σ0 σ → (∀ u, u < aN A → zgi σ 62 0 u = iI (if grB A t u = true ∧ fb_ct (grB A t) u < k then (s (fb_ct (grB A t) u) : Int) else aMp A u)) → zE true (d + 11) kc ks M_X12_take 38 [some (.inr (.inr (54, 0))), none, none, some (.inl (nI k))] [] σ Q := by
  have hN : aN A ≤ 24 := hW.1.2.2.2.2.1
  have gl := gn_le A t
  intro n
  induction n with
  | zero =>
    intro k hk σ ho hz
    have hG2 : zGm A σ t := hG.only ho ⟨by omega, fun k => by omega⟩
    have : k = gn A t := by omega
    subst this
    refine T_X12_take_38 ⟨fun _ => ?_, fun h => absurd (by rw [hG2.1]; exact Int32.le_refl _) h⟩
    rw [hG2.1]
    refine hQ σ ho ?_
    obtain ⟨⟨b1, b2, b3, b4, b5, b6, b7⟩, h2, h3, h4⟩ := hR
    refine ⟨⟨?_, ?_, ?_, ?_, ?_, ?_, fun c hc => ?_⟩, fun u hu => ?_, fun m hm => ?_, fun v hv => ?_⟩
    · rw [ho.i 54 0 1 (by omega)]; exact b1
    · rw [ho.i 54 0 2 (by omega)]; exact b2
    · rw [ho.i 54 0 4 (by omega)]; exact b3
    · rw [ho.i 54 0 12 (by omega)]; exact b4
    · rw [ho.i 54 0 19 (by omega)]; exact b5
    · rw [ho.i 54 0 23 (by omega)]; exact b6
    · rw [ho.i 55 0 c (by omega)]; exact b7 c hc
    · have hu' : u < aN A := hu
      obtain ⟨r1, r2, r3, r4, r5, r6, r7, r8, r9, r10⟩ := h2 u hu'
      rw [ho.i 56 0 _ (by omega), ho.i 57 0 _ (by omega), ho.i 58 0 _ (by omega), ho.i 58 0 _ (by omega), ho.i 58 0 _ (by omega), ho.i 58 0 _ (by omega), ho.i 59 0 _ (by omega), ho.i 60 0 _ (by omega), ho.i 61 0 _ (by omega)]
      refine ⟨r1, ?_, r3, r4, r5, r6, r7, ?_, ?_, ?_⟩
      · rw [r2]; simp [aC, aTake, mpS]
      · rw [r8]; simp [aMo, aTake, mpS]
      · rw [r9]; simp [aTi, aTake, mpS]
      · rw [hz u hu']
        show _ = iI (if u < aN A ∧ grB A t u = true then (s (fb_ct (grB A t) u) : Int) else aMp A u)
        congr 1
        by_cases z : grB A t u = true
        · rw [if_pos ⟨z, (mbr_of hu' (grB_iff.mp z)).1⟩, if_pos ⟨hu', z⟩]
        · rw [if_neg (fun q => z q.1), if_neg (fun q => z q.2)]
    · rw [ho.i 63 0 _ (by omega), ho.i 64 0 _ (by omega), ho.i 65 0 _ (by omega), ho.i 66 0 _ (by omega), ho.i 67 0 _ (by omega), ho.i 68 0 _ (by omega)]
      exact h3 m hm
    · rw [ho.i 69 0 _ (by omega), ho.i 70 0 _ (by omega), ho.i 71 0 _ (by omega)]
      exact h4 v hv
  | succ n ih =>
    intro k hk σ ho hz
    have hG2 : zGm A σ t := hG.only ho ⟨by omega, fun k => by omega⟩
    have bk := mbr_ok (A := A) (t := t) (i := k) (by omega)
    refine T_X12_take_38 ⟨fun g => ?_, fun _ => ?_⟩
    · rw [hG2.1, nI_leI (by omega) (by omega)] at g
      omega
    · rw [nI_clamp (show k < 2 ^ 31 by omega), hG2.2 k (by omega), nI_clamp (show mbr A t k < 2 ^ 31 by omega), ho.i 86 0 k (by omega), h86 k (by omega), ← nI_succ]
      refine ⟨nI_in (by omega) (by omega), nI_in (by omega) (by omega), nI_in (by omega) (by omega), ih (k + 1) (by omega) _ (ho.tr (zOnly.si rfl)) (fun u hu => ?_)⟩
      rw [zgi_si]
      by_cases z : u = mbr A t k
      · subst z
        rw [if_pos ⟨rfl, rfl, rfl⟩, bk.2.2, if_pos ⟨grB_iff.mpr bk.2.1, Nat.lt_succ_self k⟩, iI_nat]
      · rw [if_neg (fun q => z q.2.2), hz u hu]
        congr 1
        by_cases z2 : grB A t u = true
        · have hne : fb_ct (grB A t) u ≠ k := fun q => z (by rw [← q, (mbr_of hu (grB_iff.mp z2)).2])
          by_cases z3 : fb_ct (grB A t) u < k
          · rw [if_pos ⟨z2, z3⟩, if_pos ⟨z2, by omega⟩]
          · rw [if_neg (fun q => z3 q.2), if_neg (fun q => by omega)]
        · rw [if_neg (fun q => z2 q.1), if_neg (fun q => z2 q.1)]
theorem O_X12_take {K : Int32 → zSt → Prop} (hW : zWf A) (hR : zRM A σ) (hC : zCM A σ) (a b : Int32) (hno : ¬ (tI A a = true ∧ 0 ≤ b.toInt) → K (-1) σ) (hyes : ∀ t n, t < aN A → a = nI t → b = nI n → n < 2147483648 → (spB A t → ∀ σ', zOnly zSqn σ σ' → zCM A σ' → K (-6) σ') ∧ (¬ spB A t → ((plF A t).length ≤ n → ∀ σ', zOnly zSqn σ σ' → zCM A σ' → K (-1) σ') ∧ ∀ s, (plF A t)[n]? = some s → ∀ σ', zOnly (fun c j k => zSqn c j k ∨ c = 62) σ σ' → zRM (aTake A t s) σ' → zCM (aTake A t s) σ' → K (nI (gn A t)) σ')) : zCi true (d + 11) 0 0 M_X12_take [.inr (.inr (54, 0)), .inl (a), .inl (b)] σ K := by
  have hN : aN A ≤ 24 := hW.1.2.2.2.2.1
  have b0 : (0 ≤ b) ↔ 0 ≤ b.toInt := by rw [Int32.le_iff_toInt_le]; rfl
  refine zC_intro pl_X12 (Nat.le_of_ble_eq_true rfl) (T_X12_take_0 (S_X12_noThing hW hR a ⟨fun h => ⟨_, rfl, hno ?_⟩, fun h => ?_⟩))
  · rw [b0, zb_0] at h
    rintro ⟨q1, q2⟩
    rcases h with h | h
    · exact h (fun z => z q1)
    · exact h q2
  · rw [b0, zb_0] at h
    have h1 : tI A a = true := by
      by_cases z : tI A a = true
      · exact z
      · exact absurd (Or.inl (fun q => q z)) h
    have h2 : 0 ≤ b.toInt := Decidable.not_not.mp (fun z => h (Or.inr z))
    obtain ⟨t, ht, rfl⟩ := tI_nI h1
    have rb := fb_rng b
    obtain ⟨n, hn, rfl⟩ : ∃ n : Nat, n < 2147483648 ∧ b = nI n := ⟨b.toInt.toNat, by omega, zI_of h2⟩
    have h3 := hyes t n ht rfl rfl hn
    rw [← iI_nat n]
    refine S_X12_searchFor hW hR ht hC (by omega) (fun x σ' o1 c1 s1 _ => ⟨fun g => ?_, fun g => ⟨_, rfl, h3.1 (s1.S g) σ' (o1.mono (fun c j k h => Or.inl h)) c1⟩⟩)
    obtain ⟨q0, q1, q2, q3, q4⟩ := s1.F g
    have h4 := h3.2 q1
    have hl := plF_le q1
    have h9 : gn A t ≤ 9 := by unfold spB at q1; omega
    have cl : (iI (n : Int) < zgi σ' 54 0 43) ↔ n < (plF A t).length := by rw [q3.1, iI_nat]; exact nI_ltI (by omega) (by omega)
    rw [cl]
    refine ⟨fun z => ?_, fun z => ⟨_, rfl, h4.1 (by omega) σ' (o1.mono (fun c j k h => Or.inl h)) c1⟩⟩
    obtain ⟨s, hs⟩ : ∃ s, (plF A t)[n]? = some s := ⟨_, List.getElem?_eq_getElem z⟩
    have hR1 : zRM A σ' := hR.only o1 (fun c k hb => by unfold zBM at hb; unfold zSqq zSq; omega)
    refine L_X12_take38 (A := A) (Q := fun r σ' => ∃ x, r = some (.inl x) ∧ K x σ') hW ht (s := s) h9 hR1 s1.1 (q3.2.2.2 (by omega) s (by rw [Int.toNat_natCast]; exact hs)) (fun σ2 o2 r2 => ⟨_, rfl, h4.2 s hs σ2 ((o1.mono (fun c j k h => Or.inl (Or.inl h))).tr (o2.mono (fun c j k h => Or.inr h))) r2 ((sm_map A _).t_cm (fun _ => rfl) (c1.only o2 (fun c k h => by unfold zQm at h; omega)))⟩) (gn A t) 0 (by omega) σ' zOnly.rf (fun u hu => ?_)
    rw [if_neg (fun q => Nat.not_lt_zero _ q.2)]
    exact (hR1.2.1 u hu).2.2.2.2.2.2.2.2.2
end zMu
