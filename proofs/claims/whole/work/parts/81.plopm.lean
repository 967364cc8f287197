/-! what is asked of placings (reference) -/
section zMr
variable {d kc ks : Nat} {σ : zSt} {A : zAb} {Q : Option zV → zSt → Prop}
abbrev zSq (c _j k : Nat) : Prop := (72 ≤ c ∧ c ≤ 86) ∨ c = 90 ∨ (c = 54 ∧ (k = 25 ∨ k = 26 ∨ k = 27 ∨ k = 35 ∨ k = 68 ∨ k = 69 ∨ k = 37 ∨ k = 41 ∨ k = 43 ∨ k = 52))
theorem zRM.s {σ' : zSt} (h : zRM A σ) (ho : zOnly zSq σ σ') : zRM A σ' := h.only ho (fun c k hb => by unfold zBM at hb; unfold zSq; omega)
theorem zCM.only {σ' : zSt} {M : Nat → Nat → Nat → Prop} (h : zCM A σ) (ho : zOnly M σ σ') (hm : ∀ c k, zQm c 0 k → ¬ M c 0 k) : zCM A σ' :=
  ⟨h.1.only ho (fun k => ⟨hm _ _ (by unfold zQm; omega), hm _ _ (by unfold zQm; omega), hm _ _ (by unfold zQm; omega)⟩), h.2.1.only ho ⟨hm _ _ (by unfold zQm; omega), fun k => hm _ _ (by unfold zQm; omega)⟩, h.2.2.1.only ho ⟨hm _ _ (by unfold zQm; omega), hm _ _ (by unfold zQm; omega), fun k => hm _ _ (by unfold zQm; omega)⟩, h.2.2.2.only ho ⟨hm _ _ (by unfold zQm; omega), hm _ _ (by unfold zQm; omega), hm _ _ (by unfold zQm; omega), fun k => hm _ _ (by unfold zQm; omega)⟩⟩
/-- what a search leaves -/
def zSr (A : zAb) (σ : zSt) (t : Nat) (w a b : Int) (c e : Nat) (x : Int32) : Prop := zGm A σ t ∧ ((x = 1 ∧ ¬ spB A t ∧ zgi σ 54 0 41 = nI (evT A t).length ∧ zTa A σ t w (plF A t) ∧ zgi σ 54 0 52 = zb (cnP (plF A t) a b c e = true)) ∨ (x = 0 ∧ spB A t ∧ zgi σ 54 0 41 = (if 9 < gn A t then 0 else 60000)))
theorem L_X12_srch118 {σ0 : zSt} (hnext : ∀ σ', zOnly (fun c _ k => c = 85 ∨ (c = 82 ∧ k = 0)) σ0 σ' → (∀ x, x < 8019 → zgi σ' 85 0 x = 0) → zgi σ' 82 0 0 = -1 → zE true (d + 9) kc ks M_X12_search 147 [some (.inr (.inr (54, 0))), none, none, some (.inl (0)), none] [] (σ') Q) : ∀ (n k : Nat), k + n = 8019 → ∀ σ : zSt, zOnly (fun c _ k => c = 85 ∨ (c = 82 ∧ k = 0)) σ0 σ → (∀ x, x < k → zgi σ 85 0 x = 0) → zE true (d + 9) kc ks M_X12_search 118 [some (.inr (.inr (54, 0))), none, none, some (.inl (nI k)), none] [] σ Q := by
  intro n
  induction n with
  | zero =>
    intro k hk σ ho hz
    have : k = 8019 := by omega
    subst this
    refine T_X12_search_118 ⟨fun _ => ⟨nI_in (c := 0) (by omega) (by omega), hnext _ (ho.tr (zOnly.si (Or.inr ⟨rfl, rfl⟩))) (fun x hx => ?_) ?_⟩, fun h => absurd (show (8019 : Int32) ≤ nI 8019 by decide) h⟩
    · rw [zgi_si, if_neg (by omega)]
      exact hz x hx
    · rw [zgi_si, if_pos ⟨rfl, rfl, rfl⟩]
  | succ n ih =>
    intro k hk σ ho hz
    refine T_X12_search_118 ⟨fun g => ?_, fun _ => ?_⟩
    · rw [show (8019 : Int32) = nI 8019 from rfl, nI_leI (by omega) (by omega)] at g
      omega
    · rw [nI_clamp (show k < 2 ^ 31 by omega), ← nI_succ]
      refine ⟨nI_in (by omega) (by omega), ih (k + 1) (by omega) _ (ho.tr (zOnly.si (Or.inl rfl))) (fun x hx => ?_)⟩
      rw [zgi_si]
      by_cases e : x = k
      · rw [if_pos ⟨rfl, rfl, e⟩]
      · rw [if_neg (fun w => e w.2.2)]
        exact hz x (by omega)
theorem L_X12_srch96 {σ0 : zSt} (hnext : ∀ σ', zOnly (fun c _ _ => c = 84) σ0 σ' → (∀ x, x < 576 → zgi σ' 84 0 x = 0) → zE true (d + 9) kc ks M_X12_search 118 [some (.inr (.inr (54, 0))), none, none, some (.inl (0)), none] [] (σ') Q) : ∀ (n k : Nat), k + n = 576 → ∀ σ : zSt, zOnly (fun c _ _ => c = 84) σ0 σ → (∀ x, x < k → zgi σ 84 0 x = 0) → zE true (d + 9) kc ks M_X12_search 96 [some (.inr (.inr (54, 0))), none, none, some (.inl (nI k)), none] [] σ Q := by
  intro n
  induction n with
  | zero =>
    intro k hk σ ho hz
    have : k = 576 := by omega
    subst this
    exact T_X12_search_96 ⟨fun _ => hnext σ ho hz, fun h => absurd (show (576 : Int32) ≤ nI 576 by decide) h⟩
  | succ n ih =>
    intro k hk σ ho hz
    refine T_X12_search_96 ⟨fun g => ?_, fun _ => ?_⟩
    · rw [show (576 : Int32) = nI 576 from rfl, nI_leI (by omega) (by omega)] at g
      omega
    · rw [nI_clamp (show k < 2 ^ 31 by omega), ← nI_succ]
      refine ⟨nI_in (by omega) (by omega), ih (k + 1) (by omega) _ (ho.tr (zOnly.si rfl)) (fun x hx => ?_)⟩
      rw [zgi_si]
      by_cases e : x = k
      · rw [if_pos ⟨rfl, rfl, e⟩]
      · rw [if_neg (fun w => e w.2.2)]
        exact hz x (by omega)
theorem L_X12_srch17 (hW : zWf A) {σ0 : zSt} (hR : zRM A σ0) {t : Nat} (ht : t < aN A) (hC : zCM A σ0) (hX : zLf A σ0 79 (gB A (mO A))) {w a b : Int} {c e : Nat} (hP : zPm A σ0 t w a b c e) (hQ : ∀ x σ', zOnly zSq σ0 σ' → zCM A σ' → zSr A σ' t w a b c e x → Q (some (.inl x)) σ') : ∀ (n u : Nat), u + n = aN A → ∀ σ : zSt, zOnly (fun c _ k => c = 81 ∨ (c = 54 ∧ k = 37)) σ0 σ → zgi σ 54 0 37 = nI (fb_ct (grB A t) u) → (∀ i, i < fb_ct (grB A t) u → zgi σ 81 0 i = nI (mbr A t i)) → zE true (d + 9) kc ks M_X12_search 17 [some (.inr (.inr (54, 0))), none, some (.inl (yset (grB A t) 32)), some (.inl (nI u)), none] [] σ Q := by
  have hN : aN A ≤ 24 := hW.1.2.2.2.2.1
  have gl := gn_le A t
  intro n
  induction n with
  | zero =>
    intro u hu σ ho h37 hm
    have hR2 : zRM A σ := hR.only ho (fun c k hb => by unfold zBM at hb; omega)
    have : u = aN A := by omega
    subst this
    have hG : zGm A σ t := ⟨h37, hm⟩
    have c9 : (zgi σ 54 0 37 ≤ 9) ↔ gn A t ≤ 9 := by rw [hG.1]; exact nI_leI (b := 9) (by omega) (by omega)
    have o2 : zOnly (fun c _ k => c = 54 ∧ (k = 41 ∨ k = 43 ∨ k = 52)) σ (zsi (zsi (zsi σ 54 0 41 0) 54 0 43 0) 54 0 52 0) := ((zOnly.si (by omega)).tr (zOnly.si (by omega))).tr (zOnly.si (by omega))
    have oo : zOnly zSq σ0 (zsi (zsi (zsi σ 54 0 41 0) 54 0 43 0) 54 0 52 0) := (ho.mono (fun c j k h => by unfold zSq; omega)).tr (o2.mono (fun c j k h => by unfold zSq; omega))
    have hC2 : zCM A (zsi (zsi (zsi σ 54 0 41 0) 54 0 43 0) 54 0 52 0) := (hC.only ho (fun c k h => by unfold zQm at h; omega)).only o2 (fun c k h => by unfold zQm at h; omega)
    have hG2 : zGm A (zsi (zsi (zsi σ 54 0 41 0) 54 0 43 0) 54 0 52 0) t := hG.only o2 ⟨by omega, fun k => by omega⟩
    have z41 : zgi (zsi (zsi (zsi σ 54 0 41 0) 54 0 43 0) 54 0 52 0) 54 0 41 = 0 ∧ zgi (zsi (zsi (zsi σ 54 0 41 0) 54 0 43 0) 54 0 52 0) 54 0 43 = 0 ∧ zgi (zsi (zsi (zsi σ 54 0 41 0) 54 0 43 0) 54 0 52 0) 54 0 52 = 0 := by simp [zgi_si]
    have hR3 : zRM A (zsi (zsi (zsi σ 54 0 41 0) 54 0 43 0) 54 0 52 0) := hR2.only o2 (fun c k hb => by unfold zBM at hb; omega)
    have hX3 : zLf A (zsi (zsi (zsi σ 54 0 41 0) 54 0 43 0) 54 0 52 0) 79 (gB A (mO A)) := fun v hv => by rw [o2.l 79 0 v (by omega), ho.l 79 0 v (by omega)]; exact hX v hv
    have hP3 : zPm A (zsi (zsi (zsi σ 54 0 41 0) 54 0 43 0) 54 0 52 0) t w a b c e := hP.only oo (by unfold zSq; omega)
    refine T_X12_search_17 ⟨fun _ => ⟨fun g => ?_, fun g => ?_⟩, fun h => absurd (by rw [hR2.1.2.2.1]; exact Int32.le_refl _) h⟩
    · rw [c9] at g
      refine S_X12_layAll hW hR3 hC2.1 (fun σ1 p1 d1 l1 => ?_)
      have hR4 : zRM A σ1 := hR3.only p1 (fun c k hb => by unfold zBM at hb; omega)
      have hG4 : zGm A σ1 t := hG2.only p1 ⟨by omega, fun k => by omega⟩
      have hC4 : zCM A σ1 := ⟨l1, hC2.2.1.only p1 ⟨by omega, fun k => by omega⟩, hC2.2.2.1.only p1 ⟨by omega, by omega, fun k => by omega⟩, hC2.2.2.2.only p1 ⟨by omega, by omega, by omega, fun k => by omega⟩⟩
      refine S_X12_layPairs hW hR4 d1 ht g hG4 (fun σ2 p2 pr => ?_)
      refine L_X12_srch96 (σ0 := σ2) (fun σ3 p3 z3 => L_X12_srch118 (σ0 := σ3) (fun σ4 p4 z4 s4 => ?_) 8019 0 rfl σ3 zOnly.rf (fun x hx => absurd hx (Nat.not_lt_zero x))) 576 0 rfl σ2 zOnly.rf (fun x hx => absurd hx (Nat.not_lt_zero x))
      have q : zOnly (fun c _ k => (72 ≤ c ∧ c ≤ 76) ∨ c = 83 ∨ c = 84 ∨ c = 85 ∨ (c = 82 ∧ k = 0)) (zsi (zsi (zsi σ 54 0 41 0) 54 0 43 0) 54 0 52 0) σ4 := (((p1.mono (fun c j k h => by omega)).tr (p2.mono (fun c j k h => by omega))).tr (p3.mono (fun c j k h => by omega))).tr (p4.mono (fun c j k h => by omega))
      have q1 : zOnly (fun c _ k => c = 83 ∨ c = 84 ∨ c = 85 ∨ (c = 82 ∧ k = 0)) σ1 σ4 := ((p2.mono (fun c j k h => by omega)).tr (p3.mono (fun c j k h => by omega))).tr (p4.mono (fun c j k h => by omega))
      have q2 : zOnly (fun c _ k => c = 84 ∨ c = 85 ∨ (c = 82 ∧ k = 0)) σ2 σ4 := (p3.mono (fun c j k h => by omega)).tr (p4.mono (fun c j k h => by omega))
      have hR5 : zRM A σ4 := hR4.only q1 (fun c k hb => by unfold zBM at hb; omega)
      have hC5 : zCM A σ4 := hC4.only q1 (fun c k h => by unfold zQm at h; omega)
      have hG5 : zGm A σ4 t := hG4.only q1 ⟨by omega, fun k => by omega⟩
      have hX5 : zLf A σ4 79 (gB A (mO A)) := fun v hv => by rw [q.l 79 0 v (by omega)]; exact hX3 v hv
      have hw0 : zSw A σ4 t w a b c e [] (evT A t) := ⟨rfl, by simp, by rw [q.i 54 0 41 (by omega)]; exact z41.1, ⟨by rw [q.i 54 0 43 (by omega)]; exact z41.2.1, fun i hi x hx => by rw [p4.i 84 0 _ (by omega), z3 _ (by omega)]; rfl, fun i j h1 h2 f hf => by rw [z4 _ (by omega)]; rfl, fun _ s hs => by simp at hs⟩, by
        rw [q.i 54 0 52 (by omega), z41.2.2]
        have : cnP ([].filterMap id) a b c e = false := by unfold cnP; simp
        rw [zb_f (by rw [this]; decide)]⟩
      have := L_X12_srch147 (d := d) (kc := kc) (ks := ks) (Q := Q) hW hR5 ht g hG5 (pr.only q2 (fun k => by omega)) hX5 (hP3.only q (by omega)) (fun σ5 r1 r2 r3 r4 r5 => hQ 1 σ5 ((oo.tr (q.mono (fun c j k h => by unfold zSq; omega))).tr (r1.mono (fun c j k h => by unfold zSy at h; unfold zSq; omega))) (hC5.only r1 (fun c k h => by unfold zQm at h; unfold zSy; omega)) ⟨hG5.only r1 ⟨by unfold zSy; omega, fun k => by unfold zSy; omega⟩, Or.inl ⟨rfl, fun z => by unfold spB at z; omega, r3, r4, r5⟩⟩) (fun σ5 r1 r2 r3 => hQ 0 σ5 ((oo.tr (q.mono (fun c j k h => by unfold zSq; omega))).tr (r1.mono (fun c j k h => by unfold zSy at h; unfold zSq; omega))) (hC5.only r1 (fun c k h => by unfold zQm at h; unfold zSy; omega)) ⟨hG5.only r1 ⟨by unfold zSy; omega, fun k => by unfold zSy; omega⟩, Or.inr ⟨rfl, Or.inr r2, by rw [r3, if_neg (by omega)]⟩⟩) _ 1 σ4 (fun _ => 0) 64 [] (evT A t) (Nat.le_refl _) (gn_pos ht) (Nat.le_refl _) zOnly.rf hw0 (fun i hi => absurd hi (Nat.not_lt_zero i)) (fun _ => ⟨s4, by
        show evT A t = evs A t (gn A t - 0) 0 (rst (fun _ => 0) 0) 64 ++ []
        rw [List.append_nil, Nat.sub_zero]
        unfold evT
        congr 1⟩) (fun h => absurd h (by decide))
      exact this
    · rw [c9] at g
      exact hQ 0 _ oo hC2 ⟨hG2, Or.inr ⟨rfl, Or.inl (by omega), by rw [z41.1, if_pos (by omega)]⟩⟩
  | succ n ih =>
    intro u hu σ ho h37 hm
    have hR2 : zRM A σ := hR.only ho (fun c k hb => by unfold zBM at hb; omega)
    have huN : u < aN A := by omega
    have hle := fb_ct_le (grB A t) u
    refine T_X12_search_17 ⟨fun g => ?_, fun _ => ?_⟩
    · rw [hR2.1.2.2.1, nI_leI (by omega) (by omega)] at g
      omega
    · rw [zy_b1 (by omega), zb_0, h37, nI_clamp (show fb_ct (grB A t) u < 2 ^ 31 by omega), ← nI_succ, ← nI_succ]
      refine ⟨fun g => ih (u + 1) (by omega) σ ho ?_ ?_, fun g => ⟨nI_in (by omega) (by omega), ih (u + 1) (by omega) _ ((ho.tr (zOnly.si (Or.inl rfl))).tr (zOnly.si (Or.inr ⟨rfl, rfl⟩))) ?_ (fun i hi => ?_)⟩⟩
      · rw [fb_ct_succ, if_neg g, Nat.add_zero]; exact h37
      · rw [fb_ct_succ, if_neg g, Nat.add_zero]; exact hm
      · rw [Decidable.not_not] at g
        rw [zgi_si, if_pos ⟨rfl, rfl, rfl⟩, fb_ct_succ, if_pos g]
      · rw [Decidable.not_not] at g
        rw [fb_ct_succ, if_pos g] at hi
        rw [zgi_si, if_neg (by omega), zgi_si]
        by_cases z : i = fb_ct (grB A t) u
        · rw [if_pos ⟨rfl, rfl, z⟩, z, (mbr_of huN (grB_iff.mp g)).2]
        · rw [if_neg (fun q => z q.2.2)]
          exact hm i (by omega)
theorem S_X12_search {K : Int32 → zSt → Prop} (hW : zWf A) (hR : zRM A σ) {t : Nat} (ht : t < aN A) (hC : zCM A σ) {w a b : Int} {c e : Nat} (hP : zPm A σ t w a b c e) (hK : ∀ x σ', zOnly zSq σ σ' → zCM A σ' → zSr A σ' t w a b c e x → K x σ') : zCi true (d + 9) 0 0 M_X12_search [.inr (.inr (54, 0)), .inl (nI t)] σ K := by
  refine zC_intro pl_X12 (Nat.le_of_ble_eq_true rfl) (T_X12_search_0 (S_X12_findNarrowed hW hR hC (fun σ1 o1 c1 x1 => ?_)))
  have hR1 := hR.q o1
  refine S_X12_groupOf hW hR1 ht ?_
  have o2 : zOnly (fun c _ k => c = 54 ∧ k = 37) σ1 (zsi σ1 54 0 37 0) := zOnly.si ⟨rfl, rfl⟩
  have oo : zOnly zSq σ (zsi σ1 54 0 37 0) := (o1.mono (fun c j k h => by unfold zQm at h; unfold zSq; omega)).tr (o2.mono (fun c j k h => by unfold zSq; omega))
  refine L_X12_srch17 (A := A) (Q := fun r σ' => ∃ x, r = some (.inl x) ∧ K x σ') hW (hR1.only o2 (fun c k hb => by unfold zBM at hb; omega)) ht (c1.only o2 (fun c k h => by unfold zQm at h; omega)) (fun v hv => by rw [o2.l 79 0 v (by omega)]; exact x1 v hv) (hP.only oo (by unfold zSq; omega)) (fun x σ' p1 p2 p3 => ⟨x, rfl, hK x σ' (oo.tr p1) p2 p3⟩) (aN A) 0 (by omega) _ zOnly.rf (by rw [zgi_si, if_pos ⟨rfl, rfl, rfl⟩]; rfl) (fun i hi => absurd hi (Nat.not_lt_zero i))
abbrev zSqq (c j k : Nat) : Prop := zSq c j k ∨ (c = 54 ∧ (k = 46 ∨ k = 48))
theorem S_X12_searchFor {K : Int32 → zSt → Prop} (hW : zWf A) (hR : zRM A σ) {t : Nat} (ht : t < aN A) (hC : zCM A σ) {w : Int} (hw : -2147483648 ≤ w ∧ w < 2147483648) (hK : ∀ x σ', zOnly zSqq σ σ' → zCM A σ' → zSr A σ' t w (-1) 0 0 0 x → zgi σ' 54 0 46 = iI w → K x σ') : zCi true (d + 10) 0 0 M_X12_searchFor [.inr (.inr (54, 0)), .inl (nI t), .inl (iI w)] σ K := by
  have o2 : zOnly (fun c _ k => c = 54 ∧ (k = 46 ∨ k = 48)) σ (zsi (zsi σ 54 0 46 (iI w)) 54 0 48 (-1)) := (zOnly.si ⟨rfl, Or.inl rfl⟩).tr (zOnly.si ⟨rfl, Or.inr rfl⟩)
  refine zC_intro pl_X12 (Nat.le_of_ble_eq_true rfl) (T_X12_searchFor_0 (S_X12_search (w := w) (a := -1) (b := 0) (c := 0) (e := 0) hW (hR.only o2 (fun c k hb => by unfold zBM at hb; omega)) ht (hC.only o2 (fun c k h => by unfold zQm at h; omega)) ?_ (fun x σ' p1 p2 p3 => ⟨?_, x, rfl, hK x σ' ((o2.mono (fun c j k h => Or.inr h)).tr (p1.mono (fun c j k h => Or.inl h))) p2 p3 (by rw [p1.i 54 0 46 (by unfold zSq; omega), zgi_si, if_neg (by omega), zgi_si, if_pos ⟨rfl, rfl, rfl⟩])⟩)))
  · refine ⟨by rw [zgi_si, if_neg (by omega), zgi_si, if_pos ⟨rfl, rfl, rfl⟩], by rw [zgi_si, if_pos ⟨rfl, rfl, rfl⟩]; rfl, hw, by omega, fun h => by omega⟩
  · rcases p3.2 with q | q
    · exact Or.inr q.1
    · exact Or.inl q.1
/-- where a thing is among the members -/
theorem L_X12_placeOf (hW : zWf A) {t u : Nat} (hu : u < aN A) (hg : gr A t u) (hG : zGm A σ t) (hQ : Q (some (.inl (nI (fb_ct (grB A t) u)))) σ) : ∀ (n k : Nat), k + n = fb_ct (grB A t) u → zE true (d + 1) kc ks M_X12_placeOf 2 [some (.inr (.inr (54, 0))), some (.inl (nI u)), some (.inl (nI k))] [] σ Q := by
  have hN : aN A ≤ 24 := hW.1.2.2.2.2.1
  have gl := gn_le A t
  obtain ⟨m1, m2⟩ := mbr_of hu hg
  intro n
  induction n with
  | zero =>
    intro k hk
    have : k = fb_ct (grB A t) u := by omega
    refine T_X12_placeOf_2 ?_
    rw [nI_clamp (show k < 2 ^ 31 by omega), hG.2 k (by omega), this, m2]
    exact ⟨nI_in (by omega) (by omega), fun _ => hQ, fun g => absurd rfl g⟩
  | succ n ih =>
    intro k hk
    have b := (mbr_ok (A := A) (t := t) (i := k) (by omega)).1
    refine T_X12_placeOf_2 ?_
    rw [nI_clamp (show k < 2 ^ 31 by omega), hG.2 k (by omega), nI_eq (by omega) (by omega), ← nI_succ]
    refine ⟨nI_in (by omega) (by omega), fun g => ?_, fun _ => ih (k + 1) (by omega)⟩
    have := (mbr_ok (A := A) (t := t) (i := k) (by omega)).2.2
    rw [g] at this
    omega
theorem S_X12_placeOf {K : Int32 → zSt → Prop} (hW : zWf A) {t u : Nat} (hu : u < aN A) (hg : gr A t u) (hG : zGm A σ t) (hK : K (nI (fb_ct (grB A t) u)) σ) : zCi true (d + 1) 0 0 M_X12_placeOf [.inr (.inr (54, 0)), .inl (nI u)] σ K :=
  zC_intro pl_X12 (Nat.le_of_ble_eq_true rfl) (T_X12_placeOf_0 (L_X12_placeOf hW hu hg hG ⟨_, rfl, hK⟩ _ 0 (Nat.zero_add _)))
end zMr
