/-! together, ask, between, take (reference) -/
/-- the map takes some places -/
def mpS (A : zAb) (f : Nat → Int) : zAb := (A.1, A.2.1, fun b i => if b = 3 then f i else A.2.2.1 b i, A.2.2.2)
noncomputable def aTake (A : zAb) (t : Nat) (s : Nat → Nat) : zAb := mpS A (fun u => if u < aN A ∧ grB A t u = true then (s (fb_ct (grB A t) u) : Int) else aMp A u)
noncomputable def bwV (A : zAb) (t : Nat) (e : Int32) : Int32 := match bpI A t (gn A t) none with
  | none => -9
  | some k => if e = 0 then nI (mbr A t (k / 9)) else if e = 1 then nI (mbr A t (k % 9)) else nI (btV A t k)
noncomputable def akV (A : zAb) (t : Nat) (e : Int32) : Int32 := if e = 0 then nI (mbr A t (bsN (woV A t) (gn A t))) else nI (woV A t (bsN (woV A t) (gn A t)))
section zMt
variable {d kc ks : Nat} {σ : zSt} {A : zAb} {Q : Option zV → zSt → Prop}
theorem zSr.F {t : Nat} {w a b : Int} {c e : Nat} {x : Int32} (h : zSr A σ t w a b c e x) (hx : ¬ x = 0) : x = 1 ∧ ¬ spB A t ∧ zgi σ 54 0 41 = nI (evT A t).length ∧ zTa A σ t w (plF A t) ∧ zgi σ 54 0 52 = zb (cnP (plF A t) a b c e = true) := by
  rcases h.2 with q | q
  · exact q
  · exact absurd q.1 hx
theorem zSr.S {t : Nat} {w a b : Int} {c e : Nat} {x : Int32} (h : zSr A σ t w a b c e x) (hx : x = 0) : spB A t := by
  rcases h.2 with q | q
  · rw [q.1] at hx; exact absurd hx (by decide)
  · exact q.2.1
theorem O_X12_together {K : Int32 → zSt → Prop} (hW : zWf A) (hR : zRM A σ) (hC : zCM A σ) (a b e f : Int32) (hno : ¬ (tI A a = true ∧ acI A b = true ∧ tI A e = true ∧ acI A f = true) → K (-1) σ) (hyes : ∀ t u x y, t < aN A → u < aN A → x < 64 → y < 64 → acell A x = true → acell A y = true → a = nI t → b = nI x → e = nI u → f = nI y → ∀ σ', zOnly zSqn σ σ' → zCM A σ' → (spB A t → K (-6) σ') ∧ (¬ spB A t → (gr A t u → K (zb (cnP (plF A t) (fb_ct (grB A t) t) (fb_ct (grB A t) u) x y = true)) σ') ∧ (¬ gr A t u → (spB A u → K (-6) σ') ∧ (¬ spB A u → K (zb (0 < cnO (plF A t) (fb_ct (grB A t) t) x ∧ 0 < cnO (plF A u) (fb_ct (grB A u) u) y)) σ')))) : zCi true (d + 11) 0 0 M_X12_together [.inr (.inr (54, 0)), .inl (a), .inl (b), .inl (e), .inl (f)] σ K := by
  have hN : aN A ≤ 24 := hW.1.2.2.2.2.1
  refine zC_intro pl_X12 (Nat.le_of_ble_eq_true rfl) (T_X12_together_0 (S_X12_noThing hW hR a ⟨fun h => ⟨_, rfl, hno ?_⟩, fun h1 => S_X12_isCell hW hR b ⟨fun h => ⟨_, rfl, hno ?_⟩, fun h2 => S_X12_noThing hW hR e ⟨fun h => ⟨_, rfl, hno ?_⟩, fun h3 => S_X12_isCell hW hR f ⟨fun h4 => ?_, fun h => ⟨_, rfl, hno ?_⟩⟩⟩⟩⟩))
  · rw [zb_0] at h
    exact fun q => h (fun z => z q.1)
  · rw [zb_0] at h
    exact fun q => h q.2.1
  · rw [zb_0] at h
    exact fun q => h (fun z => z q.2.2.1)
  · rw [zb_0, Decidable.not_not] at h1 h2 h3 h4
    obtain ⟨t, ht, rfl⟩ := tI_nI h1
    obtain ⟨x, hx, hax, rfl⟩ := acI_nI h2
    obtain ⟨u, hu, rfl⟩ := tI_nI h3
    obtain ⟨y, hy, hay, rfl⟩ := acI_nI h4
    have hh := hyes t u x y ht hu hx hy hax hay rfl rfl rfl rfl
    have glt := gn_le A t
    have glu := gn_le A u
    obtain ⟨m1, m2⟩ := mbr_of ht (gr_self A t)
    obtain ⟨n1, n2⟩ := mbr_of hu (gr_self A u)
    rw [show (-1 : Int32) = iI (-1) from rfl]
    refine S_X12_searchFor hW hR ht hC (by omega) (fun r1 σ1 o1 c1 s1 w46 => ⟨fun g => S_X12_placeOf hW ht (gr_self A t) s1.1 ?_, fun g => ⟨_, rfl, (hh σ1 (o1.mono (fun c j k h => Or.inl h)) c1).1 (s1.S g)⟩⟩)
    obtain ⟨q0, q1, q2, q3, q4⟩ := s1.F g
    have hR1 : zRM A σ1 := hR.only o1 (fun c k hb => by unfold zBM at hb; unfold zSqq zSq; omega)
    have h9 : gn A t ≤ 9 := by unfold spB at q1; omega
    have cle := cnO_le (plF A t) (fb_ct (grB A t) t) x
    have ple := plF_le q1
    rw [e64, nI_clamp (show 64 * fb_ct (grB A t) t + x < 2 ^ 31 by omega), q3.2.1 _ m1 x hx]
    refine ⟨nI_in (by omega) (by omega), fun z hz => S_X12_groupOf hW hR1 ht ⟨fun g2 => ?_, fun g2 => ?_⟩⟩
    · rw [zy_b1 (by omega), zb_0, grB_iff] at g2
      refine S_X12_searchFor hW hR1 hu c1 (by omega) (fun r2 σ2 o2 c2 s2 _ => ⟨fun g3 => ?_, fun g3 => ⟨_, rfl, ((hh σ2 ((o1.mono (fun c j k h => Or.inl h)).tr (o2.mono (fun c j k h => Or.inl h))) c2).2 q1).2 g2 |>.1 (s2.S g3)⟩⟩)
      obtain ⟨p0, p1, p2, p3, p4⟩ := s2.F g3
      have h9u : gn A u ≤ 9 := by unfold spB at p1; omega
      have fin := ((hh σ2 ((o1.mono (fun c j k h => Or.inl h)).tr (o2.mono (fun c j k h => Or.inl h))) c2).2 q1).2 g2 |>.2 p1
      have cz : nI (cnO (plF A t) (fb_ct (grB A t) t) x) ≤ 0 ↔ cnO (plF A t) (fb_ct (grB A t) t) x ≤ 0 := nI_leI (b := 0) (by omega) (by omega)
      have ez : z = 0 ↔ ¬ 0 < cnO (plF A t) (fb_ct (grB A t) t) x := by
        rw [hz, zb_of0 (P := 0 < cnO (plF A t) (fb_ct (grB A t) t) x) (by rw [cz]; omega), zb_0]
      rw [ez]
      have cle2 := cnO_le (plF A u) (fb_ct (grB A u) u) y
      have ple2 := plF_le p1
      refine ⟨fun g4 => ⟨_, rfl, ?_⟩, fun g4 => S_X12_placeOf hW hu (gr_self A u) s2.1 ?_⟩
      · rw [zb_f (fun q => g4 q.1)] at fin
        exact fin
      · rw [e64, nI_clamp (show 64 * fb_ct (grB A u) u + y < 2 ^ 31 by omega), p3.2.1 _ n1 y hy]
        refine ⟨nI_in (by omega) (by omega), fun v hv => ⟨_, rfl, ?_⟩⟩
        have cv : nI (cnO (plF A u) (fb_ct (grB A u) u) y) ≤ 0 ↔ cnO (plF A u) (fb_ct (grB A u) u) y ≤ 0 := nI_leI (b := 0) (by omega) (by omega)
        rw [hv, zb_of0 (P := 0 < cnO (plF A t) (fb_ct (grB A t) t) x ∧ 0 < cnO (plF A u) (fb_ct (grB A u) u) y) (by rw [cv]; omega)]
        exact fin
    · rw [zy_b1 (by omega), zb_0, Decidable.not_not, grB_iff] at g2
      obtain ⟨k1, k2⟩ := mbr_of hu g2
      have o3 : zOnly (fun c _ k => c = 54 ∧ k = 48) σ1 (zsi σ1 54 0 48 (nI (fb_ct (grB A t) t))) := zOnly.si ⟨rfl, rfl⟩
      refine S_X12_placeOf hW ht (gr_self A t) s1.1 (S_X12_placeOf hW hu g2 (s1.1.only o3 ⟨by omega, fun k => by omega⟩) ?_)
      have o4 : zOnly (fun c _ k => c = 54 ∧ (k = 48 ∨ k = 49 ∨ k = 50 ∨ k = 51)) σ1 (zsi (zsi (zsi (zsi σ1 54 0 48 (nI (fb_ct (grB A t) t))) 54 0 49 (nI (fb_ct (grB A t) u))) 54 0 50 (nI x)) 54 0 51 (nI y)) := (((zOnly.si (by omega)).tr (zOnly.si (by omega))).tr (zOnly.si (by omega))).tr (zOnly.si (by omega))
      have hR4 := hR1.only o4 (fun c k hb => by unfold zBM at hb; omega)
      have c4 := c1.only o4 (fun c k h => by unfold zQm at h; omega)
      refine S_X12_search (w := -1) (a := (fb_ct (grB A t) t : Int)) (b := (fb_ct (grB A t) u : Int)) (c := x) (e := y) hW hR4 ht c4 ⟨?_, ?_, by omega, by omega, fun _ => ⟨?_, ?_, ?_, by omega, by omega, by omega, hx, hy⟩⟩ (fun r3 σ3 o5 c5 s5 v hv => ⟨_, rfl, ?_⟩)
      · rw [o4.i 54 0 46 (by omega), w46]
      · simp [zgi_si]; rfl
      · simp [zgi_si]; rfl
      · simp [zgi_si]
      · simp [zgi_si]
      · have oo : zOnly zSqn σ σ3 := ((o1.mono (fun c j k h => Or.inl h)).tr (o4.mono (fun c j k h => by unfold zSqq; omega))).tr (o5.mono (fun c j k h => Or.inl (Or.inl h)))
        have fin := ((hh σ3 oo c5).2 q1).1 g2
        have hr : ¬ r3 = 0 := fun z => q1 (s5.S z)
        obtain ⟨p0, p1, p2, p3, p4⟩ := s5.F hr
        rw [hv, p4, zb_of0 (P := cnP (plF A t) (fb_ct (grB A t) t) (fb_ct (grB A t) u) x y = true) (by rw [zb_0])]
        exact fin
  · rw [zb_0] at h
    exact fun q => h q.2.2.2
theorem L_X12_ask58 {t i : Nat} {F : List (Nat → Nat)} {w : Int} (h9 : gn A t ≤ 9) (hi : i < gn A t) (hF : F.length ≤ 60000) (hT : zTa A σ t w F) {v2 v3 v4 : Int32} (hnext : (((v3 < 0) ∨ (¬ (v4 ≤ nI (mxN (cnO F i) 64)))) → zE true (d + 11) kc ks M_X12_ask 102 [some (.inr (.inr (54, 0))), none, some (.inl (v2)), none, none, some (.inl (nI i)), some (.inl (nI (mxN (cnO F i) 64))), none] [] σ Q) ∧ (¬ ((v3 < 0) ∨ (¬ (v4 ≤ nI (mxN (cnO F i) 64)))) → zE true (d + 11) kc ks M_X12_ask 43 [some (.inr (.inr (54, 0))), none, some (.inl (v2)), some (.inl (v3)), some (.inl (v4)), some (.inl ((nI i + 1))), none, none] [] σ Q)) : ∀ (n k : Nat), k + n = 64 → zE true (d + 11) kc ks M_X12_ask 58 [some (.inr (.inr (54, 0))), none, some (.inl (v2)), some (.inl (v3)), some (.inl (v4)), some (.inl (nI i)), some (.inl (nI (mxN (cnO F i) k))), some (.inl (nI k))] [] σ Q := by
  intro n
  induction n with
  | zero =>
    intro k hk
    have : k = 64 := by omega
    subst this
    exact T_X12_ask_58 ⟨fun _ => hnext, fun h => absurd (show (64 : Int32) ≤ nI 64 by decide) h⟩
  | succ n ih =>
    intro k hk
    have cle := cnO_le F i k
    have mle := mxN_le (f := cnO F i) (b := F.length) (fun c => cnO_le F i c) k
    refine T_X12_ask_58 ⟨fun g => ?_, fun _ => ?_⟩
    · rw [show (64 : Int32) = nI 64 from rfl, nI_leI (by omega) (by omega)] at g
      omega
    · rw [e64, nI_clamp (show 64 * i + k < 2 ^ 31 by omega), hT.2.1 i hi k (by omega), ← nI_succ]
      refine ⟨nI_in (by omega) (by omega), ?_⟩
      have ex : (if nI (mxN (cnO F i) k) ≤ nI (cnO F i k) then nI (cnO F i k) else nI (mxN (cnO F i) k)) = nI (mxN (cnO F i) (k + 1)) := by
        have c0 : nI (mxN (cnO F i) k) ≤ nI (cnO F i k) ↔ mxN (cnO F i) k ≤ cnO F i k := nI_leI (by omega) (by omega)
        show _ = nI (if mxN (cnO F i) k ≤ cnO F i k then cnO F i k else mxN (cnO F i) k)
        by_cases z : mxN (cnO F i) k ≤ cnO F i k
        · rw [if_pos (c0.mpr z), if_pos z]
        · rw [if_neg (fun q => z (c0.mp q)), if_neg z]
      rw [ex]
      exact ih (k + 1) (by omega)
theorem L_X12_ask43 (hW : zWf A) {t : Nat} {w : Int} (ht : t < aN A) (hs : ¬ spB A t) (hG : zGm A σ t) (hT : zTa A σ t w (plF A t)) {e : Int32} (he : e = 0 ∨ e = 1) (hQ : Q (some (.inl (akV A t e))) σ) : ∀ (n k : Nat), k + n = gn A t → zE true (d + 11) kc ks M_X12_ask 43 [some (.inr (.inr (54, 0))), none, some (.inl (e)), some (.inl ((if k = 0 then -1 else nI (bsN (woV A t) k)))), some (.inl ((if k = 0 then 0 else nI (woV A t (bsN (woV A t) k))))), some (.inl (nI k)), none, none] [] σ Q := by
  have hN : aN A ≤ 24 := hW.1.2.2.2.2.1
  have gl := gn_le A t
  have gp := gn_pos ht
  have ple := plF_le hs
  have h9 : gn A t ≤ 9 := by unfold spB at hs; omega
  have wle : ∀ i, woV A t i ≤ 60000 := fun i => Nat.le_trans (mxN_le (f := cnO (plF A t) i) (b := (plF A t).length) (fun c => cnO_le _ i c) 64) ple
  intro n
  induction n with
  | zero =>
    intro k hk
    have : k = gn A t := by omega
    subst this
    have bl := bsN_lt (f := woV A t) gp
    refine T_X12_ask_43 ⟨fun _ => ?_, fun h => absurd (by rw [hG.1]; exact Int32.le_refl _) h⟩
    rw [if_neg (show ¬ gn A t = 0 by omega), if_neg (show ¬ gn A t = 0 by omega)]
    refine ⟨fun _ => nI_in (by omega) (by omega), fun x hx => ?_⟩
    rw [nI_clamp (by omega), hG.2 _ bl] at hx
    have ex : x = akV A t e := by
      rw [hx]
      unfold akV
      rcases he with rfl | rfl
      · rw [if_neg (fun q => q rfl), if_pos rfl]
      · rw [if_pos (by decide), if_neg (by decide)]
    rw [ex]
    exact hQ
  | succ n ih =>
    intro k hk
    refine T_X12_ask_43 ⟨fun g => ?_, fun _ => ?_⟩
    · rw [hG.1, nI_leI (by omega) (by omega)] at g
      omega
    · have step : ∀ b : Nat, b = bsN (woV A t) (k + 1) → zE true (d + 11) kc ks M_X12_ask 43 [some (.inr (.inr (54, 0))), none, some (.inl (e)), some (.inl (nI b)), some (.inl (nI (woV A t b))), some (.inl ((nI k + 1))), none, none] [] σ Q := fun b hb => by
        have := ih (k + 1) (by omega)
        rw [if_neg (by omega), if_neg (by omega)] at this
        rw [hb, ← nI_succ]
        exact this
      have := L_X12_ask58 (d := d) (kc := kc) (ks := ks) (Q := Q) (t := t) (i := k) (F := plF A t) (w := w) (v2 := e) (v3 := (if k = 0 then -1 else nI (bsN (woV A t) k))) (v4 := (if k = 0 then 0 else nI (woV A t (bsN (woV A t) k)))) h9 (by omega) ple hT ?_ 64 0 rfl
      · exact this
      · have e0 : mxN (cnO (plF A t) k) 64 = woV A t k := rfl
        rw [e0]
        by_cases z : k = 0
        · subst z
          rw [if_pos rfl, if_pos rfl]
          exact ⟨fun _ => T_X12_ask_102 (step 0 (by show 0 = (if woV A t 0 < woV A t (bsN (woV A t) 0) then 0 else bsN (woV A t) 0); split <;> simp [bsN])), fun q => absurd (Or.inl (by decide)) q⟩
        · have bl := bsN_lt (f := woV A t) (n := k) (by omega)
          have wl1 := wle (bsN (woV A t) k)
          have wl2 := wle k
          have c1 : ¬ nI (bsN (woV A t) k) < 0 := fun q => by
            rw [show (0 : Int32) = nI 0 from rfl, nI_ltI (by omega) (by omega)] at q
            omega
          have c2 : (nI (woV A t (bsN (woV A t) k)) ≤ nI (woV A t k)) ↔ woV A t (bsN (woV A t) k) ≤ woV A t k := nI_leI (by omega) (by omega)
          rw [if_neg z, if_neg z, c2]
          refine ⟨fun g => T_X12_ask_102 (step k ?_), fun g => ?_⟩
          · show k = if woV A t k < woV A t (bsN (woV A t) k) then k else _
            rw [if_pos]
            have := g.resolve_left c1
            omega
          · have g2 : woV A t (bsN (woV A t) k) ≤ woV A t k := Decidable.not_not.mp (fun q => g (Or.inr q))
            refine step (bsN (woV A t) k) ?_
            show _ = if woV A t k < woV A t (bsN (woV A t) k) then k else _
            rw [if_neg (by omega)]
theorem O_X12_ask {K : Int32 → zSt → Prop} (hW : zWf A) (hR : zRM A σ) (hC : zCM A σ) (a e : Int32) (hno : ¬ tI A a = true → K (-1) σ) (hout : tI A a = true → ¬ (e = 0 ∨ e = 1) → K (-2) σ) (hyes : ∀ t, t < aN A → a = nI t → (e = 0 ∨ e = 1) → ∀ σ', zOnly zSqn σ σ' → zCM A σ' → (spB A t → K (-6) σ') ∧ (¬ spB A t → K (akV A t e) σ')) : zCi true (d + 11) 0 0 M_X12_ask [.inr (.inr (54, 0)), .inl (a), .inl (e)] σ K := by
  refine zC_intro pl_X12 (Nat.le_of_ble_eq_true rfl) (T_X12_ask_0 (S_X12_noThing hW hR a ⟨fun h => ⟨fun h2 => ?_, fun h2 => ⟨_, rfl, hout ?_ ?_⟩⟩, fun h => ⟨_, rfl, hno ?_⟩⟩))
  · rw [zb_0, Decidable.not_not] at h
    rw [zb_0, Decidable.not_not, i01] at h2
    obtain ⟨t, ht, rfl⟩ := tI_nI h
    rw [show (-1 : Int32) = iI (-1) from rfl]
    refine S_X12_searchFor hW hR ht hC (by omega) (fun x σ' o1 c1 s1 _ => ⟨fun g => ?_, fun g => ⟨_, rfl, (hyes t ht rfl h2 σ' (o1.mono (fun c j k h => Or.inl h)) c1).1 (s1.S g)⟩⟩)
    obtain ⟨q0, q1, q2, q3, q4⟩ := s1.F g
    exact L_X12_ask43 (A := A) (Q := fun r σ' => ∃ x, r = some (.inl x) ∧ K x σ') hW ht q1 s1.1 q3 h2 ⟨_, rfl, (hyes t ht rfl h2 σ' (o1.mono (fun c j k h => Or.inl h)) c1).2 q1⟩ (gn A t) 0 (by omega)
  · rw [zb_0, Decidable.not_not] at h
    exact h
  · rw [zb_0, i01] at h2
    exact h2
  · rw [zb_0, Decidable.not_not] at h
    exact h
/-- the best pair so far -/
def bpO (A : zAb) (t : Nat) (b : Option Nat) (v3 v4 : Int32) : Prop := match b with
  | none => v3 = -1 ∧ v4 = 0
  | some k => k < 81 ∧ k / 9 < gn A t ∧ k % 9 < gn A t ∧ v3 = nI k ∧ v4 = nI (btV A t k)
theorem L_X12_btw86 {t i j : Nat} {F : List (Nat → Nat)} {w : Int} (h9 : gn A t ≤ 9) (hij : i < j) (hj : j < gn A t) (hF : F.length ≤ 60000) (hT : zTa A σ t w F) {v2 v3 v4 : Int32} (hnext : (((v3 < 0) ∨ (¬ (v4 ≤ nI (mxN (cnD F i j) 99)))) → zE true (d + 11) kc ks M_X12_between 136 [some (.inr (.inr (54, 0))), none, some (.inl (v2)), none, none, some (.inl (nI i)), some (.inl (nI j)), some (.inl (nI (mxN (cnD F i j) 99))), none] [] σ Q) ∧ (¬ ((v3 < 0) ∨ (¬ (v4 ≤ nI (mxN (cnD F i j) 99)))) → zE true (d + 11) kc ks M_X12_between 71 [some (.inr (.inr (54, 0))), none, some (.inl (v2)), some (.inl (v3)), some (.inl (v4)), some (.inl (nI i)), some (.inl ((nI j + 1))), none, none] [] σ Q)) : ∀ (n k : Nat), k + n = 99 → zE true (d + 11) kc ks M_X12_between 86 [some (.inr (.inr (54, 0))), none, some (.inl (v2)), some (.inl (v3)), some (.inl (v4)), some (.inl (nI i)), some (.inl (nI j)), some (.inl (nI (mxN (cnD F i j) k))), some (.inl (nI k))] [] σ Q := by
  intro n
  induction n with
  | zero =>
    intro k hk
    have : k = 99 := by omega
    subst this
    exact T_X12_between_86 ⟨fun _ => hnext, fun h => absurd (show (99 : Int32) ≤ nI 99 by decide) h⟩
  | succ n ih =>
    intro k hk
    have cle := cnD_le F i j k
    have mle := mxN_le (f := cnD F i j) (b := F.length) (fun c => cnD_le F i j c) k
    refine T_X12_between_86 ⟨fun g => ?_, fun _ => ?_⟩
    · rw [show (99 : Int32) = nI 99 from rfl, nI_leI (by omega) (by omega)] at g
      omega
    · rw [e999, nI_clamp (show 99 * (9 * i + j) + k < 2 ^ 31 by omega), hT.2.2.1 i j hij hj k (by omega), ← nI_succ]
      refine ⟨nI_in (by omega) (by omega), ?_⟩
      have ex : (if nI (mxN (cnD F i j) k) ≤ nI (cnD F i j k) then nI (cnD F i j k) else nI (mxN (cnD F i j) k)) = nI (mxN (cnD F i j) (k + 1)) := by
        have c0 : nI (mxN (cnD F i j) k) ≤ nI (cnD F i j k) ↔ mxN (cnD F i j) k ≤ cnD F i j k := nI_leI (by omega) (by omega)
        show _ = nI (if mxN (cnD F i j) k ≤ cnD F i j k then cnD F i j k else mxN (cnD F i j) k)
        by_cases z : mxN (cnD F i j) k ≤ cnD F i j k
        · rw [if_pos (c0.mpr z), if_pos z]
        · rw [if_neg (fun q => z (c0.mp q)), if_neg z]
      rw [ex]
      exact ih (k + 1) (by omega)
theorem L_X12_btw71 (hW : zWf A) {t i : Nat} {w : Int} (ht : t < aN A) (hs : ¬ spB A t) (hG : zGm A σ t) (hT : zTa A σ t w (plF A t)) {e : Int32} (hi : i < gn A t) (hnext : ∀ b v3 v4, bpO A t b v3 v4 → b = b → ∀ b0, bpJ A t i 0 b = b0 → zE true (d + 11) kc ks M_X12_between 56 [some (.inr (.inr (54, 0))), none, some (.inl (e)), some (.inl (v3)), some (.inl (v4)), some (.inl ((nI i + 1))), none, none, none] [] σ Q ∨ True) {b1 : Option Nat} (hn2 : ∀ v3 v4, bpO A t b1 v3 v4 → zE true (d + 11) kc ks M_X12_between 56 [some (.inr (.inr (54, 0))), none, some (.inl (e)), some (.inl (v3)), some (.inl (v4)), some (.inl ((nI i + 1))), none, none, none] [] σ Q) : ∀ (n j : Nat), j + n = gn A t → i < j → ∀ b v3 v4, bpO A t b v3 v4 → bpJ A t i n b = b1 → zE true (d + 11) kc ks M_X12_between 71 [some (.inr (.inr (54, 0))), none, some (.inl (e)), some (.inl (v3)), some (.inl (v4)), some (.inl (nI i)), some (.inl (nI j)), none, none] [] σ Q := by
  have hN : aN A ≤ 24 := hW.1.2.2.2.2.1
  have gl := gn_le A t
  have ple := plF_le hs
  have h9 : gn A t ≤ 9 := by unfold spB at hs; omega
  have wle : ∀ k, btV A t k ≤ 60000 := fun k => Nat.le_trans (mxN_le (f := cnD (plF A t) (k / 9) (k % 9)) (b := (plF A t).length) (fun c => cnD_le _ _ _ c) 99) ple
  intro n
  induction n with
  | zero =>
    intro j hj hij b v3 v4 hb hbj
    have : j = gn A t := by omega
    subst this
    have : b = b1 := hbj
    subst this
    exact T_X12_between_71 ⟨fun _ => hn2 v3 v4 hb, fun h => absurd (by rw [hG.1]; exact Int32.le_refl _) h⟩
  | succ n ih =>
    intro j hj hij b v3 v4 hb hbj
    have ej : gn A t - (n + 1) = j := by omega
    have d1 : (9 * i + j) / 9 = i := by omega
    have d2 : (9 * i + j) % 9 = j := by omega
    have eb : mxN (cnD (plF A t) i j) 99 = btV A t (9 * i + j) := by unfold btV; rw [d1, d2]
    refine T_X12_between_71 ⟨fun g => ?_, fun _ => ?_⟩
    · rw [hG.1, nI_leI (by omega) (by omega)] at g
      omega
    · have e9 : (9 : Int32) * nI i + nI j = nI (9 * i + j) := by rw [show (9 : Int32) = nI 9 from rfl, nI_mul, nI_add]
      have take : bpJ A t i n (some (9 * i + j)) = b1 → zE true (d + 11) kc ks M_X12_between 136 [some (.inr (.inr (54, 0))), none, some (.inl (e)), none, none, some (.inl (nI i)), some (.inl (nI j)), some (.inl (nI (btV A t (9 * i + j)))), none] [] σ Q := fun q => T_X12_between_136 (by
        rw [e9, ← nI_succ]
        exact ih (j + 1) (by omega) (by omega) (some (9 * i + j)) _ _ ⟨by omega, by omega, by omega, rfl, rfl⟩ q)
      refine L_X12_btw86 (A := A) (F := plF A t) h9 hij (by omega) ple hT ?_ 99 0 rfl
      rw [eb]
      unfold bpJ at hbj
      rw [ej] at hbj
      cases b with
      | none =>
        obtain ⟨rfl, rfl⟩ := hb
        exact ⟨fun _ => take hbj, fun q => absurd (Or.inl (by decide)) q⟩
      | some k =>
        have hb' := hb
        obtain ⟨q1, q2, q3, q4, q5⟩ := hb
        have wl1 := wle k
        have wl2 := wle (9 * i + j)
        have c1 : ¬ v3 < 0 := fun q => by
          rw [q4, show (0 : Int32) = nI 0 from rfl, nI_ltI (by omega) (by omega)] at q
          omega
        have c2 : (v4 ≤ nI (btV A t (9 * i + j))) ↔ btV A t k ≤ btV A t (9 * i + j) := by rw [q5]; exact nI_leI (by omega) (by omega)
        rw [c2]
        refine ⟨fun g => ?_, fun g => ?_⟩
        · have g2 := g.resolve_left c1
          simp only at hbj
          rw [if_pos (by omega)] at hbj
          exact take hbj
        · have g2 : btV A t k ≤ btV A t (9 * i + j) := Decidable.not_not.mp (fun q => g (Or.inr q))
          simp only at hbj
          rw [if_neg (by omega)] at hbj
          rw [← nI_succ]
          exact ih (j + 1) (by omega) (by omega) (some k) v3 v4 hb' hbj
theorem L_X12_btw56 (hW : zWf A) {t : Nat} {w : Int} (ht : t < aN A) (hs : ¬ spB A t) (h2 : 2 ≤ gn A t) (hG : zGm A σ t) (hT : zTa A σ t w (plF A t)) {e : Int32} (he : e = 0 ∨ e = 1 ∨ e = 2) (hQ : Q (some (.inl (bwV A t e))) σ) : ∀ (n i : Nat), i + n = gn A t → ∀ b v3 v4, bpO A t b v3 v4 → bpI A t n b = bpI A t (gn A t) none → (i = gn A t → b ≠ none) → (0 < i → b ≠ none) → zE true (d + 11) kc ks M_X12_between 56 [some (.inr (.inr (54, 0))), none, some (.inl (e)), some (.inl (v3)), some (.inl (v4)), some (.inl (nI i)), none, none, none] [] σ Q := by
  have hN : aN A ≤ 24 := hW.1.2.2.2.2.1
  have gl := gn_le A t
  have h9 : gn A t ≤ 9 := by unfold spB at hs; omega
  have some_of : ∀ (i n : Nat) (b : Option Nat), b ≠ none → bpJ A t i n b ≠ none := by
    intro i n
    induction n with
    | zero => intro b hb; exact hb
    | succ n ih =>
      intro b hb
      unfold bpJ
      refine ih _ ?_
      cases b with
      | none => exact absurd rfl hb
      | some k =>
        simp only
        split <;> (intro q; cases q)
  intro n
  induction n with
  | zero =>
    intro i hi b v3 v4 hb hbi hne _
    have : i = gn A t := by omega
    subst this
    cases b with
    | none => exact absurd rfl (hne rfl)
    | some k =>
      obtain ⟨q1, q2, q3, q4, q5⟩ := hb
      subst q4 q5
      have hk : bpI A t (gn A t) none = some k := hbi.symm
      have dm : nI k / 9 = nI (k / 9) ∧ nI k % 9 = nI (k % 9) := by
        have : ∀ x, x < 81 → nI x / 9 = nI (x / 9) ∧ nI x % 9 = nI (x % 9) := by decide +kernel
        exact this k q1
      refine T_X12_between_56 ⟨fun _ => ?_, fun h => absurd (by rw [hG.1]; exact Int32.le_refl _) h⟩
      rw [dm.1, dm.2, nI_clamp (show k / 9 < 2 ^ 31 by omega), nI_clamp (show k % 9 < 2 ^ 31 by omega), hG.2 _ q2, hG.2 _ q3]
      refine ⟨fun _ _ => nI_in (by omega) (by omega), fun _ => nI_in (by omega) (by omega), fun x hx => ?_⟩
      have ex : x = bwV A t e := by
        rw [hx]
        unfold bwV
        rw [hk]
        rcases he with rfl | rfl | rfl <;> rfl
      rw [ex]
      exact hQ
  | succ n ih =>
    intro i hi b v3 v4 hb hbi hne hne2
    have ei : gn A t - (n + 1) = i := by omega
    refine T_X12_between_56 ⟨fun g => ?_, fun _ => ?_⟩
    · rw [hG.1, nI_leI (by omega) (by omega)] at g
      omega
    · rw [← nI_succ]
      have hbi : bpI A t n (bpJ A t (gn A t - (n + 1)) (gn A t - (gn A t - (n + 1)) - 1) b) = bpI A t (gn A t) none := hbi
      rw [ei] at hbi
      refine L_X12_btw71 hW ht hs hG hT (by omega) (fun _ _ _ _ _ _ _ => Or.inr trivial) (b1 := bpJ A t i (gn A t - i - 1) b) (fun v3' v4' hb' => ?_) (gn A t - (i + 1)) (i + 1) (by omega) (by omega) b v3 v4 hb (by rw [show gn A t - (i + 1) = gn A t - i - 1 by omega])
      rw [← nI_succ]
      have key : bpJ A t i (gn A t - i - 1) b ≠ none := by
        by_cases z : b = none
        · have i0 : i = 0 := by
            by_cases q : i = 0
            · exact q
            · exact absurd z (hne2 (by omega))
          subst z
          rw [i0, show gn A t - 0 - 1 = (gn A t - 2) + 1 by omega]
          unfold bpJ
          exact some_of _ _ _ (by intro q; cases q)
        · exact some_of _ _ _ z
      exact ih (i + 1) (by omega) _ v3' v4' hb' hbi (fun _ => key) (fun _ => key)
theorem O_X12_between {K : Int32 → zSt → Prop} (hW : zWf A) (hR : zRM A σ) (hC : zCM A σ) (a e : Int32) (hno : ¬ tI A a = true → K (-1) σ) (hout : tI A a = true → ¬ (e = 0 ∨ e = 1 ∨ e = 2) → K (-2) σ) (hyes : ∀ t, t < aN A → a = nI t → (e = 0 ∨ e = 1 ∨ e = 2) → ∀ σ', zOnly zSqn σ σ' → zCM A σ' → (spB A t → K (-6) σ') ∧ (¬ spB A t → K (if gn A t = 1 then -9 else bwV A t e) σ')) : zCi true (d + 11) 0 0 M_X12_between [.inr (.inr (54, 0)), .inl (a), .inl (e)] σ K := by
  have hN : aN A ≤ 24 := hW.1.2.2.2.2.1
  have i02 : (0 ≤ e.toInt64 ∧ e.toInt64 ≤ 2) ↔ (e = 0 ∨ e = 1 ∨ e = 2) := by
    have h2 : (0 ≤ e.toInt64 ∧ e.toInt64 ≤ 2) ↔ (((0 : Nat) : Int) ≤ e.toInt ∧ e.toInt ≤ ((2 : Nat) : Int)) := zin_c e (l := 0) (h := 2) (by omega) (by omega)
    have e0 : (0 : Int32).toInt = 0 := rfl
    have e1 : (1 : Int32).toInt = 1 := rfl
    have e2 : (2 : Int32).toInt = 2 := rfl
    rw [h2, ← Int32.toInt_inj, ← Int32.toInt_inj, ← Int32.toInt_inj, e0, e1, e2]
    omega
  refine zC_intro pl_X12 (Nat.le_of_ble_eq_true rfl) (T_X12_between_0 (S_X12_noThing hW hR a ⟨fun h => ⟨fun h2 => ?_, fun h2 => ⟨_, rfl, hout ?_ ?_⟩⟩, fun h => ⟨_, rfl, hno ?_⟩⟩))
  · rw [zb_0, Decidable.not_not] at h
    rw [zb_0, Decidable.not_not, i02] at h2
    obtain ⟨t, ht, rfl⟩ := tI_nI h
    have gl := gn_le A t
    have gp := gn_pos ht
    rw [show (-1 : Int32) = iI (-1) from rfl]
    refine S_X12_searchFor hW hR ht hC (by omega) (fun x σ' o1 c1 s1 _ => ⟨fun g => ?_, fun g => ⟨_, rfl, (hyes t ht rfl h2 σ' (o1.mono (fun c j k h => Or.inl h)) c1).1 (s1.S g)⟩⟩)
    obtain ⟨q0, q1, q2, q3, q4⟩ := s1.F g
    have fin := (hyes t ht rfl h2 σ' (o1.mono (fun c j k h => Or.inl h)) c1).2 q1
    have cg : (zgi σ' 54 0 37 = 1) ↔ gn A t = 1 := by rw [s1.1.1]; exact nI_eq (b := 1) (by omega) (by omega)
    rw [cg]
    refine ⟨fun g2 => ?_, fun g2 => ⟨_, rfl, ?_⟩⟩
    · rw [if_neg g2] at fin
      exact L_X12_btw56 (A := A) (Q := fun r σ' => ∃ x, r = some (.inl x) ∧ K x σ') hW ht q1 (by omega) s1.1 q3 h2 ⟨_, rfl, fin⟩ (gn A t) 0 (by omega) none (-1) 0 ⟨rfl, rfl⟩ rfl (fun z => by omega) (fun z => absurd z (Nat.lt_irrefl 0))
    · rw [if_pos g2] at fin
      exact fin
  · rw [zb_0, Decidable.not_not] at h
    exact h
  · rw [zb_0, i02] at h2
    exact h2
  · rw [zb_0, Decidable.not_not] at h
    exact h
end zMt
