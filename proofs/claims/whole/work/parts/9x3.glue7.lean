/-! sheets, holds, faults: both sides -/
section zGs
variable {σ σ' σ1 : zSt} {A A' : zAb} {B B' : zSh} {H H' : zHo} {I : Nat → Bool × zAb} {M : Nat → Nat → Nat → Prop}
theorem msRun_wf {k : Nat} {i n : Int} : ∀ (r c : Nat) {A : zAb}, zWf A → zWf (msRun B k i n r c A).2.2
  | 0, c, A, h => h
  | r + 1, c, A, h => by
    unfold msRun
    split
    · exact h
    · split
      · exact h
      · split
        · exact h
        · exact msRun_wf r (c + 1) (measF_wf h _ _ _ _ _)
theorem shI_of {k : Nat} {a : Int32} (hk : k < 4) (q : a = nI k) : shI a := by
  unfold shI
  rw [q, nI_toInt (by omega)]
  omega
theorem hoI_of {k : Nat} {a : Int32} (hk : k < 8) (q : a = nI k) : hoI a := by
  unfold hoI
  rw [q, nI_toInt (by omega)]
  omega
theorem zCC.only2 (h : zCC A σ) (ho : zOnly M σ σ') (hm : ∀ c j k, M c j k → ¬ (8 ≤ c ∧ c ≤ 13 ∨ 31 ≤ c ∧ c ≤ 52) ∧ ¬ (c = 6 ∧ k = 13)) : zCC A σ' := by
  have n1 : ∀ c j k, 8 ≤ c → c ≤ 13 → ¬ M c j k := fun c j k a b q => (hm c j k q).1 (Or.inl ⟨a, b⟩)
  have n2 : ∀ c j k, 31 ≤ c → c ≤ 52 → ¬ M c j k := fun c j k a b q => (hm c j k q).1 (Or.inr ⟨a, b⟩)
  refine ⟨h.1.only ho ⟨fun j k => ⟨n2 _ _ _ (by omega) (by omega), n2 _ _ _ (by omega) (by omega)⟩, fun j k => ⟨n2 _ _ _ (by omega) (by omega), n2 _ _ _ (by omega) (by omega)⟩, n1 _ _ _ (by omega) (by omega), n1 _ _ _ (by omega) (by omega), fun q => (hm _ _ _ q).2 ⟨rfl, rfl⟩⟩, h.2.1.on ho ⟨n1 _ _ _ (by omega) (by omega), n1 _ _ _ (by omega) (by omega)⟩, h.2.2.1.on ho ⟨n1 _ _ _ (by omega) (by omega), n1 _ _ _ (by omega) (by omega), n1 _ _ _ (by omega) (by omega), fun k => n2 _ _ _ (by omega) (by omega)⟩, h.2.2.2.1.only ho ⟨fun k _ => n1 _ _ _ (by omega) (by omega), fun j k => ⟨n2 _ _ _ (by omega) (by omega), n2 _ _ _ (by omega) (by omega), n2 _ _ _ (by omega) (by omega), n2 _ _ _ (by omega) (by omega)⟩⟩, h.2.2.2.2.only ho ⟨n1 _ _ _ (by omega) (by omega), fun j e => n2 _ _ _ (by omega) (by omega)⟩⟩
theorem zJx.sh (j : zJx A B H I σ) (hB' : zWs B') (hH' : zWh H') (o1 : zOnly M σ σ1) (h1 : σ1.2.2.2 = σ.2.2.2) (hm : ∀ c j k, M c j k → c = 15 ∨ c = 53 ∨ c = 20 ∨ c = 21 ∨ c = 14 ∨ (c = 6 ∧ k = 15)) (hx : zX σ σ1) (hS : zSD B' σ1) (hD : zHD H' σ1) : zJM A B H I σ1 ∧ zKpp σ σ1 ∧ ∀ (σ2 : zSt) (M2 : Nat → Nat → Nat → Prop), zOnly M2 σ1 σ2 → (∀ c j k, M2 c j k → 93 ≤ c ∨ (c = 54 ∧ (k = 0 ∨ k = 78))) → zX σ1 σ2 → zRs B' σ2 → zRh H' σ2 → zgi σ2 6 0 15 = zgi σ2 54 0 0 → zgi σ2 14 0 0 = zgi σ2 54 0 78 → zJ σ2 ∧ zKpp σ1 σ2 := by
  obtain ⟨hwA, hwB, hwH, hwI⟩ := j.1
  have n : ∀ c j k, ¬ (c = 15 ∨ c = 53 ∨ c = 20 ∨ c = 21 ∨ c = 14 ∨ (c = 6 ∧ k = 15)) → ¬ M c j k := fun c j k a q => a (hm c j k q)
  have d := j.2.1
  have m1 := j.2.2.1.cl j.1 o1 (fun c j k q => by have := hm c j k q; omega)
  have d1 : zJD A B' H' I σ1 := by
    refine ⟨j.D.only o1 h1 (fun c i k q => n _ _ _ (by unfold zBD at q; omega)), j.2.1.2.1.only2 o1 (fun c j k q => by have := hm c j k q; omega), d.2.2.1.on o1 (fun c j k a b => n _ _ _ (by omega)), hS, hD, d.2.2.2.2.2.1.to hwI (zMad.of o1 h1 (fun j k => ⟨n _ _ _ (by omega), n _ _ _ (by omega)⟩)) (fun c k => ⟨fun hc => ⟨n _ _ _ (by omega), n _ _ _ (by omega)⟩, fun hc => n _ _ _ (by omega)⟩) (fun c m k hc => n _ _ _ (by omega)), d.2.2.2.2.2.2.only o1 (fun j k => ⟨n _ _ _ (by omega), n _ _ _ (by omega)⟩)⟩
  have w1 : zJW A B' H' I := ⟨hwA, hB', hH', hwI⟩
  refine ⟨m1, zKpp.cl o1 hx (fun k => n _ _ _ (by omega)), fun σ2 M2 o2 hm2 hx2 s2 h2 e1 e2 => ⟨⟨A, B', H', I, w1, d1.rf w1 o2 hx2 (fun c j k q => by have := hm2 c j k q; omega), ?_, e1, e2, ?_⟩, zKpp.cl o2 hx2 (fun k q => by have := hm2 1 0 k q; omega)⟩⟩
  · have n2 : ∀ c j k, ¬ (93 ≤ c ∨ (c = 54 ∧ (k = 0 ∨ k = 78))) → ¬ M2 c j k := fun c j k a q => a (hm2 c j k q)
    exact ⟨m1.1.only o2 (fun c k q => n2 _ _ _ (by unfold zBM at q; omega)), m1.2.1.only o2 (fun c k q => n2 _ _ _ (by unfold zQm at q; omega)), s2, h2, m1.2.2.2.2.only hwI o2 (fun k => ⟨n2 _ _ _ (by omega), n2 _ _ _ (by omega)⟩)⟩
  · rw [o2.i 6 0 14 (fun q => by have := hm2 _ _ _ q; omega), o2.i 54 0 42 (fun q => by have := hm2 _ _ _ q; omega), o1.i 6 0 14 (n _ _ _ (by omega)), o1.i 54 0 42 (n _ _ _ (by omega))]
    exact j.2.2.2.2.2
/-- a fault alone -/
theorem zJx.ft {s1 : zSt} {x : Int32} (j : zJx A B H I σ) (o1 : zOnly z615 σ s1) (h1 : s1.2.2.2 = σ.2.2.2) (e1 : zgi s1 6 0 15 = x) (hx : zX σ s1) : zJM A B H I s1 ∧ zKpp σ s1 ∧ ∀ s2, zOnly (fun c _ k => c = 54 ∧ k = 0) s1 s2 → zgi s2 54 0 0 = x → zX s1 s2 → zJ s2 ∧ zKpp σ s2 := by
  obtain ⟨m1, k1, nx⟩ := j.sh j.1.2.1 j.1.2.2.1 o1 h1 (fun c j k q => by omega) hx (j.2.1.2.2.2.1.only o1 (fun j k => ⟨by omega, by omega⟩)) (j.2.1.2.2.2.2.1.only o1 h1 (fun j k => ⟨by omega, by omega, by omega, by omega⟩))
  refine ⟨m1, k1, fun s2 o2 e2 hx2 => ?_⟩
  obtain ⟨jj, k2⟩ := nx s2 _ o2 (fun c j k q => by omega) hx2 (m1.2.2.1.only j.1.2.1 o2 (fun k => ⟨by omega, by omega, by omega⟩)) (m1.2.2.2.1.only o2 (fun k => ⟨by omega, by omega, by omega, by omega, by omega⟩)) (by rw [o2.i 6 0 15 (by omega), e1, e2]) (by
    rw [o2.i 14 0 0 (by omega), o2.i 54 0 78 (by omega), o1.i 14 0 0 (by omega), o1.i 54 0 78 (by omega)]
    exact j.2.2.2.2.1)
  exact ⟨jj, k1.tr k2⟩
theorem zJx.fa {s1 : zSt} {x : Int32} (j : zJx A B H I σ) (hs : s1 = zsi σ 6 0 15 x ∨ s1 = zsi (zsi σ 6 0 15 0) 6 0 15 x) (hx : zX σ s1) : zJM A B H I s1 ∧ zKpp σ s1 ∧ (zX s1 (zsi s1 54 0 0 x) → zJ (zsi s1 54 0 0 x) ∧ zKpp σ (zsi s1 54 0 0 x)) ∧ (zX s1 (zsi (zsi s1 54 0 0 0) 54 0 0 x) → zJ (zsi (zsi s1 54 0 0 0) 54 0 0 x) ∧ zKpp σ (zsi (zsi s1 54 0 0 0) 54 0 0 x)) := by
  have q : zOnly z615 σ s1 ∧ s1.2.2.2 = σ.2.2.2 ∧ zgi s1 6 0 15 = x := by
    rcases hs with rfl | rfl
    · exact ⟨zOnly.si ⟨rfl, rfl⟩, rfl, by rw [zgi_si, if_pos ⟨rfl, rfl, rfl⟩]⟩
    · exact ⟨(zOnly.si ⟨rfl, rfl⟩).tr (zOnly.si ⟨rfl, rfl⟩), rfl, by rw [zgi_si, if_pos ⟨rfl, rfl, rfl⟩]⟩
  obtain ⟨m1, k1, nx⟩ := j.ft q.1 q.2.1 q.2.2 hx
  exact ⟨m1, k1, nx _ (zOnly.si ⟨rfl, rfl⟩) (by rw [zgi_si, if_pos ⟨rfl, rfl, rfl⟩]), nx _ ((zOnly.si ⟨rfl, rfl⟩).tr (zOnly.si ⟨rfl, rfl⟩)) (by rw [zgi_si, if_pos ⟨rfl, rfl, rfl⟩])⟩
theorem wh_th {k t : Nat} (hW : zWf A) (hH : zWh H) (ht : t < aN A) : zWh (hNew H k 0 t (aK A t) (3 * t) (aC A t)) := fun i hi => by
  by_cases e : i = k
  · have hN : aN A ≤ 24 := hW.1.2.2.2.2.1
    obtain ⟨w1, w2, w3, _⟩ := hW.2.1 t ht
    subst e
    refine Or.inr (Or.inl ?_)
    have hc : -9 ≤ aC A t ∧ aC A t < 64 := by
      by_cases z : aK A t = 0
      · have := w3 z; omega
      · obtain ⟨c, h1, h2⟩ := w2 (by omega)
        have : acell A c = true := by
          unfold afree at h2
          rw [Bool.and_eq_true] at h2
          exact h2.1
        have := acell_64 this
        omega
    simp only [hNew, if_true]
    refine ⟨trivial, ⟨by omega, by omega⟩, ⟨by omega, by omega⟩, rfl, hc⟩
  · have := hH i hi
    simp only [hNew, if_neg e]
    exact this
theorem wh_me {k m : Nat} (hW : zWf A) (hH : zWh H) (hm : m < aM A) : zWh (hNew H k 1 m (mK A m) (mA A m + mB A m : Int) (mP A m + mQ A m : Int)) := fun i hi => by
  by_cases e : i = k
  · have hN : aN A ≤ 24 := hW.1.2.2.2.2.1
    have hM : aM A ≤ 60 := hW.1.2.2.2.2.2.1
    obtain ⟨w1, w2, w3, w4, w5, w6, _⟩ := hW.2.2.1 m hm
    subst e
    refine Or.inr (Or.inr ?_)
    simp only [hNew, if_true]
    refine ⟨trivial, ⟨by omega, by omega⟩, ⟨by omega, by omega⟩, ⟨by omega, by omega⟩, by omega, by omega⟩
  · have := hH i hi
    simp only [hNew, if_neg e]
    exact this
end zGs
section zGs2
variable {d d2 : Nat} {σ : zSt} {K : Int32 → Int32 → zSt → Prop} {L : Int64 → Int64 → zSt → Prop}
theorem G_plan (hJ : zJ σ) (a l i : Int32) (hK : ∀ x s, zJ s → zKpp σ s → K x x s) : zCi true (d + 4) 0 0 M_X11_plan [.inr (.inr (6, 0)), .inl (a), .inl (l), .inl (i)] σ (fun x s1 => zKpp σ s1 ∧ zCi true (d2 + 5) 0 0 M_X12_plan [.inr (.inr (54, 0)), .inl (a), .inl (l), .inl (i)] s1 (fun y s2 => K x y s2)) := by
  obtain ⟨A, B, H, I, j⟩ := hJ
  have j : zJx A B H I σ := j
  have eq : ∀ {x y : Nat}, x < 4 → y < 4 → a = nI x → a = nI y → x = y := fun hx hy q1 q2 => nI_i (q1.symm.trans q2) (by omega) (by omega)
  have gr : ∀ {k g : Nat}, k < 4 → (g + aW A * aH A : Int) ≤ B.1 k → g ≤ 64 := fun {k g} hk h => by
    have := j.1.2.1 k hk
    have : (0 : Int) ≤ aW A * aH A := by exact_mod_cast Nat.zero_le _
    omega
  have sr : ∀ {k g : Nat}, k < 4 → i = nI g → (g + aW A * aH A : Int) ≤ B.1 k → sRe (B.1 k) i.toInt (aW A * aH A : Nat) := fun {k g} hk q h => by
    have := gr hk h
    have : (0 : Int) ≤ aW A * aH A := by exact_mod_cast Nat.zero_le _
    rw [q, nI_toInt (by omega)]
    refine ⟨by omega, by omega, by push_cast; omega⟩
  refine zCi.x (O_X11_plan j.W j.D j.1.2.1 j.2.1.2.2.2.1 a l i (fun h hx => ?_) (fun h h2 hx => ?_) (fun k hk q h0 h1 h2 hx => ?_) (fun k hk q h0 h1 hx => ?_) (fun k hk q h0 h1 h2 h3 hx => ?_) (fun k g hk q h0 h1 h2 q2 h3 h4 hx => ?_) (fun k g hk q h0 h1 h2 q2 h3 h4 σ1 r1 f1 z1 o1 hh e1 hx => ?_))
  · obtain ⟨m1, k1, f1, _⟩ := j.fa (Or.inl rfl) hx
    exact ⟨k1, zCi.x (O_X12_plan j.W m1.1 j.1.2.1 m1.2.2.1 a l i (fun _ hx2 => hK _ _ (f1 hx2).1 (f1 hx2).2) (fun h2 => absurd h2 h) (fun k hk q => absurd (shI_of hk q) h) (fun k hk q => absurd (shI_of hk q) h) (fun k hk q => absurd (shI_of hk q) h) (fun k g hk q => absurd (shI_of hk q) h) (fun k g hk q => absurd (shI_of hk q) h))⟩
  · obtain ⟨m1, k1, f1, _⟩ := j.fa (Or.inl rfl) hx
    exact ⟨k1, zCi.x (O_X12_plan j.W m1.1 j.1.2.1 m1.2.2.1 a l i (fun h3 => absurd h h3) (fun _ _ hx2 => hK _ _ (f1 hx2).1 (f1 hx2).2) (fun k hk q h3 => absurd h3 h2) (fun k hk q h3 => absurd h3 h2) (fun k hk q h3 => absurd h3 h2) (fun k g hk q h3 => absurd h3 h2) (fun k g hk q h3 => absurd h3 h2))⟩
  · obtain ⟨m1, k1, f1, _⟩ := j.fa (Or.inr rfl) hx
    exact ⟨k1, zCi.x (O_X12_plan j.W m1.1 j.1.2.1 m1.2.2.1 a l i (fun h3 => absurd (shI_of hk q) h3) (fun _ h3 => absurd h0 h3) (fun _ _ _ _ _ _ hx2 => hK _ _ (f1 hx2).1 (f1 hx2).2) (fun x hx q2 _ h3 => absurd h1 (by rw [eq hk hx q q2]; omega)) (fun x hx q2 _ _ h3 => absurd h3 (by rw [← eq hk hx q q2]; exact h2)) (fun x g hx q2 _ _ h3 => absurd h3 (by rw [← eq hk hx q q2]; exact h2)) (fun x g hx q2 _ _ h3 => absurd h3 (by rw [← eq hk hx q q2]; exact h2)))⟩
  · obtain ⟨m1, k1, f1, _⟩ := j.fa (Or.inr rfl) hx
    exact ⟨k1, zCi.x (O_X12_plan j.W m1.1 j.1.2.1 m1.2.2.1 a l i (fun h3 => absurd (shI_of hk q) h3) (fun _ h3 => absurd h0 h3) (fun x hx q2 _ h3 => absurd h3 (by rw [← eq hk hx q q2]; omega)) (fun _ _ _ _ _ hx2 => hK _ _ (f1 hx2).1 (f1 hx2).2) (fun x hx q2 _ h3 => absurd h3 (by rw [← eq hk hx q q2]; omega)) (fun x g hx q2 _ h3 => absurd h3 (by rw [← eq hk hx q q2]; omega)) (fun x g hx q2 _ h3 => absurd h3 (by rw [← eq hk hx q q2]; omega)))⟩
  · obtain ⟨m1, k1, f1, _⟩ := j.fa (Or.inr rfl) hx
    exact ⟨k1, zCi.x (O_X12_plan j.W m1.1 j.1.2.1 m1.2.2.1 a l i (fun h3 => absurd (shI_of hk q) h3) (fun _ h3 => absurd h0 h3) (fun x hx q2 _ _ h4 => absurd h2 (by rw [eq hk hx q q2]; exact h4)) (fun x hx q2 _ h4 => absurd h1 (by rw [eq hk hx q q2]; omega)) (fun _ _ _ _ _ _ _ hx2 => hK _ _ (f1 hx2).1 (f1 hx2).2) (fun x g hx q2 _ _ _ q3 h4 => absurd (sr hx q3 h4) (by rw [← eq hk hx q q2]; exact h3)) (fun x g hx q2 _ _ _ q3 h4 => absurd (sr hx q3 h4) (by rw [← eq hk hx q q2]; exact h3)))⟩
  · obtain ⟨m1, k1, f1, _⟩ := j.fa (Or.inl rfl) hx
    refine ⟨k1, zCi.x (O_X12_plan j.W m1.1 j.1.2.1 m1.2.2.1 a l i (fun h3 => absurd (shI_of hk q) h3) (fun _ h3 => absurd h0 h3) (fun x hx q2 _ _ h4 => absurd h2 (by rw [eq hk hx q q2]; exact h4)) (fun x hx q2 _ h4 => absurd h1 (by rw [eq hk hx q q2]; omega)) (fun x hx q3 _ _ _ h5 => absurd (sr hk q2 h3) (by rw [eq hk hx q q3]; exact h5)) (fun _ _ _ _ _ _ _ _ _ _ hx2 => hK _ _ (f1 hx2).1 (f1 hx2).2) (fun x w hx q3 _ _ _ q4 h5 h6 => ?_))⟩
    have e1 := eq hk hx q q3
    subst e1
    have e2 : g = w := nI_i (q2.symm.trans q4) (by have := gr hk h3; omega) (by have := gr hk h5; omega)
    subst e2
    rw [h4] at h6
    exact absurd h6 (by decide)
  have hWf := pl_wf j.W h4
  obtain ⟨m1, k1, nx⟩ := j.chf hWf (o1.mono (fun c j k q => Or.inr (Or.inr q))) (fun c i k q => by unfold zQfd zCh at q; omega) (j.2.1.2.2.2.2.2.2.only o1 (fun i k => ⟨by unfold zQfd zCh; omega, by unfold zQfd zCh; omega⟩)) hx r1 (j.2.1.2.1.fgz o1 (fun c j k q => by unfold zQfd zCh at q; omega) f1 z1)
  refine ⟨k1, zCi.x (O_X12_plan j.W m1.1 j.1.2.1 m1.2.2.1 a l i (fun h3 => absurd (shI_of hk q) h3) (fun _ h3 => absurd h0 h3) (fun x hx q2 _ _ h4 => absurd h2 (by rw [eq hk hx q q2]; exact h4)) (fun x hx q2 _ h4 => absurd h1 (by rw [eq hk hx q q2]; omega)) (fun x hx q3 _ _ _ h5 => absurd (sr hk q2 h3) (by rw [eq hk hx q q3]; exact h5)) (fun x w hx q3 _ _ _ q4 h5 h6 => ?_) (fun x w hx q3 _ _ _ q4 h5 h6 σ2 r2 c2 o2 e2 hx2 => ?_))⟩
  · have e1 := eq hk hx q q3
    subst e1
    have e2 : g = w := nI_i (q2.symm.trans q4) (by have := gr hk h3; omega) (by have := gr hk h5; omega)
    subst e2
    rw [h4] at h6
    exact absurd h6 (by decide)
  · have e3 := eq hk hx q q3
    subst e3
    have e4 : g = w := nI_i (q2.symm.trans q4) (by have := gr hk h3; omega) (by have := gr hk h5; omega)
    subst e4
    obtain ⟨jj, k2⟩ := nx σ2 _ o2 (fun c i k q => by unfold zPq at q; omega) hx2 r2 c2 (by rw [o2.i 6 0 15 (by unfold zPq; omega), e1, e2])
    exact hK _ _ jj (k1.tr k2)
theorem G_measures (hJ : zJ σ) (a l i n : Int32) (hK : ∀ x s, zJ s → zKpp σ s → K x x s) : zCi true (d + 5) 13 78 M_X11_measures [.inr (.inr (6, 0)), .inl (a), .inl (l), .inl (i), .inl (n)] σ (fun x s1 => zKpp σ s1 ∧ zCi true (d2 + 4) 0 0 M_X12_measures [.inr (.inr (54, 0)), .inl (a), .inl (l), .inl (i), .inl (n)] s1 (fun y s2 => K x y s2)) := by
  obtain ⟨A, B, H, I, j⟩ := hJ
  have j : zJx A B H I σ := j
  have eq : ∀ {x y : Nat}, x < 4 → y < 4 → a = nI x → a = nI y → x = y := fun hx hy q1 q2 => nI_i (q1.symm.trans q2) (by omega) (by omega)
  refine zCi.x (O_X11_measures (P := zCC) (fun A σ σ' a b c p q _ _ h _ o h1 h2 => h.me o h1 h2) (fun A σ x h => h.only (M := z615) (zOnly.si ⟨rfl, rfl⟩) (fun c j k q => by omega)) j.2.1.2.1 j.W j.D j.1.2.1 j.2.1.2.2.2.1 a l i n (fun h hx => ?_) (fun h h2 hx => ?_) (fun k hk q h0 h1 h2 hx => ?_) (fun k hk q h0 h1 hx => ?_) (fun k hk q h0 h1 h2 h3 hx => ?_) (fun k hk q h0 h1 h2 h3 σ1 r1 c1 o1 e1 hx => ?_))
  · obtain ⟨m1, k1, f1, _⟩ := j.fa (Or.inl rfl) hx
    exact ⟨k1, zCi.x (O_X12_measures j.W m1.1 m1.2.1 j.1.2.1 m1.2.2.1 a l i n (fun _ hx2 => hK _ _ (f1 hx2).1 (f1 hx2).2) (fun h2 => absurd h2 h) (fun k hk q => absurd (shI_of hk q) h) (fun k hk q => absurd (shI_of hk q) h) (fun k hk q => absurd (shI_of hk q) h) (fun k hk q => absurd (shI_of hk q) h))⟩
  · obtain ⟨m1, k1, f1, _⟩ := j.fa (Or.inl rfl) hx
    exact ⟨k1, zCi.x (O_X12_measures j.W m1.1 m1.2.1 j.1.2.1 m1.2.2.1 a l i n (fun h3 => absurd h h3) (fun _ _ hx2 => hK _ _ (f1 hx2).1 (f1 hx2).2) (fun k hk q h3 => absurd h3 h2) (fun k hk q h3 => absurd h3 h2) (fun k hk q h3 => absurd h3 h2) (fun k hk q h3 => absurd h3 h2))⟩
  · obtain ⟨m1, k1, f1, _⟩ := j.fa (Or.inr rfl) hx
    exact ⟨k1, zCi.x (O_X12_measures j.W m1.1 m1.2.1 j.1.2.1 m1.2.2.1 a l i n (fun h3 => absurd (shI_of hk q) h3) (fun _ h3 => absurd h0 h3) (fun _ _ _ _ _ _ hx2 => hK _ _ (f1 hx2).1 (f1 hx2).2) (fun x hx q2 _ h3 => absurd h1 (by rw [eq hk hx q q2]; omega)) (fun x hx q2 _ _ h3 => absurd h3 (by rw [← eq hk hx q q2]; exact h2)) (fun x hx q2 _ _ h3 => absurd h3 (by rw [← eq hk hx q q2]; exact h2)))⟩
  · obtain ⟨m1, k1, f1, _⟩ := j.fa (Or.inr rfl) hx
    exact ⟨k1, zCi.x (O_X12_measures j.W m1.1 m1.2.1 j.1.2.1 m1.2.2.1 a l i n (fun h3 => absurd (shI_of hk q) h3) (fun _ h3 => absurd h0 h3) (fun x hx q2 _ h3 => absurd h3 (by rw [← eq hk hx q q2]; omega)) (fun _ _ _ _ _ hx2 => hK _ _ (f1 hx2).1 (f1 hx2).2) (fun x hx q2 _ h3 => absurd h3 (by rw [← eq hk hx q q2]; omega)) (fun x hx q2 _ h3 => absurd h3 (by rw [← eq hk hx q q2]; omega)))⟩
  · obtain ⟨m1, k1, f1, _⟩ := j.fa (Or.inr rfl) hx
    exact ⟨k1, zCi.x (O_X12_measures j.W m1.1 m1.2.1 j.1.2.1 m1.2.2.1 a l i n (fun h3 => absurd (shI_of hk q) h3) (fun _ h3 => absurd h0 h3) (fun x hx q2 _ _ h4 => absurd h2 (by rw [eq hk hx q q2]; exact h4)) (fun x hx q2 _ h4 => absurd h1 (by rw [eq hk hx q q2]; omega)) (fun _ _ _ _ _ _ _ hx2 => hK _ _ (f1 hx2).1 (f1 hx2).2) (fun x hx q2 _ _ _ h4 => absurd h4 (by omega)))⟩
  obtain ⟨m1, k1, nx⟩ := j.chf (msRun_wf 20 0 j.W) o1.1 (fun c i k q => by unfold zQms zQme zCh at q; omega) (j.2.1.2.2.2.2.2.2.to o1.2.2) hx r1 c1
  refine ⟨k1, zCi.x (O_X12_measures j.W m1.1 m1.2.1 j.1.2.1 m1.2.2.1 a l i n (fun h3 => absurd (shI_of hk q) h3) (fun _ h3 => absurd h0 h3) (fun x hx q2 _ _ h4 => absurd h2 (by rw [eq hk hx q q2]; exact h4)) (fun x hx q2 _ h4 => absurd h1 (by rw [eq hk hx q q2]; omega)) (fun x hx q3 _ _ _ h5 => absurd h5 (by omega)) (fun x hx q3 _ _ _ h5 σ2 r2 c2 o2 e2 hx2 => ?_))⟩
  have e3 := eq hk hx q q3
  subst e3
  obtain ⟨jj, k2⟩ := nx σ2 _ o2 (fun c i k q => by unfold zMr zMq at q; omega) hx2 r2 c2 (by rw [o2.i 6 0 15 (by unfold zMr zMq; omega), e1, e2])
  exact hK _ _ jj (k1.tr k2)
theorem G_as (hJ : zJ σ) (a e : Int32) (hK : ∀ x s, zJ s → zKpp σ s → K x x s) : zCi true (d + 2) 0 0 M_X11_as [.inr (.inr (6, 0)), .inl (a), .inl (e)] σ (fun x s1 => zKpp σ s1 ∧ zCi true (d2 + 3) 0 0 M_X12_as [.inr (.inr (54, 0)), .inl (a), .inl (e)] s1 (fun y s2 => K x y s2)) := by
  obtain ⟨A, B, H, I, j⟩ := hJ
  have j : zJx A B H I σ := j
  refine zCi.x (O_X11_as j.1.2.2.1 j.2.1.2.2.2.2.1 a e (fun σ1 o1 h1 e1 hx => ?_))
  obtain ⟨m1, k1, nx⟩ := j.ft o1 h1 e1 hx
  refine ⟨k1, zCi.x (O_X12_as j.1.2.2.1 m1.2.2.2.1 a e (fun hx2 => ?_))⟩
  obtain ⟨jj, k2⟩ := nx _ (zOnly.si ⟨rfl, rfl⟩) (by rw [zgi_si, if_pos ⟨rfl, rfl, rfl⟩]) hx2
  exact hK _ _ jj k2
theorem G_tell (hJ : zJ σ) (a e : Int32) (hK : ∀ x s, zJ s → zKpp σ s → K x x s) : zCi true (d + 7) 0 0 M_X11_tell [.inr (.inr (6, 0)), .inl (a), .inl (e)] σ (fun x s1 => zKpp σ s1 ∧ zCi true (d2 + 3) 0 0 M_X12_tell [.inr (.inr (54, 0)), .inl (a), .inl (e)] s1 (fun y s2 => K x y s2)) := by
  obtain ⟨A, B, H, I, j⟩ := hJ
  have j : zJx A B H I σ := j
  refine zCi.x (O_X11_tell j.1.2.2.1 j.2.1.2.2.2.2.1 a e (fun σ1 ⟨o1, h1, t1, e1⟩ hx => ?_))
  obtain ⟨m1, k1, nx⟩ := j.sh j.1.2.1 j.1.2.2.1 o1 h1 (fun c j k q => by omega) hx (j.2.1.2.2.2.1.only o1 (fun j k => ⟨by omega, by omega⟩)) (j.2.1.2.2.2.2.1.only o1 h1 (fun j k => ⟨by omega, by omega, by omega, by omega⟩))
  refine ⟨k1, zCi.x (O_X12_tell j.1.2.2.1 m1.2.2.2.1 a e (fun σ2 ⟨o2, t2, e2⟩ hx2 => ?_))⟩
  obtain ⟨jj, k2⟩ := nx σ2 _ o2 (fun c j k q => by omega) hx2 (m1.2.2.1.only j.1.2.1 o2 (fun k => ⟨by omega, by omega, by omega⟩)) (m1.2.2.2.1.only o2 (fun k => ⟨by omega, by omega, by omega, by omega, by omega⟩)) (by rw [o2.i 6 0 15 (by omega), e1, e2]) (by rw [o2.i 14 0 0 (by omega), t1, t2, o1.i 54 0 78 (by omega), j.2.2.2.2.1])
  exact hK _ _ jj (k1.tr k2)
theorem G_greet (hJ : zJ σ) (a e : Int32) (hK : ∀ x s, zJ s → zKpp σ s → K x x s) : zCi true (d + 5) 0 0 M_X11_greet [.inr (.inr (6, 0)), .inl (a), .inl (e)] σ (fun x s1 => zKpp σ s1 ∧ zCi true (d2 + 3) 0 0 M_X12_greet [.inr (.inr (54, 0)), .inl (a), .inl (e)] s1 (fun y s2 => K x y s2)) := by
  obtain ⟨A, B, H, I, j⟩ := hJ
  have j : zJx A B H I σ := j
  refine zCi.x (O_X11_greet j.1.2.2.1 j.2.1.2.2.2.2.1 a e (fun σ1 ⟨o1, h1, t1, e1⟩ hx => ?_))
  obtain ⟨m1, k1, nx⟩ := j.sh j.1.2.1 j.1.2.2.1 o1 h1 (fun c j k q => by omega) hx (j.2.1.2.2.2.1.only o1 (fun j k => ⟨by omega, by omega⟩)) (j.2.1.2.2.2.2.1.only o1 h1 (fun j k => ⟨by omega, by omega, by omega, by omega⟩))
  refine ⟨k1, zCi.x (O_X12_greet j.1.2.2.1 m1.2.2.2.1 a e (fun σ2 ⟨o2, t2, e2⟩ hx2 => ?_))⟩
  obtain ⟨jj, k2⟩ := nx σ2 _ o2 (fun c j k q => by omega) hx2 (m1.2.2.1.only j.1.2.1 o2 (fun k => ⟨by omega, by omega, by omega⟩)) (m1.2.2.2.1.only o2 (fun k => ⟨by omega, by omega, by omega, by omega, by omega⟩)) (by rw [o2.i 6 0 15 (by omega), e1, e2]) (by rw [o2.i 14 0 0 (by omega), t1, t2, o1.i 54 0 78 (by omega), j.2.2.2.2.1])
  exact hK _ _ jj (k1.tr k2)
theorem G_hold (hJ : zJ σ) (a b e : Int32) (hK : ∀ x s, zJ s → zKpp σ s → K x x s) : zCi true (d + 3) 0 0 M_X11_hold [.inr (.inr (6, 0)), .inl (a), .inl (b), .inl (e)] σ (fun x s1 => zKpp σ s1 ∧ zCi true (d2 + 3) 0 0 M_X12_hold [.inr (.inr (54, 0)), .inl (a), .inl (b), .inl (e)] s1 (fun y s2 => K x y s2)) := by
  obtain ⟨A, B, H, I, j⟩ := hJ
  have j : zJx A B H I σ := j
  have eq : ∀ {x y : Nat}, x < 8 → y < 8 → a = nI x → a = nI y → x = y := fun hx hy q1 q2 => nI_i (q1.symm.trans q2) (by omega) (by omega)
  have bad : (¬ hoI a ∨ (hoI a ∧ ((b = 0 ∧ ¬ tI A e = true) ∨ (b = 1 ∧ ¬ mI A e = true)))) → hoI a → (b = 0 ∧ ¬ tI A e = true) ∨ (b = 1 ∧ ¬ mI A e = true) := fun h h2 => by
    rcases h with h | h
    · exact absurd h2 h
    · exact h.2
  have b01 : ¬ ((0 : Int32) = 1) := by decide
  refine zCi.x (O_X11_hold j.W j.D j.2.1.2.2.2.2.1 a b e (fun h _ => ⟨zKpp.rf, zCi.x (O_X12_hold j.W j.R j.2.2.1.2.2.2.1 a b e (fun _ _ => hK _ _ j.J zKpp.rf) (fun h1 h2 => ?_) (fun k t hk ht q1 q2 q3 => ?_) (fun k t hk ht q1 q2 q3 => ?_))⟩) (fun h1 h2 _ => ⟨zKpp.rf, zCi.x (O_X12_hold j.W j.R j.2.2.1.2.2.2.1 a b e (fun h => ?_) (fun _ _ _ => hK _ _ j.J zKpp.rf) (fun k t hk ht q1 q2 q3 => ?_) (fun k t hk ht q1 q2 q3 => ?_))⟩) (fun k t hk ht q1 q2 q3 σ1 d1 o1 h1 hx => ?_) (fun k t hk ht q1 q2 q3 σ1 d1 o1 h1 hx => ?_))
  · rcases bad h h1 with g | g
    · exact absurd (Or.inl g.1) h2
    · exact absurd (Or.inr g.1) h2
  · rcases bad h (hoI_of hk q1) with g | g
    · exact absurd (by rw [q3]; exact tI_of j.W ht) g.2
    · exact absurd (q2.symm.trans g.1) b01
  · rcases bad h (hoI_of hk q1) with g | g
    · exact absurd (g.1.symm.trans q2) b01
    · exact absurd (by rw [q3]; exact mI_of j.W ht) g.2
  · rcases bad h h1 with g | g
    · exact absurd (Or.inl g.1) h2
    · exact absurd (Or.inr g.1) h2
  · exact absurd (Or.inl q2) h2
  · exact absurd (Or.inr q2) h2
  · obtain ⟨m1, k1, nx⟩ := j.sh j.1.2.1 (wh_th (k := k) j.W j.1.2.2.1 ht) o1 h1 (fun c j k q => by omega) hx (j.2.1.2.2.2.1.only o1 (fun j k => ⟨by omega, by omega⟩)) d1
    refine ⟨k1, zCi.x (O_X12_hold j.W m1.1 m1.2.2.2.1 a b e (fun h => ?_) (fun _ h2 => absurd (Or.inl q2) h2) (fun x u hx3 hu q4 q5 q6 σ2 d2 o2 hx2 => ?_) (fun x u hx3 hu q4 q5 q6 => absurd (q2.symm.trans q5) b01))⟩
    · rcases bad h (hoI_of hk q1) with g | g
      · exact absurd (by rw [q3]; exact tI_of j.W ht) g.2
      · exact absurd (q2.symm.trans g.1) b01
    · have e1 := eq hk hx3 q1 q4
      have e2 := nI_i (q3.symm.trans q6) (tI_lt j.W ht) (tI_lt j.W hu)
      subst e1 e2
      obtain ⟨jj, k2⟩ := nx σ2 _ o2 (fun c j k q => by omega) hx2 (m1.2.2.1.only j.1.2.1 o2 (fun k => ⟨by omega, by omega, by omega⟩)) d2 (by
        rw [o2.i 6 0 15 (by omega), o2.i 54 0 0 (by omega), o1.i 6 0 15 (by omega), o1.i 54 0 0 (by omega)]
        exact j.2.2.2.1) (by
        rw [o2.i 14 0 0 (by omega), o2.i 54 0 78 (by omega), o1.i 14 0 0 (by omega), o1.i 54 0 78 (by omega)]
        exact j.2.2.2.2.1)
      exact hK _ _ jj (k1.tr k2)
  · obtain ⟨m1, k1, nx⟩ := j.sh j.1.2.1 (wh_me (k := k) j.W j.1.2.2.1 ht) o1 h1 (fun c j k q => by omega) hx (j.2.1.2.2.2.1.only o1 (fun j k => ⟨by omega, by omega⟩)) d1
    refine ⟨k1, zCi.x (O_X12_hold j.W m1.1 m1.2.2.2.1 a b e (fun h => ?_) (fun _ h2 => absurd (Or.inr q2) h2) (fun x u hx3 hu q4 q5 q6 => absurd (q5.symm.trans q2) b01) (fun x u hx3 hu q4 q5 q6 σ2 d2 o2 hx2 => ?_))⟩
    · rcases bad h (hoI_of hk q1) with g | g
      · exact absurd (g.1.symm.trans q2) b01
      · exact absurd (by rw [q3]; exact mI_of j.W ht) g.2
    · have e1 := eq hk hx3 q1 q4
      have e2 := nI_i (q3.symm.trans q6) (mI_lt j.W ht) (mI_lt j.W hu)
      subst e1 e2
      obtain ⟨jj, k2⟩ := nx σ2 _ o2 (fun c j k q => by omega) hx2 (m1.2.2.1.only j.1.2.1 o2 (fun k => ⟨by omega, by omega, by omega⟩)) d2 (by
        rw [o2.i 6 0 15 (by omega), o2.i 54 0 0 (by omega), o1.i 6 0 15 (by omega), o1.i 54 0 0 (by omega)]
        exact j.2.2.2.1) (by
        rw [o2.i 14 0 0 (by omega), o2.i 54 0 78 (by omega), o1.i 14 0 0 (by omega), o1.i 54 0 78 (by omega)]
        exact j.2.2.2.2.1)
      exact hK _ _ jj (k1.tr k2)
theorem G_loose (hJ : zJ σ) (a : Int32) (hK : ∀ x s, zJ s → zKpp σ s → K x x s) : zCi true (d + 2) 0 0 M_X11_loose [.inr (.inr (6, 0)), .inl (a)] σ (fun x s1 => zKpp σ s1 ∧ zCi true (d2 + 3) 0 0 M_X12_loose [.inr (.inr (54, 0)), .inl (a)] s1 (fun y s2 => K x y s2)) := by
  obtain ⟨A, B, H, I, j⟩ := hJ
  have j : zJx A B H I σ := j
  refine zCi.x (O_X11_loose j.1.2.2.1 j.2.1.2.2.2.2.1 a (fun h _ => ⟨zKpp.rf, zCi.x (O_X12_loose j.1.2.2.1 j.2.2.1.2.2.2.1 a (fun _ _ => hK _ _ j.J zKpp.rf) (fun k hk q => absurd (hoI_of hk q) h))⟩) (fun k hk q σ1 d1 o1 h1 hx => ?_))
  obtain ⟨m1, k1, nx⟩ := j.sh j.1.2.1 (wh_lose (k := k) j.1.2.2.1) o1 h1 (fun c j k q => by omega) hx (j.2.1.2.2.2.1.only o1 (fun j k => ⟨by omega, by omega⟩)) d1
  refine ⟨k1, zCi.x (O_X12_loose j.1.2.2.1 m1.2.2.2.1 a (fun h => absurd (hoI_of hk q) h) (fun x hx3 q2 σ2 d2 o2 hx2 => ?_))⟩
  have e1 : k = x := nI_i (q.symm.trans q2) (by omega) (by omega)
  subst e1
  obtain ⟨jj, k2⟩ := nx σ2 _ o2 (fun c j k q => by omega) hx2 (m1.2.2.1.only j.1.2.1 o2 (fun k => ⟨by omega, by omega, by omega⟩)) d2 (by
    rw [o2.i 6 0 15 (by omega), o2.i 54 0 0 (by omega), o1.i 6 0 15 (by omega), o1.i 54 0 0 (by omega)]
    exact j.2.2.2.1) (by
    rw [o2.i 14 0 0 (by omega), o2.i 54 0 78 (by omega), o1.i 14 0 0 (by omega), o1.i 54 0 78 (by omega)]
    exact j.2.2.2.2.1)
  exact hK _ _ jj (k1.tr k2)
theorem G_lose (hJ : zJ σ) (a : Int32) (hK : ∀ x s, zJ s → zKpp σ s → K x x s) : zCi true (d + 2) 0 0 M_X11_lose [.inr (.inr (6, 0)), .inl (a)] σ (fun x s1 => zKpp σ s1 ∧ zCi true (d2 + 3) 0 0 M_X12_lose [.inr (.inr (54, 0)), .inl (a)] s1 (fun y s2 => K x y s2)) := by
  obtain ⟨A, B, H, I, j⟩ := hJ
  have j : zJx A B H I σ := j
  refine zCi.x (O_X11_lose j.1.2.1 j.2.1.2.2.2.1 a (fun h _ => ⟨zKpp.rf, zCi.x (O_X12_lose j.1.2.1 j.2.2.1.2.2.1 a (fun _ _ => hK _ _ j.J zKpp.rf) (fun k hk q => absurd (shI_of hk q) h))⟩) (fun k hk q σ1 d1 o1 h1 hx => ?_))
  obtain ⟨m1, k1, nx⟩ := j.sh (ws_lose (k := k) j.1.2.1) j.1.2.2.1 o1 h1 (fun c j k q => by omega) hx d1 (j.2.1.2.2.2.2.1.only o1 h1 (fun j k => ⟨by omega, by omega, by omega, by omega⟩))
  refine ⟨k1, zCi.x (O_X12_lose j.1.2.1 m1.2.2.1 a (fun h => absurd (shI_of hk q) h) (fun x hx3 q2 σ2 d2 o2 hx2 => ?_))⟩
  have e1 : k = x := nI_i (q.symm.trans q2) (by omega) (by omega)
  subst e1
  obtain ⟨jj, k2⟩ := nx σ2 _ o2 (fun c j k q => by omega) hx2 d2 (m1.2.2.2.1.only o2 (fun k => ⟨by omega, by omega, by omega, by omega, by omega⟩)) (by
    rw [o2.i 6 0 15 (by omega), o2.i 54 0 0 (by omega), o1.i 6 0 15 (by omega), o1.i 54 0 0 (by omega)]
    exact j.2.2.2.1) (by
    rw [o2.i 14 0 0 (by omega), o2.i 54 0 78 (by omega), o1.i 14 0 0 (by omega), o1.i 54 0 78 (by omega)]
    exact j.2.2.2.2.1)
  exact hK _ _ jj (k1.tr k2)
theorem G_sheet (hJ : zJ σ) (a b c : Int32) (hK : ∀ x s, zJ s → zKpp σ s → K x x s) : zCi true (d + 3) 0 0 M_X11_sheet [.inr (.inr (6, 0)), .inl (a), .inl (b), .inl (c)] σ (fun x s1 => zKpp σ s1 ∧ zCi true (d2 + 3) 0 0 M_X12_sheet [.inr (.inr (54, 0)), .inl (a), .inl (b), .inl (c)] s1 (fun y s2 => K x y s2)) := by
  obtain ⟨A, B, H, I, j⟩ := hJ
  have j : zJx A B H I σ := j
  have eq : ∀ {a : Int32} {x y : Nat}, x < 65 → y < 65 → a = nI x → a = nI y → x = y := fun hx hy q1 q2 => nI_i (q1.symm.trans q2) (by omega) (by omega)
  have nn : ∀ {n : Nat}, n ≤ 64 → c = nI n → c.toInt = n := fun {n} hn q => by rw [q, nI_toInt (by omega)]
  refine zCi.x (O_X11_sheet j.1.2.1 j.2.1.2.2.2.1 a b c (fun h hx => ?_) (fun h h2 hx => ?_) (fun h h2 h3 hx => ?_) (fun k l n hk hl hn q1 q2 q3 σ1 d1 o1 h1 e1 hx => ?_))
  · obtain ⟨m1, k1, f1, _⟩ := j.fa (Or.inl rfl) hx
    exact ⟨k1, zCi.x (O_X12_sheet j.1.2.1 m1.2.2.1 a b c (fun _ hx2 => hK _ _ (f1 hx2).1 (f1 hx2).2) (fun h2 => absurd h2 h) (fun h2 => absurd h2 h) (fun k l n hk _ _ q => absurd (shI_of hk q) h))⟩
  · obtain ⟨m1, k1, f1, _⟩ := j.fa (Or.inl rfl) hx
    exact ⟨k1, zCi.x (O_X12_sheet j.1.2.1 m1.2.2.1 a b c (fun h3 => absurd h h3) (fun _ _ hx2 => hK _ _ (f1 hx2).1 (f1 hx2).2) (fun _ h3 h4 => absurd ⟨h3, by omega⟩ h2) (fun k l n hk hl hn q1 q2 q3 => absurd ⟨shI_of hl q2, by rw [nn hn q3]; omega⟩ h2))⟩
  · obtain ⟨m1, k1, f1, _⟩ := j.fa (Or.inr rfl) hx
    exact ⟨k1, zCi.x (O_X12_sheet j.1.2.1 m1.2.2.1 a b c (fun h3 => absurd h h3) (fun _ h4 => absurd ⟨h2, by omega⟩ h4) (fun _ _ _ hx2 => hK _ _ (f1 hx2).1 (f1 hx2).2) (fun k l n hk hl hn q1 q2 q3 => absurd h3 (by rw [nn hn q3]; omega)))⟩
  · obtain ⟨m1, k1, nx⟩ := j.sh (ws_new (k := k) (l := l) (n := n) j.1.2.1 ⟨by omega, by omega⟩ ⟨by omega, by omega⟩) j.1.2.2.1 o1 h1 (fun c j k q => by unfold zQsh at q; omega) hx d1 (j.2.1.2.2.2.2.1.only o1 h1 (fun j k => ⟨by unfold zQsh; omega, by unfold zQsh; omega, by unfold zQsh; omega, by unfold zQsh; omega⟩))
    refine ⟨k1, zCi.x (O_X12_sheet j.1.2.1 m1.2.2.1 a b c (fun h => absurd (shI_of hk q1) h) (fun _ h4 => absurd ⟨shI_of hl q2, by rw [nn hn q3]; omega⟩ h4) (fun _ _ h4 => absurd h4 (by rw [nn hn q3]; omega)) (fun x y z hx3 hy3 hz3 q4 q5 q6 σ2 d2 o2 e2 hx2 => ?_))⟩
    have e3 := eq (by omega) (by omega) q1 q4
    have e4 := eq (by omega) (by omega) q2 q5
    have e5 := eq (by omega) (by omega) q3 q6
    subst e3 e4 e5
    obtain ⟨jj, k2⟩ := nx σ2 _ o2 (fun c j k q => by omega) hx2 d2 (m1.2.2.2.1.only o2 (fun k => ⟨by omega, by omega, by omega, by omega, by omega⟩)) (by rw [o2.i 6 0 15 (by omega), e1, e2]) (by
      rw [o2.i 14 0 0 (by omega), o2.i 54 0 78 (by omega), o1.i 14 0 0 (by unfold zQsh; omega), o1.i 54 0 78 (by unfold zQsh; omega)]
      exact j.2.2.2.2.1)
    exact hK _ _ jj (k1.tr k2)
theorem G_lay (hJ : zJ σ) (a b : Int32) (v : Int64) (hK : ∀ x s, zJ s → zKpp σ s → K x x s) : zCi true (d + 2) 0 0 M_X11_lay [.inr (.inr (6, 0)), .inl (a), .inl (b), .inr (.inl (v))] σ (fun x s1 => zKpp σ s1 ∧ zCi true (d2 + 3) 0 0 M_X12_lay [.inr (.inr (54, 0)), .inl (a), .inl (b), .inr (.inl (v))] s1 (fun y s2 => K x y s2)) := by
  obtain ⟨A, B, H, I, j⟩ := hJ
  have j : zJx A B H I σ := j
  have eq : ∀ {a : Int32} {x y : Nat}, x < 65 → y < 65 → a = nI x → a = nI y → x = y := fun hx hy q1 q2 => nI_i (q1.symm.trans q2) (by omega) (by omega)
  have l64 : ∀ {k i : Nat}, k < 4 → (i : Int) < B.1 k → i < 64 := fun {k i} hk h => by have := j.1.2.1 k hk; omega
  have sb : ∀ {k i : Nat}, k < 4 → (i : Int) < B.1 k → b = nI i → sBad B k b = 0 := fun hk h q => sBad_0.mpr (by rw [q, nI_toInt (by have := l64 hk h; omega)]; omega)
  refine zCi.x (O_X11_lay j.1.2.1 j.2.1.2.2.2.1 a b v (fun h hx => ?_) (fun k hk q hb hx => ?_) (fun k i hk hi q1 q2 σ1 d1 o1 h1 e1 hx => ?_))
  · obtain ⟨m1, k1, f1, _⟩ := j.fa (Or.inl rfl) hx
    exact ⟨k1, zCi.x (O_X12_lay j.1.2.1 m1.2.2.1 a b v (fun _ hx2 => hK _ _ (f1 hx2).1 (f1 hx2).2) (fun k hk q => absurd (shI_of hk q) h) (fun k i hk _ q => absurd (shI_of hk q) h))⟩
  · obtain ⟨m1, k1, f1, _⟩ := j.fa (Or.inr rfl) hx
    refine ⟨k1, zCi.x (O_X12_lay j.1.2.1 m1.2.2.1 a b v (fun h => absurd (shI_of hk q) h) (fun x hx3 q2 _ hx2 => ?_) (fun x i hx3 hi q2 q3 => absurd (sb hx3 hi q3) (by rw [← eq (by omega) (by omega) q q2]; exact hb)))⟩
    have e1 := eq (by omega) (by omega) q q2
    subst e1
    exact hK _ _ (f1 hx2).1 (f1 hx2).2
  · obtain ⟨m1, k1, nx⟩ := j.sh (ws_lay (k := k) (i := i) (v := v) j.1.2.1) j.1.2.2.1 o1 h1 (fun c j k q => by unfold zQsh at q; omega) hx d1 (j.2.1.2.2.2.2.1.only o1 h1 (fun j k => ⟨by unfold zQsh; omega, by unfold zQsh; omega, by unfold zQsh; omega, by unfold zQsh; omega⟩))
    refine ⟨k1, zCi.x (O_X12_lay j.1.2.1 m1.2.2.1 a b v (fun h => absurd (shI_of hk q1) h) (fun x hx3 q3 hb => absurd (sb hk hi q2) (by rw [eq (by omega) (by omega) q1 q3]; exact hb)) (fun x y hx3 hy q3 q4 σ2 d2 o2 e2 hx2 => ?_))⟩
    have e3 := eq (by omega) (by omega) q1 q3
    have e4 := eq (by have := l64 hk hi; omega) (by have := l64 hx3 hy; omega) q2 q4
    subst e3 e4
    obtain ⟨jj, k2⟩ := nx σ2 _ o2 (fun c j k q => by omega) hx2 d2 (m1.2.2.2.1.only o2 (fun k => ⟨by omega, by omega, by omega, by omega, by omega⟩)) (by rw [o2.i 6 0 15 (by omega), e1, e2]) (by
      rw [o2.i 14 0 0 (by omega), o2.i 54 0 78 (by omega), o1.i 14 0 0 (by unfold zQsh; omega), o1.i 54 0 78 (by unfold zQsh; omega)]
      exact j.2.2.2.2.1)
    exact hK _ _ jj (k1.tr k2)
theorem G_cell (hJ : zJ σ) (a b l : Int32) (hK : ∀ x s, zJ s → zKpp σ s → L x x s) : zCl true (d + 3) 0 0 M_X11_cell [.inr (.inr (6, 0)), .inl (a), .inl (b), .inl (l)] σ (fun x s1 => zKpp σ s1 ∧ zCl true (d2 + 3) 0 0 M_X12_cell [.inr (.inr (54, 0)), .inl (a), .inl (b), .inl (l)] s1 (fun y s2 => L x y s2)) := by
  obtain ⟨A, B, H, I, j⟩ := hJ
  have j : zJx A B H I σ := j
  have eq : ∀ {a : Int32} {x y : Nat}, x < 65 → y < 65 → a = nI x → a = nI y → x = y := fun hx hy q1 q2 => nI_i (q1.symm.trans q2) (by omega) (by omega)
  have l64 : ∀ {k i : Nat}, k < 4 → (i : Int) < B.1 k → i < 64 := fun {k i} hk h => by have := j.1.2.1 k hk; omega
  have sb : ∀ {k i : Nat}, k < 4 → (i : Int) < B.1 k → b = nI i → sBad B k b = 0 := fun hk h q => sBad_0.mpr (by rw [q, nI_toInt (by have := l64 hk h; omega)]; omega)
  refine zCl.x (O_X11_cell j.1.2.1 j.2.1.2.2.2.1 a b l (fun h hx => ?_) (fun k hk q h0 h1 h2 hx => ?_) (fun k hk q h0 h1 h2 hx => ?_) (fun k i hk hi q1 q2 h0 h1 hx => ?_))
  · obtain ⟨m1, k1, f1, _⟩ := j.fa (Or.inl rfl) hx
    exact ⟨k1, zCl.x (O_X12_cell j.1.2.1 m1.2.2.1 a b l (fun _ hx2 => hK _ _ (f1 hx2).1 (f1 hx2).2) (fun k hk q h2 => absurd ⟨shI_of hk q, h2⟩ h) (fun k hk q h2 => absurd ⟨shI_of hk q, h2⟩ h) (fun k i hk _ q _ h2 => absurd ⟨shI_of hk q, h2⟩ h))⟩
  · obtain ⟨m1, k1, _, f1⟩ := j.fa (Or.inr rfl) hx
    exact ⟨k1, zCl.x (O_X12_cell j.1.2.1 m1.2.2.1 a b l (fun h => absurd ⟨shI_of hk q, h0⟩ h) (fun x hx3 q2 _ _ _ hx2 => hK _ _ (f1 hx2).1 (f1 hx2).2) (fun x hx3 q2 _ h3 => absurd (h3 (by rw [← eq (by omega) (by omega) q q2]; exact h1)) (by rw [← eq (by omega) (by omega) q q2]; exact h2)) (fun x i hx3 _ q2 _ _ h3 => absurd h3 (by rw [← eq (by omega) (by omega) q q2]; exact h2)))⟩
  · obtain ⟨m1, k1, _, f1⟩ := j.fa (Or.inr rfl) hx
    refine ⟨k1, zCl.x (O_X12_cell j.1.2.1 m1.2.2.1 a b l (fun h => absurd ⟨shI_of hk q, h0⟩ h) (fun x hx3 q2 _ h3 h4 => absurd (h1 (by rw [eq (by omega) (by omega) q q2]; exact h3)) (by rw [eq (by omega) (by omega) q q2]; exact h4)) (fun x hx3 q2 _ _ _ hx2 => ?_) (fun x i hx3 hi q2 q3 _ _ => absurd (sb hx3 hi q3) (by rw [← eq (by omega) (by omega) q q2]; exact h2)))⟩
    have e1 := eq (by omega) (by omega) q q2
    subst e1
    exact hK _ _ (f1 hx2).1 (f1 hx2).2
  · obtain ⟨m1, k1, f1, _⟩ := j.fa (Or.inl rfl) hx
    refine ⟨k1, zCl.x (O_X12_cell j.1.2.1 m1.2.2.1 a b l (fun h => absurd ⟨shI_of hk q1, h0⟩ h) (fun x hx3 q3 _ h3 h4 => absurd h1 (by rw [eq (by omega) (by omega) q1 q3]; exact h4)) (fun x hx3 q3 _ _ h3 => absurd (sb hk hi q2) (by rw [eq (by omega) (by omega) q1 q3]; exact h3)) (fun x y hx3 hy q3 q4 _ _ hx2 => ?_))⟩
    have e3 := eq (by omega) (by omega) q1 q3
    have e4 := eq (by have := l64 hk hi; omega) (by have := l64 hx3 hy; omega) q2 q4
    subst e3 e4
    exact hK _ _ (f1 hx2).1 (f1 hx2).2
theorem G_copy (hJ : zJ σ) (a b e f g : Int32) (hK : ∀ x s, zJ s → zKpp σ s → K x x s) : zCi true (d + 2) 0 0 M_X11_copy [.inr (.inr (6, 0)), .inl (a), .inl (b), .inl (e), .inl (f), .inl (g)] σ (fun x s1 => zKpp σ s1 ∧ zCi true (d2 + 3) 0 0 M_X12_copy [.inr (.inr (54, 0)), .inl (a), .inl (b), .inl (e), .inl (f), .inl (g)] s1 (fun y s2 => K x y s2)) := by
  obtain ⟨A, B, H, I, j⟩ := hJ
  have j : zJx A B H I σ := j
  have eq : ∀ {a : Int32} {x y : Nat}, x < 65 → y < 65 → a = nI x → a = nI y → x = y := fun hx hy q1 q2 => nI_i (q1.symm.trans q2) (by omega) (by omega)
  have l64 : ∀ {k i n : Nat}, k < 4 → (i + n : Int) ≤ B.1 k → i < 65 ∧ n < 65 := fun {k i n} hk h => by have := j.1.2.1 k hk; omega
  have sr : ∀ {k i n : Nat} {b g : Int32}, k < 4 → b = nI i → g = nI n → (i + n : Int) ≤ B.1 k → sRe (B.1 k) b.toInt g.toInt := fun {k i n b g} hk q1 q2 h => by
    have := l64 hk h
    rw [q1, q2, nI_toInt (by omega), nI_toInt (by omega)]
    refine ⟨by omega, by omega, by omega⟩
  refine zCi.x (O_X11_copy j.1.2.1 j.2.1.2.2.2.1 a b e f g (fun h hx => ?_) (fun k o hk ho q1 q2 h0 hx => ?_) (fun k o hk ho q1 q2 h0 h1 h2 hx => ?_) (fun k o hk ho q1 q2 h0 h1 h2 h3 hx => ?_) (fun k o i i2 n hk ho q1 q2 q3 q4 q5 h0 h1 h2 h3 h4 σ1 d1 o1 hh e1 hx => ?_))
  · obtain ⟨m1, k1, f1, _⟩ := j.fa (Or.inl rfl) hx
    exact ⟨k1, zCi.x (O_X12_copy j.1.2.1 m1.2.2.1 a b e f g (fun _ hx2 => hK _ _ (f1 hx2).1 (f1 hx2).2) (fun k o hk ho q1 q2 => absurd ⟨shI_of hk q1, shI_of ho q2⟩ h) (fun k o hk ho q1 q2 => absurd ⟨shI_of hk q1, shI_of ho q2⟩ h) (fun k o hk ho q1 q2 => absurd ⟨shI_of hk q1, shI_of ho q2⟩ h) (fun k o _ _ _ hk ho q1 q2 => absurd ⟨shI_of hk q1, shI_of ho q2⟩ h))⟩
  · obtain ⟨m1, k1, f1, _⟩ := j.fa (Or.inr rfl) hx
    have no : ∀ {x y : Nat}, x < 4 → y < 4 → a = nI x → e = nI y → 0 ≤ B.1 x → 0 ≤ B.1 y → False := fun hx hy q3 q4 h1 h2 => by
      rw [← eq (by omega) (by omega) q1 q3] at h1
      rw [← eq (by omega) (by omega) q2 q4] at h2
      omega
    exact ⟨k1, zCi.x (O_X12_copy j.1.2.1 m1.2.2.1 a b e f g (fun h => absurd ⟨shI_of hk q1, shI_of ho q2⟩ h) (fun _ _ _ _ _ _ _ hx2 => hK _ _ (f1 hx2).1 (f1 hx2).2) (fun x y hx hy q3 q4 h1 h2 => (no hx hy q3 q4 h1 h2).elim) (fun x y hx hy q3 q4 h1 h2 => (no hx hy q3 q4 h1 h2).elim) (fun x y _ _ _ hx hy q3 q4 _ _ _ h1 h2 => (no hx hy q3 q4 h1 h2).elim))⟩
  · obtain ⟨m1, k1, f1, _⟩ := j.fa (Or.inr rfl) hx
    have no : ∀ {x y : Nat}, x < 4 → y < 4 → a = nI x → e = nI y → B.2.1 x = B.2.1 y → False := fun hx hy q3 q4 h => by
      rw [← eq (by omega) (by omega) q1 q3, ← eq (by omega) (by omega) q2 q4] at h
      exact h2 h
    exact ⟨k1, zCi.x (O_X12_copy j.1.2.1 m1.2.2.1 a b e f g (fun h => absurd ⟨shI_of hk q1, shI_of ho q2⟩ h) (fun x y hx hy q3 q4 h3 => absurd h3 (by rw [← eq (by omega) (by omega) q1 q3, ← eq (by omega) (by omega) q2 q4]; omega)) (fun _ _ _ _ _ _ _ _ _ hx2 => hK _ _ (f1 hx2).1 (f1 hx2).2) (fun x y hx hy q3 q4 _ _ h => (no hx hy q3 q4 h).elim) (fun x y _ _ _ hx hy q3 q4 _ _ _ _ _ h => (no hx hy q3 q4 h).elim))⟩
  · obtain ⟨m1, k1, f1, _⟩ := j.fa (Or.inr rfl) hx
    exact ⟨k1, zCi.x (O_X12_copy j.1.2.1 m1.2.2.1 a b e f g (fun h => absurd ⟨shI_of hk q1, shI_of ho q2⟩ h) (fun x y hx hy q3 q4 h3 => absurd h3 (by rw [← eq (by omega) (by omega) q1 q3, ← eq (by omega) (by omega) q2 q4]; omega)) (fun x y hx hy q3 q4 _ _ h4 => absurd h2 (by rw [eq (by omega) (by omega) q1 q3, eq (by omega) (by omega) q2 q4]; exact h4)) (fun _ _ _ _ _ _ _ _ _ _ hx2 => hK _ _ (f1 hx2).1 (f1 hx2).2) (fun x y z z2 w hx hy q3 q4 q5 q6 q7 _ _ _ h4 h5 => absurd (And.intro (sr hx q5 q7 h4) (sr hy q6 q7 h5)) (by rw [← eq (by omega) (by omega) q1 q3, ← eq (by omega) (by omega) q2 q4]; exact h3)))⟩
  · obtain ⟨m1, k1, nx⟩ := j.sh (ws_copy (k := k) (i := i) (o := o) (j := i2) (n := n) j.1.2.1) j.1.2.2.1 o1 hh (fun c j k q => by unfold zQsh at q; omega) hx d1 (j.2.1.2.2.2.2.1.only o1 hh (fun j k => ⟨by unfold zQsh; omega, by unfold zQsh; omega, by unfold zQsh; omega, by unfold zQsh; omega⟩))
    refine ⟨k1, zCi.x (O_X12_copy j.1.2.1 m1.2.2.1 a b e f g (fun h => absurd ⟨shI_of hk q1, shI_of ho q2⟩ h) (fun x y hx hy q3 q4 h3 => absurd h3 (by rw [← eq (by omega) (by omega) q1 q3, ← eq (by omega) (by omega) q2 q4]; omega)) (fun x y hx hy q3 q4 _ _ h4 => absurd h2 (by rw [eq (by omega) (by omega) q1 q3, eq (by omega) (by omega) q2 q4]; exact h4)) (fun x y hx hy q6 q7 _ _ _ h5 => absurd (And.intro (sr hk q3 q5 h3) (sr ho q4 q5 h4)) (by rw [eq (by omega) (by omega) q1 q6, eq (by omega) (by omega) q2 q7]; exact h5)) (fun x y z z2 w hx3 hy q6 q7 q8 q9 qa _ _ _ h5 h6 σ2 d2 o2 e2 hx2 => ?_))⟩
    have l1 := l64 hk h3
    have l2 := l64 ho h4
    have l3 := l64 hx3 h5
    have l4 := l64 hy h6
    have g1 := eq (by omega) (by omega) q1 q6
    have g2 := eq (by omega) (by omega) q2 q7
    have g3 := eq (by omega) (by omega) q3 q8
    have g4 := eq (by omega) (by omega) q4 q9
    have g5 := eq (by omega) (by omega) q5 qa
    subst g1 g2 g3 g4 g5
    obtain ⟨jj, k2⟩ := nx σ2 _ o2 (fun c j k q => by omega) hx2 d2 (m1.2.2.2.1.only o2 (fun k => ⟨by omega, by omega, by omega, by omega, by omega⟩)) (by rw [o2.i 6 0 15 (by omega), e1, e2]) (by
      rw [o2.i 14 0 0 (by omega), o2.i 54 0 78 (by omega), o1.i 14 0 0 (by unfold zQsh; omega), o1.i 54 0 78 (by unfold zQsh; omega)]
      exact j.2.2.2.2.1)
    exact hK _ _ jj (k1.tr k2)
end zGs2
