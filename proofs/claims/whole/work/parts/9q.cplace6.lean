/-! what is asked of placings (class): the calls -/
section zPz
variable {d kc ks : Nat} {σ : zSt} {A : zAb} {Q : Option zV → zSt → Prop}
abbrev zQpl (c _j k : Nat) : Prop := c = 30 ∨ c = 36 ∨ c = 37 ∨ (40 ≤ c ∧ c ≤ 45) ∨ (47 ≤ c ∧ c ≤ 49) ∨ (c = 9 ∧ k = 3) ∨ (c = 10 ∧ k = 4) ∨ (c = 6 ∧ k = 13) ∨ (c = 11 ∧ (k = 3 ∨ k = 4 ∨ k = 6 ∨ k = 7 ∨ k = 8 ∨ k = 12 ∨ k = 14 ∨ k = 16))
theorem zCR.pl {σ' : zSt} {M : Nat → Nat → Nat → Prop} (h : zCR A σ) (ho : zOnly M σ σ') (hm : ∀ c j k, M c j k → zQlk c j k ∨ zQct c j k ∨ zQbb c j k ∨ (c = 6 ∧ k = 14)) : zCR A σ' :=
  h.only ho ⟨fun j k => ⟨fun q => by have := hm _ _ _ q; omega, fun q => by have := hm _ _ _ q; omega⟩, fun j k => ⟨fun q => by have := hm _ _ _ q; omega, fun q => by have := hm _ _ _ q; omega⟩, fun q => by have := hm _ _ _ q; omega, fun q => by have := hm _ _ _ q; omega, fun q => by have := hm _ _ _ q; omega⟩
/-- where a search has ended -/
theorem zPC.S {t : Nat} (h : zPC A t σ) (hs : spB A t) : zgi σ 11 0 6 = 1 ∧ zgi σ 11 0 7 = (if 9 < gn A t then 0 else 60000) := by
  by_cases z : 9 < gn A t
  · rw [if_pos z]
    exact h.2.1 z
  · rw [if_neg z]
    have : 60000 < (evT A t).length := by unfold spB at hs; omega
    exact (h.2.2 (by omega)).2.1 this
theorem S_X11_isSpent {K : Int32 → zSt → Prop} (hW : zWf A) (hR : zRD A σ 0) (hC : zCR A σ) (hP : zCP A σ) {t : Nat} (ht : t < aN A) (hK : ∀ σ', zOnly zQpl σ σ' → σ'.2.2.2 = σ.2.2.2 → zRD A σ' 0 → zCR A σ' → zPC A t σ' → (spB A t → K 1 σ') ∧ (¬ spB A t → K 0 σ')) : zCi true (d + 14) 0 0 M_X11_isSpent [.inr (.inr (6, 0)), .inl (nI t)] σ K := by
  refine zC_intro pl_X11 (Nat.le_of_ble_eq_true rfl) (T_X11_isSpent_0 (S_X11_makeReady hW hR hC (fun σ1 o1 h1 c1 y1 n1 => ?_)))
  have hR1 : zRD A σ1 0 := hR.only o1 h1 (fun c j k h => by unfold zBD at h; unfold zQr; omega)
  have hP1 : zCP A σ1 := hP.only o1 ⟨fun k hk => by unfold zQr; omega, fun j k => ⟨by unfold zQr; omega, by unfold zQr; omega, by unfold zQr; omega, by unfold zQr; omega⟩⟩
  refine S_X7_look hW hR1 c1.1 y1 hP1 ht (fun σ2 o2 h2 p2 => ?_)
  have oo : zOnly zQpl σ σ2 := (o1.mono (fun c j k h => by unfold zQr at h; unfold zQpl; omega)).tr (o2.mono (fun c j k h => by unfold zQlk at h; unfold zQpl; omega))
  have hR2 : zRD A σ2 0 := hR.only oo (h2.trans h1) (fun c j k h => by unfold zBD at h; unfold zQpl; omega)
  have c2 : zCR A σ2 := c1.pl o2 (fun c j k h => Or.inl h)
  have u := hK σ2 oo (h2.trans h1) hR2 c2 p2
  by_cases z : spB A t
  · have e := (p2.S z).1
    rw [e]
    exact ⟨Or.inr rfl, _, rfl, u.1 z⟩
  · have e := (p2.F z).2.2.2.1
    rw [e]
    exact ⟨Or.inl rfl, _, rfl, u.2 z⟩
theorem O_X11_placings {K : Int32 → zSt → Prop} (hW : zWf A) (hR : zRD A σ 0) (hC : zCR A σ) (hP : zCP A σ) (a : Int32) (hno : ¬ tI A a = true → K (-1) σ) (hyes : ∀ t, t < aN A → a = nI t → ∀ σ', zOnly (fun c j k => zQpl c j k ∨ (c = 6 ∧ k = 14)) σ σ' → σ'.2.2.2 = σ.2.2.2 → zCR A σ' → zCP A σ' → (spB A t → zgi σ' 6 0 14 = (if 9 < gn A t then 0 else 60000) → K (-6) σ') ∧ (¬ spB A t → zgi σ' 6 0 14 = nI (evT A t).length → K (plV A t) σ')) : zCi true (d + 15) 0 0 M_X11_placings [.inr (.inr (6, 0)), .inl (a)] σ K := by
  refine zC_intro pl_X11 (Nat.le_of_ble_eq_true rfl) (T_X11_placings_0 (S_X1_isThing hW hR a ⟨fun h => ?_, fun h => ⟨_, rfl, hno (zb_0.mp h)⟩⟩))
  rw [zb_0, Decidable.not_not] at h
  obtain ⟨t, ht, rfl⟩ := tI_nI h
  refine S_X11_isSpent hW hR hC hP ht (fun σ1 o1 h1 r1 c1 p1 => ?_)
  have oz : ∀ x : Int32, zOnly (fun c j k => c = 6 ∧ j = 0 ∧ k = 14) σ1 (zsi σ1 6 0 14 x) := fun x => zOnly.si ⟨rfl, rfl, rfl⟩
  have oo : ∀ x : Int32, zOnly (fun c j k => zQpl c j k ∨ (c = 6 ∧ k = 14)) σ (zsi σ1 6 0 14 x) := fun x => (o1.mono (fun c j k h => Or.inl h)).tr ((oz x).mono (fun c j k h => Or.inr ⟨h.1, h.2.2⟩))
  have cc : ∀ x : Int32, zCR A (zsi σ1 6 0 14 x) := fun x => c1.pl (oz x) (fun c j k h => Or.inr (Or.inr (Or.inr ⟨h.1, h.2.2⟩)))
  have pp : ∀ x : Int32, zCP A (zsi σ1 6 0 14 x) := fun x => Or.inr ⟨t, ht, p1.only (oz x) ⟨fun k hk => by omega, fun j k => ⟨by omega, by omega, by omega, by omega⟩⟩⟩
  have v : ∀ x : Int32, zgi (zsi σ1 6 0 14 x) 6 0 14 = x := fun x => by rw [zgi_si, if_pos ⟨rfl, rfl, rfl⟩]
  refine ⟨fun z x hx => ⟨_, rfl, ?_⟩, fun z x hx => ⟨_, rfl, ?_⟩⟩
  · rw [if_neg (by decide)] at hx
    rw [hx, (p1.S z).2]
    exact (hyes t ht rfl _ (oo _) h1 (cc _) (pp _)).1 z (v _)
  · rw [if_pos rfl] at hx
    obtain ⟨h9, f4, f40, f6, f7, fF, fl⟩ := p1.F z
    rw [hx, fF.1, f7]
    exact (hyes t ht rfl _ (oo _) h1 (cc _) (pp _)).2 z (v _)
theorem O_X11_nth {K : Int32 → zSt → Prop} (hW : zWf A) (hR : zRD A σ 0) (hC : zCR A σ) (hP : zCP A σ) (a b : Int32) (hno : ¬ (tI A a = true ∧ 0 ≤ b.toInt) → K (-1) σ) (hyes : ∀ t n, t < aN A → a = nI t → b = nI n → n < 2147483648 → ∀ σ', zOnly zQpl σ σ' → σ'.2.2.2 = σ.2.2.2 → zCR A σ' → zCP A σ' → (spB A t → K (-6) σ') ∧ (¬ spB A t → ((plF A t).length ≤ n → K (-1) σ') ∧ ∀ s, (plF A t)[n]? = some s → K (nI (s (fb_ct (grB A t) t))) σ')) : zCi true (d + 15) 0 0 M_X11_nth [.inr (.inr (6, 0)), .inl (a), .inl (b)] σ K := by
  have b0 : (0 ≤ b) ↔ 0 ≤ b.toInt := by rw [Int32.le_iff_toInt_le]; rfl
  refine zC_intro pl_X11 (Nat.le_of_ble_eq_true rfl) (T_X11_nth_0 (S_X1_isThing hW hR a ⟨fun h => ⟨_, rfl, hno ?_⟩, fun h => ?_⟩))
  · rw [zb_0, b0] at h
    exact fun q => h.elim (fun z => z q.1) (fun z => z q.2)
  · rw [zb_0, b0] at h
    have h1 : tI A a = true := Decidable.not_not.mp (fun q => h (Or.inl q))
    have h2 : 0 ≤ b.toInt := Decidable.not_not.mp (fun q => h (Or.inr q))
    obtain ⟨t, ht, rfl⟩ := tI_nI h1
    obtain ⟨n, hn, rfl⟩ : ∃ n : Nat, n < 2147483648 ∧ b = nI n := ⟨b.toInt.toNat, by have := fb_rng b; omega, zI_of h2⟩
    refine S_X11_isSpent hW hR hC hP ht (fun σ1 o1 h1 r1 c1 p1 => ⟨fun z => ⟨fun q => absurd q (by decide), fun _ => ⟨_, rfl, ?_⟩⟩, fun z => ⟨fun _ => ?_, fun q => absurd rfl q⟩⟩)
    · exact (hyes t n ht rfl rfl hn σ1 o1 h1 c1 (Or.inr ⟨t, ht, p1⟩)).1 z
    · obtain ⟨h9, f4, f40, f6, f7, fF, fl⟩ := p1.F z
      have u := (hyes t n ht rfl rfl hn σ1 o1 h1 c1 (Or.inr ⟨t, ht, p1⟩)).2 z
      rw [fF.1, nI_leI (by omega) (by omega)]
      refine ⟨fun g => ⟨_, rfl, u.1 g⟩, fun g => S_X7_placeOf hW ht h9 f4 f40 (fun q => absurd (gr_self A t) q) (fun _ => ?_)⟩
      obtain ⟨s, hs⟩ : ∃ s, (plF A t)[n]? = some s := ⟨_, List.getElem?_eq_getElem (show n < (plF A t).length by omega)⟩
      exact S_X7_cellIn h9 fF fl hs (mbr_of ht (gr_self A t)).1 ⟨_, rfl, u.2 s hs⟩
theorem zQpl.ct (c j k : Nat) (h : zQct c j k) : zQpl c j k := by unfold zQct at h; unfold zQpl; omega
theorem zQpl.bb (c j k : Nat) (h : zQbb c j k) : zQpl c j k := by unfold zQbb at h; unfold zQpl; omega
theorem O_X11_sure {K : Int32 → zSt → Prop} (hW : zWf A) (hR : zRD A σ 0) (hC : zCR A σ) (hP : zCP A σ) (a : Int32) (hno : ¬ tI A a = true → K (-1) σ) (hyes : ∀ t, t < aN A → a = nI t → ∀ σ', zOnly zQpl σ σ' → σ'.2.2.2 = σ.2.2.2 → zCR A σ' → zCP A σ' → (spB A t → K (-6) σ') ∧ (¬ spB A t → K (iI (suV A t (fb_ct (grB A t) t))) σ')) : zCi true (d + 15) 0 0 M_X11_sure [.inr (.inr (6, 0)), .inl (a)] σ K := by
  refine zC_intro pl_X11 (Nat.le_of_ble_eq_true rfl) (T_X11_sure_0 (S_X1_isThing hW hR a ⟨fun h => ?_, fun h => ⟨_, rfl, hno (zb_0.mp h)⟩⟩))
  rw [zb_0, Decidable.not_not] at h
  obtain ⟨t, ht, rfl⟩ := tI_nI h
  refine S_X11_isSpent hW hR hC hP ht (fun σ1 o1 h1 r1 c1 p1 => ⟨fun z => ⟨fun q => absurd q (by decide), fun _ => ⟨_, rfl, (hyes t ht rfl σ1 o1 h1 c1 (Or.inr ⟨t, ht, p1⟩)).1 z⟩⟩, fun z => ⟨fun _ => ?_, fun q => absurd rfl q⟩⟩)
  obtain ⟨h9, f4, f40, f6, f7, fF, fl⟩ := p1.F z
  exact S_X7_placeOf hW ht h9 f4 f40 (fun q => absurd (gr_self A t) q) (fun _ => S_X7_sureCell p1 z (mbr_of ht (gr_self A t)).1 (fun σ2 o2 h2 p2 => ⟨_, rfl, (hyes t ht rfl σ2 (o1.tr (o2.mono zQpl.ct)) (h2.trans h1) (c1.pl o2 (fun c j k h => Or.inr (Or.inl h))) (Or.inr ⟨t, ht, p2⟩)).2 z⟩))
theorem O_X11_could {K : Int32 → zSt → Prop} (hW : zWf A) (hR : zRD A σ 0) (hC : zCR A σ) (hP : zCP A σ) (a : Int32) (hno : ¬ tI A a = true → K (-1) σ) (hyes : ∀ t, t < aN A → a = nI t → ∀ σ', zOnly zQpl σ σ' → σ'.2.2.2 = σ.2.2.2 → zCR A σ' → zCP A σ' → (spB A t → K (-6) σ') ∧ (¬ spB A t → K (nI (coV A t (fb_ct (grB A t) t))) σ')) : zCi true (d + 15) 0 0 M_X11_could [.inr (.inr (6, 0)), .inl (a)] σ K := by
  refine zC_intro pl_X11 (Nat.le_of_ble_eq_true rfl) (T_X11_could_0 (S_X1_isThing hW hR a ⟨fun h => ?_, fun h => ⟨_, rfl, hno (zb_0.mp h)⟩⟩))
  rw [zb_0, Decidable.not_not] at h
  obtain ⟨t, ht, rfl⟩ := tI_nI h
  refine S_X11_isSpent hW hR hC hP ht (fun σ1 o1 h1 r1 c1 p1 => ⟨fun z => ⟨fun q => absurd q (by decide), fun _ => ⟨_, rfl, (hyes t ht rfl σ1 o1 h1 c1 (Or.inr ⟨t, ht, p1⟩)).1 z⟩⟩, fun z => ⟨fun _ => ?_, fun q => absurd rfl q⟩⟩)
  obtain ⟨h9, f4, f40, f6, f7, fF, fl⟩ := p1.F z
  exact S_X7_placeOf hW ht h9 f4 f40 (fun q => absurd (gr_self A t) q) (fun _ => S_X7_possible p1 z (mbr_of ht (gr_self A t)).1 (fun σ2 o2 h2 p2 => ⟨_, rfl, (hyes t ht rfl σ2 (o1.tr (o2.mono zQpl.ct)) (h2.trans h1) (c1.pl o2 (fun c j k h => Or.inr (Or.inl h))) (Or.inr ⟨t, ht, p2⟩)).2 z⟩))
theorem nI_ne9 {i : Nat} (h : i < 2 ^ 30) : ¬ nI i = -9 := fun q => by
  rw [← Int32.toInt_inj, nI_toInt (by omega)] at q
  have : (-9 : Int32).toInt = -9 := rfl
  omega
theorem O_X11_together {K : Int32 → zSt → Prop} (hW : zWf A) (hR : zRD A σ 0) (hC : zCR A σ) (hP : zCP A σ) (a b e f : Int32) (hno : ¬ (tI A a = true ∧ acI A b = true ∧ tI A e = true ∧ acI A f = true) → K (-1) σ) (hyes : ∀ t u x y, t < aN A → u < aN A → x < 64 → y < 64 → acell A x = true → acell A y = true → a = nI t → b = nI x → e = nI u → f = nI y → ∀ σ', zOnly zQpl σ σ' → σ'.2.2.2 = σ.2.2.2 → zCR A σ' → zCP A σ' → (spB A t → K (-6) σ') ∧ (¬ spB A t → (gr A t u → K (zb (cnP (plF A t) (fb_ct (grB A t) t) (fb_ct (grB A t) u) x y = true)) σ') ∧ (¬ gr A t u → (spB A u → K (-6) σ') ∧ (¬ spB A u → K (zb (0 < cnO (plF A t) (fb_ct (grB A t) t) x ∧ 0 < cnO (plF A u) (fb_ct (grB A u) u) y)) σ')))) : zCi true (d + 15) 0 0 M_X11_together [.inr (.inr (6, 0)), .inl (a), .inl (b), .inl (e), .inl (f)] σ K := by
  refine zC_intro pl_X11 (Nat.le_of_ble_eq_true rfl) (T_X11_together_0 (S_X1_isThing hW hR a ⟨fun h => ⟨_, rfl, hno (fun q => zb_0.mp h q.1)⟩, fun h => S_X1_isThing hW hR e ⟨fun h2 => ⟨_, rfl, hno (fun q => zb_0.mp h2 q.2.2.1)⟩, fun h2 => S_X1_isCell hW hR b ⟨fun h3 => ⟨_, rfl, hno (fun q => zb_0.mp h3 q.2.1)⟩, fun h3 => S_X1_isCell hW hR f ⟨fun h4 => ?_, fun h4 => ⟨_, rfl, hno (fun q => zb_0.mp h4 q.2.2.2)⟩⟩⟩⟩⟩))
  rw [zb_0, Decidable.not_not] at h h2 h3 h4
  obtain ⟨t, ht, rfl⟩ := tI_nI h
  obtain ⟨u, hu, rfl⟩ := tI_nI h2
  obtain ⟨x, hx, hxc, rfl⟩ := acI_nI h3
  obtain ⟨y, hy, hyc, rfl⟩ := acI_nI h4
  have hgl := gn_le A t
  have hN : aN A ≤ 24 := hW.1.2.2.2.2.1
  have go := hyes t u x y ht hu hx hy hxc hyc rfl rfl rfl rfl
  refine S_X11_isSpent hW hR hC hP ht (fun σ1 o1 h1 r1 c1 p1 => ⟨fun z => ⟨fun q => absurd q (by decide), fun _ => ⟨_, rfl, (go σ1 o1 h1 c1 (Or.inr ⟨t, ht, p1⟩)).1 z⟩⟩, fun z => ⟨fun _ => ?_, fun q => absurd rfl q⟩⟩)
  obtain ⟨h9, f4, f40, f6, f7, fF, fl⟩ := p1.F z
  have gt := (mbr_of ht (gr_self A t)).1
  refine S_X7_placeOf hW hu h9 f4 f40 (fun g => ⟨fun _ => ?_, fun q => absurd rfl q⟩) (fun g => ⟨fun q => absurd q (nI_ne9 (by have := (mbr_of hu g).1; omega)), fun _ => ?_⟩)
  · refine S_X7_placeOf hW ht h9 f4 f40 (fun q => absurd (gr_self A t) q) (fun _ => S_X7_isPossible p1 z gt hx (fun σ2 o2 h2 p2 => ?_))
    have oa : zOnly zQpl σ σ2 := o1.tr (o2.mono zQpl.ct)
    have r2 : zRD A σ2 0 := r1.only o2 h2 (fun c j k h => by unfold zBD at h; unfold zQct; omega)
    refine S_X11_isSpent hW r2 (c1.pl o2 (fun c j k h => Or.inr (Or.inl h))) (Or.inr ⟨t, ht, p2⟩) hu (fun σ3 o3 h3 r3 c3 p3 => ?_)
    have go3 := fun w => ((go σ3 (oa.tr o3) (h3.trans (h2.trans h1)) c3 (Or.inr ⟨u, hu, p3⟩)).2 z).2 w
    refine ⟨fun z2 => ⟨fun q => absurd q (by decide), fun _ => ⟨_, rfl, (go3 g).1 z2⟩⟩, fun z2 => ⟨fun _ => ⟨fun q => ?_, fun q => ?_⟩, fun q => absurd rfl q⟩⟩
    · rw [zb_0] at q
      have := (go3 g).2 z2
      rw [zb_f (fun w => q w.1)] at this
      exact ⟨_, rfl, this⟩
    · rw [zb_0, Decidable.not_not] at q
      obtain ⟨k9, k4, k40, k6, k7, kF, kl⟩ := p3.F z2
      refine S_X7_placeOf hW hu k9 k4 k40 (fun w => absurd (gr_self A u) w) (fun _ => S_X7_isPossible p3 z2 (mbr_of hu (gr_self A u)).1 hy (fun σ4 o4 h4 p4 w hw => ⟨_, rfl, ?_⟩))
      have := (((go σ4 ((oa.tr o3).tr (o4.mono zQpl.ct)) (h4.trans (h3.trans (h2.trans h1))) (c3.pl o4 (fun c j k h => Or.inr (Or.inl h))) (Or.inr ⟨u, hu, p4⟩)).2 z).2 g).2 z2
      have ew : w = zb (0 < cnO (plF A t) (fb_ct (grB A t) t) x ∧ 0 < cnO (plF A u) (fb_ct (grB A u) u) y) := by
        rw [hw]
        refine zb_of0 ?_
        rw [zb_0]
        exact ⟨fun a b => a b.2, fun a b => a ⟨q, b⟩⟩
      rw [ew]
      exact this
  · refine S_X7_placeOf hW ht h9 f4 f40 (fun q => absurd (gr_self A t) q) (fun _ => S_X7_placeOf hW hu h9 f4 f40 (fun q => absurd g q) (fun _ => S_X7_goTogether p1 z gt (mbr_of hu g).1 hx hy (fun w hw => ⟨_, rfl, ?_⟩)))
    have := ((go σ1 o1 h1 c1 (Or.inr ⟨t, ht, p1⟩)).2 z).1 g
    have ew : w = zb (cnP (plF A t) (fb_ct (grB A t) t) (fb_ct (grB A t) u) x y = true) := by
      rw [hw]
      refine zb_of0 ?_
      rw [zb_0]
    rw [ew]
    exact this
theorem O_X11_ask {K : Int32 → zSt → Prop} (hW : zWf A) (hR : zRD A σ 0) (hC : zCR A σ) (hP : zCP A σ) (a e : Int32) (hno : ¬ tI A a = true → K (-1) σ) (hout : tI A a = true → ¬ (e = 0 ∨ e = 1) → K (-2) σ) (hyes : ∀ t, t < aN A → a = nI t → (e = 0 ∨ e = 1) → ∀ σ', zOnly zQpl σ σ' → σ'.2.2.2 = σ.2.2.2 → zCR A σ' → zCP A σ' → (spB A t → K (-6) σ') ∧ (¬ spB A t → K (akV A t e) σ')) : zCi true (d + 15) 0 0 M_X11_ask [.inr (.inr (6, 0)), .inl (a), .inl (e)] σ K := by
  refine zC_intro pl_X11 (Nat.le_of_ble_eq_true rfl) (T_X11_ask_0 (S_X1_isThing hW hR a ⟨fun h => ⟨fun h2 => ?_, fun h2 => ⟨_, rfl, ?_⟩⟩, fun h => ⟨_, rfl, hno (zb_0.mp h)⟩⟩))
  · rw [zb_0, Decidable.not_not] at h
    rw [zb_0, Decidable.not_not, zin01] at h2
    obtain ⟨t, ht, rfl⟩ := tI_nI h
    refine S_X11_isSpent hW hR hC hP ht (fun σ1 o1 h1 r1 c1 p1 => ⟨fun z => ⟨fun q => absurd q (by decide), fun _ => ⟨_, rfl, (hyes t ht rfl h2 σ1 o1 h1 c1 (Or.inr ⟨t, ht, p1⟩)).1 z⟩⟩, fun z => ⟨fun _ => ?_, fun q => absurd rfl q⟩⟩)
    refine S_X7_bestAsked ht p1 z (fun σ2 o2 h2' p2 => ?_)
    have bl := bsN_lt (f := woV A t) (gn_pos ht)
    obtain ⟨h9, f4, f40, f6, f7, fF, fl⟩ := p2.F z
    have oa : zOnly zQpl σ σ2 := o1.tr (o2.mono zQpl.ct)
    have c2 := c1.pl o2 (fun c j k h => Or.inr (Or.inl h))
    refine ⟨fun q => S_X7_worst p2 z bl (fun σ3 o3 h3 p3 => ⟨_, rfl, ?_⟩), fun q => ⟨nI_in (by omega) (by omega), _, rfl, ?_⟩⟩
    · have := (hyes t ht rfl h2 σ3 (oa.tr (o3.mono zQpl.ct)) (h3.trans (h2'.trans h1)) (c2.pl o3 (fun c j k h => Or.inr (Or.inl h))) (Or.inr ⟨t, ht, p3⟩)).2 z
      unfold akV at this
      rw [if_neg q] at this
      exact this
    · have := (hyes t ht rfl h2 σ2 oa (h2'.trans h1) c2 (Or.inr ⟨t, ht, p2⟩)).2 z
      unfold akV at this
      rw [if_pos q] at this
      rw [nI_clamp (show bsN (woV A t) (gn A t) < 2 ^ 31 by omega), f40 _ bl]
      exact this
  · rw [zb_0, Decidable.not_not] at h
    rw [zb_0, zin01] at h2
    exact hout h h2
theorem zin02 (b : Int32) : (0 ≤ b ∧ b ≤ (2 : Int32)) ↔ (b = 0 ∨ b = 1 ∨ b = 2) := by
  have h := zin_k b (l := 0) (h := 2) (by omega) (by omega)
  refine Iff.trans h ⟨fun q => ?_, fun q => ?_⟩
  · have e := iI_of b
    have : b.toInt = 0 ∨ b.toInt = 1 ∨ b.toInt = 2 := by omega
    rcases this with z | z | z
    · rw [z] at e; exact Or.inl e.symm
    · rw [z] at e; exact Or.inr (Or.inl e.symm)
    · rw [z] at e; exact Or.inr (Or.inr e.symm)
  · rcases q with rfl | rfl | rfl <;> decide
theorem O_X11_between {K : Int32 → zSt → Prop} (hW : zWf A) (hR : zRD A σ 0) (hC : zCR A σ) (hP : zCP A σ) (a e : Int32) (hno : ¬ tI A a = true → K (-1) σ) (hout : tI A a = true → ¬ (e = 0 ∨ e = 1 ∨ e = 2) → K (-2) σ) (hyes : ∀ t, t < aN A → a = nI t → (e = 0 ∨ e = 1 ∨ e = 2) → ∀ σ', zOnly zQpl σ σ' → σ'.2.2.2 = σ.2.2.2 → zCR A σ' → zCP A σ' → (spB A t → K (-6) σ') ∧ (¬ spB A t → K (if gn A t = 1 then -9 else bwV A t e) σ')) : zCi true (d + 15) 0 0 M_X11_between [.inr (.inr (6, 0)), .inl (a), .inl (e)] σ K := by
  refine zC_intro pl_X11 (Nat.le_of_ble_eq_true rfl) (T_X11_between_0 (S_X1_isThing hW hR a ⟨fun h => ⟨fun h2 => ?_, fun h2 => ⟨_, rfl, ?_⟩⟩, fun h => ⟨_, rfl, hno (zb_0.mp h)⟩⟩))
  · rw [zb_0, Decidable.not_not] at h
    rw [zb_0, Decidable.not_not, zin02] at h2
    obtain ⟨t, ht, rfl⟩ := tI_nI h
    have gp := gn_pos ht
    refine S_X11_isSpent hW hR hC hP ht (fun σ1 o1 h1 r1 c1 p1 => ⟨fun z => ⟨fun q => absurd q (by decide), fun _ => ⟨_, rfl, (hyes t ht rfl h2 σ1 o1 h1 c1 (Or.inr ⟨t, ht, p1⟩)).1 z⟩⟩, fun z => ⟨fun _ => ?_, fun q => absurd rfl q⟩⟩)
    obtain ⟨h9, f4, f40, f6, f7, fF, fl⟩ := p1.F z
    rw [f4, show (2 : Int32) = nI 2 from rfl, nI_leI (by omega) (by omega)]
    refine ⟨fun q => S_X7_bestBetween hW p1 z q h2 (fun σ2 o2 h2' p2 => ⟨_, rfl, ?_⟩), fun q => ⟨_, rfl, ?_⟩⟩
    · have := (hyes t ht rfl h2 σ2 (o1.tr (o2.mono zQpl.bb)) (h2'.trans h1) (c1.pl o2 (fun c j k h => Or.inr (Or.inr (Or.inl h)))) (Or.inr ⟨t, ht, p2⟩)).2 z
      rw [if_neg (by omega)] at this
      exact this
    · have := (hyes t ht rfl h2 σ1 o1 h1 c1 (Or.inr ⟨t, ht, p1⟩)).2 z
      rw [if_pos (by omega)] at this
      exact this
  · rw [zb_0, Decidable.not_not] at h
    rw [zb_0, zin02] at h2
    exact hout h h2
theorem L_X11_take43 (hW : zWf A) {t n0 : Nat} (ht : t < aN A) {s : Nat → Nat} (hs : ¬ spB A t) {σ0 : zSt} (hR : zRD A σ0 0) (hP : zPC A t σ0) (hn : (plF A t)[n0]? = some s) (hQ : ∀ σ', zOnly z25 σ0 σ' → σ'.2.2.2 = σ0.2.2.2 → zRD (aTake A t s) σ' 0 → Q (some (.inl (nI (gn A t)))) σ') : ∀ (n k : Nat), k + n = gn A t → ∀ σ : zSt, zOnly z25 σ0 σ → σ.2.2.2 = σ0.2.2.2 → (∀ u, u < aN A → zgi σ 25 0 u = iI (if grB A t u = true ∧ fb_ct (grB A t) u < k then (s (fb_ct (grB A t) u) : Int) else aMp A u)) → zE true (d + 15) kc ks M_X11_take 43 [some (.inr (.inr (6, 0))), none, some (.inl (nI n0)), some (.inl (nI k))] [] σ Q := by
  have hN : aN A ≤ 24 := hW.1.2.2.2.2.1
  have gl := gn_le A t
  obtain ⟨h9, f4, f40, f6, f7, fF, fl⟩ := hP.F hs
  intro n
  induction n with
  | zero =>
    intro k hk σ ho hh hz
    have : k = gn A t := by omega
    subst this
    have f4' : zgi σ 11 0 4 = nI (gn A t) := by rw [ho.i 11 0 4 (by omega)]; exact f4
    refine T_X11_take_43 ⟨fun _ => ?_, fun h => absurd (by rw [f4']; exact Int32.le_refl _) h⟩
    rw [f4']
    refine hQ σ ho hh (hR.map ho hh (fun u hu => ?_))
    rw [hz u hu]
    congr 1
    by_cases z : grB A t u = true
    · rw [if_pos ⟨z, (mbr_of hu (grB_iff.mp z)).1⟩, if_pos ⟨hu, z⟩]
    · rw [if_neg (fun q => z q.1), if_neg (fun q => z q.2)]
  | succ n ih =>
    intro k hk σ ho hh hz
    have bk := mbr_ok (A := A) (t := t) (i := k) (by omega)
    refine T_X11_take_43 ⟨fun g => ?_, fun _ => ⟨nI_in (by omega) (by omega), S_X7_cellIn h9 (fF.only ho ⟨by omega, fun k => by omega⟩) fl hn (by omega) ?_⟩⟩
    · rw [ho.i 11 0 4 (by omega), f4, nI_leI (by omega) (by omega)] at g
      omega
    · rw [nI_clamp (show k < 2 ^ 31 by omega), ho.i 40 0 k (by omega), f40 k (by omega), nI_clamp (show mbr A t k < 2 ^ 31 by omega), ← nI_succ]
      refine ⟨nI_in (by omega) (by omega), ih (k + 1) (by omega) _ (ho.tr (zOnly.si ⟨rfl, rfl⟩)) hh (fun u hu => ?_)⟩
      rw [zgi_si]
      by_cases z : u = mbr A t k
      · subst z
        rw [if_pos ⟨rfl, rfl, rfl⟩, bk.2.2, if_pos ⟨grB_iff.mpr bk.2.1, Nat.lt_succ_self k⟩, iI_nat]
      · rw [if_neg (fun q => z q.2.2), hz u hu]
        congr 1
        by_cases z2 : grB A t u = true
        · have hne : fb_ct (grB A t) u ≠ k := fun q => z (by rw [← q, (mbr_of hu (grB_iff.mp z2)).2])
          by_cases z3 : fb_ct (grB A t) u < k
          · rw [if_pos ⟨z2, z3⟩, if_pos ⟨z2, by omega⟩]
          · rw [if_neg (fun q => z3 q.2), if_neg (fun q => by omega)]
        · rw [if_neg (fun q => z2 q.1), if_neg (fun q => z2 q.1)]
theorem O_X11_take {K : Int32 → zSt → Prop} (hW : zWf A) (hR : zRD A σ 0) (hC : zCR A σ) (hP : zCP A σ) (a b : Int32) (hno : ¬ (tI A a = true ∧ 0 ≤ b.toInt) → K (-1) σ) (hyes : ∀ t n, t < aN A → a = nI t → b = nI n → n < 2147483648 → (spB A t → ∀ σ', zOnly zQpl σ σ' → σ'.2.2.2 = σ.2.2.2 → zCR A σ' → zCP A σ' → K (-6) σ') ∧ (¬ spB A t → ((plF A t).length ≤ n → ∀ σ', zOnly zQpl σ σ' → σ'.2.2.2 = σ.2.2.2 → zCR A σ' → zCP A σ' → K (-1) σ') ∧ ∀ s, (plF A t)[n]? = some s → ∀ σ', zOnly (fun c j k => zQpl c j k ∨ z25 c j k) σ σ' → σ'.2.2.2 = σ.2.2.2 → zCR A σ' → zCP A σ' → zRD (aTake A t s) σ' 0 → K (nI (gn A t)) σ')) : zCi true (d + 15) 0 0 M_X11_take [.inr (.inr (6, 0)), .inl (a), .inl (b)] σ K := by
  have b0 : (0 ≤ b) ↔ 0 ≤ b.toInt := by rw [Int32.le_iff_toInt_le]; rfl
  refine zC_intro pl_X11 (Nat.le_of_ble_eq_true rfl) (T_X11_take_0 (S_X1_isThing hW hR a ⟨fun h => ⟨_, rfl, hno ?_⟩, fun h => ?_⟩))
  · rw [zb_0, b0] at h
    exact fun q => h.elim (fun z => z q.1) (fun z => z q.2)
  · rw [zb_0, b0] at h
    have h1 : tI A a = true := Decidable.not_not.mp (fun q => h (Or.inl q))
    have h2 : 0 ≤ b.toInt := Decidable.not_not.mp (fun q => h (Or.inr q))
    obtain ⟨t, ht, rfl⟩ := tI_nI h1
    obtain ⟨n, hn, rfl⟩ : ∃ n : Nat, n < 2147483648 ∧ b = nI n := ⟨b.toInt.toNat, by have := fb_rng b; omega, zI_of h2⟩
    have go := hyes t n ht rfl rfl hn
    refine S_X11_isSpent hW hR hC hP ht (fun σ1 o1 h1 r1 c1 p1 => ⟨fun z => ⟨fun q => absurd q (by decide), fun _ => ⟨_, rfl, go.1 z σ1 o1 h1 c1 (Or.inr ⟨t, ht, p1⟩)⟩⟩, fun z => ⟨fun _ => ?_, fun q => absurd rfl q⟩⟩)
    obtain ⟨h9, f4, f40, f6, f7, fF, fl⟩ := p1.F z
    rw [fF.1, nI_ltI (by omega) (by omega)]
    refine ⟨fun g => ?_, fun g => ⟨_, rfl, (go.2 z).1 (by omega) σ1 o1 h1 c1 (Or.inr ⟨t, ht, p1⟩)⟩⟩
    obtain ⟨s, hs⟩ : ∃ s, (plF A t)[n]? = some s := ⟨_, List.getElem?_eq_getElem g⟩
    refine L_X11_take43 hW ht z r1 p1 hs (fun σ2 o2 h2 r2 => ⟨_, rfl, (go.2 z).2 s hs σ2 ((o1.mono (fun c j k h => Or.inl h)).tr (o2.mono (fun c j k h => Or.inr h))) (h2.trans h1) (c1.only o2 ⟨fun j k => by omega, fun j k => by omega, by omega, by omega, by omega⟩) (Or.inr ⟨t, ht, p1.only o2 ⟨fun k hk => by omega, fun j k => ⟨by omega, by omega, by omega, by omega⟩⟩⟩) r2⟩) (gn A t) 0 (by omega) σ1 zOnly.rf rfl (fun u hu => ?_)
    rw [if_neg (fun q => Nat.not_lt_zero _ q.2)]
    exact (r1.2.1 u hu).2.2
end zPz
