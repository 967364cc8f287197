/-! liars (class): the calls -/
section zCh2
variable {d kc ks : Nat} {σ : zSt} {A : zAb} {Q : Option zV → zSt → Prop}
/-- the liars found -/
def zCS (A : zAb) (σ : zSt) : Prop := ¬ zgi σ 10 0 7 = 0 → zgi σ 10 0 8 = iI (lyR A).1 ∧ ((lyR A).1 ≠ -9 → zgi σ 10 0 9 = nI (lyR A).2.1 ∧ ∀ t, t < aN A → zgi σ 39 0 t = nI ((lyR A).2.2 t))
abbrev zQx (c j k : Nat) : Prop := zQl c j k ∨ zQv c j k ∨ (c = 10 ∧ (k = 7 ∨ k = 8))
theorem zCL.only {σ' : zSt} {M : Nat → Nat → Nat → Prop} (h : zCL A σ) (ho : zOnly M σ σ') (hm : ¬ M 10 0 5 ∧ ¬ M 10 0 6) : zCL A σ' := fun q => by
  rw [ho.i 10 0 5 hm.1] at q
  rw [ho.l 10 0 6 hm.2]
  exact h q
theorem zCS.only {σ' : zSt} {M : Nat → Nat → Nat → Prop} (h : zCS A σ) (ho : zOnly M σ σ') (hm : (¬ M 10 0 7 ∧ ¬ M 10 0 8 ∧ ¬ M 10 0 9) ∧ ∀ k, ¬ M 39 0 k) : zCS A σ' := fun q => by
  rw [ho.i 10 0 7 hm.1.1] at q
  rw [ho.i 10 0 8 hm.1.2.1, ho.i 10 0 9 hm.1.2.2]
  exact ⟨(h q).1, fun z => ⟨((h q).2 z).1, fun t ht => by rw [ho.i 39 0 t (hm.2 t)]; exact ((h q).2 z).2 t ht⟩⟩
theorem zHv.x {σ' : zSt} (h : zHv A σ) (ho : zOnly zQx σ σ') (hh : σ'.2.2.2 = σ.2.2.2) : zHv A σ' := ⟨h.1.only ho hh (fun c j k h => by unfold zBD at h; unfold zQx zQl zQv; omega), h.2.1.only ho (fun j k => by unfold zQx zQl zQv; omega), fun m hm => (h.2.2 m hm).only ho (fun j k => by unfold zQx zQl zQv; omega)⟩
theorem S_X6_findLiars {K : zSt → Prop} (hW : zWf A) (hR : zRD A σ 0) (hG : zGr σ) (hY : zRy A σ) (hL : zCL A σ) (hZ : zCS A σ) (hK : ∀ σ', zOnly zQx σ σ' → σ'.2.2.2 = σ.2.2.2 → zCL A σ' → zCS A σ' → ¬ zgi σ' 10 0 7 = 0 → K σ') : zCv true (d + 6) 0 0 M_X6_findLiars [.inr (.inr (10, 0))] σ K := by
  have hN : aN A ≤ 24 := hW.1.2.2.2.2.1
  refine zC_intro pl_X6 (Nat.le_of_ble_eq_true rfl) (T_X6_findLiars_0 ⟨fun _ => ?_, fun g => ⟨rfl, hK σ zOnly.rf rfl hL hZ g⟩⟩)
  have o1 : zOnly (fun c _ k => c = 10 ∧ (k = 7 ∨ k = 8 ∨ k = 9)) σ (zsi (zsi (zsi σ 10 0 7 1) 10 0 8 0) 10 0 9 1) := ((zOnly.si ⟨rfl, Or.inl rfl⟩).tr (zOnly.si ⟨rfl, Or.inr (Or.inl rfl)⟩)).tr (zOnly.si ⟨rfl, Or.inr (Or.inr rfl)⟩)
  have e7 : zgi (zsi (zsi (zsi σ 10 0 7 1) 10 0 8 0) 10 0 9 1) 10 0 7 = 1 := by simp [zgi_si]
  have e8 : zgi (zsi (zsi (zsi σ 10 0 7 1) 10 0 8 0) 10 0 9 1) 10 0 8 = 0 := by simp [zgi_si]
  have e9 : zgi (zsi (zsi (zsi σ 10 0 7 1) 10 0 8 0) 10 0 9 1) 10 0 9 = 1 := by simp [zgi_si]
  have h1 : (zsi (zsi (zsi σ 10 0 7 1) 10 0 8 0) 10 0 9 1).2.2.2 = σ.2.2.2 := rfl
  generalize zsi (zsi (zsi σ 10 0 7 1) 10 0 8 0) 10 0 9 1 = σ1 at o1 e7 e8 e9 h1 ⊢
  refine S_J7_fill (N := 24) rfl (by omega) rfl (by omega) (fun σ2 o2 h2 z2 => ?_)
  have ox : zOnly zQx σ σ2 := (o1.mono (fun c j k h => by unfold zQx zQl zQv; omega)).tr (o2.mono (fun c j k h => by unfold zQx zQl zQv; omega))
  have hh : σ2.2.2.2 = σ.2.2.2 := h2.trans h1
  have e7' : zgi σ2 10 0 7 = 1 := by rw [o2.i 10 0 7 (by omega)]; exact e7
  have e8' : zgi σ2 10 0 8 = 0 := by rw [o2.i 10 0 8 (by omega)]; exact e8
  have e9' : zgi σ2 10 0 9 = 1 := by rw [o2.i 10 0 9 (by omega)]; exact e9
  have hL2 : zCL A σ2 := (hL.only o1 (by omega)).only o2 (by omega)
  have hY2 : zRy A σ2 := (hY.only o1 ⟨fun j k => by omega, by omega⟩).only o2 ⟨fun j k => by omega, by omega⟩
  have hV : zHv A σ := ⟨hR, hG, hY.1⟩
  have one : ¬ (2 : Int32) < 1 := by decide
  have ne7 : ∀ σ' : zSt, zgi σ' 10 0 7 = 1 → ¬ zgi σ' 10 0 7 = 0 := fun σ' e q => by rw [e] at q; exact absurd q (by decide)
  -- the end: what stands at 72
  have end72 : ∀ σ' : zSt, zOnly zQx σ σ' → σ'.2.2.2 = σ.2.2.2 → zCL A σ' → zgi σ' 10 0 7 = 1 → (zgi σ' 10 0 9 = 0 → (lyR A).1 = -9) → (¬ zgi σ' 10 0 9 = 0 → zgi σ' 10 0 8 = iI (lyR A).1 ∧ zgi σ' 10 0 9 = nI (lyR A).2.1 ∧ ∀ t, t < aN A → zgi σ' 39 0 t = nI ((lyR A).2.2 t)) → zE true (d + 6) 0 0 M_X6_findLiars 72 [some (.inr (.inr (10, 0))), none] [] σ' (fun r σ' => r = none ∧ K σ') := fun σ' a1 a2 a3 a4 a5 a6 => T_X6_findLiars_72 ⟨fun q => ⟨rfl, hK σ' a1 a2 a3 (fun _ => ⟨(a6 q).1, fun _ => (a6 q).2⟩) (ne7 σ' a4)⟩, fun q => by
    have o3 : zOnly (fun c _ k => c = 10 ∧ k = 8) σ' (zsi σ' 10 0 8 (-9)) := zOnly.si ⟨rfl, rfl⟩
    refine ⟨rfl, hK _ (a1.tr (o3.mono (fun c j k h => by unfold zQx; omega))) a2 (a3.only o3 (by omega)) (fun _ => ⟨?_, fun z => absurd (a5 q) z⟩) (ne7 _ (by rw [o3.i 10 0 7 (by omega)]; exact a4))⟩
    rw [zgi_si, if_pos ⟨rfl, rfl, rfl⟩, a5 q]
    rfl⟩
  by_cases hq : quB A (mO A) = true
  · have z4 : ∀ σ' : zSt, zRy A σ' → ¬ zgi σ' 10 0 4 = 0 := fun σ' y q => by
      rw [y.2.2, zb_0] at q
      exact q hq
    -- sets of one
    refine T_X6_findLiars_33 ⟨fun g => ?_, fun _ => T_X6_findLiars_57 (S_X6_leastQuarrel hW (hV.x ox hh).1 (hV.x ox hh).2.1 hY2 hL2 (fun σ3 o3 h3 l3 => ?_))⟩
    · rcases g with g | g | g
      · exact absurd g (by decide)
      · exact absurd g (z4 σ2 hY2)
      · exact absurd rfl g.1
    · have ox3 : zOnly zQx σ σ3 := ox.tr (o3.mono (fun c j k h => Or.inl h))
      have hh3 := h3.trans hh
      refine S_X6_findSets (Or.inl rfl) hW (hV.x ox3 hh3) hq (fun x hx => by rw [o3.i 39 0 x (by unfold zQl; omega)]; exact z2 x (by omega)) (fun σ4 o4 h4 q8 s1 _ => ?_)
      have hs1 := s1 rfl
      have ox4 : zOnly zQx σ σ4 := ox3.tr (o4.mono (fun c j k h => by unfold zQv at h; unfold zQx zQl zQv; omega))
      have hh4 := h4.trans hh3
      have l4 : zCL A σ4 := l3.only o4 (by unfold zQv; omega)
      have y4 : zRy A σ4 := (hY2.only o3 ⟨fun j k => by unfold zQl; omega, by unfold zQl; omega⟩).only o4 ⟨fun j k => by unfold zQv; omega, by unfold zQv; omega⟩
      have e74 : zgi σ4 10 0 7 = 1 := by rw [o4.i 10 0 7 (by unfold zQv; omega), o3.i 10 0 7 (by unfold zQl; omega)]; exact e7'
      have b1 : fb_ct (ly1 A) (aN A) ≤ aN A := fb_ct_le _ _
      have c9 : (zgi σ4 10 0 9 = 0) ↔ fb_ct (ly1 A) (aN A) = 0 := by rw [hs1.1]; exact nI_eq (b := 0) (by omega) (by omega)
      refine T_X6_findLiars_33 ⟨fun g => ?_, fun g => T_X6_findLiars_57 (S_X6_leastQuarrel hW (hV.x ox4 hh4).1 (hV.x ox4 hh4).2.1 y4 l4 (fun σ5 o5 h5 l5 => ?_))⟩
      · have g2 : ¬ zgi σ4 10 0 9 = 0 := by
          rcases g with g | g | g
          · exact absurd g (by decide)
          · exact absurd g (z4 σ4 y4)
          · exact g.2
        have cp : 0 < fb_ct (ly1 A) (aN A) := Nat.pos_of_ne_zero (fun q => g2 (c9.mpr q))
        have eR : lyR A = (1, fb_ct (ly1 A) (aN A), fun t => if ly1 A t = true then 1 else 0) := by
          unfold lyR
          rw [if_neg (by rw [hq]; decide), if_pos cp]
        refine end72 σ4 ox4 hh4 l4 e74 (fun q => absurd q g2) (fun _ => ?_)
        rw [eR]
        refine ⟨q8, hs1.1, fun t ht => ?_⟩
        rw [hs1.2 t ht]
        show nI (if (decide (t < aN A) && ly1 A t) = true then 1 else 0) = nI (if ly1 A t = true then 1 else 0)
        rw [decide_eq_true ht, Bool.true_and]
      · have c0 : fb_ct (ly1 A) (aN A) = 0 := by
          by_cases q : fb_ct (ly1 A) (aN A) = 0
          · exact q
          · exact absurd (Or.inr (Or.inr ⟨by decide, fun z => q (c9.mp z)⟩)) g
        have f0 := fb_ct_zero.mp c0
        have eR : lyR A = (if 0 < fb_sm (fun t => lyP A t (aN A)) (aN A) then 2 else -9, fb_sm (fun t => lyP A t (aN A)) (aN A), fun x => fb_sm (fun t => lyQ A x t (aN A)) (aN A)) := by
          unfold lyR
          rw [if_neg (by rw [hq]; decide), if_neg (by omega)]
        have ox5 : zOnly zQx σ σ5 := ox4.tr (o5.mono (fun c j k h => Or.inl h))
        have hh5 := h5.trans hh4
        refine S_X6_findSets (Or.inr rfl) hW (hV.x ox5 hh5) hq (fun x hx => ?_) (fun σ6 o6 h6 q86 _ s2 => ?_)
        · rw [o5.i 39 0 x (by unfold zQl; omega), hs1.2 x hx]
          show nI (if (decide (x < aN A) && ly1 A x) = true then 1 else 0) = 0
          rw [f0 x hx, Bool.and_false]
          rfl
        · have hs2 := s2 rfl
          have ox6 : zOnly zQx σ σ6 := ox5.tr (o6.mono (fun c j k h => by unfold zQv at h; unfold zQx zQl zQv; omega))
          have hh6 := h6.trans hh5
          have l6 : zCL A σ6 := l5.only o6 (by unfold zQv; omega)
          have e76 : zgi σ6 10 0 7 = 1 := by rw [o6.i 10 0 7 (by unfold zQv; omega), o5.i 10 0 7 (by unfold zQl; omega)]; exact e74
          have b2 := lyS_le (A := A) (aN A) hN hN
          have c92 : (zgi σ6 10 0 9 = 0) ↔ fb_sm (fun t => lyP A t (aN A)) (aN A) = 0 := by rw [hs2.1]; exact nI_eq (b := 0) (by omega) (by omega)
          refine T_X6_findLiars_33 ⟨fun _ => end72 σ6 ox6 hh6 l6 e76 (fun q => ?_) (fun q => ?_), fun g => absurd (Or.inl (by decide)) g⟩
          · rw [eR]
            show (if 0 < fb_sm (fun t => lyP A t (aN A)) (aN A) then (2 : Int) else -9) = -9
            rw [if_neg (by rw [c92.mp q]; omega)]
          · rw [eR]
            refine ⟨?_, hs2.1, hs2.2⟩
            show _ = iI (if 0 < fb_sm (fun t => lyP A t (aN A)) (aN A) then (2 : Int) else -9)
            rw [if_pos (Nat.pos_of_ne_zero (fun z => q (c92.mpr z))), q86]
            rfl
  · have eR : lyR A = (0, 1, fun _ => 0) := by
      unfold lyR
      rw [if_pos (by simpa using hq)]
    have z4 : zgi σ2 10 0 4 = 0 := by rw [hY2.2.2, zb_0]; exact hq
    refine T_X6_findLiars_33 ⟨fun _ => end72 σ2 ox hh hL2 e7' (fun q => by rw [e9'] at q; exact absurd q (by decide)) (fun _ => ?_), fun g => absurd (Or.inr (Or.inl z4)) g⟩
    rw [eR, e8', e9']
    exact ⟨rfl, rfl, fun t ht => z2 t (by omega)⟩
abbrev zQrx (c j k : Nat) : Prop := zQr c j k ∨ zQx c j k
theorem O_X11_liars {K : Int32 → zSt → Prop} (hW : zWf A) (hR : zRD A σ 0) (hC : zCR A σ) (hL : zCL A σ) (hZ : zCS A σ) (e : Int32) (hout : ¬ (e = 0 ∨ e = 1) → K (-2) σ) (hyes : (e = 0 ∨ e = 1) → ∀ σ', zOnly zQrx σ σ' → σ'.2.2.2 = σ.2.2.2 → zCR A σ' → zCL A σ' → zCS A σ' → K (lyV A e) σ') : zCi true (d + 8) 0 0 M_X11_liars [.inr (.inr (6, 0)), .inl (e)] σ K := by
  have he : (0 ≤ e ∧ e ≤ 1) ↔ (e = 0 ∨ e = 1) := by
    have h1 : (0 ≤ e ∧ e ≤ 1) ↔ (((0 : Nat) : Int) ≤ e.toInt ∧ e.toInt ≤ ((1 : Nat) : Int)) := zin_k e (l := 0) (h := 1) (by omega) (by omega)
    have e0 : (0 : Int32).toInt = 0 := rfl
    have e1 : (1 : Int32).toInt = 1 := rfl
    rw [h1, fa_eq, fa_eq, e0, e1]
    omega
  have hN : aN A ≤ 24 := hW.1.2.2.2.2.1
  refine zC_intro pl_X11 (Nat.le_of_ble_eq_true rfl) (T_X11_liars_0 ?_)
  rw [zb_0, he, Decidable.not_not]
  refine ⟨fun g => S_X11_narrowed hW hR hC (fun σ1 o1 h1 c1 y1 _ => ⟨rfl, ?_⟩), fun g => ⟨_, rfl, hout g⟩⟩
  have hL1 : zCL A σ1 := hL.only o1 (by unfold zQr; omega)
  have hZ1 : zCS A σ1 := hZ.only o1 ⟨by unfold zQr; omega, fun k => by unfold zQr; omega⟩
  have hR1 : zRD A σ1 0 := hR.only o1 h1 (fun c j k h => by unfold zBD at h; unfold zQr; omega)
  refine S_X6_findLiars hW hR1 c1.1 y1 hL1 hZ1 (fun σ2 o2 h2 l2 s2 n2 => ?_)
  have fin := hyes g σ2 ((o1.mono (fun c j k h => Or.inl h)).tr (o2.mono (fun c j k h => Or.inr h))) (h2.trans h1) (c1.only o2 ⟨fun j k => by unfold zQx zQl zQv; omega, fun j k => by unfold zQx zQl zQv; omega, by unfold zQx zQl zQv; omega, by unfold zQx zQl zQv; omega, by unfold zQx zQl zQv; omega⟩) l2 s2
  obtain ⟨q1, q2⟩ := s2 n2
  have r1 := lyR_1 A
  have c9 : (zgi σ2 10 0 8 = -9) ↔ (lyR A).1 = -9 := by
    rw [q1, show (-9 : Int32) = iI (-9) from rfl]
    exact iI_eqI (by omega) (by omega)
  rw [c9]
  unfold lyV at fin
  refine ⟨fun z x hx => ⟨_, rfl, ?_⟩, fun z => ⟨_, rfl, ?_⟩⟩
  · rw [hx]
    by_cases e0 : e = 0
    · rw [if_pos (Or.inr e0)] at fin
      rw [if_neg (fun q => q e0), q1]
      exact fin
    · rw [if_neg (fun q => q.elim z e0)] at fin
      rw [if_pos e0, (q2 z).1]
      exact fin
  · rw [if_pos (Or.inl z), z] at fin
    exact fin
theorem O_X11_lies {K : Int32 → zSt → Prop} (hW : zWf A) (hR : zRD A σ 0) (hC : zCR A σ) (hL : zCL A σ) (hZ : zCS A σ) (a : Int32) (hno : ¬ tI A a = true → K (-1) σ) (hyes : ∀ t, t < aN A → a = nI t → ∀ σ', zOnly zQrx σ σ' → σ'.2.2.2 = σ.2.2.2 → zCR A σ' → zCL A σ' → zCS A σ' → K (lsV A t) σ') : zCi true (d + 8) 0 0 M_X11_lies [.inr (.inr (6, 0)), .inl (a)] σ K := by
  have hN : aN A ≤ 24 := hW.1.2.2.2.2.1
  refine zC_intro pl_X11 (Nat.le_of_ble_eq_true rfl) (T_X11_lies_0 (S_X1_isThing hW hR a ⟨fun h => ?_, fun h => ⟨_, rfl, hno (zb_0.mp h)⟩⟩))
  rw [zb_0, Decidable.not_not] at h
  obtain ⟨t, ht, rfl⟩ := tI_nI h
  refine S_X11_narrowed hW hR hC (fun σ1 o1 h1 c1 y1 _ => ⟨rfl, ?_⟩)
  have hL1 : zCL A σ1 := hL.only o1 (by unfold zQr; omega)
  have hZ1 : zCS A σ1 := hZ.only o1 ⟨by unfold zQr; omega, fun k => by unfold zQr; omega⟩
  have hR1 : zRD A σ1 0 := hR.only o1 h1 (fun c j k h => by unfold zBD at h; unfold zQr; omega)
  refine S_X6_findLiars hW hR1 c1.1 y1 hL1 hZ1 (fun σ2 o2 h2 l2 s2 n2 => ?_)
  have fin := hyes t ht rfl σ2 ((o1.mono (fun c j k h => Or.inl h)).tr (o2.mono (fun c j k h => Or.inr h))) (h2.trans h1) (c1.only o2 ⟨fun j k => by unfold zQx zQl zQv; omega, fun j k => by unfold zQx zQl zQv; omega, by unfold zQx zQl zQv; omega, by unfold zQx zQl zQv; omega, by unfold zQx zQl zQv; omega⟩) l2 s2
  obtain ⟨q1, q2⟩ := s2 n2
  have r1 := lyR_1 A
  have c9 : (zgi σ2 10 0 8 = -9) ↔ (lyR A).1 = -9 := by
    rw [q1, show (-9 : Int32) = iI (-9) from rfl]
    exact iI_eqI (by omega) (by omega)
  rw [c9]
  unfold lsV at fin
  refine ⟨fun z => ⟨nI_in (by omega) (by omega), fun x hx => ⟨_, rfl, ?_⟩⟩, fun z => ⟨_, rfl, ?_⟩⟩
  · rw [if_neg z] at fin
    obtain ⟨p1, p2⟩ := q2 z
    have r2 := lyR_2 A hN
    have r3 := lyR_3 A hN t
    have cz : (zgi σ2 39 0 t = zgi σ2 10 0 9) ↔ (lyR A).2.2 t = (lyR A).2.1 := by
      rw [p2 t ht, p1]
      exact nI_eq (by omega) (by omega)
    have c0 : (zgi σ2 39 0 t ≤ 0) ↔ (lyR A).2.2 t = 0 := by
      rw [p2 t ht, show (0 : Int32) = nI 0 from rfl, nI_leI (by omega) (by omega)]
      omega
    rw [nI_clamp (show t < 2 ^ 31 by omega)] at hx
    rw [hx]
    by_cases z2 : (lyR A).2.2 t = (lyR A).2.1
    · rw [if_neg (fun q => q (cz.mpr z2))]
      by_cases z0 : (lyR A).2.2 t = 0
      · exfalso
        have : 0 < (lyR A).2.1 := by
          unfold lyR at z ⊢
          split
          · exact Nat.one_pos
          · next hq =>
            split
            · next h => exact h
            · next h =>
              rw [if_neg hq, if_neg h] at z
              show 0 < fb_sm (fun t => lyP A t (aN A)) (aN A)
              by_cases y : 0 < fb_sm (fun t => lyP A t (aN A)) (aN A)
              · exact y
              · exact absurd (if_neg y) z
        omega
      · rw [if_neg z0, if_pos z2] at fin
        exact fin
    · rw [if_pos (fun q => z2 (cz.mp q))]
      by_cases z0 : (lyR A).2.2 t = 0
      · rw [if_pos z0] at fin
        rw [if_pos (c0.mpr z0)]
        exact fin
      · rw [if_neg z0, if_neg z2] at fin
        rw [if_neg (fun q => z0 (c0.mp q))]
        exact fin
  · rw [if_pos z] at fin
    exact fin
end zCh2
