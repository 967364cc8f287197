/-! flips (class): the calls -/
section zCt
variable {d kc ks : Nat} {σ : zSt} {A : zAb} {Q : Option zV → zSt → Prop}
abbrev zQfl (c j k : Nat) : Prop := zQr c j k ∨ zQcc c j k ∨ z30 c j k ∨ (c = 12 ∧ k = 3)
theorem S_X11_refusalOfFlips {K : Int32 → zSt → Prop} (hW : zWf A) (hR : zRD A σ 0) (a : Int32) (hno : ¬ tI A a = true → K (-1) σ) (hyes : ∀ t, t < aN A → a = nI t → ∀ σ', zOnly z30 σ σ' → σ'.2.2.2 = σ.2.2.2 → (¬ plcd A t = true → K (-3) σ') ∧ (plcd A t = true → K 0 σ')) : zCi true (d + 5) 0 0 M_X11_refusalOfFlips [.inr (.inr (6, 0)), .inl (a)] σ K := by
  have hN : aN A ≤ 24 := hW.1.2.2.2.2.1
  refine zC_intro pl_X11 (Nat.le_of_ble_eq_true rfl) (T_X11_refusalOfFlips_0 (S_X1_isThing hW hR a ⟨fun h => ?_, fun h => ⟨_, rfl, hno (zb_0.mp h)⟩⟩))
  rw [zb_0, Decidable.not_not] at h
  obtain ⟨t, ht, rfl⟩ := tI_nI h
  refine S_X1_groupOf hW hR ht (fun σ1 o1 h1 _ => ?_)
  have hR1 : zRD A σ1 0 := hR.only o1 h1 (fun c j k h => by unfold zBD at h; omega)
  refine S_X1_thingsOnMap hW hR1 (fun x hx => ⟨_, rfl, ?_⟩)
  obtain ⟨q1, q2⟩ := hyes t ht rfl σ1 o1 h1
  have e : yset (grB A t) 32 &&& (yset (fun t => decide (t < aN A) && decide (0 ≤ aMp A t)) 32 ^^^ (-1)) = yset (fun u => grB A t u && !(decide (u < aN A) && decide (0 ≤ aMp A u))) 32 := yset_eq (fun i hi => by rw [b_and, bt_set hi, bt_not _ hi, bt_set hi])
  have cz : (yset (grB A t) 32 &&& (yset (fun t => decide (t < aN A) && decide (0 ≤ aMp A t)) 32 ^^^ (-1)) = 0) ↔ plcd A t = true := by
    rw [e, yset_0]
    unfold plcd
    rw [Bool.not_eq_true', aAny_f]
    constructor
    · intro h u hu
      have := h u (by omega)
      rw [decide_eq_true hu, Bool.true_and] at this
      exact this
    · intro h u hu
      by_cases z : u < aN A
      · rw [decide_eq_true z, Bool.true_and]
        exact h u z
      · have : grB A t u = false := by
          by_cases y : grB A t u = true
          · exact absurd (gr_lt hW ht (grB_iff.mp y)) z
          · simpa using y
        rw [this]; rfl
  by_cases z : plcd A t = true
  · rw [hx, if_pos (cz.mpr z)]
    exact q2 z
  · rw [hx, if_neg (fun q => z (cz.mp q))]
    exact q1 z
theorem plcd_map (hW : zWf A) {t : Nat} (ht : t < aN A) (h : plcd A t = true) : ∀ u, gr A t u → 0 ≤ aMp A u := fun u hu => by
  unfold plcd at h
  rw [Bool.not_eq_true'] at h
  have := aAny_f.mp h u (gr_lt hW ht hu)
  rw [grB_iff.mpr hu, Bool.true_and, Bool.not_eq_false', decide_eq_true_eq] at this
  exact this
theorem O_X11_flips {K : Int32 → zSt → Prop} (hW : zWf A) (hR : zRD A σ 0) (hC : zCR A σ) (hX : zXT σ) (a : Int32) (hno : ¬ tI A a = true → K (-1) σ) (hyes : ∀ t, t < aN A → a = nI t → ∀ σ', zOnly zQfl σ σ' → σ'.2.2.2 = σ.2.2.2 → zCR A σ' → (¬ plcd A t = true → K (-3) σ') ∧ (plcd A t = true → K (nI (flP A t).length) σ')) : zCi true (d + 7) 0 0 M_X11_flips [.inr (.inr (6, 0)), .inl (a)] σ K := by
  have hN : aN A ≤ 24 := hW.1.2.2.2.2.1
  refine zC_intro pl_X11 (Nat.le_of_ble_eq_true rfl) (T_X11_flips_0 (S_X11_refusalOfFlips hW hR a (fun h => ⟨fun q => absurd q (by decide), fun _ => ⟨_, rfl, hno h⟩⟩) (fun t ht ea σ1 o1 h1 => ⟨fun q => ⟨fun z => absurd z (by decide), fun _ => ⟨_, rfl, ?_⟩⟩, fun q => ⟨fun _ => ?_, fun z => absurd rfl z⟩⟩)))
  · exact (hyes t ht ea σ1 (o1.mono (fun c j k h => by unfold zQfl; exact Or.inr (Or.inr (Or.inl h)))) h1 (hC.only o1 ⟨fun j k => by omega, fun j k => by omega, by omega, by omega, by omega⟩)).1 q
  · have hR1 : zRD A σ1 0 := hR.only o1 h1 (fun c j k h => by unfold zBD at h; omega)
    have hC1 : zCR A σ1 := hC.only o1 ⟨fun j k => by omega, fun j k => by omega, by omega, by omega, by omega⟩
    have hX1 : zXT σ1 := hX.only o1 (fun c k _ _ => by omega)
    refine S_X11_makeReady hW hR1 hC1 (fun σ2 o2 h2 c2 y2 _ => ?_)
    have hR2 : zRD A σ2 0 := hR1.only o2 h2 (fun c j k h => by unfold zBD at h; unfold zQr; omega)
    have hX2 : zXT σ2 := hX1.only o2 (fun c k _ _ => by unfold zQr; omega)
    rw [ea]
    refine S_X1_groupOf hW hR2 ht (fun σ3 o3 h3 _ => ?_)
    have hR3 : zRD A σ3 0 := hR2.only o3 h3 (fun c j k h => by unfold zBD at h; omega)
    have hC3 : zCR A σ3 := c2.only o3 ⟨fun j k => by omega, fun j k => by omega, by omega, by omega, by omega⟩
    have hX3 : zXT σ3 := hX2.only o3 (fun c k _ _ => by omega)
    refine S_X2_seek hW hR3 hC3.1 (fun m hm => (y2.1 m hm).only o3 (fun j k => by omega)) hX3 ht (plcd_map hW ht q) (fun σ4 o4 h4 f4 => ⟨_, rfl, ?_⟩)
    have hlen := flP_len (g := t) hN
    have e5 : zgi σ4 12 0 5 = nI (flP A t).length := by
      rcases f4.2 with ⟨_, q2, _⟩ | ⟨_, i, x, q2, q3, _⟩
      · exact q2
      · exfalso
        have hl : i < (flP A t).length := by
          by_cases z : i < (flP A t).length
          · exact z
          · rw [List.getElem?_eq_none (by omega)] at q2
            cases q2
        rw [show (-9 : Int32) = iI (-9) from rfl, ← iI_nat, iI_eqI (by omega) (by omega)] at q3
        omega
    rw [e5]
    have oA : zOnly zQfl σ σ4 := (((o1.mono (fun c j k h => Or.inr (Or.inr (Or.inl h)))).tr (o2.mono (fun c j k h => Or.inl h))).tr (o3.mono (fun c j k h => Or.inr (Or.inr (Or.inl h))))).tr (o4.mono (fun c j k h => h.elim (fun z => Or.inr (Or.inl z)) (fun z => z.elim (fun y => Or.inr (Or.inr (Or.inl y))) (fun y => Or.inr (Or.inr (Or.inr y))))))
    have hC4 : zCR A σ4 := hC3.only o4 ⟨fun j k => by unfold zQcc z30; omega, fun j k => by unfold zQcc z30; omega, by unfold zQcc z30; omega, by unfold zQcc z30; omega, by unfold zQcc z30; omega⟩
    exact (hyes t ht ea σ4 oA (((h4.trans h3).trans h2).trans h1) hC4).2 q
end zCt
