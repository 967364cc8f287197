/-! flip (class) -/
section zCu
variable {d kc ks : Nat} {σ : zSt} {A : zAb} {Q : Option zV → zSt → Prop}
theorem S_X11_refusalOfFlip {K : Int32 → zSt → Prop} (hW : zWf A) (hR : zRD A σ 0) (hC : zCR A σ) (hX : zXT σ) (a b : Int32) (hno : ¬ tI A a = true → K (-1) σ) (hyes : ∀ t, t < aN A → a = nI t → ∀ σ', zOnly zQfl σ σ' → σ'.2.2.2 = σ.2.2.2 → zCR A σ' → (¬ plcd A t = true → K (-3) σ') ∧ (plcd A t = true → (¬ (0 ≤ b.toInt ∧ b.toInt < (flP A t).length) → K (-1) σ') ∧ ∀ n x, b = nI n → (flP A t)[n]? = some x → zKc A σ' x → K 0 σ')) : zCi true (d + 7) 0 0 M_X11_refusalOfFlip [.inr (.inr (6, 0)), .inl (a), .inl (b)] σ K := by
  have hN : aN A ≤ 24 := hW.1.2.2.2.2.1
  refine zC_intro pl_X11 (Nat.le_of_ble_eq_true rfl) (T_X11_refusalOfFlip_0 (S_X11_refusalOfFlips hW hR a (fun h => ⟨fun q => absurd q (by decide), fun _ => ⟨_, rfl, hno h⟩⟩) (fun t ht ea σ1 o1 h1 => ⟨fun q => ⟨fun z => absurd z (by decide), fun _ => ⟨_, rfl, ?_⟩⟩, fun q => ⟨fun _ => ?_, fun z => absurd rfl z⟩⟩)))
  · exact (hyes t ht ea σ1 (o1.mono (fun c j k h => by unfold zQfl; exact Or.inr (Or.inr (Or.inl h)))) h1 (hC.only o1 ⟨fun j k => by omega, fun j k => by omega, by omega, by omega, by omega⟩)).1 q
  · have hR1 : zRD A σ1 0 := hR.only o1 h1 (fun c j k h => by unfold zBD at h; omega)
    have hC1 : zCR A σ1 := hC.only o1 ⟨fun j k => by omega, fun j k => by omega, by omega, by omega, by omega⟩
    have hX1 : zXT σ1 := hX.only o1 (fun c k _ _ => by omega)
    refine S_X11_makeReady hW hR1 hC1 (fun σ2 o2 h2 c2 y2 _ => ?_)
    have hR2 : zRD A σ2 0 := hR1.only o2 h2 (fun c j k h => by unfold zBD at h; unfold zQr; omega)
    have hX2 : zXT σ2 := hX1.only o2 (fun c k _ _ => by unfold zQr; omega)
    have b0 : (b < 0) ↔ b.toInt < 0 := by rw [fa_lt]; rfl
    rw [b0]
    refine ⟨fun g => ⟨_, rfl, ?_⟩, fun g => ?_⟩
    · exact ((hyes t ht ea σ2 ((o1.mono (fun c j k h => Or.inr (Or.inr (Or.inl h)))).tr (o2.mono (fun c j k h => Or.inl h))) (h2.trans h1) c2).2 q).1 (fun z => by omega)
    · rw [ea]
      refine S_X1_groupOf hW hR2 ht (fun σ3 o3 h3 _ => ?_)
      have hR3 : zRD A σ3 0 := hR2.only o3 h3 (fun c j k h => by unfold zBD at h; omega)
      have hC3 : zCR A σ3 := c2.only o3 ⟨fun j k => by omega, fun j k => by omega, by omega, by omega, by omega⟩
      have hX3 : zXT σ3 := hX2.only o3 (fun c k _ _ => by omega)
      refine S_X2_seek hW hR3 hC3.1 (fun m hm => (y2.1 m hm).only o3 (fun j k => by omega)) hX3 ht (plcd_map hW ht q) (fun σ4 o4 h4 f4 x hx => ⟨_, rfl, ?_⟩)
      have hlen := flP_len (g := t) hN
      have oA : zOnly zQfl σ σ4 := (((o1.mono (fun c j k h => Or.inr (Or.inr (Or.inl h)))).tr (o2.mono (fun c j k h => Or.inl h))).tr (o3.mono (fun c j k h => Or.inr (Or.inr (Or.inl h))))).tr (o4.mono (fun c j k h => h.elim (fun z => Or.inr (Or.inl z)) (fun z => z.elim (fun y => Or.inr (Or.inr (Or.inl y))) (fun y => Or.inr (Or.inr (Or.inr y))))))
      have hC4 : zCR A σ4 := hC3.only o4 ⟨fun j k => by unfold zQcc z30; omega, fun j k => by unfold zQcc z30; omega, by unfold zQcc z30; omega, by unfold zQcc z30; omega, by unfold zQcc z30; omega⟩
      obtain ⟨y3, y4⟩ := (hyes t ht ea σ4 oA (((h4.trans h3).trans h2).trans h1) hC4).2 q
      have rb := fb_rng b
      have eb : b = nI b.toInt.toNat := zI_of (by omega)
      rcases f4.2 with ⟨q1, q2, q3⟩ | ⟨q1, i, z, q2, q3, q4⟩
      · rw [hx, if_pos q1]
        refine y3 (fun u => q3 b.toInt.toNat (by omega) eb)
      · rw [hx, if_neg (by rw [q1]; decide)]
        exact y4 i z q3 q2 q4
theorem O_X11_flip {K : Int32 → zSt → Prop} (hW : zWf A) (hR : zRD A σ 0) (hC : zCR A σ) (hX : zXT σ) (a b w : Int32) (hno : ¬ tI A a = true → K (-1) σ) (hyes : ∀ t, t < aN A → a = nI t → ∀ σ', zOnly zQfl σ σ' → σ'.2.2.2 = σ.2.2.2 → zCR A σ' → (¬ plcd A t = true → K (-3) σ') ∧ (plcd A t = true → (¬ (0 ≤ b.toInt ∧ b.toInt < (flP A t).length) → K (-1) σ') ∧ ∀ n x, b = nI n → (flP A t)[n]? = some x → K (flV x w) σ')) : zCi true (d + 8) 0 0 M_X11_flip [.inr (.inr (6, 0)), .inl (a), .inl (b), .inl (w)] σ K := by
  refine zC_intro pl_X11 (Nat.le_of_ble_eq_true rfl) (T_X11_flip_0 (S_X11_refusalOfFlip hW hR hC hX a b (fun h => ⟨fun q => absurd q (by decide), fun _ => ⟨_, rfl, hno h⟩⟩) (fun t ht e σ' o h c => ⟨fun q => ⟨fun z => absurd z (by decide), fun _ => ⟨_, rfl, (hyes t ht e σ' o h c).1 q⟩⟩, fun q => ⟨fun z => ⟨fun z2 => absurd z2 (by decide), fun _ => ⟨_, rfl, ((hyes t ht e σ' o h c).2 q).1 z⟩⟩, fun n x hb hx k => ?_⟩⟩)))
  have fin := ((hyes t ht e σ' o h c).2 q).2 n x hb hx
  obtain ⟨k1, k2, k3, k4, k5⟩ := k
  unfold flV at fin
  refine ⟨fun _ => ⟨fun h => ?_, fun h => ?_, fun h => ?_, fun h => ?_, fun h0 h1 h2 h3 => ?_⟩, fun z => absurd rfl z⟩
  · subst h
    rw [k1]
    exact ⟨_, rfl, fin⟩
  · subst h
    rw [k2]
    exact ⟨_, rfl, fin⟩
  · subst h
    rw [k3]
    exact ⟨_, rfl, fin⟩
  · subst h
    rw [k4]
    exact ⟨_, rfl, fin⟩
  · rw [if_neg h0, if_neg h1, if_neg h2, if_neg h3] at fin
    exact ⟨_, rfl, fin⟩
end zCu
