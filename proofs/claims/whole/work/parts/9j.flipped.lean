/-! flipped (class) -/
section zCv3
variable {d kc ks : Nat} {σ : zSt} {A : zAb} {Q : Option zV → zSt → Prop}
abbrev zQff (c j k : Nat) : Prop := zQfl c j k ∨ z25 c j k
theorem O_X11_flipped {K : Int32 → zSt → Prop} (hW : zWf A) (hR : zRD A σ 0) (hC : zCR A σ) (hX : zXT σ) (a b : Int32) (hno : ¬ tI A a = true → K (-1) σ) (hyes : ∀ t, t < aN A → a = nI t → (∀ σ', zOnly zQfl σ σ' → σ'.2.2.2 = σ.2.2.2 → zCR A σ' → (¬ plcd A t = true → K (-3) σ') ∧ (plcd A t = true → ¬ (0 ≤ b.toInt ∧ b.toInt < (flP A t).length) → K (-1) σ')) ∧ (plcd A t = true → ∀ n x, b = nI n → (flP A t)[n]? = some x → ∀ σ', zOnly zQff σ σ' → σ'.2.2.2 = σ.2.2.2 → zCR A σ' → zRD (aFlip A x) σ' 0 → K (nI (mvN A x.2.2.1 x.1 x.2.1 x.2.2.2)) σ')) : zCi true (d + 8) 0 0 M_X11_flipped [.inr (.inr (6, 0)), .inl (a), .inl (b)] σ K := by
  refine zC_intro pl_X11 (Nat.le_of_ble_eq_true rfl) (T_X11_flipped_0 (S_X11_refusalOfFlip hW hR hC hX a b (fun h => ⟨fun q => absurd q (by decide), fun _ => ⟨_, rfl, hno h⟩⟩) (fun t ht e σ1 o h c => ⟨fun q => ⟨fun z => absurd z (by decide), fun _ => ⟨_, rfl, ((hyes t ht e).1 σ1 o h c).1 q⟩⟩, fun q => ⟨fun z => ⟨fun z2 => absurd z2 (by decide), fun _ => ⟨_, rfl, ((hyes t ht e).1 σ1 o h c).2 q z⟩⟩, fun n x hb hx k => ⟨fun _ => ?_, fun z => absurd rfl z⟩⟩⟩)))
  have hR1 : zRD A σ1 0 := hR.only o h (fun c j k h => by unfold zBD at h; unfold zQfl zQr zQcc z30; omega)
  have hm : x ∈ flP A t := List.mem_of_getElem? hx
  refine zC_intro pl_X2 (Nat.le_of_ble_eq_true rfl) (T_X2_settleOnMap_0 ?_)
  refine L_X2_settle (A := A) hW hR1 k (fun σ2 o2 h2 r2 => ⟨_, rfl, _, rfl, ?_⟩) (aN A) 0 (by omega) σ1 zOnly.rf rfl (fun u hu => ?_)
  · rw [if_neg (Nat.not_lt_zero u)]
    exact (hR1.2.1 u hu).2.2
  · rw [← flP_mv hm]
    exact (hyes t ht e).2 q n x hb hx σ2 ((o.mono (fun c j k h => Or.inl h)).tr (o2.mono (fun c j k h => Or.inr h))) (h2.trans h) (c.only o2 ⟨fun j k => by omega, fun j k => by omega, by omega, by omega, by omega⟩) r2
end zCv3
