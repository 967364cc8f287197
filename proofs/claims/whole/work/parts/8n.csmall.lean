/-! small changes (class): turn, trust, wall, tick -/
theorem as3_self {A : zAb} {a k : Nat} {v : Bool} (h : A.2.2.2 a k = v) : as3 A a k v = A := by
  have e : (fun b i => if b = a ∧ i = k then v else A.2.2.2 b i) = A.2.2.2 := funext (fun b => funext (fun i => by
    by_cases q : b = a ∧ i = k
    · rw [if_pos q, q.1, q.2, h]
    · rw [if_neg q]))
  unfold as3
  rw [e]
theorem dnot {p : Prop} [Decidable p] : (¬ decide p = true) ↔ ¬ p := by rw [decide_eq_true_eq]
section zCk
variable {d kc ks : Nat} {σ : zSt} {A : zAb} {Q : Option zV → zSt → Prop}
theorem O_X11_turn {K : Int32 → zSt → Prop} (hW : zWf A) (hR : zRD A σ 0) (a b : Int32) (hb : b = 0 ∨ b = 1) (hno : ¬ mI A a = true → K (-1) σ)
    (hyes : ∀ m, m < aM A → a = nI m → ∀ σ', zRD (as3 A 2 m (decide (b = 1))) σ' 0 → (mO A m = decide (b = 1) → σ' = σ) → (¬ mO A m = decide (b = 1) → zForg σ' ∧ zOnly (fun c j k => (c = 7 ∧ j = 0 ∧ k = 10) ∨ zCh c k) σ σ') → σ'.2.2.2 = σ.2.2.2 → K (zb (¬ mO A m = decide (b = 1))) σ') : zCi true (d + 3) 0 0 M_X11_turn [.inr (.inr (6, 0)), .inl (a), .inl (b)] σ K := by
  have hM : aM A ≤ 60 := hW.1.2.2.2.2.2.1
  refine zC_intro pl_X11 (Nat.le_of_ble_eq_true rfl) (T_X11_turn_0 (S_X1_isMeasure hW hR a ⟨fun h => ?_, fun h => ⟨_, rfl, hno (zb_0.mp h)⟩⟩))
  rw [zb_0, Decidable.not_not] at h
  obtain ⟨m, hm, rfl⟩ := mI_nI h
  rw [hR.1.2.2.2.2.2.2.1, zh_b (by omega), decide_eq_true hm, Bool.true_and, zb_ne hb]
  have eqb : (mO A m = decide (b = 1)) ↔ (mO A m = true ↔ b = 1) := by
    by_cases z : b = 1
    · rw [decide_eq_true z]; simp [z]
    · rw [decide_eq_false z]; simp [z]
  refine ⟨fun g => S_X11_changed (fun σ' o1 f1 h1 => ⟨_, rfl, ?_⟩), fun g => ⟨_, rfl, ?_⟩⟩
  · have hne : ¬ mO A m = decide (b = 1) := fun q => g (eqb.mp q)
    have e : (1 : Int32) = zb (¬ mO A m = decide (b = 1)) := by simp [zb, hne]
    rw [e]
    have o0 : zOnly (fun c j k => (c = 7 ∧ j = 0 ∧ k = 10) ∨ zCh c k) σ σ' := (zOnly.sl (Or.inl ⟨rfl, rfl, rfl⟩)).tr (o1.mono (fun c j k h => Or.inr h))
    have e10 : zgl σ' 7 0 10 = zset (fun i => decide (i < aM A) && mO (as3 A 2 m (decide (b = 1))) i) 64 := by
      rw [o1.l 7 0 10 (by unfold zCh; omega), zgl_sl, if_pos ⟨rfl, rfl, rfl⟩]
      refine zset_eq (fun i hi => ?_)
      rw [tb_xor, tb_set hi, tb_bit (by omega)]
      show _ = (decide (i < aM A) && (if 2 = 2 ∧ i = m then decide (b = 1) else mO A i))
      by_cases z : i = m
      · subst z
        rw [if_pos ⟨rfl, rfl⟩, decide_eq_true hm, decide_eq_true rfl, Bool.true_and, Bool.true_and]
        cases hx : mO A i <;> cases hy : decide (b = 1)
        · exact absurd (by rw [hx, hy]) hne
        · rfl
        · rfl
        · exact absurd (by rw [hx, hy]) hne
      · rw [if_neg (fun q => z q.2), decide_eq_false z, Bool.xor_false]
    refine hyes m hm rfl σ' ?_ (fun q => absurd q hne) (fun _ => ⟨f1, o0⟩) h1
    have hR1 : zRD A (zsl σ' 7 0 10 (zgl σ 7 0 10)) 0 := by
      refine hR.of (fun c => by unfold zcn; show _ ≤ (σ'.2.2.2.1 c); rw [h1]; exact Nat.le_refl _) (fun c j k hbd _ => ?_)
      by_cases z : c = 7 ∧ j = 0 ∧ k = 10
      · obtain ⟨rfl, rfl, rfl⟩ := z
        refine ⟨?_, ?_, ?_⟩
        · rw [zgi_sl, o1.i 7 0 10 (by unfold zCh; omega), zgi_sl]
        · rw [zgl_sl, if_pos ⟨rfl, rfl, rfl⟩]
        · show zgr σ' 7 0 10 = _
          rw [o1.r 7 0 10 (by unfold zCh; omega)]; rfl
      · have hn : ¬ ((c = 7 ∧ j = 0 ∧ k = 10) ∨ zCh c k) := fun q => by
          rcases q with q | q
          · exact z q
          · unfold zBD at hbd; unfold zCh at q; omega
        have := o0 c j k hn
        exact ⟨by rw [zgi_sl]; exact this.1, by rw [zgl_sl, if_neg (fun q => z ⟨q.1, q.2.1, q.2.2⟩)]; exact this.2.1, this.2.2⟩
    obtain ⟨⟨a1, a2, a3, a4, a5, a6, a7, a8, a9⟩, g2, g3, g4⟩ := hR1
    exact ⟨⟨a1, a2, a3, a4, a5, a6, e10, a8, a9⟩, g2, g3, g4⟩
  · have heq : mO A m = decide (b = 1) := eqb.mpr (Decidable.not_not.mp (fun q => (zb_ne (p := mO A m = true) hb).mpr q g))
    have e : (0 : Int32) = zb (¬ mO A m = decide (b = 1)) := by simp [zb, heq]
    rw [e]
    refine hyes m hm rfl σ ?_ (fun _ => rfl) (fun q => absurd heq q) rfl
    rw [as3_self heq]
    exact hR
end zCk
