/-! small changes (class): turn, trust, wall, tick -/
theorem as3_self {A : zAb} {a k : Nat} {v : Bool} (h : A.2.2.2 a k = v) : as3 A a k v = A := by
  have e : (fun b i => if b = a ∧ i = k then v else A.2.2.2 b i) = A.2.2.2 := funext (fun b => funext (fun i => by
    by_cases q : b = a ∧ i = k
    · rw [if_pos q, q.1, q.2, h]
    · rw [if_neg q]))
  unfold as3
  rw [e]
theorem dnot {p : Prop} [Decidable p] : (¬ decide p = true) ↔ ¬ p := by rw [decide_eq_true_eq]
section zCk
variable {d kc ks : Nat} {σ : zSt} {A : zAb} {Q : Option zV → zSt → Prop}
theorem O_X11_turn {K : Int32 → zSt → Prop} (hW : zWf A) (hR : zRD A σ 0) (a b : Int32) (hb : b = 0 ∨ b = 1) (hno : ¬ mI A a = true → K (-1) σ)
    (hyes : ∀ m, m < aM A → a = nI m → ∀ σ', zRD (as3 A 2 m (decide (b = 1))) σ' 0 → (mO A m = decide (b = 1) → σ' = σ) → (¬ mO A m = decide (b = 1) → zForg σ' ∧ zOnly (fun c j k => (c = 7 ∧ j = 0 ∧ k = 10) ∨ zCh c k) σ σ') → σ'.2.2.2 = σ.2.2.2 → K (zb (¬ mO A m = decide (b = 1))) σ') : zCi true (d + 3) 0 0 M_X11_turn [.inr (.inr (6, 0)), .inl (a), .inl (b)] σ K := by
  have hM : aM A ≤ 60 := hW.1.2.2.2.2.2.1
  refine zC_intro pl_X11 (Nat.le_of_ble_eq_true rfl) (T_X11_turn_0 (S_X1_isMeasure hW hR a ⟨fun h => ?_, fun h => ⟨_, rfl, hno (zb_0.mp h)⟩⟩))
  rw [zb_0, Decidable.not_not] at h
  obtain ⟨m, hm, rfl⟩ := mI_nI h
  rw [hR.1.2.2.2.2.2.2.1, zh_b (by omega), decide_eq_true hm, Bool.true_and, zb_ne hb]
  have eqb : (mO A m = decide (b = 1)) ↔ (mO A m = true ↔ b = 1) := by
    by_cases z : b = 1
    · rw [decide_eq_true z]; simp [z]
    · rw [decide_eq_false z]; simp [z]
  refine ⟨fun g => S_X11_changed (fun σ' o1 f1 h1 => ⟨_, rfl, ?_⟩), fun g => ⟨_, rfl, ?_⟩⟩
  · have hne : ¬ mO A m = decide (b = 1) := fun q => g (eqb.mp q)
    have e : (1 : Int32) = zb (¬ mO A m = decide (b = 1)) := by simp [zb, hne]
    rw [e]
    have o0 : zOnly (fun c j k => (c = 7 ∧ j = 0 ∧ k = 10) ∨ zCh c k) σ σ' := (zOnly.sl (Or.inl ⟨rfl, rfl, rfl⟩)).tr (o1.mono (fun c j k h => Or.inr h))
    have e10 : zgl σ' 7 0 10 = zset (fun i => decide (i < aM A) && mO (as3 A 2 m (decide (b = 1))) i) 64 := by
      rw [o1.l 7 0 10 (by unfold zCh; omega), zgl_sl, if_pos ⟨rfl, rfl, rfl⟩]
      refine zset_eq (fun i hi => ?_)
      rw [tb_xor, tb_set hi, tb_bit (by omega)]
      show _ = (decide (i < aM A) && (if 2 = 2 ∧ i = m then decide (b = 1) else mO A i))
      by_cases z : i = m
      · subst z
        rw [if_pos ⟨rfl, rfl⟩, decide_eq_true hm, decide_eq_true rfl, Bool.true_and, Bool.true_and]
        cases hx : mO A i <;> cases hy : decide (b = 1)
        · exact absurd (by rw [hx, hy]) hne
        · rfl
        · rfl
        · exact absurd (by rw [hx, hy]) hne
      · rw [if_neg (fun q => z q.2), decide_eq_false z, Bool.xor_false]
    refine hyes m hm rfl σ' ?_ (fun q => absurd q hne) (fun _ => ⟨f1, o0⟩) h1
    have hR1 : zRD A (zsl σ' 7 0 10 (zgl σ 7 0 10)) 0 := by
      refine hR.of (fun c => by unfold zcn; show _ ≤ (σ'.2.2.2.1 c); rw [h1]; exact Nat.le_refl _) (fun c j k hbd _ => ?_)
      by_cases z : c = 7 ∧ j = 0 ∧ k = 10
      · obtain ⟨rfl, rfl, rfl⟩ := z
        refine ⟨?_, ?_, ?_⟩
        · rw [zgi_sl, o1.i 7 0 10 (by unfold zCh; omega), zgi_sl]
        · rw [zgl_sl, if_pos ⟨rfl, rfl, rfl⟩]
        · show zgr σ' 7 0 10 = _
          rw [o1.r 7 0 10 (by unfold zCh; omega)]; rfl
      · have hn : ¬ ((c = 7 ∧ j = 0 ∧ k = 10) ∨ zCh c k) := fun q => by
          rcases q with q | q
          · exact z q
          · unfold zBD at hbd; unfold zCh at q; omega
        have := o0 c j k hn
        exact ⟨by rw [zgi_sl]; exact this.1, by rw [zgl_sl, if_neg (fun q => z ⟨q.1, q.2.1, q.2.2⟩)]; exact this.2.1, this.2.2⟩
    obtain ⟨⟨a1, a2, a3, a4, a5, a6, a7, a8, a9⟩, g2, g3, g4⟩ := hR1
    exact ⟨⟨a1, a2, a3, a4, a5, a6, e10, a8, a9⟩, g2, g3, g4⟩
  · have heq : mO A m = decide (b = 1) := eqb.mpr (Decidable.not_not.mp (fun q => (zb_ne (p := mO A m = true) hb).mpr q g))
    have e : (0 : Int32) = zb (¬ mO A m = decide (b = 1)) := by simp [zb, heq]
    rw [e]
    refine hyes m hm rfl σ ?_ (fun _ => rfl) (fun q => absurd heq q) rfl
    rw [as3_self heq]
    exact hR
theorem zRD.backV {k0 : Nat} {M : Nat → Nat → Nat → Prop} {σ' : zSt} (h : zRD A σ 0) (ho : zOnly (fun c j k => (c = 7 ∧ j = 0 ∧ k = k0) ∨ M c j k) σ σ') (hM : ∀ c j k, zBD c j k → ¬ M c j k) (hh : σ'.2.2.2 = σ.2.2.2) : zRD A (zsr (zsi (zsl σ' 7 0 k0 (zgl σ 7 0 k0)) 7 0 k0 (zgi σ 7 0 k0)) 7 0 k0 (zgr σ 7 0 k0)) 0 := by
  refine h.of (fun c => by unfold zcn; show _ ≤ (σ'.2.2.2.1 c); rw [hh]; exact Nat.le_refl _) (fun c j k hbd _ => ?_)
  by_cases z : c = 7 ∧ j = 0 ∧ k = k0
  · obtain ⟨rfl, rfl, rfl⟩ := z
    refine ⟨?_, ?_, ?_⟩
    · rw [zgi_sr, zgi_si, if_pos ⟨rfl, rfl, rfl⟩]
    · rw [zgl_sr, zgl_si, zgl_sl, if_pos ⟨rfl, rfl, rfl⟩]
    · rw [zgr_sr, if_pos ⟨rfl, rfl, rfl⟩]
  · have := ho c j k (fun q => q.elim z (hM c j k hbd))
    exact ⟨by rw [zgi_sr, zgi_si, if_neg z, zgi_sl]; exact this.1, by rw [zgl_sr, zgl_si, zgl_sl, if_neg z]; exact this.2.1, by rw [zgr_sr, if_neg z]; exact this.2.2⟩
theorem O_X11_trust {K : Int32 → zSt → Prop} (hW : zWf A) (hR : zRD A σ 0) (a b : Int32) (hb : b = 0 ∨ b = 1) (hno : ¬ tI A a = true → K (-1) σ)
    (hyes : ∀ t, t < aN A → a = nI t → ∀ σ', zRD (as3 A 1 t (decide (b = 1))) σ' 0 → (aTr A t = decide (b = 1) → σ' = σ) → (¬ aTr A t = decide (b = 1) → zgi σ' 10 0 7 = 0 ∧ zOnly (fun c j k => (c = 7 ∧ j = 0 ∧ k = 7) ∨ (c = 10 ∧ k = 7)) σ σ') → σ'.2.2.2 = σ.2.2.2 → K (zb (¬ aTr A t = decide (b = 1))) σ') : zCi true (d + 3) 0 0 M_X11_trust [.inr (.inr (6, 0)), .inl (a), .inl (b)] σ K := by
  have hN : aN A ≤ 24 := hW.1.2.2.2.2.1
  refine zC_intro pl_X11 (Nat.le_of_ble_eq_true rfl) (T_X11_trust_0 (S_X1_isThing hW hR a ⟨fun h => ?_, fun h => ⟨_, rfl, hno (zb_0.mp h)⟩⟩))
  rw [zb_0, Decidable.not_not] at h
  obtain ⟨m, hm, rfl⟩ := tI_nI h
  have r7 := hR.1.2.2.2.2.1
  rw [r7, yh_b (by omega), decide_eq_true hm, Bool.true_and, zb_ne hb]
  have eqb : (aTr A m = decide (b = 1)) ↔ (aTr A m = true ↔ b = 1) := by
    by_cases z : b = 1
    · rw [decide_eq_true z]; simp [z]
    · rw [decide_eq_false z]; simp [z]
  refine ⟨fun g => S_X6_forgetLiars ⟨_, rfl, ?_⟩, fun g => ⟨_, rfl, ?_⟩⟩
  · have hne : ¬ aTr A m = decide (b = 1) := fun q => g (eqb.mp q)
    have e : (1 : Int32) = zb (¬ aTr A m = decide (b = 1)) := by simp [zb, hne]
    have o0 : zOnly (fun c j k => (c = 7 ∧ j = 0 ∧ k = 7) ∨ (c = 10 ∧ k = 7)) σ (zsi (zsi σ 7 0 7 (yset (fun t => decide (t < aN A) && aTr A t) 32 ^^^ zishl 1 (nI m))) 10 0 7 0) := (zOnly.si (Or.inl ⟨rfl, rfl, rfl⟩)).tr (zOnly.si (Or.inr ⟨rfl, rfl⟩))
    have e10 : zgi (zsi (zsi σ 7 0 7 (yset (fun t => decide (t < aN A) && aTr A t) 32 ^^^ zishl 1 (nI m))) 10 0 7 0) 7 0 7 = yset (fun i => decide (i < aN A) && aTr (as3 A 1 m (decide (b = 1))) i) 32 := by
      rw [zgi_si, if_neg (by omega), zgi_si, if_pos ⟨rfl, rfl, rfl⟩]
      refine yset_eq (fun i hi => ?_)
      rw [b_xor, bt_set hi, bt_bit (by omega)]
      show _ = (decide (i < aN A) && (if 1 = 1 ∧ i = m then decide (b = 1) else aTr A i))
      by_cases z : i = m
      · subst z
        rw [if_pos ⟨rfl, rfl⟩, decide_eq_true hm, decide_eq_true rfl, Bool.true_and, Bool.true_and]
        cases hx : aTr A i <;> cases hy : decide (b = 1)
        · exact absurd (by rw [hx, hy]) hne
        · rfl
        · rfl
        · exact absurd (by rw [hx, hy]) hne
      · rw [if_neg (fun q => z q.2), decide_eq_false z, Bool.xor_false]
    have e7 : zgi (zsi (zsi σ 7 0 7 (yset (fun t => decide (t < aN A) && aTr A t) 32 ^^^ zishl 1 (nI m))) 10 0 7 0) 10 0 7 = 0 := by rw [zgi_si, if_pos ⟨rfl, rfl, rfl⟩]
    have h1 : (zsi (zsi σ 7 0 7 (yset (fun t => decide (t < aN A) && aTr A t) 32 ^^^ zishl 1 (nI m))) 10 0 7 0).2.2.2 = σ.2.2.2 := rfl
    generalize zsi (zsi σ 7 0 7 (yset (fun t => decide (t < aN A) && aTr A t) 32 ^^^ zishl 1 (nI m))) 10 0 7 0 = σ' at o0 e10 e7 h1 ⊢
    rw [e]
    refine hyes m hm rfl σ' ?_ (fun q => absurd q hne) (fun _ => ⟨e7, o0⟩) h1
    obtain ⟨⟨a1, a2, a3, a4, a5, a6, a7, a8, a9⟩, g2, g3, g4⟩ := hR.backV o0 (fun c j k hbd q => by unfold zBD at hbd; omega) h1
    exact ⟨⟨a1, a2, a3, a4, e10, a6, a7, a8, a9⟩, g2, g3, g4⟩
  · have heq : aTr A m = decide (b = 1) := eqb.mpr (Decidable.not_not.mp (fun q => (zb_ne (p := aTr A m = true) hb).mpr q g))
    have e : (0 : Int32) = zb (¬ aTr A m = decide (b = 1)) := by simp [zb, heq]
    rw [e]
    refine hyes m hm rfl σ ?_ (fun _ => rfl) (fun q => absurd heq q) rfl
    rw [as3_self heq]
    exact hR
theorem O_X11_wall {K : Int32 → zSt → Prop} (hW : zWf A) (hR : zRD A σ 0) (a b : Int32) (hb : b = 0 ∨ b = 1) (hno : ¬ acI A a = true → K (-1) σ) (hst : ∀ c, c < 64 → acell A c = true → a = nI c → anAt A c = true → K (-3) σ)
    (hyes : ∀ c, c < 64 → acell A c = true → a = nI c → anAt A c = false → ∀ σ', zRD (as3 A 0 c (decide (b = 1))) σ' 0 → (aWl A c = decide (b = 1) → σ' = σ) → (¬ aWl A c = decide (b = 1) → zForg σ' ∧ zgl σ' 9 0 3 = 0 ∧ zOnly (fun c j k => (c = 7 ∧ j = 0 ∧ k = 2) ∨ zCh c k ∨ c = 9 ∧ k = 3) σ σ') → σ'.2.2.2 = σ.2.2.2 → K (zb (¬ aWl A c = decide (b = 1))) σ') : zCi true (d + 4) 0 0 M_X11_wall [.inr (.inr (6, 0)), .inl (a), .inl (b)] σ K := by
  refine zC_intro pl_X11 (Nat.le_of_ble_eq_true rfl) (T_X11_wall_0 (S_X1_isCell hW hR a ⟨fun h => ?_, fun h => ⟨_, rfl, hno (zb_0.mp h)⟩⟩))
  rw [zb_0, Decidable.not_not] at h
  obtain ⟨c, hc, hac, rfl⟩ := acI_nI h
  refine S_X1_anchorCells hW hR ?_
  have ean : anC A (aN A) c = anAt A c := rfl
  have efr : afree A c = !aWl A c := by unfold afree; rw [hac, Bool.true_and]
  have ezb : ∀ p : Prop, ∀ [Decidable p], (zb p = b ↔ (p ↔ b = 1)) := fun p _ => by
    have := zb_ne (p := p) hb
    exact ⟨fun q => Decidable.not_not.mp (fun z => this.mpr z q), fun q => Decidable.not_not.mp (fun z => this.mp z q)⟩
  rw [zh_b hc, ean, hR.1.2.2.1, zh_b hc, zb_0, ezb, efr, Bool.not_eq_true']
  have eqb : (aWl A c = decide (b = 1)) ↔ ¬ (aWl A c = false ↔ b = 1) := by
    by_cases z : b = 1
    · rw [decide_eq_true z]; simp [z]
    · rw [decide_eq_false z]; simp [z]
  refine ⟨fun q => ?_, fun q => ⟨_, rfl, hst c hc hac rfl (Decidable.not_not.mp q)⟩⟩
  rw [Bool.not_eq_true] at q
  refine ⟨fun g => S_X11_wallsChanged (fun σ' o1 f1 s1 h1 => ⟨_, rfl, ?_⟩), fun g => ⟨_, rfl, ?_⟩⟩
  · have hne : ¬ aWl A c = decide (b = 1) := fun q => eqb.mp q g
    have e : (1 : Int32) = zb (¬ aWl A c = decide (b = 1)) := by simp [zb, hne]
    rw [e]
    have o0 : zOnly (fun c j k => (c = 7 ∧ j = 0 ∧ k = 2) ∨ zCh c k ∨ c = 9 ∧ k = 3) σ σ' := (zOnly.sl (Or.inl ⟨rfl, rfl, rfl⟩)).tr (o1.mono (fun c j k h => Or.inr h))
    have e2 : zgl σ' 7 0 2 = zset (afree (as3 A 0 c (decide (b = 1)))) 64 := by
      rw [o1.l 7 0 2 (by unfold zCh; omega), zgl_sl, if_pos ⟨rfl, rfl, rfl⟩]
      refine zset_eq (fun i hi => ?_)
      rw [tb_xor, tb_set hi, tb_bit hc]
      show _ = (acell A i && !(if 0 = 0 ∧ i = c then decide (b = 1) else aWl A i))
      by_cases z : i = c
      · subst z
        rw [if_pos ⟨rfl, rfl⟩, decide_eq_true rfl, efr, hac, Bool.true_and]
        cases hx : aWl A i <;> cases hy : decide (b = 1)
        · exact absurd (by rw [hx, hy]) hne
        · rfl
        · rfl
        · exact absurd (by rw [hx, hy]) hne
      · rw [if_neg (fun q => z q.2), decide_eq_false z, Bool.xor_false]
        rfl
    refine hyes c hc hac rfl q σ' ?_ (fun q => absurd q hne) (fun _ => ⟨f1, s1, o0⟩) h1
    obtain ⟨⟨a1, a2, a3, a4, a5, a6, a7, a8, a9⟩, g2, g3, g4⟩ := hR.backV o0 (fun c j k hbd q => by unfold zBD at hbd; unfold zCh at q; omega) h1
    exact ⟨⟨a1, a2, e2, a4, a5, a6, a7, a8, a9⟩, g2, g3, g4⟩
  · have heq : aWl A c = decide (b = 1) := eqb.mpr g
    have e : (0 : Int32) = zb (¬ aWl A c = decide (b = 1)) := by simp [zb, heq]
    rw [e]
    refine hyes c hc hac rfl q σ ?_ (fun _ => rfl) (fun q => absurd heq q) rfl
    rw [as3_self heq]
    exact hR
theorem S_X1_isTick {K : Int32 → zSt → Prop} (hW : zWf A) (hR : zRD A σ 0) (a b : Int32) (hK : K (zb (vI A a = true ∧ 0 ≤ b.toInt ∧ b.toInt < vT A a.toInt.toNat)) σ) : zCi true (d + 3) 0 0 M_X1_isTick [.inr (.inr (7, 0)), .inl (a), .inl (b)] σ K := by
  have hV : aV A ≤ 3 := hW.1.2.2.2.2.2.2
  refine zC_intro pl_X1 (Nat.le_of_ble_eq_true rfl) (T_X1_isTick_0 (S_X1_isMover hW hR a ⟨fun h => ?_, fun x hx => ⟨_, rfl, ?_⟩⟩))
  · rw [zb_0, Decidable.not_not] at h
    obtain ⟨v, hv, rfl⟩ := vI_nI h
    exact nI_in (by omega) (by omega)
  · have ex : x = zb (vI A a = true ∧ 0 ≤ b.toInt ∧ b.toInt < vT A a.toInt.toNat) := by
      rw [hx]
      apply zb_of0
      rw [zb_0, zb_0]
      by_cases z : vI A a = true
      · obtain ⟨v, hv, rfl⟩ := vI_nI z
        have w := hW.2.2.2 v hv
        rw [nI_clamp (show v < 2 ^ 31 by omega), (hR.2.2.2 v hv).2.1, zin_i b (by omega), nI_toInt (show v < 2 ^ 31 by omega), Int.toNat_natCast]
        simp [z]
      · simp [z]
    rw [ex]
    exact hK
theorem O_X11_tick {K : Int32 → zSt → Prop} (hW : zWf A) (hR : zRD A σ 0) (a b : Int32) (hK : K (iI (tkV A a b)) σ) : zCi true (d + 4) 0 0 M_X11_tick [.inr (.inr (6, 0)), .inl (a), .inl (b)] σ K := by
  have hV : aV A ≤ 3 := hW.1.2.2.2.2.2.2
  refine zC_intro pl_X11 (Nat.le_of_ble_eq_true rfl) (T_X11_tick_0 (S_X1_isTick hW hR a b ⟨fun g => ?_, fun x hx => ⟨_, rfl, ?_⟩⟩))
  · rw [zb_0, Decidable.not_not] at g
    obtain ⟨v, hv, rfl⟩ := vI_nI g.1
    exact nI_in (by omega) (by omega)
  · unfold tkV at hK
    by_cases z : vI A a = true ∧ 0 ≤ b.toInt ∧ b.toInt < vT A a.toInt.toNat
    · rw [if_pos z] at hK
      obtain ⟨v, hv, rfl⟩ := vI_nI z.1
      obtain ⟨t, ht, rfl⟩ : ∃ t : Nat, t < 2 ^ 31 ∧ b = nI t := ⟨b.toInt.toNat, by have := fb_rng b; omega, zI_of z.2.1⟩
      rw [hx, if_neg (by rw [zb_0]; exact fun q => q z), nI_clamp (show v < 2 ^ 31 by omega), (hR.2.2.2 v hv).1, nI_add]
      rw [nI_toInt (show v < 2 ^ 31 by omega), Int.toNat_natCast, nI_toInt ht] at hK
      rw [← iI_nat]
      exact hK
    · rw [if_neg z] at hK
      rw [hx, if_pos (by rw [zb_0]; exact z)]
      exact hK
end zCk
