/-! the class's plain calls -/
section zD2
variable {d kc ks : Nat} {σ : zSt} {A : zAb} {Q : Option zV → zSt → Prop}
/-- what is forgotten at a change: ready, least, liars, the group, the ways counted; with the walls the steps -/
def zCh (c k : Nat) : Prop := (c = 6 ∧ k = 13) ∨ (c = 10 ∧ (k = 5 ∨ k = 7)) ∨ (c = 11 ∧ k = 3) ∨ (c = 13 ∧ k = 4)
def zForg (σ : zSt) : Prop := zgi σ 6 0 13 = 0 ∧ zgi σ 10 0 5 = 0 ∧ zgi σ 10 0 7 = 0 ∧ zgi σ 11 0 3 = 0 ∧ zgi σ 13 0 4 = -9
theorem S_X7_forget {ph : Bool} {K : zSt → Prop} (hK : K (zsi σ 11 0 3 0)) : zCv ph (d + 1) 0 0 M_X7_forget [.inr (.inr (11, 0))] σ K := zC_intro pl_X7 (Nat.le_of_ble_eq_true rfl) (T_X7_forget_0 ⟨rfl, hK⟩)
theorem S_X6_forget {ph : Bool} {K : zSt → Prop} (hK : K (zsi (zsi σ 10 0 5 0) 10 0 7 0)) : zCv ph (d + 1) 0 0 M_X6_forget [.inr (.inr (10, 0))] σ K := zC_intro pl_X6 (Nat.le_of_ble_eq_true rfl) (T_X6_forget_0 ⟨rfl, hK⟩)
theorem S_X6_forgetLiars {ph : Bool} {K : zSt → Prop} (hK : K (zsi σ 10 0 7 0)) : zCv ph (d + 1) 0 0 M_X6_forgetLiars [.inr (.inr (10, 0))] σ K := zC_intro pl_X6 (Nat.le_of_ble_eq_true rfl) (T_X6_forgetLiars_0 ⟨rfl, hK⟩)
theorem S_X10_forget {ph : Bool} {K : zSt → Prop} (hK : K (zsi σ 13 0 4 (-9))) : zCv ph (d + 1) 0 0 M_X10_forget [.inr (.inr (13, 0))] σ K := zC_intro pl_X10 (Nat.le_of_ble_eq_true rfl) (T_X10_forget_0 ⟨rfl, hK⟩)
theorem S_X4_forget {ph : Bool} {K : zSt → Prop} (hK : K (zsl σ 9 0 3 0)) : zCv ph (d + 1) 0 0 M_X4_forget [.inr (.inr (9, 0))] σ K := zC_intro pl_X4 (Nat.le_of_ble_eq_true rfl) (T_X4_forget_0 ⟨rfl, hK⟩)
theorem S_X11_changed {K : zSt → Prop} (hK : ∀ σ', zOnly (fun c _ k => zCh c k) σ σ' → zForg σ' → σ'.2.2.2 = σ.2.2.2 → K σ') : zCv true (d + 2) 0 0 M_X11_changed [.inr (.inr (6, 0))] σ K :=
  zC_intro pl_X11 (Nat.le_of_ble_eq_true rfl) (T_X11_changed_0 (S_X6_forget (S_X7_forget (S_X10_forget ⟨rfl, hK _ (((((zOnly.si (by unfold zCh; omega)).tr (zOnly.si (by unfold zCh; omega))).tr (zOnly.si (by unfold zCh; omega))).tr (zOnly.si (by unfold zCh; omega))).tr (zOnly.si (by unfold zCh; omega))) (by unfold zForg; simp [zgi_si]) rfl⟩))))
theorem S_X11_wallsChanged {K : zSt → Prop} (hK : ∀ σ', zOnly (fun c _ k => zCh c k ∨ c = 9 ∧ k = 3) σ σ' → zForg σ' → zgl σ' 9 0 3 = 0 → σ'.2.2.2 = σ.2.2.2 → K σ') : zCv true (d + 3) 0 0 M_X11_wallsChanged [.inr (.inr (6, 0))] σ K :=
  zC_intro pl_X11 (Nat.le_of_ble_eq_true rfl) (T_X11_wallsChanged_0 (S_X4_forget (S_X11_changed (fun σ' h1 h2 h3 => ⟨rfl, hK σ' ((zOnly.sl (Or.inr ⟨rfl, rfl⟩)).tr (h1.mono (fun c j k h => Or.inl h))) h2 (by rw [h1.l 9 0 3 (by unfold zCh; omega)]; simp [zgl_sl]) h3⟩))))
/-- the places in which the class holds the desk 0 -/
def zBD (c j k : Nat) : Prop := (c = 7 ∧ j = 0 ∧ (k = 0 ∨ k = 1 ∨ k = 2 ∨ k = 3 ∨ k = 7 ∨ k = 8 ∨ k = 10 ∨ k = 11 ∨ k = 15)) ∨ ((c = 23 ∨ c = 24 ∨ c = 25 ∨ c = 26 ∨ c = 27 ∨ c = 28 ∨ c = 29) ∧ j = 0) ∨ c = 16 ∨ c = 17
theorem zRD.of {σ σ' : zSt} (h : zRD A σ 0) (hc : ∀ c, zcn σ c ≤ zcn σ' c) (he : ∀ c j k, zBD c j k → (c = 16 ∨ c = 17 → j < zcn σ c) → zgi σ' c j k = zgi σ c j k ∧ zgl σ' c j k = zgl σ c j k ∧ zgr σ' c j k = zgr σ c j k) : zRD A σ' 0 := by
  obtain ⟨⟨a1, a2, a3, a4, a5, a6, a7, a8, a9⟩, h2, h3, h4⟩ := h
  have e : ∀ c j k, zBD c j k → c ≠ 16 → c ≠ 17 → zgi σ' c j k = zgi σ c j k ∧ zgl σ' c j k = zgl σ c j k ∧ zgr σ' c j k = zgr σ c j k := fun c j k hb q1 q2 => he c j k hb (fun q => by omega)
  refine ⟨⟨?_, ?_, ?_, ?_, ?_, ?_, ?_, ?_, ?_⟩, fun t ht => ?_, fun m hm => ?_, fun v hv => ?_⟩
  · rw [(e 7 0 0 (by unfold zBD; omega) (by omega) (by omega)).1]; exact a1
  · rw [(e 7 0 1 (by unfold zBD; omega) (by omega) (by omega)).1]; exact a2
  · rw [(e 7 0 2 (by unfold zBD; omega) (by omega) (by omega)).2.1]; exact a3
  · rw [(e 7 0 3 (by unfold zBD; omega) (by omega) (by omega)).1]; exact a4
  · rw [(e 7 0 7 (by unfold zBD; omega) (by omega) (by omega)).1]; exact a5
  · rw [(e 7 0 8 (by unfold zBD; omega) (by omega) (by omega)).1]; exact a6
  · rw [(e 7 0 10 (by unfold zBD; omega) (by omega) (by omega)).2.1]; exact a7
  · rw [(e 7 0 11 (by unfold zBD; omega) (by omega) (by omega)).1]; exact a8
  · rw [(e 7 0 15 (by unfold zBD; omega) (by omega) (by omega)).1]; exact a9
  · obtain ⟨⟨n, q1, q2, q3, q4, q5, q6, q7⟩, q8, q9⟩ := h2 t ht
    refine ⟨⟨n, ?_, Nat.lt_of_lt_of_le q2 (hc 16), ?_, ?_, ?_, ?_, ?_⟩, ?_, ?_⟩
    · rw [(e 23 0 t (by unfold zBD; omega) (by omega) (by omega)).2.2]; exact q1
    · rw [(he 16 n 0 (by unfold zBD; omega) (fun _ => q2)).1]; exact q3
    · rw [(he 16 n 1 (by unfold zBD; omega) (fun _ => q2)).1]; exact q4
    · rw [(he 16 n 2 (by unfold zBD; omega) (fun _ => q2)).1]; exact q5
    · rw [(he 16 n 3 (by unfold zBD; omega) (fun _ => q2)).1]; exact q6
    · rw [(he 16 n 4 (by unfold zBD; omega) (fun _ => q2)).1]; exact q7
    · rw [(e 24 0 t (by unfold zBD; omega) (by omega) (by omega)).2.1]; exact q8
    · rw [(e 25 0 t (by unfold zBD; omega) (by omega) (by omega)).1]; exact q9
  · obtain ⟨n, q1, q2, q3, q4, q5, q6, q7, q8⟩ := h3 m hm
    refine ⟨n, ?_, Nat.lt_of_lt_of_le q2 (hc 17), ?_, ?_, ?_, ?_, ?_, ?_⟩
    · rw [(e 26 0 m (by unfold zBD; omega) (by omega) (by omega)).2.2]; exact q1
    · rw [(he 17 n 0 (by unfold zBD; omega) (fun _ => q2)).1]; exact q3
    · rw [(he 17 n 1 (by unfold zBD; omega) (fun _ => q2)).1]; exact q4
    · rw [(he 17 n 2 (by unfold zBD; omega) (fun _ => q2)).1]; exact q5
    · rw [(he 17 n 3 (by unfold zBD; omega) (fun _ => q2)).1]; exact q6
    · rw [(he 17 n 4 (by unfold zBD; omega) (fun _ => q2)).1]; exact q7
    · rw [(he 17 n 5 (by unfold zBD; omega) (fun _ => q2)).1]; exact q8
  · obtain ⟨q1, q2, q3⟩ := h4 v hv
    rw [(e 27 0 v (by unfold zBD; omega) (by omega) (by omega)).1, (e 28 0 v (by unfold zBD; omega) (by omega) (by omega)).1, (e 29 0 v (by unfold zBD; omega) (by omega) (by omega)).1]
    exact ⟨q1, q2, q3⟩
theorem zRD.only {m : Nat → Nat → Nat → Prop} {σ' : zSt} (h : zRD A σ 0) (ho : zOnly m σ σ') (hh : σ'.2.2.2 = σ.2.2.2) (hm : ∀ c j k, zBD c j k → ¬ m c j k) : zRD A σ' 0 :=
  h.of (fun c => by unfold zcn; rw [hh]; exact Nat.le_refl _) (fun c j k hb _ => ho c j k (hm c j k hb))
/-- what the map has of a thing -/
theorem O_X11_put {K : Int32 → zSt → Prop} (hW : zWf A) (hR : zRD A σ 0) (a b : Int32) (hno : ¬ (tI A a = true ∧ (b = -9 ∨ acI A b = true)) → K (-1) σ)
    (hyes : ∀ t, t < aN A → a = nI t → ∀ z : Int, b = iI z → (z = -9 ∨ ∃ c : Nat, z = (c : Int) ∧ acell A c = true) → ∀ σ', zRD (as2 A 3 t z) σ' 0 → zOnly (fun c j _ => c = 25 ∧ j = 0) σ σ' → σ'.2.2.2 = σ.2.2.2 → K (iI (aMp A t)) σ') : zCi true (d + 3) 0 0 M_X11_put [.inr (.inr (6, 0)), .inl (a), .inl (b)] σ K := by
  have hN : aN A ≤ 24 := hW.1.2.2.2.2.1
  have fin : ∀ kc ks : Nat, tI A a = true → (b = -9 ∨ acI A b = true) → zE true (d + 3) kc ks M_X11_put 30 [some (.inr (.inr (6, 0))), some (.inl a), some (.inl b), none] [] σ (fun r σ' => ∃ x, r = some (.inl x) ∧ K x σ') := by
    intro kc ks h1 h2
    obtain ⟨t, ht, rfl⟩ := tI_nI h1
    obtain ⟨q1, q2, q3⟩ := hR.2.1 t ht
    obtain ⟨z, hz, hz2⟩ : ∃ z : Int, b = iI z ∧ (z = -9 ∨ ∃ c : Nat, z = (c : Int) ∧ acell A c = true) := by
      rcases h2 with rfl | h2
      · exact ⟨-9, rfl, Or.inl rfl⟩
      · obtain ⟨c, -, hc, rfl⟩ := acI_nI h2
        exact ⟨(c : Int), rfl, Or.inr ⟨c, rfl, hc⟩⟩
    refine T_X11_put_30 ⟨nI_in (by omega) (by omega), nI_in (by omega) (by omega), _, rfl, ?_⟩
    rw [nI_clamp (by omega), q3]
    refine hyes t ht rfl z hz hz2 _ ?_ (zOnly.si ⟨rfl, rfl⟩) rfl
    obtain ⟨g1, g2, g3, g4⟩ := hR
    refine ⟨g1, fun u hu => ?_, g3, g4⟩
    obtain ⟨r1, r2, r3⟩ := g2 u hu
    refine ⟨r1, r2, ?_⟩
    rw [zgi_si]
    by_cases e : u = t
    · subst e
      simp [aMp, as2, hz]
    · rw [if_neg (fun q => e q.2.2), r3]
      simp [aMp, as2, e]
  refine zC_intro pl_X11 (Nat.le_of_ble_eq_true rfl) (T_X11_put_0 (S_X1_isThing hW hR a ⟨fun h => ⟨_, rfl, hno ?_⟩, fun h => ⟨fun e => ?_, fun e => S_X1_isCell hW hR b ⟨fun h2 => ?_, fun h2 => ⟨_, rfl, hno ?_⟩⟩⟩⟩))
  · rw [zb_0] at h
    exact fun q => h q.1
  · rw [zb_0, Decidable.not_not] at h
    exact fin _ _ h (Or.inl e)
  · rw [zb_0, Decidable.not_not] at h h2
    exact fin _ _ h (Or.inr h2)
  · rw [zb_0] at h2
    exact fun q => q.2.elim e h2
/-- the rule ALONE -/
theorem O_X11_alone {K : Int32 → zSt → Prop} (hR : zRD A σ 0) (a : Int32) (ha : a = 0 ∨ a = 1) (hK : ∀ σ', zRD (as3 A 3 0 (decide (a = 1))) σ' 0 → (aAl A = decide (a = 1) → σ' = σ) → zOnly (fun c j k => (c = 7 ∧ j = 0 ∧ k = 15) ∨ (c = 11 ∧ k = 3)) σ σ' → (¬ aAl A = decide (a = 1) → zgi σ' 11 0 3 = 0) → σ'.2.2.2 = σ.2.2.2 → K (zb (¬ aAl A = decide (a = 1))) σ') : zCi true (d + 2) 0 0 M_X11_alone [.inr (.inr (6, 0)), .inl (a)] σ K := by
  have e0 : zgi σ 7 0 15 = zb (aAl A = true) := hR.1.2.2.2.2.2.2.2.2
  refine zC_intro pl_X11 (Nat.le_of_ble_eq_true rfl) (T_X11_alone_0 ⟨fun h => ⟨ha, S_X7_forget ⟨_, rfl, ?_⟩⟩, fun h => ⟨_, rfl, ?_⟩⟩)
  · rw [e0, zb_ne ha] at h
    have hne : ¬ aAl A = decide (a = 1) := fun q => h (by rw [q]; simp)
    have e1 : (1 : Int32) = zb (¬ aAl A = decide (a = 1)) := by simp [zb, hne]
    rw [e1]
    refine hK _ ?_ (fun q => absurd q hne) ((zOnly.si (Or.inl ⟨rfl, rfl, rfl⟩)).tr (zOnly.si (Or.inr ⟨rfl, rfl⟩))) (fun _ => by simp [zgi_si]) rfl
    obtain ⟨⟨a1, a2, a3, a4, a5, a6, a7, a8, a9⟩, h2, h3, h4⟩ := hR
    exact ⟨⟨a1, a2, a3, a4, a5, a6, a7, a8, (zb_self ha).symm⟩, h2, h3, h4⟩
  · rw [e0] at h
    have heq : aAl A = decide (a = 1) := by
      rcases ha with rfl | rfl
      · rw [zb_0] at h; simpa using h
      · rw [zb_1] at h; simpa using h
    have e1 : (0 : Int32) = zb (¬ aAl A = decide (a = 1)) := by simp [zb, heq]
    rw [e1]
    refine hK _ ?_ (fun _ => rfl) zOnly.rf (fun q => absurd heq q) rfl
    obtain ⟨⟨a1, a2, a3, a4, a5, a6, a7, a8, a9⟩, h2, h3, h4⟩ := hR
    refine ⟨⟨a1, a2, a3, a4, a5, a6, a7, a8, ?_⟩, h2, h3, h4⟩
    rw [a9, heq]
    rfl
end zD2
