/-! calls on holds (class) -/
section zHt2
variable {d kc ks : Nat} {σ : zSt} {A : zAb} {H : zHo} {Q : Option zV → zSt → Prop}
theorem zHD.put {k : Nat} (hH : zHD H σ) (x y : Nat × Nat) {w a b c e : Int} (hw : (w = 0 ∧ y.1 = 0 ∧ ∃ n, x = (16, n) ∧ n < zcn σ 16 ∧ zgi σ 16 n 0 = iI a ∧ zgi σ 16 n 1 = iI b ∧ zgi σ 16 n 2 = iI e) ∨ (w = 1 ∧ x.1 = 0 ∧ ∃ n, y = (17, n) ∧ n < zcn σ 17 ∧ zgi σ 17 n 0 = iI a ∧ zgi σ 17 n 1 = iI b ∧ zgi σ 17 n 2 + zgi σ 17 n 3 = iI c ∧ zgi σ 17 n 4 + zgi σ 17 n 5 = iI e)) : zHD (hNew H k w a b c e) (zsr (zsr σ 20 0 k x) 21 0 k y) := fun j hj => by
  have e20 : zgr (zsr (zsr σ 20 0 k x) 21 0 k y) 20 0 j = if j = k then x else zgr σ 20 0 j := by
    rw [zgr_sr, if_neg (by omega), zgr_sr]
    simp
  have e21 : zgr (zsr (zsr σ 20 0 k x) 21 0 k y) 21 0 j = if j = k then y else zgr σ 21 0 j := by
    rw [zgr_sr]
    by_cases z : j = k
    · rw [if_pos ⟨rfl, rfl, z⟩, if_pos z]
    · rw [if_neg (fun q => z q.2.2), if_neg z, zgr_sr, if_neg (by omega)]
  rw [e20, e21]
  by_cases z : j = k
  · subst z
    rw [if_pos rfl, if_pos rfl]
    rcases hw with ⟨rfl, hy, n, rfl, q1, q2, q3, q4⟩ | ⟨rfl, hx, n, rfl, q1, q2, q3, q4, q5⟩
    · refine ⟨fun q => ?_, fun _ => ⟨hy, n, rfl, q1, ?_, ?_, ?_⟩, fun q => ?_⟩
      · simp [hNew] at q
      · show zgi σ 16 n 0 = _
        simpa [hNew] using q2
      · show zgi σ 16 n 1 = _
        simpa [hNew] using q3
      · show zgi σ 16 n 2 = _
        simpa [hNew] using q4
      · simp [hNew] at q
    · refine ⟨fun q => ?_, fun q => ?_, fun _ => ⟨hx, n, rfl, q1, ?_, ?_, ?_, ?_⟩⟩
      · simp [hNew] at q
      · simp [hNew] at q
      · show zgi σ 17 n 0 = _
        simpa [hNew] using q2
      · show zgi σ 17 n 1 = _
        simpa [hNew] using q3
      · show zgi σ 17 n 2 + zgi σ 17 n 3 = _
        simpa [hNew] using q4
      · show zgi σ 17 n 4 + zgi σ 17 n 5 = _
        simpa [hNew] using q5
  · rw [if_neg z, if_neg z]
    obtain ⟨h1, h2, h3⟩ := hH j hj
    have ew : (hNew H k w a b c e).1 j = H.1 j := if_neg z
    have ef : ∀ f, (hNew H k w a b c e).2 f j = H.2 f j := fun f => if_neg z
    rw [ew]
    refine ⟨h1, fun q => ⟨(h2 q).1, ?_⟩, fun q => ⟨(h3 q).1, ?_⟩⟩
    · obtain ⟨n, r1, r2, r3, r4, r5⟩ := (h2 q).2
      exact ⟨n, r1, r2, by rw [ef]; exact r3, by rw [ef]; exact r4, by rw [ef]; exact r5⟩
    · obtain ⟨n, r1, r2, r3, r4, r5, r6⟩ := (h3 q).2
      exact ⟨n, r1, r2, by rw [ef]; exact r3, by rw [ef]; exact r4, by rw [ef]; exact r5, by rw [ef]; exact r6⟩
abbrev z2021 (c _j _k : Nat) : Prop := c = 20 ∨ c = 21
theorem O_X11_hold {K : Int32 → zSt → Prop} (hW : zWf A) (hR : zRD A σ 0) (hH : zHD H σ) (a b e : Int32) (hno : (¬ hoI a ∨ (hoI a ∧ ((b = 0 ∧ ¬ tI A e = true) ∨ (b = 1 ∧ ¬ mI A e = true)))) → K (-1) σ) (hout : hoI a → ¬ (b = 0 ∨ b = 1) → K (-2) σ)
    (hth : ∀ k t, k < 8 → t < aN A → a = nI k → b = 0 → e = nI t → ∀ σ', zHD (hNew H k 0 t (aK A t) (3 * t) (aC A t)) σ' → zOnly z2021 σ σ' → σ'.2.2.2 = σ.2.2.2 → K 1 σ')
    (hme : ∀ k m, k < 8 → m < aM A → a = nI k → b = 1 → e = nI m → ∀ σ', zHD (hNew H k 1 m (mK A m) (mA A m + mB A m : Int) (mP A m + mQ A m : Int)) σ' → zOnly z2021 σ σ' → σ'.2.2.2 = σ.2.2.2 → K 1 σ') : zCi true (d + 3) 0 0 M_X11_hold [.inr (.inr (6, 0)), .inl (a), .inl (b), .inl (e)] σ K := by
  have hN : aN A ≤ 24 := hW.1.2.2.2.2.1
  have hM : aM A ≤ 60 := hW.1.2.2.2.2.2.1
  refine zC_intro pl_X11 (Nat.le_of_ble_eq_true rfl) (T_X11_hold_0 ⟨fun h => ⟨fun h2 => ⟨fun g => S_X1_isMeasure hW hR e ⟨fun x => ?_, fun x => ⟨_, rfl, ?_⟩⟩, fun g => S_X1_isThing hW hR e ⟨fun x => ?_, fun x => ⟨_, rfl, ?_⟩⟩⟩, fun h2 => ⟨_, rfl, ?_⟩⟩, fun h => ⟨_, rfl, ?_⟩⟩)
  · rw [zb_0, Decidable.not_not, hoI_b] at h
    rw [zb_0, Decidable.not_not, zin01] at h2
    rw [zb_0, Decidable.not_not] at x
    have hb : b = 1 := h2.resolve_left g
    subst hb
    obtain ⟨k, hk, rfl⟩ := hoI_nI h
    obtain ⟨m, hm, rfl⟩ := mI_nI x
    have i8 : vp_in (nI k) 8 := nI_in (by omega) (by omega)
    obtain ⟨n, r1, r2, r3, r4, r5, r6, r7, r8⟩ := hR.2.2.1 m hm
    refine T_X11_hold_55 ⟨fun _ => T_X11_hold_77 ⟨⟨i8, Or.inl rfl⟩, fun q => absurd rfl q, fun _ => ⟨nI_in (by omega) (by omega), n, by rw [nI_clamp (show m < 2 ^ 31 by omega)]; exact r1, i8, _, rfl, ?_⟩⟩, fun q => absurd q (by decide)⟩
    rw [nI_clamp (show k < 2 ^ 31 by omega)]
    refine hme k m hk hm rfl rfl rfl _ (hH.put _ _ (Or.inr ⟨rfl, rfl, n, rfl, r2, ?_, ?_, ?_, ?_⟩)) ((zOnly.sr (Or.inl rfl)).tr (zOnly.sr (Or.inr rfl))) rfl
    · rw [iI_nat]; exact r3
    · rw [iI_nat]; exact r4
    · rw [r5, r6, nI_add, ← iI_nat]; rfl
    · rw [r7, r8, nI_add, ← iI_nat]; rfl
  · rw [zb_0, Decidable.not_not, hoI_b] at h
    rw [zb_0, Decidable.not_not, zin01] at h2
    rw [zb_0] at x
    exact hno (Or.inr ⟨h, Or.inr ⟨h2.resolve_left g, x⟩⟩)
  · rw [zb_0, Decidable.not_not, hoI_b] at h
    rw [zb_0, Decidable.not_not] at x
    subst g
    obtain ⟨k, hk, rfl⟩ := hoI_nI h
    obtain ⟨t, ht, rfl⟩ := tI_nI x
    have i8 : vp_in (nI k) 8 := nI_in (by omega) (by omega)
    obtain ⟨⟨n, r1, r2, r3, r4, r5, r6, r7⟩, -, -⟩ := hR.2.1 t ht
    refine T_X11_hold_55 ⟨fun q => absurd rfl q, fun _ => ⟨nI_in (by omega) (by omega), n, by rw [nI_clamp (show t < 2 ^ 31 by omega)]; exact r1, T_X11_hold_77 ⟨⟨i8, Or.inr rfl⟩, fun _ => ⟨i8, _, rfl, ?_⟩, fun q => absurd q (by decide)⟩⟩⟩
    rw [nI_clamp (show k < 2 ^ 31 by omega)]
    refine hth k t hk ht rfl rfl rfl _ (hH.put _ _ (Or.inl ⟨rfl, rfl, n, rfl, r2, ?_, ?_, ?_⟩)) ((zOnly.sr (Or.inl rfl)).tr (zOnly.sr (Or.inr rfl))) rfl
    · rw [iI_nat]; exact r3
    · rw [iI_nat]; exact r4
    · exact r5
  · rw [zb_0, Decidable.not_not, hoI_b] at h
    rw [zb_0] at x
    exact hno (Or.inr ⟨h, Or.inl ⟨g, x⟩⟩)
  · rw [zb_0, Decidable.not_not, hoI_b] at h
    rw [zb_0, zin01] at h2
    exact hout h h2
  · rw [zb_0, hoI_b] at h
    exact hno (Or.inl h)
theorem O_X11_loose {K : Int32 → zSt → Prop} (hW : zWh H) (hH : zHD H σ) (a : Int32) (hno : ¬ hoI a → K (-1) σ) (hyes : ∀ k, k < 8 → a = nI k → ∀ σ', zHD (hLose H k) σ' → zOnly z2021 σ σ' → σ'.2.2.2 = σ.2.2.2 → K (zb (0 ≤ H.1 k)) σ') : zCi true (d + 2) 0 0 M_X11_loose [.inr (.inr (6, 0)), .inl (a)] σ K := by
  refine zC_intro pl_X11 (Nat.le_of_ble_eq_true rfl) (T_X11_loose_0 ⟨fun h => ?_, fun h => ⟨_, rfl, ?_⟩⟩)
  · rw [zb_0, Decidable.not_not, hoI_b] at h
    obtain ⟨k, hk, rfl⟩ := hoI_nI h
    have i8 : vp_in (nI k) 8 := nI_in (by omega) (by omega)
    have hr := wh_rng hW hk
    rw [nI_clamp (show k < 2 ^ 31 by omega)]
    have lo : ∀ j, j ≠ k → (hLose H k).1 j = H.1 j := fun j z => if_neg z
    have lk : (hLose H k).1 k = -9 := if_pos rfl
    refine S_X11_isHoldEmpty hW hH hk ⟨fun g => ⟨i8, i8, _, rfl, ?_⟩, fun g => ⟨_, rfl, ?_⟩⟩
    · rw [zb_0] at g
      have e : (1 : Int32) = zb (0 ≤ H.1 k) := by simp [zb, show 0 ≤ H.1 k by omega]
      rw [e]
      refine hyes k hk rfl _ (fun j hj => ?_) ((zOnly.sr (Or.inl rfl)).tr (zOnly.sr (Or.inr rfl))) rfl
      have e20 : zgr (zsr (zsr σ 20 0 k (0, 0)) 21 0 k (0, 0)) 20 0 j = if j = k then (0, 0) else zgr σ 20 0 j := by
        rw [zgr_sr, if_neg (by omega), zgr_sr]
        simp
      have e21 : zgr (zsr (zsr σ 20 0 k (0, 0)) 21 0 k (0, 0)) 21 0 j = if j = k then (0, 0) else zgr σ 21 0 j := by
        rw [zgr_sr]
        by_cases z : j = k
        · rw [if_pos ⟨rfl, rfl, z⟩, if_pos z]
        · rw [if_neg (fun q => z q.2.2), if_neg z, zgr_sr, if_neg (by omega)]
      rw [e20, e21]
      by_cases z : j = k
      · subst z
        rw [if_pos rfl, if_pos rfl, lk]
        exact ⟨fun _ => ⟨rfl, rfl⟩, fun q => absurd q (by omega), fun q => absurd q (by omega)⟩
      · rw [if_neg z, if_neg z, lo j z]
        exact hH j hj
    · rw [zb_0, Decidable.not_not] at g
      have e : (0 : Int32) = zb (0 ≤ H.1 k) := by simp [zb, show ¬ 0 ≤ H.1 k by omega]
      rw [e]
      refine hyes k hk rfl σ (fun j hj => ?_) zOnly.rf rfl
      by_cases z : j = k
      · subst z
        rw [lk]
        exact ⟨fun _ => (hH j hj).1 (by omega), fun q => absurd q (by omega), fun q => absurd q (by omega)⟩
      · rw [lo j z]
        exact hH j hj
  · rw [zb_0, hoI_b] at h
    exact hno h
theorem S_X5_isTakenAs {ph : Bool} {K : Int32 → zSt → Prop} {n e : Nat} {h : Int} (hh : h = 0 ∨ h = 1 ∨ h = 2 ∨ h = 3 ∨ h = 4) (hk : zgi σ 17 n 1 = iI h) (he : e ≤ 8) (hK : K (zb (hTk 1 h e = true)) σ) : zCi ph (d + 1) 0 0 M_X5_isTakenAs [.inr (.inr (17, n)), .inl (nI e)] σ K := by
  have ce : ∀ x : Nat, x ≤ 8 → (nI e = nI x ↔ e = x) := fun x hx => nI_eqI (by omega) (by omega)
  have c3 : nI e = 3 ↔ e = 3 := ce 3 (by omega)
  have c4 : nI e = 4 ↔ e = 4 := ce 4 (by omega)
  have c5 : nI e = 5 ↔ e = 5 := ce 5 (by omega)
  have c6 : nI e = 6 ↔ e = 6 := ce 6 (by omega)
  have c7 : nI e = 7 ↔ e = 7 := ce 7 (by omega)
  have c8 : nI e = 8 ↔ e = 8 := ce 8 (by omega)
  refine zC_intro pl_X5 (Nat.le_of_ble_eq_true rfl) (T_X5_isTakenAs_0 ?_)
  rw [hk, c3, c4, c5, c6, c7, c8]
  refine ⟨fun g => ⟨_, rfl, ?_⟩, fun g x hx => ⟨_, rfl, ?_⟩, fun g x hx => ⟨_, rfl, ?_⟩, fun g x hx => ⟨_, rfl, ?_⟩, fun g x hx => ⟨_, rfl, ?_⟩, fun g x hx => ⟨_, rfl, ?_⟩, fun g3 g4 g5 g6 g7 g8 => ⟨_, rfl, ?_⟩⟩
  · subst g
    have q : (1 : Int32) = zb (hTk 1 h (3 : Nat) = true) := by rcases hh with rfl | rfl | rfl | rfl | rfl <;> rfl
    rw [q]
    exact hK
  · subst g
    have q : x = zb (hTk 1 h (4 : Nat) = true) := by rw [hx]; rcases hh with rfl | rfl | rfl | rfl | rfl <;> rfl
    rw [q]
    exact hK
  · subst g
    have q : x = zb (hTk 1 h (5 : Nat) = true) := by rw [hx]; rcases hh with rfl | rfl | rfl | rfl | rfl <;> rfl
    rw [q]
    exact hK
  · subst g
    have q : x = zb (hTk 1 h (6 : Nat) = true) := by rw [hx]; rcases hh with rfl | rfl | rfl | rfl | rfl <;> rfl
    rw [q]
    exact hK
  · subst g
    have q : x = zb (hTk 1 h (7 : Nat) = true) := by rw [hx]; rcases hh with rfl | rfl | rfl | rfl | rfl <;> rfl
    rw [q]
    exact hK
  · subst g
    have q : x = zb (hTk 1 h (8 : Nat) = true) := by rw [hx]; rcases hh with rfl | rfl | rfl | rfl | rfl <;> rfl
    rw [q]
    exact hK
  · have q : (0 : Int32) = zb (hTk 1 h e = true) := by
      unfold hTk
      rw [if_pos (by omega)]
      rfl
    rw [q]
    exact hK
theorem zin08 (a : Int32) : (0 ≤ a ∧ a ≤ (8 : Int32)) ↔ (0 ≤ a.toInt ∧ a.toInt ≤ 8) := zin_k a (l := 0) (h := 8) (by omega) (by omega)
abbrev z615 (c _j k : Nat) : Prop := c = 6 ∧ k = 15
theorem O_X11_as {K : Int32 → zSt → Prop} (hW : zWh H) (hH : zHD H σ) (a e : Int32) (hK : ∀ σ', zOnly z615 σ σ' → σ'.2.2.2 = σ.2.2.2 → zgi σ' 6 0 15 = iI (asF H a e).2 → K (iI (asF H a e).1) σ') : zCi true (d + 2) 0 0 M_X11_as [.inr (.inr (6, 0)), .inl (a), .inl (e)] σ K := by
  have f1 : ∀ x : Int32, zgi (zsi σ 6 0 15 x) 6 0 15 = x := fun x => by rw [zgi_si, if_pos ⟨rfl, rfl, rfl⟩]
  have f2 : ∀ x y : Int32, zgi (zsi (zsi σ 6 0 15 x) 6 0 15 y) 6 0 15 = y := fun x y => by rw [zgi_si, if_pos ⟨rfl, rfl, rfl⟩]
  have o1 : zOnly z615 σ (zsi σ 6 0 15 0) := zOnly.si ⟨rfl, rfl⟩
  have o2 : ∀ y : Int32, zOnly z615 σ (zsi (zsi σ 6 0 15 0) 6 0 15 y) := fun y => o1.tr (zOnly.si ⟨rfl, rfl⟩)
  refine zC_intro pl_X11 (Nat.le_of_ble_eq_true rfl) (T_X11_as_0 ⟨fun h => ⟨fun h2 => ?_, fun h2 => ⟨_, rfl, ?_⟩⟩, fun h => ⟨_, rfl, ?_⟩⟩)
  · rw [zb_0, Decidable.not_not, hoI_b] at h
    rw [zb_0, Decidable.not_not, zin08] at h2
    obtain ⟨k, hk, rfl⟩ := hoI_nI h
    obtain ⟨e, he, rfl⟩ : ∃ n : Nat, n ≤ 8 ∧ e = nI n := ⟨e.toInt.toNat, by omega, zI_of h2.1⟩
    have i8 : vp_in (nI k) 8 := nI_in (by omega) (by omega)
    have hr := wh_rng hW hk
    have hw := hW k hk
    have hz : zHD H (zsi σ 6 0 15 0) := hH.f
    obtain ⟨g1, g2, g3⟩ := hz k hk
    have ea : asF H (nI k) (nI e) = if H.1 k < 0 then (-11, 1) else if hTk (H.1 k) (H.2 1 k) e = true then (H.2 0 k, 0) else (-12, 2) := by
      unfold asF
      rw [if_neg (fun q => q h), if_neg (fun q => q h2), nI_toInt (show k < 2 ^ 31 by omega), nI_toInt (show e < 2 ^ 31 by omega), Int.toNat_natCast]
    rw [ea] at hK
    rw [nI_clamp (show k < 2 ^ 31 by omega)]
    refine S_X11_isHoldEmpty hW hz hk ⟨fun g => ⟨i8, fun u => ⟨i8, fun u2 => ?_, fun u2 => ?_⟩, fun u => ?_⟩, fun g => S_X11_faulty _ ⟨_, rfl, ?_⟩⟩
    · rw [zb_0] at g
      rcases hr with z | z | z
      · omega
      · obtain ⟨n, q, -⟩ := (g2 z).2
        rw [q] at u
        exact absurd (show (16 : Nat) = 0 from u) (by decide)
      · obtain ⟨n, q, -⟩ := (g3 z).2
        rw [q] at u2
        exact absurd (show (17 : Nat) = 0 from u2) (by decide)
    · rw [zb_0] at g
      have z : H.1 k = 1 := by
        rcases hr with z | z | z
        · omega
        · obtain ⟨n, q, -⟩ := (g2 z).2
          rw [q] at u
          exact absurd (show (16 : Nat) = 0 from u) (by decide)
        · exact z
      obtain ⟨n, q, q1, q2, q3, q4⟩ := (g3 z).2
      have hh : H.2 1 k = 0 ∨ H.2 1 k = 1 ∨ H.2 1 k = 2 ∨ H.2 1 k = 3 ∨ H.2 1 k = 4 := by omega
      rw [if_neg g, z] at hK
      refine ⟨n, q, S_X5_isTakenAs hh q3 he ⟨fun v => T_X11_as_106 (S_X11_faulty _ ⟨_, rfl, ?_⟩), fun v => ⟨n, q, _, rfl, ?_⟩⟩⟩
      · rw [zb_0] at v
        rw [if_neg v] at hK
        exact hK _ (o2 2) rfl (f2 0 2)
      · rw [zb_0, Decidable.not_not] at v
        rw [if_pos v] at hK
        rw [q2]
        exact hK _ o1 rfl (f1 0)
    · rw [zb_0] at g
      have z : H.1 k = 0 := by
        rcases hr with z | z | z
        · omega
        · exact z
        · exact absurd (g3 z).1 u
      obtain ⟨n, q, q1, q2, q3, q4⟩ := (g2 z).2
      have hw2 : 0 ≤ H.2 1 k ∧ H.2 1 k ≤ 2 := by omega
      have cl : (iI (H.2 1 k) < nI e) ↔ H.2 1 k < e := by rw [← iI_nat]; exact iI_lt (by omega) (by omega)
      have ct : hTk 0 (H.2 1 k) e = true ↔ ¬ H.2 1 k < e := by
        unfold hTk
        by_cases y : (e : Int) < 3
        · rw [if_pos y]
          simp
        · rw [if_neg y, if_pos rfl]
          simp
          omega
      rw [if_neg g, z] at hK
      refine ⟨n, q, fun v => S_X11_faulty _ ⟨_, rfl, ?_⟩, fun v => ⟨n, q, _, rfl, ?_⟩⟩
      · rw [q3, cl] at v
        rw [if_neg (fun y => ct.mp y v)] at hK
        exact hK _ (o2 2) rfl (f2 0 2)
      · rw [q3, cl] at v
        rw [if_pos (ct.mpr v)] at hK
        rw [q2]
        exact hK _ o1 rfl (f1 0)
    · rw [zb_0, Decidable.not_not] at g
      rw [if_pos g] at hK
      exact hK _ (o2 1) rfl (f2 0 1)
  · rw [zb_0, Decidable.not_not, hoI_b] at h
    rw [zb_0, zin08] at h2
    have ea : asF H a e = (-2, 0) := by
      unfold asF
      rw [if_neg (fun q => q h), if_pos h2]
    rw [ea] at hK
    exact hK _ o1 rfl (f1 0)
  · rw [zb_0, hoI_b] at h
    have ea : asF H a e = (-1, 0) := by
      unfold asF
      rw [if_pos h]
    rw [ea] at hK
    exact hK _ o1 rfl (f1 0)
theorem S_X11_refusalOfBodies {K : Int32 → zSt → Prop} (hW : zWh H) (hH : zHD H σ) (a e : Int32) (hno : ¬ hoI a → K (-1) (zsi σ 6 0 15 0)) (hout : hoI a → ¬ (e = 0 ∨ e = 1) → K (-2) (zsi σ 6 0 15 0)) (hnull : ∀ k, k < 8 → a = nI k → (e = 0 ∨ e = 1) → H.1 k < 0 → K (-11) (zsi (zsi σ 6 0 15 0) 6 0 15 1)) (hcast : ∀ k, k < 8 → a = nI k → (e = 0 ∨ e = 1) → 0 ≤ H.1 k → ¬ H.1 k = e.toInt → K (-12) (zsi (zsi σ 6 0 15 0) 6 0 15 2))
    (hok : ∀ k, k < 8 → a = nI k → (e = 0 ∨ e = 1) → 0 ≤ H.1 k → H.1 k = e.toInt → K 0 (zsi σ 6 0 15 0)) : zCi true (d + 2) 0 0 M_X11_refusalOfBodies [.inr (.inr (6, 0)), .inl (a), .inl (e)] σ K := by
  refine zC_intro pl_X11 (Nat.le_of_ble_eq_true rfl) (T_X11_refusalOfBodies_0 ⟨fun h => ⟨fun h2 => ?_, fun h2 => ⟨_, rfl, ?_⟩⟩, fun h => ⟨_, rfl, ?_⟩⟩)
  · rw [zb_0, Decidable.not_not, hoI_b] at h
    rw [zb_0, Decidable.not_not, zin01] at h2
    obtain ⟨k, hk, rfl⟩ := hoI_nI h
    have i8 : vp_in (nI k) 8 := nI_in (by omega) (by omega)
    have hr := wh_rng hW hk
    have hz : zHD H (zsi σ 6 0 15 0) := hH.f
    obtain ⟨g1, g2, g3⟩ := hz k hk
    rw [nI_clamp (show k < 2 ^ 31 by omega)]
    refine S_X11_isHoldEmpty hW hz hk ⟨fun g => ⟨fun _ => i8, fun _ => i8, fun x hx => ?_⟩, fun g => S_X11_faulty _ ⟨_, rfl, ?_⟩⟩
    · rw [zb_0] at g
      have ex : (((¬ e = 0) → ((zgr (zsi σ 6 0 15 0) 21 0 k).1 = 0)) ∧ ((e = 0) → ((zgr (zsi σ 6 0 15 0) 20 0 k).1 = 0))) ↔ ¬ H.1 k = e.toInt := by
        rcases hr with z | z | z
        · omega
        · obtain ⟨w1, n, w2, -⟩ := g2 z
          have ne : ¬ (zgr (zsi σ 6 0 15 0) 20 0 k).1 = 0 := by rw [w2]; exact Nat.succ_ne_zero _
          rcases h2 with rfl | rfl
          · rw [z]
            exact ⟨fun q => absurd (q.2 rfl) ne, fun q => absurd rfl q⟩
          · rw [z]
            exact ⟨fun _ => by decide, fun _ => ⟨fun _ => w1, fun q => absurd q (by decide)⟩⟩
        · obtain ⟨w1, n, w2, -⟩ := g3 z
          have ne : ¬ (zgr (zsi σ 6 0 15 0) 21 0 k).1 = 0 := by rw [w2]; exact Nat.succ_ne_zero _
          rcases h2 with rfl | rfl
          · rw [z]
            exact ⟨fun _ => by decide, fun _ => ⟨fun q => absurd rfl q, fun _ => w1⟩⟩
          · rw [z]
            exact ⟨fun q => absurd (q.1 (by decide)) ne, fun q => absurd rfl q⟩
      by_cases y : H.1 k = e.toInt
      · rw [if_neg (fun q => ex.mp q y)] at hx
        subst hx
        exact ⟨fun q => absurd q (by decide), fun _ => ⟨_, rfl, hok k hk rfl h2 (by omega) y⟩⟩
      · rw [if_pos (ex.mpr y)] at hx
        subst hx
        exact ⟨fun _ => S_X11_faulty _ ⟨_, rfl, hcast k hk rfl h2 (by omega) y⟩, fun q => absurd rfl q⟩
    · rw [zb_0, Decidable.not_not] at g
      exact hnull k hk rfl h2 g
  · rw [zb_0, Decidable.not_not, hoI_b] at h
    rw [zb_0, zin01] at h2
    exact hout h h2
  · rw [zb_0, hoI_b] at h
    exact hno h
def zTg (σ σ' : zSt) (f : Int) (l : List Int32) : Prop := zOnly (fun c _ k => (c = 14 ∧ k = 0) ∨ (c = 6 ∧ k = 15)) σ σ' ∧ σ'.2.2.2 = σ.2.2.2 ∧ zgi σ' 14 0 0 = trF (zgi σ 14 0 0) l ∧ zgi σ' 6 0 15 = iI f
theorem zTg.f (σ : zSt) : zTg σ (zsi σ 6 0 15 0) 0 [] := ⟨zOnly.si (Or.inr ⟨rfl, rfl⟩), rfl, rfl, by rw [zgi_si, if_pos ⟨rfl, rfl, rfl⟩]; rfl⟩
theorem zTg.f2 (σ : zSt) (f : Int) : zTg σ (zsi (zsi σ 6 0 15 0) 6 0 15 (iI f)) f [] := ⟨(zOnly.si (Or.inr ⟨rfl, rfl⟩)).tr (zOnly.si (Or.inr ⟨rfl, rfl⟩)), rfl, rfl, by rw [zgi_si, if_pos ⟨rfl, rfl, rfl⟩]⟩
theorem zTg.t {σ' : zSt} {l : List Int32} (h : zTc (zsi σ 6 0 15 0) σ' l) : zTg σ σ' 0 l := ⟨(zOnly.si (Or.inr ⟨rfl, rfl⟩)).tr (h.1.mono (fun c j k q => Or.inl q)), h.2.1, h.2.2, by rw [h.1.i 6 0 15 (by omega), zgi_si, if_pos ⟨rfl, rfl, rfl⟩]; rfl⟩
theorem O_X11_tell {K : Int32 → zSt → Prop} (hW : zWh H) (hH : zHD H σ) (a e : Int32) (hK : ∀ σ', zTg σ σ' (tlF H a e).2.1 (tlF H a e).2.2 → K (iI (tlF H a e).1) σ') : zCi true (d + 7) 0 0 M_X11_tell [.inr (.inr (6, 0)), .inl (a), .inl (e)] σ K := by
  refine zC_intro pl_X11 (Nat.le_of_ble_eq_true rfl) (T_X11_tell_0 (S_X11_refusalOfBodies hW hH a e (fun h => ⟨fun q => absurd q (by decide), fun _ => ⟨_, rfl, ?_⟩⟩) (fun h h2 => ⟨fun q => absurd q (by decide), fun _ => ⟨_, rfl, ?_⟩⟩) (fun k hk ea h2 h0 => ⟨fun q => absurd q (by decide), fun _ => ⟨_, rfl, ?_⟩⟩) (fun k hk ea h2 h0 h1 => ⟨fun q => absurd q (by decide), fun _ => ⟨_, rfl, ?_⟩⟩) (fun k hk ea h2 h0 h1 => ⟨fun _ => ?_, fun q => absurd rfl q⟩)))
  · have el : tlF H a e = (-1, 0, []) := by unfold tlF; rw [if_pos h]
    rw [el] at hK
    exact hK _ (zTg.f σ)
  · have el : tlF H a e = (-2, 0, []) := by unfold tlF; rw [if_neg (fun q => q h), if_pos h2]
    rw [el] at hK
    exact hK _ (zTg.f σ)
  · subst ea
    have h : hoI (nI k) := by unfold hoI; rw [nI_toInt (by omega)]; omega
    have el : tlF H (nI k) e = (-11, 1, []) := by
      unfold tlF
      rw [if_neg (fun q => q h), if_neg (fun q => q h2), nI_toInt (show k < 2 ^ 31 by omega), Int.toNat_natCast, if_pos h0]
    rw [el] at hK
    exact hK _ (zTg.f2 σ 1)
  · subst ea
    have h : hoI (nI k) := by unfold hoI; rw [nI_toInt (by omega)]; omega
    have el : tlF H (nI k) e = (-12, 2, []) := by
      unfold tlF
      rw [if_neg (fun q => q h), if_neg (fun q => q h2), nI_toInt (show k < 2 ^ 31 by omega), Int.toNat_natCast, if_neg (by omega), if_pos h1]
    rw [el] at hK
    exact hK _ (zTg.f2 σ 2)
  · subst ea
    have h : hoI (nI k) := by unfold hoI; rw [nI_toInt (by omega)]; omega
    have i8 : vp_in (nI k) 8 := nI_in (by omega) (by omega)
    have hw := hW k hk
    have hz : zHD H (zsi σ 6 0 15 0) := hH.f
    obtain ⟨g1, g2, g3⟩ := hz k hk
    have el : tlF H (nI k) e = if e = 0 then (tlT (H.2 1 k) (H.2 2 k) (H.2 3 k), 0, trT (H.2 1 k)) else (tlM (H.2 1 k) (H.2 2 k) (H.2 3 k), 0, trM (H.2 1 k)) := by
      unfold tlF
      rw [if_neg (fun q => q h), if_neg (fun q => q h2), nI_toInt (show k < 2 ^ 31 by omega), Int.toNat_natCast, if_neg (by omega), if_neg (fun q => q h1)]
    rw [el] at hK
    rw [nI_clamp (show k < 2 ^ 31 by omega)]
    refine ⟨fun q => ?_, fun q => ?_⟩
    · have e1 : e = 1 := h2.resolve_left q
      subst e1
      have z : H.1 k = 1 := h1
      obtain ⟨n, q0, q1, q2, q3, q4, q5⟩ := (g3 z).2
      rw [if_neg q] at hK
      have hh : H.2 1 k = 0 ∨ H.2 1 k = 1 ∨ H.2 1 k = 2 ∨ H.2 1 k = 3 ∨ H.2 1 k = 4 := by omega
      exact ⟨i8, n, q0, S_X0_tellingOf_ hh q3 q4 q5 (fun σ' t => ⟨_, rfl, hK σ' (zTg.t t)⟩)⟩
    · subst q
      have z : H.1 k = 0 := h1
      obtain ⟨n, q0, q1, q2, q3, q4⟩ := (g2 z).2
      rw [if_pos rfl] at hK
      have hh : H.2 1 k = 0 ∨ H.2 1 k = 1 ∨ H.2 1 k = 2 := by omega
      have hs : H.2 2 k = 3 * H.2 0 k := by omega
      exact ⟨i8, n, q0, S_X0_tellingOf hh q3 (by rw [q2, hs, ← iI_mul]; rfl) q4 (fun σ' t => ⟨_, rfl, hK σ' (zTg.t t)⟩)⟩
theorem O_X11_greet {K : Int32 → zSt → Prop} (hW : zWh H) (hH : zHD H σ) (a e : Int32) (hK : ∀ σ', zTg σ σ' (grF H a e).2.1 (grF H a e).2.2 → K (iI (grF H a e).1) σ') : zCi true (d + 5) 0 0 M_X11_greet [.inr (.inr (6, 0)), .inl (a), .inl (e)] σ K := by
  refine zC_intro pl_X11 (Nat.le_of_ble_eq_true rfl) (T_X11_greet_0 (S_X11_refusalOfBodies hW hH a e (fun h => ⟨fun q => absurd q (by decide), fun _ => ⟨_, rfl, ?_⟩⟩) (fun h h2 => ⟨fun q => absurd q (by decide), fun _ => ⟨_, rfl, ?_⟩⟩) (fun k hk ea h2 h0 => ⟨fun q => absurd q (by decide), fun _ => ⟨_, rfl, ?_⟩⟩) (fun k hk ea h2 h0 h1 => ⟨fun q => absurd q (by decide), fun _ => ⟨_, rfl, ?_⟩⟩) (fun k hk ea h2 h0 h1 => ⟨fun _ => ?_, fun q => absurd rfl q⟩)))
  · have el : grF H a e = (-1, 0, []) := by unfold grF; rw [if_pos h]
    rw [el] at hK
    exact hK _ (zTg.f σ)
  · have el : grF H a e = (-2, 0, []) := by unfold grF; rw [if_neg (fun q => q h), if_pos h2]
    rw [el] at hK
    exact hK _ (zTg.f σ)
  · subst ea
    have h : hoI (nI k) := by unfold hoI; rw [nI_toInt (by omega)]; omega
    have el : grF H (nI k) e = (-11, 1, []) := by
      unfold grF
      rw [if_neg (fun q => q h), if_neg (fun q => q h2), nI_toInt (show k < 2 ^ 31 by omega), Int.toNat_natCast, if_pos h0]
    rw [el] at hK
    exact hK _ (zTg.f2 σ 1)
  · subst ea
    have h : hoI (nI k) := by unfold hoI; rw [nI_toInt (by omega)]; omega
    have el : grF H (nI k) e = (-12, 2, []) := by
      unfold grF
      rw [if_neg (fun q => q h), if_neg (fun q => q h2), nI_toInt (show k < 2 ^ 31 by omega), Int.toNat_natCast, if_neg (by omega), if_pos h1]
    rw [el] at hK
    exact hK _ (zTg.f2 σ 2)
  · subst ea
    have h : hoI (nI k) := by unfold hoI; rw [nI_toInt (by omega)]; omega
    have i8 : vp_in (nI k) 8 := nI_in (by omega) (by omega)
    have hw := hW k hk
    have hz : zHD H (zsi σ 6 0 15 0) := hH.f
    obtain ⟨g1, g2, g3⟩ := hz k hk
    have el : grF H (nI k) e = if e = 0 then (gtT (H.2 1 k) (H.2 0 k), 0, grT (H.2 1 k)) else (gtM (H.2 1 k), 0, grM (H.2 1 k)) := by
      unfold grF
      rw [if_neg (fun q => q h), if_neg (fun q => q h2), nI_toInt (show k < 2 ^ 31 by omega), Int.toNat_natCast, if_neg (by omega), if_neg (fun q => q h1)]
    rw [el] at hK
    rw [nI_clamp (show k < 2 ^ 31 by omega)]
    refine ⟨fun q => ?_, fun q => ?_⟩
    · have e1 : e = 1 := h2.resolve_left q
      subst e1
      have z : H.1 k = 1 := h1
      obtain ⟨n, q0, q1, q2, q3, q4, q5⟩ := (g3 z).2
      rw [if_neg q] at hK
      have hh : H.2 1 k = 0 ∨ H.2 1 k = 1 ∨ H.2 1 k = 2 ∨ H.2 1 k = 3 ∨ H.2 1 k = 4 := by omega
      exact ⟨i8, n, q0, S_X0_weightOf hh q3 (fun σ' t => ⟨_, rfl, hK σ' (zTg.t t)⟩)⟩
    · subst q
      have z : H.1 k = 0 := h1
      obtain ⟨n, q0, q1, q2, q3, q4⟩ := (g2 z).2
      rw [if_pos rfl] at hK
      have hh : H.2 1 k = 0 ∨ H.2 1 k = 1 ∨ H.2 1 k = 2 := by omega
      exact ⟨i8, n, q0, S_X0_greetingOf hh q3 q2 (fun σ' t => ⟨_, rfl, hK σ' (zTg.t t)⟩)⟩
theorem L_X11_holdsInUse (hW : zWh H) (hH : zHD H σ) (hQ : Q (some (.inl (nI (fb_sm (mn5 H 8) 8)))) σ) : ∀ (n k : Nat), k + n = 8 → zE true (d + 2) kc ks M_X11_holdsInUse 4 [some (.inr (.inr (6, 0))), some (.inl (nI (fb_sm (mn5 H 8) k))), some (.inl (nI k))] [] σ Q := by
  intro n
  induction n with
  | zero =>
    intro k hk
    have : k = 8 := by omega
    subst this
    exact T_X11_holdsInUse_4 ⟨fun _ => hQ, fun h => absurd (show (8 : Int32) ≤ nI 8 by decide) h⟩
  | succ n ih =>
    intro k hk
    refine T_X11_holdsInUse_4 ⟨fun g => ?_, fun _ => S_X11_isHoldEmpty hW hH (by omega) (fun x hx => ?_)⟩
    · rw [show (8 : Int32) = nI 8 from rfl, nI_leI (by omega) (by omega)] at g
      omega
    · have ex : x = nI (mn5 H 8 k) := by
        rw [hx]
        unfold mn5
        by_cases z : 0 ≤ H.1 k
        · rw [if_pos (show zb (H.1 k < 0) = 0 by rw [zb_0]; omega), if_pos ⟨rfl, z⟩]; rfl
        · rw [if_neg (show ¬ zb (H.1 k < 0) = 0 by rw [zb_0]; omega), if_neg (fun q => z q.2)]; rfl
      rw [ex, nI_add, ← nI_succ]
      exact ih (k + 1) (by omega)
theorem S_X11_holdsInUse {K : Int32 → zSt → Prop} (hW : zWh H) (hH : zHD H σ) (hK : K (nI (fb_sm (mn5 H 8) 8)) σ) : zCi true (d + 2) 0 0 M_X11_holdsInUse [.inr (.inr (6, 0))] σ K :=
  zC_intro pl_X11 (Nat.le_of_ble_eq_true rfl) (T_X11_holdsInUse_0 (L_X11_holdsInUse hW hH ⟨_, rfl, hK⟩ 8 0 rfl))
theorem O_X11_trace {K : Int32 → zSt → Prop} (hK : K (zgi σ 14 0 0) σ) : zCi true (d + 1) 0 0 M_X11_trace [.inr (.inr (6, 0))] σ K := zC_intro pl_X11 (Nat.le_of_ble_eq_true rfl) (T_X11_trace_0 ⟨_, rfl, hK⟩)
theorem O_X11_fault {ph : Bool} {K : Int32 → zSt → Prop} (hK : K (zgi σ 6 0 15) σ) : zCi ph (d + 1) 0 0 M_X11_fault [.inr (.inr (6, 0))] σ K := zC_intro pl_X11 (Nat.le_of_ble_eq_true rfl) (T_X11_fault_0 ⟨_, rfl, hK⟩)
theorem O_X11_trials {ph : Bool} {K : Int32 → zSt → Prop} (hK : K (zgi σ 6 0 14) σ) : zCi ph (d + 1) 0 0 M_X11_trials [.inr (.inr (6, 0))] σ K := zC_intro pl_X11 (Nat.le_of_ble_eq_true rfl) (T_X11_trials_0 ⟨_, rfl, hK⟩)
/-- sums and counts -/
theorem sm_ct {f : Nat → Nat} {p : Nat → Bool} : ∀ {n : Nat}, (∀ k, k < n → f k = if p k = true then 1 else 0) → fb_sm f n = fb_ct p n
  | 0, _ => rfl
  | n + 1, h => by rw [fb_sm_succ, fb_ct_succ, sm_ct (fun k hk => h k (by omega)), h n (by omega)]
theorem sm_0 {f : Nat → Nat} : ∀ {n : Nat}, (∀ k, k < n → f k = 0) → fb_sm f n = 0
  | 0, _ => rfl
  | n + 1, h => by rw [fb_sm_succ, sm_0 (fun k hk => h k (by omega)), h n (by omega)]
theorem ct_cut {p : Nat → Bool} {a : Nat} : ∀ {n : Nat}, a ≤ n → fb_ct (fun k => decide (k < a) && p k) n = fb_ct p a
  | n, h => by
    have := fb_ct_split (fun k => decide (k < a) && p k) a (n - a)
    rw [show a + (n - a) = n by omega] at this
    have z1 : fb_ct (fun k => decide (k < a) && p k) a = fb_ct p a := fb_ct_cong (fun k hk => by
      show (decide (k < a) && p k) = p k
      rw [decide_eq_true hk]; rfl)
    have z2 : fb_ct (fun k => decide (a + k < a) && p (a + k)) (n - a) = 0 := fb_ct_zero.mpr (fun k hk => by
      show (decide (a + k < a) && p (a + k)) = false
      rw [decide_eq_false (by omega)]; rfl)
    rw [this, z1, z2]
    rfl
theorem O_X11_many {K : Int32 → zSt → Prop} (hW : zWf A) (hR : zRD A σ 0) (hC : zCR A σ) (hWH : zWh H) (hH : zHD H σ) (e : Int32) (hK : ∀ σ', zOnly zQr σ σ' → σ'.2.2.2 = σ.2.2.2 → zCR A σ' → K (mnV A H e) σ') : zCi true (d + 8) 0 0 M_X11_many [.inr (.inr (6, 0)), .inl (e)] σ K := by
  have hN : aN A ≤ 24 := hW.1.2.2.2.2.1
  have hM : aM A ≤ 60 := hW.1.2.2.2.2.2.1
  have h0 := hK σ zOnly.rf rfl hC
  have e3 : ∀ e : Int32, ¬ e = 3 → fb_sm (mn3 A e) (aM A) = 0 := fun e h => sm_0 (fun k hk => by unfold mn3; rw [if_neg (fun q => h q.1)])
  have e8 : ∀ e : Int32, ¬ e = 8 → fb_sm (mn5 H e) 8 = 0 := fun e h => sm_0 (fun k hk => by unfold mn5; rw [if_neg (fun q => h q.1)])
  have e4 : ∀ e : Int32, ¬ e = 5 → ¬ e = 6 → ¬ e = 7 → fb_sm (mn4 A e) (aN A) = 0 := fun e h5 h6 h7 => sm_0 (fun k hk => by unfold mn4; rw [if_neg (fun q => h5 q.1), if_neg (fun q => h7 q.1), if_neg h6])
  have mC : ∀ e : Int32, (e = 3 ∨ e = 5 ∨ e = 6 ∨ e = 7 ∨ e = 8) → mnV A H e = nI (fb_sm (mn3 A e) (aM A) + fb_sm (mn4 A e) (aN A) + fb_sm (mn5 H e) 8) := fun e h => by
    rcases h with rfl | rfl | rfl | rfl | rfl <;> rfl
  refine zC_intro pl_X11 (Nat.le_of_ble_eq_true rfl) (T_X11_many_0 ⟨fun z => ⟨_, rfl, ?_⟩, fun z => ⟨_, rfl, ?_⟩, fun z => ⟨_, rfl, ?_⟩, fun z => ⟨_, rfl, ?_⟩, fun z => ⟨_, rfl, ?_⟩, fun z => S_X11_narrowed hW hR hC (fun σ' o1 h1 c1 y1 n1 => ⟨rfl, S_X6_thingsOnOneCell hW (hR.only o1 h1 (fun c j k h => by unfold zBD at h; unfold zQr; omega)) y1 ⟨_, rfl, ?_⟩⟩), fun z => S_X11_narrowed hW hR hC (fun σ' o1 h1 c1 y1 n1 => ⟨rfl, S_X6_sumOfCells hW (hR.only o1 h1 (fun c j k h => by unfold zBD at h; unfold zQr; omega)) y1 ⟨_, rfl, ?_⟩⟩), fun z => S_X1_thingsOnMap hW hR ⟨_, rfl, ?_⟩, fun z => S_X11_holdsInUse hWH hH ⟨_, rfl, ?_⟩, fun z x hx => ⟨_, rfl, ?_⟩, fun z0 z1 z2 z3 z4 z5 z6 z7 z8 z9 => ⟨_, rfl, ?_⟩⟩)
  · subst z
    rw [hR.1.2.2.1, zbc64_ct, fb_ct_cong (q := afree A) (fun i hi => tb_set hi)]
    exact h0
  · subst z; rw [zrd_nT hR]; exact h0
  · subst z; rw [zrd_nM hR]; exact h0
  · subst z
    have e : mnV A H 3 = nI (fb_ct (mO A) (aM A)) := by
      rw [mC 3 (Or.inl rfl), e4 3 (by decide) (by decide) (by decide), e8 3 (by decide), sm_ct (p := mO A) (fun k hk => by unfold mn3; simp)]
      rfl
    rw [e] at h0
    rw [hR.1.2.2.2.2.2.2.1, zbc64_ct, fb_ct_cong (q := fun m => decide (m < aM A) && mO A m) (fun i hi => tb_set hi), ct_cut (by omega)]
    exact h0
  · subst z; rw [zrd_nV hR]; exact h0
  · subst z
    have e : mnV A H 5 = nI (fb_ct (fun t => decide (fb_ct (gB A (mO A) t) 64 = 1)) (aN A)) := by
      rw [mC 5 (Or.inr (Or.inl rfl)), e3 5 (by decide), e8 5 (by decide), sm_ct (p := fun t => decide (fb_ct (gB A (mO A) t) 64 = 1)) (fun k hk => by unfold mn4; simp), Nat.zero_add, Nat.add_zero]
    rw [← e]
    exact hK σ' o1 h1 c1
  · subst z
    have e : mnV A H 6 = nI (fb_sm (fun t => fb_ct (gB A (mO A) t) 64) (aN A)) := by
      rw [mC 6 (Or.inr (Or.inr (Or.inl rfl))), e3 6 (by decide), e8 6 (by decide), fb_sm_cong (g := fun t => fb_ct (gB A (mO A) t) 64) (fun k hk => by unfold mn4; rw [if_neg (fun q => absurd q.1 (by decide)), if_neg (fun q => absurd q.1 (by decide)), if_pos rfl]), Nat.zero_add, Nat.add_zero]
    rw [← e]
    exact hK σ' o1 h1 c1
  · subst z
    have e : mnV A H 7 = nI (fb_ct (fun t => decide (0 ≤ aMp A t)) (aN A)) := by
      rw [mC 7 (Or.inr (Or.inr (Or.inr (Or.inl rfl)))), e3 7 (by decide), e8 7 (by decide), sm_ct (p := fun t => decide (0 ≤ aMp A t)) (fun k hk => by unfold mn4; rw [if_neg (fun q => absurd q.1 (by decide))]; simp), Nat.zero_add, Nat.add_zero]
    rw [e] at h0
    rw [zbc32_ct, fb_ct_cong (q := fun t => decide (t < aN A) && decide (0 ≤ aMp A t)) (fun i hi => bt_set hi), ct_cut (by omega)]
    exact h0
  · subst z
    have e : mnV A H 8 = nI (fb_sm (mn5 H 8) 8) := by
      rw [mC 8 (Or.inr (Or.inr (Or.inr (Or.inr rfl)))), e3 8 (by decide), e4 8 (by decide) (by decide) (by decide), Nat.zero_add]
    rw [← e]
    exact h0
  · subst z
    rw [hx, hR.1.2.2.2.2.2.2.2.2, zb_of0 (P := aAl A = true) (by rw [zb_0])]
    exact h0
  · have : mnV A H e = -2 := by
      unfold mnV
      rw [if_neg z0, if_neg z1, if_neg z2, if_neg z4, if_neg z9, if_neg]
      rintro (q | q | q | q | q)
      · exact z3 q
      · exact z5 q
      · exact z6 q
      · exact z7 q
      · exact z8 q
    rw [this] at h0
    exact h0
end zHt2
