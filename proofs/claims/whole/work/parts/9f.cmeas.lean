/-! measures that are told (class) -/
section zMw
variable {d kc ks : Nat} {σ : zSt} {A : zAb} {Q : Option zV → zSt → Prop}
theorem S_X11_isTold {ph : Bool} {K : Int32 → zSt → Prop} (a p q : Int32) (hK : K (zb (zMsI a p q)) σ) : zCi ph (d + 2) 0 0 M_X11_isTold [.inl (a), .inl (p), .inl (q)] σ K := by
  have p98 : (0 ≤ p ∧ p ≤ (98 : Int32)) ↔ (0 ≤ p.toInt ∧ p.toInt ≤ 98) := zin_k p (l := 0) (h := 98) (by omega) (by omega)
  have q98 : (0 ≤ q ∧ q ≤ (98 : Int32)) ↔ (0 ≤ q.toInt ∧ q.toInt ≤ 98) := zin_k q (l := 0) (h := 98) (by omega) (by omega)
  have q19 : (1 ≤ q ∧ q ≤ (98 : Int32)) ↔ (1 ≤ q.toInt ∧ q.toInt ≤ 98) := zin_k q (l := 1) (h := 98) (by omega) (by omega)
  have p3 : (0 ≤ p ∧ p ≤ (3 : Int32)) ↔ (0 ≤ p.toInt ∧ p.toInt ≤ 3) := zin_k p (l := 0) (h := 3) (by omega) (by omega)
  have p20 : (0 ≤ p ∧ p ≤ (20 : Int32)) ↔ (0 ≤ p.toInt ∧ p.toInt ≤ 20) := zin_k p (l := 0) (h := 20) (by omega) (by omega)
  refine zC_intro pl_X11 (Nat.le_of_ble_eq_true rfl) (T_X11_isTold_0 ?_)
  by_cases h0 : 0 ≤ a.toInt
  · obtain ⟨k, hk, rfl⟩ : ∃ k : Nat, k < 2 ^ 31 ∧ a = nI k := ⟨a.toInt.toNat, by have := fb_rng a; omega, zI_of h0⟩
    have ce : ∀ x : Nat, x < 2 ^ 31 → (nI k = nI x ↔ k = x) := fun x hx => nI_eqI hk hx
    have c0 : nI k = 0 ↔ k = 0 := ce 0 (by omega)
    have c1 : nI k = 1 ↔ k = 1 := ce 1 (by omega)
    have c2 : nI k = 2 ↔ k = 2 := ce 2 (by omega)
    have c3 : nI k = 3 ↔ k = 3 := ce 3 (by omega)
    have c4 : nI k = 4 ↔ k = 4 := ce 4 (by omega)
    have em : zMsI (nI k) p q ↔ zMs k p.toInt q.toInt := by
      unfold zMsI
      rw [nI_toInt hk, Int.toNat_natCast]
      exact ⟨fun h => h.2, fun h => ⟨by omega, h⟩⟩
    rw [c0, c1, c2, c3, c4]
    refine ⟨fun g x hx => ⟨_, rfl, ?_⟩, fun g => ⟨_, rfl, ?_⟩, fun g => ⟨_, rfl, ?_⟩, fun g => ⟨_, rfl, ?_⟩, fun g x hx => ⟨_, rfl, ?_⟩, fun g0 g1 g2 g3 g4 => ⟨_, rfl, ?_⟩⟩
    · have c : (zb (0 ≤ p ∧ p ≤ (98 : Int32)) = 0 ∨ (zb (0 ≤ q ∧ q ≤ (98 : Int32)) = 0 ∨ q < p)) ↔ ¬ zMsI (nI k) p q := by
        rw [zb_0, zb_0, p98, q98, Int32.lt_iff_toInt_lt, em]
        subst g
        unfold zMs
        omega
      have e : x = zb (zMsI (nI k) p q) := by
        rw [hx]
        by_cases z : zMsI (nI k) p q
        · rw [if_neg (fun y => c.mp y z)]
          simp only [zb, if_pos z]
        · rw [if_pos (c.mpr z)]
          simp only [zb, if_neg z]
      rw [e]
      exact hK
    · rw [zb_iff (R := zMsI (nI k) p q) (by rw [q98, em]; subst g; unfold zMs; omega)]
      exact hK
    · rw [zb_iff (R := zMsI (nI k) p q) (by rw [q98, em]; subst g; unfold zMs; omega)]
      exact hK
    · rw [zb_iff (R := zMsI (nI k) p q) (by rw [p3, em]; subst g; unfold zMs; omega)]
      exact hK
    · have c : (zb (0 ≤ p ∧ p ≤ (20 : Int32)) = 0 ∨ zb (1 ≤ q ∧ q ≤ (98 : Int32)) = 0) ↔ ¬ zMsI (nI k) p q := by
        rw [zb_0, zb_0, p20, q19, em]
        subst g
        unfold zMs
        omega
      have e : x = zb (zMsI (nI k) p q) := by
        rw [hx]
        by_cases z : zMsI (nI k) p q
        · rw [if_neg (fun y => c.mp y z)]
          simp only [zb, if_pos z]
        · rw [if_pos (c.mpr z)]
          simp only [zb, if_neg z]
      rw [e]
      exact hK
    · have z : ¬ zMsI (nI k) p q := by
        rw [em]
        unfold zMs
        omega
      have e : (0 : Int32) = zb (zMsI (nI k) p q) := by simp only [zb, if_neg z]
      rw [e]
      exact hK
  · have z : ¬ zMsI a p q := fun y => h0 y.1
    have n : ∀ k : Nat, k < 2 ^ 31 → ¬ a = nI k := fun k hk y => h0 (by rw [y, nI_toInt hk]; omega)
    refine ⟨fun g => absurd g (n 0 (by omega)), fun g => absurd g (n 1 (by omega)), fun g => absurd g (n 2 (by omega)), fun g => absurd g (n 3 (by omega)), fun g => absurd g (n 4 (by omega)), fun _ _ _ _ _ => ⟨_, rfl, ?_⟩⟩
    have e : (0 : Int32) = zb (zMsI a p q) := by simp only [zb, if_neg z]
    rw [e]
    exact hK
abbrev zQm0 (n : Nat) (c j k : Nat) : Prop := (c = 26 ∧ j = 0 ∧ k = n) ∨ (c = 7 ∧ j = 0 ∧ (k = 8 ∨ k = 10))
theorem S_X1_addMeasure {K : Int32 → zSt → Prop} (hR : zRD A σ 0) (k a b p q : Nat) (x0 x1 x2 x4 x5 : Int32) (hM : aM A < 60) (h0 : x0 = nI k) (h1 : x1 = nI a) (h2 : x2 = nI b) (h4 : x4 = nI (if k = 1 ∨ k = 2 then 0 else p)) (h5 : x5 = nI (if k = 3 then 0 else q)) (hK : ∀ σ', zRD (aMeas A k a b p q) σ' 0 → zMad (zQm0 (aM A)) σ σ' → K (nI (aM A)) σ') : zCi true (d + 2) 1 6 M_X1_addMeasure [.inr (.inr (7, 0)), .inl (x0), .inl (x1), .inl (x2), .inl (x4), .inl (x5)] σ K := by
  have hn : zgi σ 7 0 8 = nI (aM A) := zrd_nM hR
  have i60 : vp_in (nI (aM A)) 60 := nI_in (by omega) (by omega)
  refine zC_intro pl_X1 (Nat.le_of_ble_eq_true rfl) (T_X1_addMeasure_0 (kc := 0) (ks := 0) (zC_intro pl_X5 (Nat.le_of_ble_eq_true rfl) (T_X5_init_0 ⟨rfl, ?_⟩)))
  rw [hn, nI_clamp (show aM A < 2 ^ 31 by omega)]
  refine ⟨i60, _, rfl, ?_⟩
  have e8 : zgi (zsi (zsi (zsi (zsi (zsi (zsi (znew σ 17) 17 (zcn σ 17) 0 (nI (aM A))) 17 (zcn σ 17) 1 x0) 17 (zcn σ 17) 2 x1) 17 (zcn σ 17) 3 x2) 17 (zcn σ 17) 4 x4) 17 (zcn σ 17) 5 x5) 7 0 8 + 1 = nI (aM A + 1) := by
    simp only [zgi_si]
    simp [zgi_new, hn, nI_succ]
  have e10 : zgl (zsi (zsi (zsi (zsi (zsi (zsi (znew σ 17) 17 (zcn σ 17) 0 (nI (aM A))) 17 (zcn σ 17) 1 x0) 17 (zcn σ 17) 2 x1) 17 (zcn σ 17) 3 x2) 17 (zcn σ 17) 4 x4) 17 (zcn σ 17) 5 x5) 7 0 10 ||| zlshl 1 (nI (aM A)) = zset (fun m => decide (m < aM A + 1) && mO (aMeas A k a b p q) m) 64 := by
    refine zset_eq (fun i hi => ?_)
    rw [zgl_si, zgl_si, zgl_si, zgl_si, zgl_si, zgl_si, zgl_new, if_neg (by omega), hR.1.2.2.2.2.2.2.1, tb_or, tb_set hi, tb_bit (by omega), ms_O]
    by_cases z : i = aM A
    · rw [if_pos z, decide_eq_true z, Bool.or_true, decide_eq_true (show i < aM A + 1 by omega)]; rfl
    · rw [if_neg z, decide_eq_false z, Bool.or_false]
      congr 1
      rw [decide_eq_decide]
      omega
  have e8' : zgi (zsl (zsr (zsi (zsi (zsi (zsi (zsi (zsi (znew σ 17) 17 (zcn σ 17) 0 (nI (aM A))) 17 (zcn σ 17) 1 x0) 17 (zcn σ 17) 2 x1) 17 (zcn σ 17) 3 x2) 17 (zcn σ 17) 4 x4) 17 (zcn σ 17) 5 x5) 26 0 (aM A) (17, zcn σ 17)) 7 0 10 (zset (fun m => decide (m < aM A + 1) && mO (aMeas A k a b p q) m) 64)) 7 0 8 = nI (aM A) := by
    rw [zgi_sl, zgi_sr]
    simp only [zgi_si]
    simp [zgi_new, hn]
  rw [e10, e8]
  have hO : zMad (zQm0 (aM A)) σ (zsi (zsl (zsr (zsi (zsi (zsi (zsi (zsi (zsi (znew σ 17) 17 (zcn σ 17) 0 (nI (aM A))) 17 (zcn σ 17) 1 x0) 17 (zcn σ 17) 2 x1) 17 (zcn σ 17) 3 x2) 17 (zcn σ 17) 4 x4) 17 (zcn σ 17) 5 x5) 26 0 (aM A) (17, zcn σ 17)) 7 0 10 (zset (fun m => decide (m < aM A + 1) && mO (aMeas A k a b p q) m) 64)) 7 0 8 (nI (aM A + 1))) := by
    refine ⟨(zMad.new (m := zQm0 (aM A)) (Or.inr rfl)).1.tr ?_, (zMad.new (m := zQm0 (aM A)) (Or.inr rfl)).2.1, fun j e => ?_, fun j e => ?_⟩
    rotate_left
    · rw [zgr_si, zgr_sl, zgr_sr, if_neg (by omega), zgr_si, zgr_si, zgr_si, zgr_si, zgr_si, zgr_si, zgr_new, if_neg (by omega)]; exact Or.inl rfl
    · rw [zgr_si, zgr_sl, zgr_sr]
      by_cases z : 26 = 26 ∧ j = 0 ∧ e = aM A
      · rw [if_pos z]; exact Or.inr rfl
      · rw [if_neg z, zgr_si, zgr_si, zgr_si, zgr_si, zgr_si, zgr_si, zgr_new, if_neg (by omega)]; exact Or.inl rfl
    refine ((((((((zOnly.si ?_).tr (zOnly.si ?_)).tr (zOnly.si ?_)).tr (zOnly.si ?_)).tr (zOnly.si ?_)).tr (zOnly.si ?_)).tr (zOnly.sr ?_)).tr (zOnly.sl ?_)).tr (zOnly.si ?_) <;> omega
  have w1 : zcn σ 17 < zcn (zsi (zsl (zsr (zsi (zsi (zsi (zsi (zsi (zsi (znew σ 17) 17 (zcn σ 17) 0 (nI (aM A))) 17 (zcn σ 17) 1 x0) 17 (zcn σ 17) 2 x1) 17 (zcn σ 17) 3 x2) 17 (zcn σ 17) 4 x4) 17 (zcn σ 17) 5 x5) 26 0 (aM A) (17, zcn σ 17)) 7 0 10 (zset (fun m => decide (m < aM A + 1) && mO (aMeas A k a b p q) m) 64)) 7 0 8 (nI (aM A + 1))) 17 := by
    show zcn σ 17 < zcn (znew σ 17) 17
    rw [zcn_new, if_pos rfl]
    omega
  have f : ∀ e, zgi (zsi (zsl (zsr (zsi (zsi (zsi (zsi (zsi (zsi (znew σ 17) 17 (zcn σ 17) 0 (nI (aM A))) 17 (zcn σ 17) 1 x0) 17 (zcn σ 17) 2 x1) 17 (zcn σ 17) 3 x2) 17 (zcn σ 17) 4 x4) 17 (zcn σ 17) 5 x5) 26 0 (aM A) (17, zcn σ 17)) 7 0 10 (zset (fun m => decide (m < aM A + 1) && mO (aMeas A k a b p q) m) 64)) 7 0 8 (nI (aM A + 1))) 17 (zcn σ 17) e = if e = 5 then x5 else if e = 4 then x4 else if e = 3 then x2 else if e = 2 then x1 else if e = 1 then x0 else if e = 0 then nI (aM A) else 0 := fun e => by
    rw [zgi_si, if_neg (by omega), zgi_sl, zgi_sr]
    simp only [zgi_si, zgi_new, true_and, and_self, if_true]
  have g8 : zgi (zsi (zsl (zsr (zsi (zsi (zsi (zsi (zsi (zsi (znew σ 17) 17 (zcn σ 17) 0 (nI (aM A))) 17 (zcn σ 17) 1 x0) 17 (zcn σ 17) 2 x1) 17 (zcn σ 17) 3 x2) 17 (zcn σ 17) 4 x4) 17 (zcn σ 17) 5 x5) 26 0 (aM A) (17, zcn σ 17)) 7 0 10 (zset (fun m => decide (m < aM A + 1) && mO (aMeas A k a b p q) m) 64)) 7 0 8 (nI (aM A + 1))) 7 0 8 = nI (aM A + 1) := by rw [zgi_si, if_pos ⟨rfl, rfl, rfl⟩]
  have g10 : zgl (zsi (zsl (zsr (zsi (zsi (zsi (zsi (zsi (zsi (znew σ 17) 17 (zcn σ 17) 0 (nI (aM A))) 17 (zcn σ 17) 1 x0) 17 (zcn σ 17) 2 x1) 17 (zcn σ 17) 3 x2) 17 (zcn σ 17) 4 x4) 17 (zcn σ 17) 5 x5) 26 0 (aM A) (17, zcn σ 17)) 7 0 10 (zset (fun m => decide (m < aM A + 1) && mO (aMeas A k a b p q) m) 64)) 7 0 8 (nI (aM A + 1))) 7 0 10 = zset (fun m => decide (m < aM A + 1) && mO (aMeas A k a b p q) m) 64 := by rw [zgl_si, zgl_sl, if_pos ⟨rfl, rfl, rfl⟩]
  have g26 : zgr (zsi (zsl (zsr (zsi (zsi (zsi (zsi (zsi (zsi (znew σ 17) 17 (zcn σ 17) 0 (nI (aM A))) 17 (zcn σ 17) 1 x0) 17 (zcn σ 17) 2 x1) 17 (zcn σ 17) 3 x2) 17 (zcn σ 17) 4 x4) 17 (zcn σ 17) 5 x5) 26 0 (aM A) (17, zcn σ 17)) 7 0 10 (zset (fun m => decide (m < aM A + 1) && mO (aMeas A k a b p q) m) 64)) 7 0 8 (nI (aM A + 1))) 26 0 (aM A) = (17, zcn σ 17) := by rw [zgr_si, zgr_sl, zgr_sr, if_pos ⟨rfl, rfl, rfl⟩]
  generalize zsi (zsl (zsr (zsi (zsi (zsi (zsi (zsi (zsi (znew σ 17) 17 (zcn σ 17) 0 (nI (aM A))) 17 (zcn σ 17) 1 x0) 17 (zcn σ 17) 2 x1) 17 (zcn σ 17) 3 x2) 17 (zcn σ 17) 4 x4) 17 (zcn σ 17) 5 x5) 26 0 (aM A) (17, zcn σ 17)) 7 0 10 (zset (fun m => decide (m < aM A + 1) && mO (aMeas A k a b p q) m) 64)) 7 0 8 (nI (aM A + 1)) = τ at hO w1 f g8 g10 g26 ⊢
  refine hK τ ?_ hO
  obtain ⟨⟨a1, a2, a3, a4, a5, a6, a7, a8, a9⟩, r2, r3, r4⟩ := hR
  refine ⟨⟨?_, ?_, ?_, ?_, ?_, g8, g10, ?_, ?_⟩, fun t ht => ?_, fun y hy => ?_, fun v hv => ?_⟩
  · rw [hO.1.i 7 0 0 (by omega)]; exact a1
  · rw [hO.1.i 7 0 1 (by omega)]; exact a2
  · rw [hO.1.l 7 0 2 (by omega), a3]
    exact zset_cong (fun i hi => (ms_free i).symm)
  · rw [hO.1.i 7 0 3 (by omega)]; exact a4
  · rw [hO.1.i 7 0 7 (by omega), a5]
    exact yset_cong (fun i hi => by rw [ms_Tr]; rfl)
  · rw [hO.1.i 7 0 11 (by omega)]; exact a8
  · rw [hO.1.i 7 0 15 (by omega), ms_Al]; exact a9
  · obtain ⟨⟨n, q1, q2, q3, q4, q5, q6, q7⟩, q8, q9⟩ := r2 t ht
    refine ⟨⟨n, ?_, Nat.lt_of_lt_of_le q2 (hO.2.1 16), ?_, ?_, ?_, ?_, ?_⟩, ?_, ?_⟩
    · rw [hO.1.r 23 0 t (by omega)]; exact q1
    · rw [hO.1.i 16 n 0 (by omega)]; exact q3
    · rw [hO.1.i 16 n 1 (by omega), ms_K]; exact q4
    · rw [hO.1.i 16 n 2 (by omega)]; exact q5
    · rw [hO.1.i 16 n 3 (by omega)]; exact q6
    · rw [hO.1.i 16 n 4 (by omega)]; exact q7
    · rw [hO.1.l 24 0 t (by omega), q8]
      refine zset_cong (fun i hi => ?_)
      unfold abox
      rw [ms_X1, ms_X2, ms_Y1, ms_Y2]
    · rw [hO.1.i 25 0 t (by omega)]; exact q9
  · rw [ms_M] at hy
    by_cases z : y = aM A
    · subst z
      refine ⟨zcn σ 17, g26, w1, ?_, ?_, ?_, ?_, ?_, ?_⟩
      · rw [f]; simp
      · rw [f, ms_mK, h0]; simp
      · rw [f, ms_mA, h1]; simp
      · rw [f, ms_mB, h2]; simp
      · rw [f, ms_mP, h4]; simp
      · rw [f, ms_mQ, h5]; simp
    · obtain ⟨n, q1, q2, q3, q4, q5, q6, q7, q8⟩ := r3 y (by omega)
      refine ⟨n, ?_, Nat.lt_of_lt_of_le q2 (hO.2.1 17), ?_, ?_, ?_, ?_, ?_, ?_⟩
      · rw [hO.1.r 26 0 y (by omega)]; exact q1
      · rw [hO.1.i 17 n 0 (by omega)]; exact q3
      · rw [hO.1.i 17 n 1 (by omega), ms_mK, if_neg z]; exact q4
      · rw [hO.1.i 17 n 2 (by omega), ms_mA, if_neg z]; exact q5
      · rw [hO.1.i 17 n 3 (by omega), ms_mB, if_neg z]; exact q6
      · rw [hO.1.i 17 n 4 (by omega), ms_mP, if_neg z]; exact q7
      · rw [hO.1.i 17 n 5 (by omega), ms_mQ, if_neg z]; exact q8
  · obtain ⟨q1, q2, q3⟩ := r4 v hv
    rw [hO.1.i 27 0 v (by omega), hO.1.i 28 0 v (by omega), hO.1.i 29 0 v (by omega), ms_vF, ms_vT, ms_vR]
    exact ⟨q1, q2, q3⟩
abbrev zQme (c j k : Nat) : Prop := (c = 26 ∧ j = 0) ∨ (c = 7 ∧ j = 0 ∧ (k = 8 ∨ k = 10)) ∨ zCh c k
theorem S_X11_measure {K : Int32 → zSt → Prop} (hW : zWf A) (hR : zRD A σ 0) (a b c p q : Int32) (hK : ∀ σ', zRD (measF A a b c p q).2 σ' 0 → zMad zQme σ σ' → ((measF A a b c p q).1 < 0 → σ' = σ) → (0 ≤ (measF A a b c p q).1 → zForg σ') → K (iI (measF A a b c p q).1) σ') : zCi true (d + 3) 1 6 M_X11_measure [.inr (.inr (6, 0)), .inl (a), .inl (b), .inl (c), .inl (p), .inl (q)] σ K := by
  have hN : aN A ≤ 24 := hW.1.2.2.2.2.1
  have hM : aM A ≤ 60 := hW.1.2.2.2.2.2.1
  have rf : ∀ m, zMad m σ σ := fun m => ⟨zOnly.rf, fun c => Nat.le_refl _, fun _ _ => Or.inl rfl, fun _ _ => Or.inl rfl⟩
  have no : ∀ (x : Int) (y : Int32), iI x = y → x < 0 → measF A a b c p q = (x, A) → K y σ := fun x y hy hx e => by
    subst hy
    have := hK σ
    rw [e] at this
    exact this hR (rf _) (fun _ => rfl) (fun h => by omega)
  refine zC_intro pl_X11 (Nat.le_of_ble_eq_true rfl) (T_X11_measure_0 (k1 := 1) (m1 := 6) (kc := 0) (ks := 0) (S_X1_isThing hW hR b ⟨fun h => ⟨_, rfl, no (-1) _ rfl (by omega) ?_⟩, fun h => S_X1_isThing hW hR c ⟨fun h2 => ⟨fun e => ⟨_, rfl, no (-2) _ rfl (by omega) ?_⟩, fun e => S_X11_isTold a p q ⟨fun h3 => ⟨fun h4 x25 hx x27 hy => ?_, fun h4 => ⟨_, rfl, no (-4) _ rfl (by omega) ?_⟩⟩, fun h3 => ⟨_, rfl, no (-2) _ rfl (by omega) ?_⟩⟩⟩, fun h2 => ⟨_, rfl, no (-1) _ rfl (by omega) ?_⟩⟩⟩))
  · rw [zb_0] at h
    unfold measF
    rw [if_pos (fun q => h q.1)]
  · rw [zb_0, Decidable.not_not] at h h2
    unfold measF
    rw [if_neg (fun z => z ⟨h, h2⟩), if_pos (Or.inl e)]
  · rw [zb_0, Decidable.not_not] at h h2 h3
    rw [zrd_nM hR, show (60 : Int32) = nI 60 from rfl, nI_ltI (by omega) (by omega)] at h4
    have em : measF A a b c p q = ((aM A : Int), aMeas A a.toInt.toNat b.toInt.toNat c.toInt.toNat p.toInt.toNat q.toInt.toNat) := by
      unfold measF
      rw [if_neg (fun z => z ⟨h, h2⟩), if_neg (fun z => z.elim e (fun y => y h3)), if_neg (by omega)]
    rw [em] at hK
    obtain ⟨y0, ym⟩ := h3
    have ha : a = nI a.toInt.toNat := zI_of y0
    obtain ⟨t, ht, eb⟩ := tI_nI h
    obtain ⟨u, hu, ec⟩ := tI_nI h2
    have hb : b = nI b.toInt.toNat := zI_of (by rw [eb, nI_toInt (by omega)]; omega)
    have hc : c = nI c.toInt.toNat := zI_of (by rw [ec, nI_toInt (by omega)]; omega)
    have a4 : a.toInt.toNat ≤ 4 := by unfold zMs at ym; omega
    have ce : ∀ x : Nat, x < 5 → (a = nI x ↔ a.toInt.toNat = x) := fun x hx => by
      rw [ha, nI_eqI (by omega) (by omega), nI_toInt (by omega), Int.toNat_natCast]
    have c1 : a = 1 ↔ a.toInt.toNat = 1 := ce 1 (by omega)
    have c2 : a = 2 ↔ a.toInt.toNat = 2 := ce 2 (by omega)
    have c3 : a = 3 ↔ a.toInt.toNat = 3 := ce 3 (by omega)
    have e25 : x25 = nI (if a.toInt.toNat = 1 ∨ a.toInt.toNat = 2 then 0 else p.toInt.toNat) := by
      rw [hx]
      by_cases z : a.toInt.toNat = 1 ∨ a.toInt.toNat = 2
      · rw [if_pos z, if_pos (by rw [c1, c2]; exact z)]; rfl
      · rw [if_neg z, if_neg (by rw [c1, c2]; exact z)]
        exact zI_of (by unfold zMs at ym; omega)
    have e27 : x27 = nI (if a.toInt.toNat = 3 then 0 else q.toInt.toNat) := by
      rw [hy]
      by_cases z : a.toInt.toNat = 3
      · rw [if_pos z, if_neg (fun y => y (c3.mpr z))]; rfl
      · rw [if_neg z, if_pos (fun y => z (c3.mp y))]
        exact zI_of (by unfold zMs at ym; omega)
    refine S_X1_addMeasure hR a.toInt.toNat b.toInt.toNat c.toInt.toNat p.toInt.toNat q.toInt.toNat a b c x25 x27 h4 ha hb hc e25 e27 (fun σ1 r1 o1 => S_X11_changed (fun σ2 o2 f2 h2' => ⟨_, rfl, ?_⟩))
    have := hK σ2 (r1.only o2 h2' (fun c j k h => by unfold zBD at h; unfold zCh; omega)) ((o1.mono (fun c j k h => by unfold zQm0 at h; unfold zQme; omega)).tr ((zForg.mk o2 h2').mono (fun c j k h => Or.inr (Or.inr h)))) (fun z => by omega) (fun _ => f2)
    exact this
  · rw [zb_0, Decidable.not_not] at h h2 h3
    rw [zrd_nM hR, show (60 : Int32) = nI 60 from rfl, nI_ltI (by omega) (by omega)] at h4
    unfold measF
    rw [if_neg (fun z => z ⟨h, h2⟩), if_neg (fun z => z.elim e (fun y => y h3)), if_pos (by omega)]
  · rw [zb_0, Decidable.not_not] at h h2
    rw [zb_0] at h3
    unfold measF
    rw [if_neg (fun z => z ⟨h, h2⟩), if_pos (Or.inr h3)]
  · rw [zb_0, Decidable.not_not] at h
    rw [zb_0] at h2
    unfold measF
    rw [if_pos (fun z => h2 z.2)]
end zMw
