/-! placings (class): a placing as one number -/
theorem toI32_lN (m : Nat) : (lN m).toInt32 = nI m := by
  apply Int32.toBitVec_inj.mp
  show ((lN m).toInt32).toBitVec = BitVec.ofNat 32 m
  rw [Int64.toBitVec_toInt32, wb_tb]
  apply BitVec.eq_of_getLsbD_eq
  intro i hi
  rw [BitVec.getLsbD_signExtend, BitVec.getLsbD_ofNat, BitVec.getLsbD_ofNat]
  simp [hi, show i < 64 by omega]
theorem nI_a63 (k : Nat) : nI k &&& 63 = nI (k % 64) := by
  rw [show (63 : Int32) = nI 63 from rfl, nx_and]
  congr 1
  exact Nat.and_two_pow_sub_one_eq_mod k 6
theorem nI_L : ∀ c, c < 64 → (nI c).toInt64 = lN c := by decide +kernel
/-- six bits for each cell -/
def rwN (s : Nat → Nat) : Nat → Nat
  | 0 => 0
  | k + 1 => rwN s k + s k * 2 ^ (6 * k)
theorem p64 (k : Nat) : 2 ^ (6 * (k + 1)) = 2 ^ (6 * k) * 64 := by
  rw [Nat.mul_succ, Nat.pow_add]
theorem rwN_lt {s : Nat → Nat} : ∀ {k : Nat}, (∀ i, i < k → s i < 64) → rwN s k < 2 ^ (6 * k)
  | 0, _ => by show 0 < 2 ^ 0; decide
  | k + 1, h => by
    have ih := rwN_lt (s := s) (k := k) (fun i hi => h i (by omega))
    have hk := h k (by omega)
    have hm : s k * 2 ^ (6 * k) ≤ 63 * 2 ^ (6 * k) := Nat.mul_le_mul_right _ (by omega)
    rw [p64]
    show rwN s k + s k * 2 ^ (6 * k) < _
    omega
theorem rwN_at {s : Nat → Nat} {i : Nat} : ∀ {k : Nat}, i < k → ∃ y, rwN s k = rwN s i + 2 ^ (6 * i) * (s i + 64 * y)
  | 0, h => absurd h (Nat.not_lt_zero i)
  | k + 1, h => by
    by_cases e : i = k
    · subst e
      refine ⟨0, ?_⟩
      show rwN s i + s i * 2 ^ (6 * i) = _
      rw [Nat.mul_zero, Nat.add_zero, Nat.mul_comm]
    · obtain ⟨y, hy⟩ := rwN_at (s := s) (i := i) (k := k) (by omega)
      have e6 : 6 * k = 6 * i + (6 + 6 * (k - i - 1)) := by omega
      refine ⟨y + s k * 2 ^ (6 * (k - i - 1)), ?_⟩
      show rwN s k + s k * 2 ^ (6 * k) = _
      rw [hy, e6, Nat.pow_add, Nat.pow_add, Nat.mul_add 64, ← Nat.add_assoc (s i), Nat.mul_add (2 ^ (6 * i)), Nat.add_assoc]
      congr 1
      congr 1
      rw [show (2 : Nat) ^ 6 = 64 from rfl]
      generalize 2 ^ (6 * i) = a
      generalize 2 ^ (6 * (k - i - 1)) = b
      generalize s k = c
      rw [Nat.mul_left_comm c a, Nat.mul_left_comm c 64]
      simp only [Nat.mul_add, Nat.add_assoc]
theorem rwN_c {s : Nat → Nat} {i k : Nat} (hi : i < k) (h : ∀ i, i < k → s i < 64) : rwN s k / 2 ^ (6 * i) % 64 = s i := by
  obtain ⟨y, hy⟩ := rwN_at (s := s) hi
  have hl := rwN_lt (s := s) (k := i) (fun j hj => h j (by omega))
  have h0 : 0 < 2 ^ (6 * i) := Nat.pow_pos (by decide)
  rw [hy, Nat.add_mul_div_left _ _ h0, Nat.div_eq_of_lt hl, Nat.zero_add]
  have := h i hi
  omega
/-- the placings found, in their rows -/
def zFo (A : zAb) (t : Nat) (σ : zSt) (F : List (Nat → Nat)) : Prop := zgi σ 11 0 8 = nI F.length ∧ ∀ n s, F[n]? = some s → zgl σ 41 0 n = lN (rwN s (gn A t)) ∧ ∀ i, i < gn A t → s i < 64
theorem zFo.only {A : zAb} {t : Nat} {σ σ' : zSt} {F : List (Nat → Nat)} {M : Nat → Nat → Nat → Prop} (h : zFo A t σ F) (ho : zOnly M σ σ') (hm : ¬ M 11 0 8 ∧ ∀ k, ¬ M 41 0 k) : zFo A t σ' F :=
  ⟨by rw [ho.i 11 0 8 hm.1]; exact h.1, fun n s hs => by rw [ho.l 41 0 n (hm.2 n)]; exact h.2 n s hs⟩
section zPs
variable {d kc ks : Nat} {σ : zSt} {A : zAb} {Q : Option zV → zSt → Prop}
theorem S_X7_cellIn {K : Int32 → zSt → Prop} {t n i : Nat} {F : List (Nat → Nat)} {s : Nat → Nat} (h9 : gn A t ≤ 9) (h : zFo A t σ F) (hF : F.length ≤ 60000) (hs : F[n]? = some s) (hi : i < gn A t) (hK : K (nI (s i)) σ) : zCi true (d + 1) 0 0 M_X7_cellIn [.inr (.inr (11, 0)), .inl (nI n), .inl (nI i)] σ K := by
  have hn : n < F.length := (List.getElem?_eq_some_iff.mp hs).1
  obtain ⟨h1, h2⟩ := h.2 n s hs
  have hl := rwN_lt (s := s) (k := gn A t) h2
  have hp : 2 ^ (6 * gn A t) ≤ 2 ^ 54 := Nat.pow_le_pow_right (by decide) (by omega)
  refine zC_intro pl_X7 (Nat.le_of_ble_eq_true rfl) (T_X7_cellIn_0 ⟨nI_in (by omega) (by omega), _, rfl, ?_⟩)
  rw [nI_clamp (show n < 2 ^ 31 by omega), h1, show (6 : Int32) = nI 6 from rfl, nI_mul]
  have e : zlushr (lN (rwN s (gn A t))) (nI (6 * i)) = lN (rwN s (gn A t) / 2 ^ (6 * i)) := wb_shr (by omega) (by omega)
  rw [e, toI32_lN, nI_a63, rwN_c hi h2]
  exact hK
theorem L_X7_placeOf {t u : Nat} (hu : u < 2 ^ 31) (h9 : gn A t ≤ 9) (hs : zgi σ 11 0 4 = nI (gn A t)) (hm : ∀ i, i < gn A t → zgi σ 40 0 i = nI (mbr A t i)) (hN : aN A ≤ 24) (hno : (∀ i, i < gn A t → mbr A t i ≠ u) → Q (some (.inl (-9))) σ) (hyes : ∀ i, i < gn A t → mbr A t i = u → Q (some (.inl (nI i))) σ) : ∀ (n k : Nat), k + n = gn A t → (∀ i, i < k → mbr A t i ≠ u) → zE true (d + 1) kc ks M_X7_placeOf 2 [some (.inr (.inr (11, 0))), some (.inl (nI u)), some (.inl (nI k))] [] σ Q := by
  intro n
  induction n with
  | zero =>
    intro k hk hz
    have : k = gn A t := by omega
    subst this
    exact T_X7_placeOf_2 ⟨fun _ => hno hz, fun g => absurd (by rw [hs]; exact Int32.le_refl _) g⟩
  | succ n ih =>
    intro k hk hz
    refine T_X7_placeOf_2 ⟨fun g => ?_, fun _ => ⟨fun g => ?_, fun _ => ?_⟩⟩
    · rw [hs, nI_leI (by omega) (by omega)] at g
      omega
    · rw [show (9 : Int32) = nI 9 from rfl, nI_leI (by omega) (by omega)] at g
      omega
    · have hb := (mbr_ok (show k < gn A t by omega)).1
      rw [nI_clamp (show k < 2 ^ 31 by omega), hm k (by omega), nI_eqI (by omega) hu]
      refine ⟨nI_in (by omega) (by omega), fun g => ?_, fun g => hyes k (by omega) g⟩
      rw [← nI_succ]
      refine ih (k + 1) (by omega) (fun i hi => ?_)
      by_cases e : i = k
      · subst e; exact g
      · exact hz i (by omega)
theorem S_X7_placeOf {K : Int32 → zSt → Prop} (hW : zWf A) {t u : Nat} (hu : u < aN A) (h9 : gn A t ≤ 9) (hs : zgi σ 11 0 4 = nI (gn A t)) (hm : ∀ i, i < gn A t → zgi σ 40 0 i = nI (mbr A t i)) (hno : ¬ gr A t u → K (-9) σ) (hyes : gr A t u → K (nI (fb_ct (grB A t) u)) σ) : zCi true (d + 1) 0 0 M_X7_placeOf [.inr (.inr (11, 0)), .inl (nI u)] σ K := by
  have hN : aN A ≤ 24 := hW.1.2.2.2.2.1
  refine zC_intro pl_X7 (Nat.le_of_ble_eq_true rfl) (T_X7_placeOf_0 (L_X7_placeOf (by omega) h9 hs hm hN (fun h => ⟨_, rfl, hno (fun g => ?_)⟩) (fun i hi e => ⟨_, rfl, ?_⟩) (gn A t) 0 (by omega) (fun i hi => absurd hi (Nat.not_lt_zero i))))
  · obtain ⟨a, b⟩ := mbr_of hu g
    exact h _ a b
  · obtain ⟨a, b, c⟩ := mbr_ok hi
    have := hyes (by rw [← e]; exact b)
    rw [← e, c] at this
    exact this
abbrev zQrc (c _j k : Nat) : Prop := c = 41 ∨ (c = 11 ∧ k = 8)
theorem L_X7_record {K : zSt → Prop} {t : Nat} {F : List (Nat → Nat)} {s : Nat → Nat} (h9 : gn A t ≤ 9) (hs : zgi σ 11 0 4 = nI (gn A t)) (hat : ∀ i, i < gn A t → zgi σ 45 0 i = nI (s i) ∧ s i < 64) (h : zFo A t σ F) (hF : F.length < 60000) (hK : ∀ σ', zOnly zQrc σ σ' → σ'.2.2.2 = σ.2.2.2 → zFo A t σ' (F ++ [s]) → K σ') : ∀ (n k : Nat), k + n = gn A t → zE true (d + 1) kc ks M_X7_record 4 [some (.inr (.inr (11, 0))), some (.inr (.inl (lN (rwN s k)))), none, some (.inl (nI k))] [] σ (fun r σ' => r = none ∧ K σ') := by
  intro n
  induction n with
  | zero =>
    intro k hk
    have : k = gn A t := by omega
    subst this
    refine T_X7_record_4 ⟨fun _ => ⟨fun g => ?_, fun _ => ?_⟩, fun g => absurd (by rw [hs]; exact Int32.le_refl _) g⟩
    · rw [h.1, show (60000 : Int32) = nI 60000 from rfl, nI_leI (by omega) (by omega)] at g
      omega
    · rw [h.1, nI_clamp (show F.length < 2 ^ 31 by omega), ← nI_succ]
      refine ⟨nI_in (by omega) (by omega), rfl, hK _ ((zOnly.sl (Or.inl rfl)).tr (zOnly.si (Or.inr ⟨rfl, rfl⟩))) rfl ⟨?_, fun n x hx => ?_⟩⟩
      · rw [zgi_si, if_pos ⟨rfl, rfl, rfl⟩, List.length_append]; rfl
      · rw [zgl_si, zgl_sl]
        by_cases e : n = F.length
        · subst e
          rw [List.getElem?_concat_length] at hx
          cases hx
          rw [if_pos ⟨rfl, rfl, rfl⟩]
          exact ⟨rfl, fun i hi => (hat i hi).2⟩
        · rw [if_neg (fun q => e q.2.2)]
          have hl : n < (F ++ [s]).length := (List.getElem?_eq_some_iff.mp hx).1
          rw [List.length_append] at hl
          have hl2 : n < F.length := by simp at hl; omega
          rw [List.getElem?_append_left hl2] at hx
          exact h.2 n x hx
  | succ n ih =>
    intro k hk
    obtain ⟨a1, a2⟩ := hat k (by omega)
    refine T_X7_record_4 ⟨fun g => ?_, fun _ => ⟨nI_in (by omega) (by omega), ?_⟩⟩
    · rw [hs, nI_leI (by omega) (by omega)] at g
      omega
    · have hl := rwN_lt (s := s) (k := k) (fun i hi => (hat i (by omega)).2)
      have hl2 := rwN_lt (s := s) (k := k + 1) (fun i hi => (hat i (by omega)).2)
      have hp : 2 ^ (6 * (k + 1)) ≤ 2 ^ 54 := Nat.pow_le_pow_right (by decide) (by omega)
      rw [nI_clamp (show k < 2 ^ 31 by omega), a1, nI_L _ a2, show (6 : Int32) = nI 6 from rfl, nI_mul, ← nI_succ]
      have e1 : zlshl (lN (s k)) (nI (6 * k)) = lN (s k * 2 ^ (6 * k)) := wb_shl (s k) (by omega)
      have e2 : lN (rwN s k) ||| lN (s k * 2 ^ (6 * k)) = lN (rwN s (k + 1)) := g_or' (k := 6 * k) rfl hl (by
        show rwN s k + s k * 2 ^ (6 * k) < _
        have : rwN s (k + 1) = rwN s k + s k * 2 ^ (6 * k) := rfl
        omega)
      rw [e1, e2]
      exact ih (k + 1) (by omega)
theorem S_X7_record {K : zSt → Prop} {t : Nat} {F : List (Nat → Nat)} {s : Nat → Nat} (h9 : gn A t ≤ 9) (hs : zgi σ 11 0 4 = nI (gn A t)) (hat : ∀ i, i < gn A t → zgi σ 45 0 i = nI (s i) ∧ s i < 64) (h : zFo A t σ F) (hF : F.length < 60000) (hK : ∀ σ', zOnly zQrc σ σ' → σ'.2.2.2 = σ.2.2.2 → zFo A t σ' (F ++ [s]) → K σ') : zCv true (d + 1) 0 0 M_X7_record [.inr (.inr (11, 0))] σ K :=
  zC_intro pl_X7 (Nat.le_of_ble_eq_true rfl) (T_X7_record_0 (L_X7_record h9 hs hat h hF hK (gn A t) 0 (by omega)))
theorem L_X7_strangers (hW : zWf A) (hR : zRD A σ 0) {t : Nat} (hg : zgi σ 11 0 3 = yset (grB A t) 32) (hQ : Q (some (.inr (.inl (zset (shut A t) 64)))) σ) : ∀ (n k : Nat), k + n = aN A → zE true (d + 2) kc ks M_X7_cellsOfStrangers 4 [some (.inr (.inr (11, 0))), some (.inr (.inl (zset (fun c => aAny (fun u => decide (0 < aK A u) && decide (aC A u = (c : Int)) && !grB A t u) k) 64))), none, some (.inl (nI k))] [] σ Q := by
  have hN : aN A ≤ 24 := hW.1.2.2.2.2.1
  intro n
  induction n with
  | zero =>
    intro k hk
    have : k = aN A := by omega
    subst this
    exact T_X7_cellsOfStrangers_4 ⟨fun _ => hQ, fun g => absurd (by rw [zrd_nT hR]; exact Int32.le_refl _) g⟩
  | succ n ih =>
    intro k hk
    have hkN : k < aN A := by omega
    obtain ⟨⟨i, h1, hT⟩, -⟩ := hR.2.1 k hkN
    obtain ⟨w1, w2, w3, -⟩ := hW.2.1 k hkN
    have v24 : vp_in (nI k) 24 := nI_in (by omega) (by omega)
    refine T_X7_cellsOfStrangers_4 ⟨fun g => ?_, fun _ => ⟨v24, i, by rw [nI_clamp (by omega)]; exact h1, S_X9_isAnchor hW hkN hT ⟨fun g => ?_, fun g => ⟨v24, i, by rw [nI_clamp (by omega)]; exact h1, ?_⟩⟩⟩⟩
    · rw [zrd_nT hR, nI_leI (by omega) (by omega)] at g
      omega
    · rw [hg, yh_b (by omega), zb_0, zb_0, Decidable.not_not] at g
      have e : zset (fun c => aAny (fun u => decide (0 < aK A u) && decide (aC A u = (c : Int)) && !grB A t u) k) 64 = zset (fun c => aAny (fun u => decide (0 < aK A u) && decide (aC A u = (c : Int)) && !grB A t u) (k + 1)) 64 := zset_cong (fun c hc => by
        show _ = (aAny _ k || (decide (0 < aK A k) && decide (aC A k = (c : Int)) && !grB A t k))
        rcases g with g | g
        · rw [decide_eq_false g]; simp
        · rw [g]; simp)
      rw [e, ← nI_succ]
      exact ih (k + 1) (by omega)
    · rw [hg, yh_b (by omega), zb_0, zb_0, Decidable.not_not] at g
      have g1 : 0 < aK A k := Decidable.not_not.mp (fun q => g (Or.inl q))
      have g2 : ¬ grB A t k = true := fun q => g (Or.inr q)
      obtain ⟨c, ec, hc⟩ := w2 g1
      have hc64 : c < 64 := by unfold afree at hc; exact acell_64 (by simp at hc; exact hc.1)
      have e : zset (fun c => aAny (fun u => decide (0 < aK A u) && decide (aC A u = (c : Int)) && !grB A t u) k) 64 ||| zlshl 1 (zgi σ 16 i 2) = zset (fun c => aAny (fun u => decide (0 < aK A u) && decide (aC A u = (c : Int)) && !grB A t u) (k + 1)) 64 := zset_eq (fun x hx => by
        rw [tb_or, tb_set hx, hT.2.2.2.1, ec, iI_nat, tb_bit hc64]
        show _ = (aAny _ k || (decide (0 < aK A k) && decide (aC A k = (x : Int)) && !grB A t k))
        rw [Bool.not_eq_true] at g2
        rw [ec, g2, decide_eq_true g1]
        simp only [Bool.true_and, Bool.not_false, Bool.and_true]
        congr 1
        rw [decide_eq_decide]
        omega)
      rw [e, ← nI_succ]
      exact ih (k + 1) (by omega)
theorem S_X7_cellsOfStrangers {K : Int64 → zSt → Prop} (hW : zWf A) (hR : zRD A σ 0) {t : Nat} (hg : zgi σ 11 0 3 = yset (grB A t) 32) (hK : K (zset (shut A t) 64) σ) : zCl true (d + 2) 0 0 M_X7_cellsOfStrangers [.inr (.inr (11, 0))] σ K := by
  refine zC_intro pl_X7 (Nat.le_of_ble_eq_true rfl) (T_X7_cellsOfStrangers_0 ?_)
  have e : (0 : Int64) = zset (fun c => aAny (fun u => decide (0 < aK A u) && decide (aC A u = (c : Int)) && !grB A t u) 0) 64 := zset_eq (fun i hi => by rw [tb_0]; rfl)
  have := L_X7_strangers (d := d) (kc := 0) (ks := 0) (Q := fun r σ' => ∃ x, r = some (.inr (.inl x)) ∧ K x σ') hW hR hg ⟨_, rfl, hK⟩ (aN A) 0 (by omega)
  rw [← e] at this
  exact this
end zPs
