/-! the reference searches a group's placings -/
/-- what is counted of placings: found, on cells, at distances, the wanted one, the pair -/
def zTa (A : zAb) (σ : zSt) (t : Nat) (w : Int) (F : List (Nat → Nat)) : Prop := zgi σ 54 0 43 = nI F.length ∧ (∀ i, i < gn A t → ∀ c, c < 64 → zgi σ 84 0 (64 * i + c) = nI (cnO F i c)) ∧ (∀ i j, i < j → j < gn A t → ∀ f, f < 99 → zgi σ 85 0 (99 * (9 * i + j) + f) = nI (cnD F i j f)) ∧ (0 ≤ w → ∀ s, F[w.toNat]? = some s → ∀ i, i < gn A t → zgi σ 86 0 i = nI (s i))
def zPm (A : zAb) (σ : zSt) (t : Nat) (w a b : Int) (c e : Nat) : Prop := zgi σ 54 0 46 = iI w ∧ zgi σ 54 0 48 = iI a ∧ (-2147483648 ≤ w ∧ w < 2147483648) ∧ -1 ≤ a ∧ (0 ≤ a → zgi σ 54 0 49 = iI b ∧ zgi σ 54 0 50 = nI c ∧ zgi σ 54 0 51 = nI e ∧ a < gn A t ∧ 0 ≤ b ∧ b < gn A t ∧ c < 64 ∧ e < 64)
theorem zPm.only {A : zAb} {σ σ' : zSt} {t : Nat} {w a b : Int} {c e : Nat} {M : Nat → Nat → Nat → Prop} (h : zPm A σ t w a b c e) (ho : zOnly M σ σ') (hm : ¬ M 54 0 46 ∧ ¬ M 54 0 48 ∧ ¬ M 54 0 49 ∧ ¬ M 54 0 50 ∧ ¬ M 54 0 51) : zPm A σ' t w a b c e := by
  unfold zPm
  rw [ho.i 54 0 46 hm.1, ho.i 54 0 48 hm.2.1, ho.i 54 0 49 hm.2.2.1, ho.i 54 0 50 hm.2.2.2.1, ho.i 54 0 51 hm.2.2.2.2]
  exact h
/-- at work: counted on cells below a, at distances below the pair (i, j), wanted below i -/
def zTw (A : zAb) (σ : zSt) (t : Nat) (w : Int) (F : List (Nat → Nat)) (s : Nat → Nat) (a i j : Nat) : Prop := zgi σ 54 0 43 = nI F.length ∧ (∀ i', i' < gn A t → ∀ c, c < 64 → zgi σ 84 0 (64 * i' + c) = nI (cnO F i' c + (if i' < a ∧ s i' = c then 1 else 0))) ∧ (∀ i' j', i' < j' → j' < gn A t → ∀ f, f < 99 → zgi σ 85 0 (99 * (9 * i' + j') + f) = nI (cnD F i' j' f + (if (i' < i ∨ (i' = i ∧ j' < j)) ∧ zdist (s i') (s j') = f then 1 else 0))) ∧ (0 ≤ w → ∀ s', F[w.toNat]? = some s' → ∀ i', i' < gn A t → zgi σ 86 0 i' = nI (s' i')) ∧ ((F.length : Int) = w → ∀ i', i' < i → zgi σ 86 0 i' = nI (s i'))
section zMp
variable {d kc ks : Nat} {σ : zSt} {A : zAb} {Q : Option zV → zSt → Prop}
abbrev zTy (c _j k : Nat) : Prop := c = 84 ∨ c = 85 ∨ c = 86 ∨ (c = 54 ∧ (k = 43 ∨ k = 52))
theorem e999 (i j f : Nat) : (99 : Int32) * (9 * nI i + nI j) + nI f = nI (99 * (9 * i + j) + f) := by
  rw [show (9 : Int32) = nI 9 from rfl, nI_mul, nI_add, show (99 : Int32) = nI 99 from rfl, nI_mul, nI_add]
theorem L_X12_tally34 {t i : Nat} {w a b : Int} {c e : Nat} {F : List (Nat → Nat)} {s : Nat → Nat} (h9 : gn A t ≤ 9) (hi : i < gn A t) (hF : F.length < 60000) {σ0 : zSt} (hG : zGm A σ0 t) (hP : zPm A σ0 t w a b c e) (hS : zSs σ0 s (gn A t)) (hnext : ∀ σ', zOnly zTy σ0 σ' → zgi σ' 54 0 52 = zgi σ0 54 0 52 → zTw A σ' t w F s (i + 1) (i + 1) 0 → zE true (d + 2) kc ks M_X12_tally 2 [some (.inr (.inr (54, 0))), some (.inl (nI (i + 1))), none] [] (σ') Q) : ∀ (n j : Nat), j + n = gn A t → i < j → ∀ σ : zSt, zOnly zTy σ0 σ → zgi σ 54 0 52 = zgi σ0 54 0 52 → zTw A σ t w F s (i + 1) i j → zE true (d + 2) kc ks M_X12_tally 34 [some (.inr (.inr (54, 0))), some (.inl (nI i)), some (.inl (nI j))] [] σ Q := by
  have vi : vp_in (nI i) 24 := nI_in (by omega) (by omega)
  have vi9 : vp_in (nI i) 9 := nI_in (by omega) (by omega)
  intro n
  induction n with
  | zero =>
    intro j hj hij σ ho e52 hw
    have hG2 : zGm A σ t := hG.only ho ⟨by unfold zTy; omega, fun k => by unfold zTy; omega⟩
    have hP2 : zPm A σ t w a b c e := hP.only ho (by unfold zTy; omega)
    have : j = gn A t := by omega
    subst this
    obtain ⟨w1, w2, w3, w4, w5⟩ := hw
    have cw : zgi σ 54 0 43 = zgi σ 54 0 46 ↔ (F.length : Int) = w := by
      rw [w1, hP2.1, ← iI_nat]
      exact iI_eqI (by omega) hP2.2.2.1
    have w3' : ∀ i' j', i' < j' → j' < gn A t → ∀ f, f < 99 → zgi σ 85 0 (99 * (9 * i' + j') + f) = nI (cnD F i' j' f + (if (i' < i + 1 ∨ (i' = i + 1 ∧ j' < 0)) ∧ zdist (s i') (s j') = f then 1 else 0)) := fun i' j' h1 h2 f hf => by
      rw [w3 i' j' h1 h2 f hf]
      congr 2
      by_cases z : zdist (s i') (s j') = f
      · by_cases z2 : i' < i + 1
        · rw [if_pos ⟨by omega, z⟩, if_pos ⟨Or.inl z2, z⟩]
        · rw [if_neg (fun q => by omega), if_neg (fun q => by omega)]
      · rw [if_neg (fun q => z q.2), if_neg (fun q => z q.2)]
    refine T_X12_tally_34 ⟨fun _ => ⟨fun g => ?_, fun g => ⟨vi, vi9, ?_⟩⟩, fun h => absurd (by rw [hG2.1]; exact Int32.le_refl _) h⟩
    · rw [cw] at g
      rw [← nI_succ]
      exact hnext σ ho e52 ⟨w1, w2, w3', w4, fun q => absurd q g⟩
    · rw [cw] at g
      rw [nI_clamp (show i < 2 ^ 31 by omega), ← nI_succ]
      refine hnext _ (ho.tr (zOnly.si (by unfold zTy; omega))) (by rw [zgi_si, if_neg (by omega)]; exact e52) ⟨by rw [zgi_si, if_neg (by omega)]; exact w1, fun i' hi' c hc => by rw [zgi_si, if_neg (by omega)]; exact w2 i' hi' c hc, fun i' j' h1 h2 f hf => by rw [zgi_si, if_neg (by omega)]; exact w3' i' j' h1 h2 f hf, fun hw0 s' hs' => ?_, fun _ i' hi' => ?_⟩
      · exfalso
        rw [← g, Int.toNat_natCast, List.getElem?_eq_none (Nat.le_refl _)] at hs'
        cases hs'
      · rw [zgi_si]
        by_cases z : i' = i
        · rw [if_pos ⟨rfl, rfl, z⟩, ho.i 82 0 i (by unfold zTy; omega), (hS i hi).1, z]
        · rw [if_neg (fun q => z q.2.2)]
          exact w5 g i' (by omega)
  | succ n ih =>
    intro j hj hij σ ho e52 hw
    have hG2 : zGm A σ t := hG.only ho ⟨by unfold zTy; omega, fun k => by unfold zTy; omega⟩
    have vj : vp_in (nI j) 24 := nI_in (by omega) (by omega)
    have si := hS i hi
    have sj := hS j (by omega)
    have hd := zdist_le si.2 sj.2
    obtain ⟨w1, w2, w3, w4, w5⟩ := hw
    refine T_X12_tally_34 ⟨fun g => ?_, fun _ => ?_⟩
    · rw [hG2.1, nI_leI (by omega) (by omega)] at g
      omega
    · rw [nI_clamp (show i < 2 ^ 31 by omega), nI_clamp (show j < 2 ^ 31 by omega), ho.i 82 0 i (by unfold zTy; omega), ho.i 82 0 j (by unfold zTy; omega), si.1, sj.1, zdm_n si.2 sj.2, e999, nI_clamp (show 99 * (9 * i + j) + zdist (s i) (s j) < 2 ^ 31 by omega), w3 i j hij (by omega) _ (by omega), ← nI_succ, ← nI_succ]
      have v8 : vp_in (nI (99 * (9 * i + j) + zdist (s i) (s j))) 8019 := nI_in (by omega) (by omega)
      refine ⟨vi, vj, v8, v8, ih (j + 1) (by omega) (by omega) _ (ho.tr (zOnly.si (by unfold zTy; omega))) (by rw [zgi_si, if_neg (by omega)]; exact e52) ⟨by rw [zgi_si, if_neg (by omega)]; exact w1, fun i' hi' c hc => by rw [zgi_si, if_neg (by omega)]; exact w2 i' hi' c hc, fun i' j' h1 h2 f hf => ?_, fun q s' hs' i' hi' => by rw [zgi_si, if_neg (by omega)]; exact w4 q s' hs' i' hi', fun q i' hi' => by rw [zgi_si, if_neg (by omega)]; exact w5 q i' hi'⟩⟩
      rw [zgi_si]
      by_cases z : i' = i ∧ j' = j
      · obtain ⟨rfl, rfl⟩ := z
        by_cases z2 : f = zdist (s i') (s j')
        · subst z2
          rw [if_pos ⟨rfl, rfl, rfl⟩, if_neg (fun q => by omega), if_pos ⟨by omega, rfl⟩]
        · rw [if_neg (by omega), w3 i' j' h1 h2 f hf, if_neg (fun q => z2 q.2.symm), if_neg (fun q => z2 q.2.symm)]
      · rw [if_neg (by omega), w3 i' j' h1 h2 f hf]
        congr 2
        by_cases z2 : zdist (s i') (s j') = f
        · by_cases z3 : i' < i ∨ (i' = i ∧ j' < j)
          · rw [if_pos ⟨z3, z2⟩, if_pos ⟨by omega, z2⟩]
          · rw [if_neg (fun q => z3 q.1), if_neg (fun q => by omega)]
        · rw [if_neg (fun q => z2 q.2), if_neg (fun q => z2 q.2)]
theorem L_X12_tally2 {t : Nat} {w a b : Int} {c e : Nat} {F : List (Nat → Nat)} {s : Nat → Nat} (h9 : gn A t ≤ 9) (hF : F.length < 60000) {σ0 : zSt} (hG : zGm A σ0 t) (hP : zPm A σ0 t w a b c e) (hS : zSs σ0 s (gn A t)) (h52 : zgi σ0 54 0 52 = zb (cnP F a b c e = true)) (hQ : ∀ σ', zOnly zTy σ0 σ' → zTa A σ' t w (F ++ [s]) → zgi σ' 54 0 52 = zb (cnP (F ++ [s]) a b c e = true) → Q none σ') : ∀ (n i : Nat), i + n = gn A t → ∀ σ : zSt, zOnly zTy σ0 σ → zgi σ 54 0 52 = zgi σ0 54 0 52 → zTw A σ t w F s i i 0 → zE true (d + 2) kc ks M_X12_tally 2 [some (.inr (.inr (54, 0))), some (.inl (nI i)), none] [] σ Q := by
  intro n
  induction n with
  | zero =>
    intro i hi σ ho e52 hw
    have hG2 : zGm A σ t := hG.only ho ⟨by unfold zTy; omega, fun k => by unfold zTy; omega⟩
    have hP2 : zPm A σ t w a b c e := hP.only ho (by unfold zTy; omega)
    have : i = gn A t := by omega
    subst this
    obtain ⟨w1, w2, w3, w4, w5⟩ := hw
    obtain ⟨p1, p2, p3, p4, p5⟩ := hP2
    have ca : (iI a < 0) ↔ a < 0 := iI_lt (b := 0) (by
      by_cases z : 0 ≤ a
      · have := (p5 z).2.2.2.1; omega
      · omega) (by omega)
    have s82 : ∀ k, k < gn A t → zgi σ 82 0 k = nI (s k) := fun k hk => by rw [ho.i 82 0 k (by unfold zTy; omega)]; exact (hS k hk).1
    refine T_X12_tally_2 ⟨fun _ => ⟨fun _ g => ?_, fun _ g _ => ?_, fun x hx => ?_⟩, fun h => absurd (by rw [hG2.1]; exact Int32.le_refl _) h⟩
    · rw [p2, ca] at g
      obtain ⟨q1, q2, q3, q4, q5, q6, q7⟩ := p5 (by omega)
      obtain ⟨n, rfl⟩ : ∃ n : Nat, a = (n : Int) := ⟨a.toNat, by omega⟩
      rw [p2, iI_nat]
      exact nI_in (by omega) (by omega)
    · rw [p2, ca] at g
      obtain ⟨q1, q2, q3, q4, q5, q6, q7⟩ := p5 (by omega)
      obtain ⟨n, rfl⟩ : ∃ n : Nat, b = (n : Int) := ⟨b.toNat, by omega⟩
      rw [q1, iI_nat]
      exact nI_in (by omega) (by omega)
    · have ex : x = zb (cnP (F ++ [s]) a b c e = true) := by
        rw [hx, e52, h52]
        apply zb_of1
        rw [cnP_add, Bool.or_eq_true, zb_0, Decidable.not_not, p2, ca]
        by_cases z : 0 ≤ a
        · obtain ⟨q1, q2, q3, q4, q5, q6, q7, q8⟩ := p5 z
          obtain ⟨n, rfl⟩ : ∃ n : Nat, a = (n : Int) := ⟨a.toNat, by omega⟩
          obtain ⟨m, rfl⟩ : ∃ m : Nat, b = (m : Int) := ⟨b.toNat, by omega⟩
          have sn := (hS n (by omega)).2
          have sm := (hS m (by omega)).2
          rw [q1, q2, q3, iI_nat, iI_nat, nI_clamp (show n < 2 ^ 31 by omega), nI_clamp (show m < 2 ^ 31 by omega), s82 n (by omega), s82 m (by omega), nI_eq (by omega) (by omega), nI_eq (by omega) (by omega)]
          simp [z, and_assoc]
        · simp [z, show a < 0 by omega]
      rw [ex, w1, ← nI_succ]
      refine hQ _ ((ho.tr (zOnly.si (by unfold zTy; omega))).tr (zOnly.si (by unfold zTy; omega))) ⟨by rw [zgi_si, if_pos ⟨rfl, rfl, rfl⟩, List.length_append]; rfl, fun i' hi' c' hc => ?_, fun i' j' h1 h2 f hf => ?_, fun q s' hs' i' hi' => ?_⟩ (by rw [zgi_si, if_neg (by omega), zgi_si, if_pos ⟨rfl, rfl, rfl⟩])
      · rw [zgi_si, if_neg (by omega), zgi_si, if_neg (by omega), w2 i' hi' c' hc, cnO_add]
        simp [hi']
      · rw [zgi_si, if_neg (by omega), zgi_si, if_neg (by omega), w3 i' j' h1 h2 f hf, cnD_add]
        simp [show i' < gn A t by omega]
      · rw [zgi_si, if_neg (by omega), zgi_si, if_neg (by omega)]
        by_cases z : w.toNat < F.length
        · rw [List.getElem?_append_left z] at hs'
          exact w4 q s' hs' i' hi'
        · rw [List.getElem?_append_right (by omega)] at hs'
          by_cases z2 : w.toNat = F.length
          · rw [z2, Nat.sub_self] at hs'
            cases hs'
            exact w5 (by omega) i' hi'
          · rw [List.getElem?_eq_none (by show 1 ≤ _; omega)] at hs'
            cases hs'
  | succ n ih =>
    intro i hi σ ho e52 hw
    have hG2 : zGm A σ t := hG.only ho ⟨by unfold zTy; omega, fun k => by unfold zTy; omega⟩
    have si := hS i (by omega)
    obtain ⟨w1, w2, w3, w4, w5⟩ := hw
    refine T_X12_tally_2 ⟨fun g => ?_, fun _ => ?_⟩
    · rw [hG2.1, nI_leI (by omega) (by omega)] at g
      omega
    · rw [nI_clamp (show i < 2 ^ 31 by omega), ho.i 82 0 i (by unfold zTy; omega), si.1, e64, nI_clamp (show 64 * i + s i < 2 ^ 31 by omega), w2 i (by omega) _ si.2, ← nI_succ, ← nI_succ]
      have v5 : vp_in (nI (64 * i + s i)) 576 := nI_in (by omega) (by omega)
      refine ⟨nI_in (by omega) (by omega), v5, v5, L_X12_tally34 h9 (by omega) hF hG hP hS (fun σ' o1 e1 t1 => ih (i + 1) (by omega) σ' o1 e1 t1) (gn A t - (i + 1)) (i + 1) (by omega) (by omega) _ (ho.tr (zOnly.si (by unfold zTy; omega))) (by rw [zgi_si, if_neg (by omega)]; exact e52) ⟨by rw [zgi_si, if_neg (by omega)]; exact w1, fun i' hi' c hc => ?_, fun i' j' h1 h2 f hf => ?_, fun q s' hs' i' hi' => by rw [zgi_si, if_neg (by omega)]; exact w4 q s' hs' i' hi', fun q i' hi' => by rw [zgi_si, if_neg (by omega)]; exact w5 q i' hi'⟩⟩
      · rw [zgi_si]
        by_cases z : i' = i
        · subst z
          by_cases z2 : c = s i'
          · subst z2
            rw [if_pos ⟨rfl, rfl, rfl⟩, if_neg (fun q => Nat.lt_irrefl _ q.1), if_pos ⟨Nat.lt_succ_self _, rfl⟩]
          · rw [if_neg (by omega), w2 i' hi' c hc, if_neg (fun q => z2 q.2.symm), if_neg (fun q => z2 q.2.symm)]
        · rw [if_neg (by omega), w2 i' hi' c hc]
          congr 2
          by_cases z2 : s i' = c
          · by_cases z3 : i' < i
            · rw [if_pos ⟨z3, z2⟩, if_pos ⟨by omega, z2⟩]
            · rw [if_neg (fun q => z3 q.1), if_neg (fun q => by omega)]
          · rw [if_neg (fun q => z2 q.2), if_neg (fun q => z2 q.2)]
      · rw [zgi_si, if_neg (by omega), w3 i' j' h1 h2 f hf]
        congr 2
        by_cases z2 : zdist (s i') (s j') = f
        · by_cases z3 : i' < i
          · rw [if_pos ⟨Or.inl z3, z2⟩, if_pos ⟨Or.inl z3, z2⟩]
          · rw [if_neg (fun q => by omega), if_neg (fun q => by omega)]
        · rw [if_neg (fun q => z2 q.2), if_neg (fun q => z2 q.2)]
theorem S_X12_tally {K : zSt → Prop} {t : Nat} {w a b : Int} {c e : Nat} {F : List (Nat → Nat)} {s : Nat → Nat} (h9 : gn A t ≤ 9) (hF : F.length < 60000) (hG : zGm A σ t) (hP : zPm A σ t w a b c e) (hS : zSs σ s (gn A t)) (hT : zTa A σ t w F) (h52 : zgi σ 54 0 52 = zb (cnP F a b c e = true)) (hK : ∀ σ', zOnly zTy σ σ' → zTa A σ' t w (F ++ [s]) → zgi σ' 54 0 52 = zb (cnP (F ++ [s]) a b c e = true) → K σ') : zCv true (d + 2) 0 0 M_X12_tally [.inr (.inr (54, 0))] σ K :=
  zC_intro pl_X12 (Nat.le_of_ble_eq_true rfl) (T_X12_tally_0 (L_X12_tally2 h9 hF hG hP hS h52 (fun σ' h1 h2 h3 => ⟨rfl, hK σ' h1 h2 h3⟩) (gn A t) 0 (by omega) σ zOnly.rf rfl ⟨hT.1, fun i' hi' c hc => by rw [hT.2.1 i' hi' c hc, if_neg (fun q => Nat.not_lt_zero _ q.1)]; rfl, fun i' j' h1 h2 f hf => by rw [hT.2.2.1 i' j' h1 h2 f hf, if_neg (fun q => by omega)]; rfl, hT.2.2.2, fun _ i' hi' => absurd hi' (Nat.not_lt_zero i')⟩))
end zMp
