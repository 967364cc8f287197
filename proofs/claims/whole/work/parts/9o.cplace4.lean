/-! placings (class): counts of them -/
theorem mxN_ge {f : Nat → Nat} : ∀ {n i : Nat}, i < n → f i ≤ mxN f n
  | 0, i, h => absurd h (Nat.not_lt_zero i)
  | n + 1, i, h => by
    unfold mxN
    by_cases e : i = n
    · subst e
      split
      · exact Nat.le_refl _
      · omega
    · have ih := mxN_ge (f := f) (n := n) (i := i) (by omega)
      split <;> omega
theorem mxN_lub {f : Nat → Nat} {b : Nat} : ∀ {n : Nat}, (∀ i, i < n → f i ≤ b) → mxN f n ≤ b
  | 0, _ => Nat.zero_le _
  | n + 1, h => by
    unfold mxN
    split
    · exact h n (by omega)
    · exact mxN_lub (fun i hi => h i (by omega))
theorem mxN_up {f g : Nat → Nat} {n d : Nat} (hd : d < n) (h1 : f d ≤ g d) (h2 : ∀ i, i ≠ d → g i = f i) : mxN g n = if mxN f n < g d then g d else mxN f n := by
  have a1 := mxN_ge (f := g) hd
  have a2 : mxN f n ≤ mxN g n := mxN_lub (fun i hi => by
    by_cases e : i = d
    · subst e; omega
    · rw [← h2 i e]; exact mxN_ge hi)
  have a3 : ∀ b, mxN f n ≤ b → g d ≤ b → mxN g n ≤ b := fun b b1 b2 => mxN_lub (fun i hi => by
    by_cases e : i = d
    · subst e; exact b2
    · rw [h2 i e]
      exact Nat.le_trans (mxN_ge hi) b1)
  split
  · have := a3 (g d) (by omega) (Nat.le_refl _)
    omega
  · have := a3 (mxN f n) (Nat.le_refl _) (by omega)
    omega
theorem tk_succ {F : List (Nat → Nat)} {n : Nat} {s : Nat → Nat} (h : F[n]? = some s) : F.take (n + 1) = F.take n ++ [s] := by
  rw [List.take_add_one, h]
  rfl
section zPw2
variable {d kc ks : Nat} {σ : zSt} {A : zAb} {Q : Option zV → zSt → Prop}
theorem zPC.only {t : Nat} {σ' : zSt} {M : Nat → Nat → Nat → Prop} (h : zPC A t σ) (ho : zOnly M σ σ') (hm : (∀ k, (k = 3 ∨ k = 4 ∨ k = 6 ∨ k = 7 ∨ k = 8 ∨ k = 14 ∨ k = 16) → ¬ M 11 0 k) ∧ ∀ j k, ¬ M 40 j k ∧ ¬ M 41 j k ∧ ¬ M 47 j k ∧ ¬ M 48 j k) : zPC A t σ' := by
  obtain ⟨⟨h1, h2⟩, h3, h4⟩ := h
  refine ⟨⟨?_, ?_⟩, fun q => ⟨?_, ?_⟩, fun q => ⟨fun i hi => ?_, fun z => ⟨?_, ?_⟩, fun z => ⟨?_, ?_, ?_, fun y => ?_, fun y => ?_⟩⟩⟩
  · rw [ho.i 11 0 3 (hm.1 3 (by omega))]; exact h1
  · rw [ho.i 11 0 4 (hm.1 4 (by omega))]; exact h2
  · rw [ho.i 11 0 6 (hm.1 6 (by omega))]; exact (h3 q).1
  · rw [ho.i 11 0 7 (hm.1 7 (by omega))]; exact (h3 q).2
  · rw [ho.i 40 0 i (hm.2 0 i).1]; exact (h4 q).1 i hi
  · rw [ho.i 11 0 6 (hm.1 6 (by omega))]; exact ((h4 q).2.1 z).1
  · rw [ho.i 11 0 7 (hm.1 7 (by omega))]; exact ((h4 q).2.1 z).2
  · rw [ho.i 11 0 6 (hm.1 6 (by omega))]; exact ((h4 q).2.2 z).1
  · rw [ho.i 11 0 7 (hm.1 7 (by omega))]; exact ((h4 q).2.2 z).2.1
  · exact ((h4 q).2.2 z).2.2.1.only ho ⟨hm.1 8 (by omega), fun k => (hm.2 0 k).2.1⟩
  · intro i hi c hc
    rw [ho.i 11 0 14 (hm.1 14 (by omega))] at y
    rw [ho.i 47 i c (hm.2 i c).2.2.1]
    exact ((h4 q).2.2 z).2.2.2.1 y i hi c hc
  · rw [ho.i 11 0 16 (hm.1 16 (by omega))] at y
    rw [ho.i 48 0 0 (hm.2 0 0).2.2.2, ho.i 48 0 1 (hm.2 0 1).2.2.2, ho.i 48 0 2 (hm.2 0 2).2.2.2]
    exact ((h4 q).2.2 z).2.2.2.2 y
theorem zCP.only {σ' : zSt} {M : Nat → Nat → Nat → Prop} (h : zCP A σ) (ho : zOnly M σ σ') (hm : (∀ k, (k = 3 ∨ k = 4 ∨ k = 6 ∨ k = 7 ∨ k = 8 ∨ k = 14 ∨ k = 16) → ¬ M 11 0 k) ∧ ∀ j k, ¬ M 40 j k ∧ ¬ M 41 j k ∧ ¬ M 47 j k ∧ ¬ M 48 j k) : zCP A σ' := by
  rcases h with h | ⟨t, ht, h⟩
  · exact Or.inl (by rw [ho.i 11 0 3 (hm.1 3 (by omega))]; exact h)
  · exact Or.inr ⟨t, ht, h.only ho hm⟩
/-- what is at hand where a group isn't spent -/
theorem zPC.F {t : Nat} (h : zPC A t σ) (hs : ¬ spB A t) : gn A t ≤ 9 ∧ zgi σ 11 0 4 = nI (gn A t) ∧ (∀ i, i < gn A t → zgi σ 40 0 i = nI (mbr A t i)) ∧ zgi σ 11 0 6 = 0 ∧ zgi σ 11 0 7 = nI (evT A t).length ∧ zFo A t σ (plF A t) ∧ (plF A t).length ≤ 60000 := by
  have h9 : gn A t ≤ 9 := by unfold spB at hs; omega
  have hl : (evT A t).length ≤ 60000 := by unfold spB at hs; omega
  have u := (h.2.2 h9).2.2 hl
  exact ⟨h9, h.1.2, (h.2.2 h9).1, u.1, u.2.1, u.2.2.1, plF_le hs⟩
abbrev zQct (c _j k : Nat) : Prop := c = 47 ∨ (c = 11 ∧ k = 14)
/-- counts: whole below i, of i as far as n -/
def zCn (A : zAb) (t : Nat) (σ : zSt) (i n : Nat) : Prop := ∀ i' c, i' < gn A t → c < 64 → (i' < i → zgi σ 47 i' c = nI (cnO (plF A t) i' c)) ∧ (i' = i → zgi σ 47 i c = nI (cnO ((plF A t).take n) i c))
theorem L_X7_count35 {t i : Nat} (h9 : gn A t ≤ 9) (hi : i < gn A t) {σ0 : zSt} (hF : zFo A t σ0 (plF A t)) (hl : (plF A t).length ≤ 60000) (hnext : ∀ σ', zOnly (fun c _ _ => c = 47) σ0 σ' → σ'.2.2.2 = σ0.2.2.2 → (∀ c, c < 64 → zgi σ' 47 i c = nI (cnO (plF A t) i c)) → (∀ j c, j ≠ i → zgi σ' 47 j c = zgi σ0 47 j c) → zE true (d + 2) kc ks M_X7_count 15 [some (.inr (.inr (11, 0))), some (.inl (nI (i + 1))), none] [] (σ') Q) : ∀ (m n : Nat), n + m = (plF A t).length → ∀ σ : zSt, zOnly (fun c _ _ => c = 47) σ0 σ → σ.2.2.2 = σ0.2.2.2 → (∀ c, c < 64 → zgi σ 47 i c = nI (cnO ((plF A t).take n) i c)) → (∀ j c, j ≠ i → zgi σ 47 j c = zgi σ0 47 j c) → zE true (d + 2) kc ks M_X7_count 35 [some (.inr (.inr (11, 0))), some (.inl (nI i)), some (.inl (nI n))] [] σ Q := by
  intro m
  induction m with
  | zero =>
    intro n hn σ ho hh hz hy
    have : n = (plF A t).length := by omega
    subst this
    rw [List.take_length] at hz
    refine T_X7_count_35 ⟨fun _ => ?_, fun g => absurd (by rw [ho.i 11 0 8 (by omega), hF.1]; exact Int32.le_refl _) g⟩
    rw [← nI_succ]
    exact hnext σ ho hh hz hy
  | succ m ih =>
    intro n hn σ ho hh hz hy
    obtain ⟨s, hs⟩ : ∃ s, (plF A t)[n]? = some s := ⟨_, List.getElem?_eq_getElem (show n < (plF A t).length by omega)⟩
    have hs64 := (hF.2 n s hs).2 i hi
    have v64 : vp_in (nI (s i)) 64 := nI_in (by omega) (by omega)
    have cl := cnO_le ((plF A t).take n) i (s i)
    refine T_X7_count_35 ⟨fun g => ?_, fun _ => ⟨nI_in (by omega) (by omega), S_X7_cellIn h9 (hF.only ho ⟨by omega, fun k => by omega⟩) hl hs hi ⟨v64, v64, ?_⟩⟩⟩
    · rw [ho.i 11 0 8 (by omega), hF.1, nI_leI (by omega) (by omega)] at g
      omega
    · rw [nI_clamp (show i < 2 ^ 31 by omega), nI_clamp (show s i < 2 ^ 31 by omega), hz _ hs64, ← nI_succ, ← nI_succ]
      refine ih (n + 1) (by omega) _ (ho.tr (zOnly.si rfl)) hh (fun c hc => ?_) (fun j c hj => ?_)
      · rw [tk_succ hs, cnO_add, zgi_si]
        by_cases e : c = s i
        · rw [if_pos ⟨rfl, rfl, e⟩, if_pos e.symm, e]
        · rw [if_neg (fun q => e q.2.2), if_neg (fun q => e q.symm), Nat.add_zero]
          exact hz c hc
      · rw [zgi_si, if_neg (fun q => hj q.2.1)]
        exact hy j c hj
theorem L_X7_count15 {t : Nat} (h9 : gn A t ≤ 9) {σ0 : zSt} (hs0 : zgi σ0 11 0 4 = nI (gn A t)) (hF : zFo A t σ0 (plF A t)) (hl : (plF A t).length ≤ 60000) (hQ : ∀ σ', zOnly (fun c _ _ => c = 47) σ0 σ' → σ'.2.2.2 = σ0.2.2.2 → (∀ i c, i < gn A t → c < 64 → zgi σ' 47 i c = nI (cnO (plF A t) i c)) → Q none σ') : ∀ (m i : Nat), i + m = gn A t → ∀ σ : zSt, zOnly (fun c _ _ => c = 47) σ0 σ → σ.2.2.2 = σ0.2.2.2 → (∀ j c, j < i → c < 64 → zgi σ 47 j c = nI (cnO (plF A t) j c)) → zE true (d + 2) kc ks M_X7_count 15 [some (.inr (.inr (11, 0))), some (.inl (nI i)), none] [] σ Q := by
  intro m
  induction m with
  | zero =>
    intro i hi σ ho hh hz
    have : i = gn A t := by omega
    subst this
    exact T_X7_count_15 ⟨fun _ => hQ σ ho hh hz, fun g => absurd (by rw [ho.i 11 0 4 (by omega), hs0]; exact Int32.le_refl _) g⟩
  | succ m ih =>
    intro i hi σ ho hh hz
    refine T_X7_count_15 ⟨fun g => ?_, fun _ => ⟨nI_in (by omega) (by omega), ?_⟩⟩
    · rw [ho.i 11 0 4 (by omega), hs0, nI_leI (by omega) (by omega)] at g
      omega
    · rw [nI_clamp (show i < 2 ^ 31 by omega)]
      refine S_J7_fill (N := 64) rfl (by omega) rfl (by omega) (fun σ1 o1 h1 z1 => ?_)
      have oo : zOnly (fun c _ _ => c = 47) σ0 σ1 := ho.tr (o1.mono (fun c j k h => h.1))
      refine L_X7_count35 h9 (by omega) (σ0 := σ1) (hF.only oo ⟨by omega, fun k => by omega⟩) hl (fun σ2 o2 h2 z2 y2 => ih (i + 1) (by omega) σ2 (oo.tr o2) (h2.trans (h1.trans hh)) (fun j c hj hc => ?_)) (plF A t).length 0 (by omega) σ1 zOnly.rf rfl (fun c hc => z1 c hc) (fun j c hj => rfl)
      by_cases e : j = i
      · subst e; exact z2 c hc
      · rw [y2 j c e, o1.i 47 j c (fun q => e q.2)]
        exact hz j c (by omega) hc
theorem S_X7_count {K : zSt → Prop} {t : Nat} (hP : zPC A t σ) (hs : ¬ spB A t) (hK : ∀ σ', zOnly zQct σ σ' → σ'.2.2.2 = σ.2.2.2 → zPC A t σ' → (∀ i c, i < gn A t → c < 64 → zgi σ' 47 i c = nI (cnO (plF A t) i c)) → K σ') : zCv true (d + 2) 0 0 M_X7_count [.inr (.inr (11, 0))] σ K := by
  obtain ⟨h9, f4, f40, f6, f7, fF, fl⟩ := hP.F hs
  refine zC_intro pl_X7 (Nat.le_of_ble_eq_true rfl) (T_X7_count_0 ⟨fun g => ?_, fun g => ⟨rfl, ?_⟩⟩)
  · have oz : zOnly (fun c j k => c = 11 ∧ j = 0 ∧ k = 14) σ (zsi σ 11 0 14 1) := zOnly.si ⟨rfl, rfl, rfl⟩
    refine L_X7_count15 h9 (σ0 := zsi σ 11 0 14 1) (by rw [oz.i 11 0 4 (by omega)]; exact f4) (fF.only oz ⟨by omega, fun k => by omega⟩) fl (fun σ' o h z => ⟨rfl, hK σ' ((oz.mono (fun c j k q => Or.inr ⟨q.1, q.2.2⟩)).tr (o.mono (fun c j k q => Or.inl q))) h ?_ z⟩) (gn A t) 0 (by omega) _ zOnly.rf rfl (fun j c hj => absurd hj (Nat.not_lt_zero j))
    have oa : zOnly zQct σ σ' := (oz.mono (fun c j k q => Or.inr ⟨q.1, q.2.2⟩)).tr (o.mono (fun c j k q => Or.inl q))
    obtain ⟨⟨p1, p2⟩, p3, p4⟩ := hP
    have u := (p4 h9).2.2 (by unfold spB at hs; omega)
    refine ⟨⟨?_, ?_⟩, fun q => by omega, fun _ => ⟨fun i hi => ?_, fun y => absurd (Or.inr y) hs, fun y => ⟨?_, ?_, ?_, fun _ i hi c hc => z i c hi hc, fun x => ?_⟩⟩⟩
    · rw [oa.i 11 0 3 (by unfold zQct; omega)]; exact p1
    · rw [oa.i 11 0 4 (by unfold zQct; omega)]; exact p2
    · rw [oa.i 40 0 i (by unfold zQct; omega)]; exact f40 i hi
    · rw [oa.i 11 0 6 (by unfold zQct; omega)]; exact u.1
    · rw [oa.i 11 0 7 (by unfold zQct; omega)]; exact u.2.1
    · exact u.2.2.1.only oa ⟨by unfold zQct; omega, fun k => by unfold zQct; omega⟩
    · rw [oa.i 11 0 16 (by unfold zQct; omega)] at x
      rw [oa.i 48 0 0 (by unfold zQct; omega), oa.i 48 0 1 (by unfold zQct; omega), oa.i 48 0 2 (by unfold zQct; omega)]
      exact u.2.2.2.2 x
  · have u := (hP.2.2 h9).2.2 (by unfold spB at hs; omega)
    exact hK σ zOnly.rf rfl hP (fun i c hi hc => u.2.2.2.1 g i hi c hc)
theorem S_X7_isPossible {K : Int32 → zSt → Prop} {t i c : Nat} (hP : zPC A t σ) (hs : ¬ spB A t) (hi : i < gn A t) (hc : c < 64) (hK : ∀ σ', zOnly zQct σ σ' → σ'.2.2.2 = σ.2.2.2 → zPC A t σ' → K (zb (0 < cnO (plF A t) i c)) σ') : zCi true (d + 3) 0 0 M_X7_isPossible [.inr (.inr (11, 0)), .inl (nI i), .inl (nI c)] σ K := by
  obtain ⟨h9, f4, f40, f6, f7, fF, fl⟩ := hP.F hs
  refine zC_intro pl_X7 (Nat.le_of_ble_eq_true rfl) (T_X7_isPossible_0 (S_X7_count hP hs (fun σ' o h p z => ⟨nI_in (by omega) (by omega), nI_in (by omega) (by omega), fun x hx => ⟨_, rfl, ?_⟩⟩)))
  have cl := cnO_le (plF A t) i c
  have e : x = zb (0 < cnO (plF A t) i c) := by
    rw [hx, nI_clamp (show i < 2 ^ 31 by omega), nI_clamp (show c < 2 ^ 31 by omega), z i c hi hc]
    refine zb_of0 ?_
    rw [show (0 : Int32) = nI 0 from rfl, nI_leI (by omega) (by omega)]
    omega
  rw [e]
  exact hK σ' o h p
theorem L_X7_sure6 {t i : Nat} (h9 : gn A t ≤ 9) (hi : i < gn A t) (hF8 : zgi σ 11 0 8 = nI (plF A t).length) (hl : (plF A t).length ≤ 60000) (hz : ∀ c, c < 64 → zgi σ 47 i c = nI (cnO (plF A t) i c)) (hQ : Q (some (.inl (iI (suV A t i)))) σ) : ∀ (n k : Nat), k + n = 64 → (0 < (plF A t).length → ∀ c, c < k → ¬ cnO (plF A t) i c = (plF A t).length) → zE true (d + 3) kc ks M_X7_sureCell 6 [some (.inr (.inr (11, 0))), some (.inl (nI i)), some (.inl (nI k))] [] σ Q := by
  intro n
  induction n with
  | zero =>
    intro k hk hno
    have : k = 64 := by omega
    subst this
    have e : suV A t i = -9 := by
      unfold suV
      by_cases z : 0 < (plF A t).length
      · rw [if_pos z]
        exact zfst_none.mpr (fun c hc => decide_eq_false (hno z c hc))
      · rw [if_neg z]
    rw [e] at hQ
    exact T_X7_sureCell_6 ⟨fun _ => hQ, fun g => absurd (show (64 : Int32) ≤ nI 64 by decide) g⟩
  | succ n ih =>
    intro k hk hno
    have cl := cnO_le (plF A t) i k
    have c0 : (zgi σ 11 0 8 ≤ 0) ↔ ¬ 0 < (plF A t).length := by
      rw [hF8, show (0 : Int32) = nI 0 from rfl, nI_leI (by omega) (by omega)]
      omega
    refine T_X7_sureCell_6 ⟨fun g => ?_, fun _ => ?_⟩
    · rw [show (64 : Int32) = nI 64 from rfl, nI_leI (by omega) (by omega)] at g
      omega
    · rw [c0, nI_clamp (show i < 2 ^ 31 by omega), nI_clamp (show k < 2 ^ 31 by omega), hz k (by omega), hF8, nI_eqI (by omega) (by omega)]
      refine ⟨fun _ => nI_in (by omega) (by omega), fun _ => nI_in (by omega) (by omega), fun g => ?_, fun g => ?_⟩
      · rw [← nI_succ]
        refine ih (k + 1) (by omega) (fun hp c hc => ?_)
        by_cases e : c = k
        · subst e
          exact g.resolve_left (fun q => q hp)
        · exact hno hp c (by omega)
      · have g1 : 0 < (plF A t).length := Decidable.not_not.mp (fun q => g (Or.inl q))
        have g2 : cnO (plF A t) i k = (plF A t).length := Decidable.not_not.mp (fun q => g (Or.inr q))
        have e : suV A t i = (k : Int) := by
          unfold suV
          rw [if_pos g1]
          exact zfst_some (decide_eq_true g2) (fun c hc => decide_eq_false (hno g1 c hc)) (by omega)
        rw [e, iI_nat] at hQ
        exact hQ
theorem L_X7_poss8 {t i : Nat} (h9 : gn A t ≤ 9) (hi : i < gn A t) (hl : (plF A t).length ≤ 60000) (hz : ∀ c, c < 64 → zgi σ 47 i c = nI (cnO (plF A t) i c)) (hQ : Q (some (.inl (nI (coV A t i)))) σ) : ∀ (n k : Nat), k + n = 64 → zE true (d + 3) kc ks M_X7_possible 8 [some (.inr (.inr (11, 0))), some (.inl (nI i)), some (.inl (nI (fb_ct (fun c => decide (0 < cnO (plF A t) i c)) k))), some (.inl (nI k))] [] σ Q := by
  intro n
  induction n with
  | zero =>
    intro k hk
    have : k = 64 := by omega
    subst this
    exact T_X7_possible_8 ⟨fun _ => hQ, fun g => absurd (show (64 : Int32) ≤ nI 64 by decide) g⟩
  | succ n ih =>
    intro k hk
    have cl := cnO_le (plF A t) i k
    refine T_X7_possible_8 ⟨fun g => ?_, fun _ => ⟨nI_in (by omega) (by omega), nI_in (by omega) (by omega), fun x hx => ?_⟩⟩
    · rw [show (64 : Int32) = nI 64 from rfl, nI_leI (by omega) (by omega)] at g
      omega
    · rw [nI_clamp (show i < 2 ^ 31 by omega), nI_clamp (show k < 2 ^ 31 by omega), hz k (by omega)] at hx
      have c0 : (nI (cnO (plF A t) i k) ≤ 0) ↔ ¬ 0 < cnO (plF A t) i k := by
        rw [show (0 : Int32) = nI 0 from rfl, nI_leI (by omega) (by omega)]
        omega
      have e : nI (fb_ct (fun c => decide (0 < cnO (plF A t) i c)) k) + x = nI (fb_ct (fun c => decide (0 < cnO (plF A t) i c)) (k + 1)) := by
        rw [fb_ct_succ, hx]
        by_cases z : 0 < cnO (plF A t) i k
        · rw [if_neg (fun q => c0.mp q z), if_pos (decide_eq_true z), nI_succ]
        · rw [if_pos (c0.mpr z), if_neg (by rw [decide_eq_true_eq]; exact z)]
          exact Int32.add_zero _
      rw [e, ← nI_succ]
      exact ih (k + 1) (by omega)
theorem L_X7_worst8 {t i : Nat} (h9 : gn A t ≤ 9) (hi : i < gn A t) (hl : (plF A t).length ≤ 60000) (hz : ∀ c, c < 64 → zgi σ 47 i c = nI (cnO (plF A t) i c)) (hQ : Q (some (.inl (nI (woV A t i)))) σ) : ∀ (n k : Nat), k + n = 64 → zE true (d + 3) kc ks M_X7_worst 8 [some (.inr (.inr (11, 0))), some (.inl (nI i)), some (.inl (nI (mxN (cnO (plF A t) i) k))), some (.inl (nI k))] [] σ Q := by
  intro n
  induction n with
  | zero =>
    intro k hk
    have : k = 64 := by omega
    subst this
    exact T_X7_worst_8 ⟨fun _ => hQ, fun g => absurd (show (64 : Int32) ≤ nI 64 by decide) g⟩
  | succ n ih =>
    intro k hk
    have cl := cnO_le (plF A t) i k
    have ml := mxN_le (f := cnO (plF A t) i) (b := (plF A t).length) (fun c => cnO_le _ _ c) k
    refine T_X7_worst_8 ⟨fun g => ?_, fun _ => ⟨nI_in (by omega) (by omega), nI_in (by omega) (by omega), ?_⟩⟩
    · rw [show (64 : Int32) = nI 64 from rfl, nI_leI (by omega) (by omega)] at g
      omega
    · rw [nI_clamp (show i < 2 ^ 31 by omega), nI_clamp (show k < 2 ^ 31 by omega), hz k (by omega), ← nI_succ]
      have c0 : (nI (mxN (cnO (plF A t) i) k) < nI (cnO (plF A t) i k)) ↔ mxN (cnO (plF A t) i) k < cnO (plF A t) i k := nI_ltI (by omega) (by omega)
      have e : (if nI (mxN (cnO (plF A t) i) k) < nI (cnO (plF A t) i k) then nI (cnO (plF A t) i k) else nI (mxN (cnO (plF A t) i) k)) = nI (mxN (cnO (plF A t) i) (k + 1)) := by
        show _ = nI (if mxN (cnO (plF A t) i) k ≤ cnO (plF A t) i k then cnO (plF A t) i k else mxN (cnO (plF A t) i) k)
        by_cases z : mxN (cnO (plF A t) i) k < cnO (plF A t) i k
        · rw [if_pos (c0.mpr z), if_pos (by omega)]
        · rw [if_neg (fun q => z (c0.mp q))]
          by_cases z2 : mxN (cnO (plF A t) i) k ≤ cnO (plF A t) i k
          · rw [if_pos z2]
            congr 1
            omega
          · rw [if_neg z2]
      rw [e]
      exact ih (k + 1) (by omega)
theorem S_X7_sureCell {K : Int32 → zSt → Prop} {t i : Nat} (hP : zPC A t σ) (hs : ¬ spB A t) (hi : i < gn A t) (hK : ∀ σ', zOnly zQct σ σ' → σ'.2.2.2 = σ.2.2.2 → zPC A t σ' → K (iI (suV A t i)) σ') : zCi true (d + 3) 0 0 M_X7_sureCell [.inr (.inr (11, 0)), .inl (nI i)] σ K := by
  obtain ⟨h9, f4, f40, f6, f7, fF, fl⟩ := hP.F hs
  exact zC_intro pl_X7 (Nat.le_of_ble_eq_true rfl) (T_X7_sureCell_0 (S_X7_count hP hs (fun σ' o h p z => L_X7_sure6 h9 hi (p.F hs).2.2.2.2.2.1.1 fl (fun c hc => z i c hi hc) ⟨_, rfl, hK σ' o h p⟩ 64 0 rfl (fun _ c hc => absurd hc (Nat.not_lt_zero c)))))
theorem S_X7_possible {K : Int32 → zSt → Prop} {t i : Nat} (hP : zPC A t σ) (hs : ¬ spB A t) (hi : i < gn A t) (hK : ∀ σ', zOnly zQct σ σ' → σ'.2.2.2 = σ.2.2.2 → zPC A t σ' → K (nI (coV A t i)) σ') : zCi true (d + 3) 0 0 M_X7_possible [.inr (.inr (11, 0)), .inl (nI i)] σ K := by
  obtain ⟨h9, f4, f40, f6, f7, fF, fl⟩ := hP.F hs
  exact zC_intro pl_X7 (Nat.le_of_ble_eq_true rfl) (T_X7_possible_0 (S_X7_count hP hs (fun σ' o h p z => L_X7_poss8 h9 hi fl (fun c hc => z i c hi hc) ⟨_, rfl, hK σ' o h p⟩ 64 0 rfl)))
theorem S_X7_worst {K : Int32 → zSt → Prop} {t i : Nat} (hP : zPC A t σ) (hs : ¬ spB A t) (hi : i < gn A t) (hK : ∀ σ', zOnly zQct σ σ' → σ'.2.2.2 = σ.2.2.2 → zPC A t σ' → K (nI (woV A t i)) σ') : zCi true (d + 3) 0 0 M_X7_worst [.inr (.inr (11, 0)), .inl (nI i)] σ K := by
  obtain ⟨h9, f4, f40, f6, f7, fF, fl⟩ := hP.F hs
  exact zC_intro pl_X7 (Nat.le_of_ble_eq_true rfl) (T_X7_worst_0 (S_X7_count hP hs (fun σ' o h p z => L_X7_worst8 h9 hi fl (fun c hc => z i c hi hc) ⟨_, rfl, hK σ' o h p⟩ 64 0 rfl)))
theorem woV_le {t : Nat} (hs : ¬ spB A t) (i : Nat) : woV A t i ≤ 60000 := Nat.le_trans (mxN_le (f := cnO (plF A t) i) (b := (plF A t).length) (fun c => cnO_le _ _ c) 64) (plF_le hs)
theorem L_X7_bestA {t : Nat} (hs : ¬ spB A t) {σ0 : zSt} (hQ : ∀ σ', zOnly zQct σ0 σ' → σ'.2.2.2 = σ0.2.2.2 → zPC A t σ' → Q (some (.inl (nI (bsN (woV A t) (gn A t))))) σ') : ∀ (n k : Nat), k + n = gn A t → 0 < k → ∀ σ : zSt, zOnly zQct σ0 σ → σ.2.2.2 = σ0.2.2.2 → zPC A t σ → zE true (d + 4) kc ks M_X7_bestAsked 10 [some (.inr (.inr (11, 0))), some (.inl (nI (bsN (woV A t) k))), some (.inl (nI (woV A t (bsN (woV A t) k)))), some (.inl (nI k)), none] [] σ Q := by
  intro n
  induction n with
  | zero =>
    intro k hk h0 σ ho hh hP
    have : k = gn A t := by omega
    subst this
    exact T_X7_bestAsked_10 ⟨fun _ => hQ σ ho hh hP, fun g => absurd (by rw [(hP.F hs).2.1]; exact Int32.le_refl _) g⟩
  | succ n ih =>
    intro k hk h0 σ ho hh hP
    obtain ⟨h9, f4, f40, f6, f7, fF, fl⟩ := hP.F hs
    have w1 := woV_le hs k
    have w2 := woV_le hs (bsN (woV A t) k)
    refine T_X7_bestAsked_10 ⟨fun g => ?_, fun _ => S_X7_worst hP hs (by omega) (fun σ' o h p => ?_)⟩
    · rw [f4, nI_leI (by omega) (by omega)] at g
      omega
    · rw [← nI_succ, nI_leI (by omega) (by omega)]
      have eb : bsN (woV A t) (k + 1) = if woV A t k < woV A t (bsN (woV A t) k) then k else bsN (woV A t) k := rfl
      have go := ih (k + 1) (by omega) (by omega) σ' (ho.tr o) (h.trans hh) p
      refine ⟨fun g => ?_, fun g => ?_⟩
      · rw [if_neg (by omega)] at eb
        rw [eb] at go
        exact go
      · rw [if_pos (by omega)] at eb
        rw [eb] at go
        exact go
theorem S_X7_bestAsked {K : Int32 → zSt → Prop} {t : Nat} (ht : t < aN A) (hP : zPC A t σ) (hs : ¬ spB A t) (hK : ∀ σ', zOnly zQct σ σ' → σ'.2.2.2 = σ.2.2.2 → zPC A t σ' → K (nI (bsN (woV A t) (gn A t))) σ') : zCi true (d + 4) 0 0 M_X7_bestAsked [.inr (.inr (11, 0))] σ K := by
  have hp := gn_pos ht
  refine zC_intro pl_X7 (Nat.le_of_ble_eq_true rfl) (T_X7_bestAsked_0 (S_X7_worst (i := 0) hP hs hp (fun σ1 o1 h1 p1 => ?_)))
  have e1 : bsN (woV A t) 1 = 0 := by
    show (if woV A t 0 < woV A t 0 then 0 else 0) = 0
    split <;> rfl
  have := L_X7_bestA (d := d) (kc := 0) (ks := 0) (Q := fun r σ' => ∃ x, r = some (.inl x) ∧ K x σ') hs (σ0 := σ) (fun σ' o h p => ⟨_, rfl, hK σ' o h p⟩) (gn A t - 1) 1 (by omega) (by omega) σ1 o1 h1 p1
  rw [e1] at this
  exact this
theorem L_X7_goT {t i j c e : Nat} (h9 : gn A t ≤ 9) (hi : i < gn A t) (hj : j < gn A t) (hc : c < 64) (he : e < 64) (hF : zFo A t σ (plF A t)) (hl : (plF A t).length ≤ 60000) (hQ : Q (some (.inl (zb (cnP (plF A t) i j c e = true)))) σ) : ∀ (m n : Nat), n + m = (plF A t).length → cnP ((plF A t).take n) i j c e = false → zE true (d + 2) kc ks M_X7_goTogether 3 [some (.inr (.inr (11, 0))), some (.inl (nI i)), some (.inl (nI c)), some (.inl (nI j)), some (.inl (nI e)), some (.inl (nI n))] [] σ Q := by
  intro m
  induction m with
  | zero =>
    intro n hn hno
    have : n = (plF A t).length := by omega
    subst this
    rw [List.take_length] at hno
    rw [hno] at hQ
    exact T_X7_goTogether_3 ⟨fun _ => hQ, fun g => absurd (by rw [hF.1]; exact Int32.le_refl _) g⟩
  | succ m ih =>
    intro n hn hno
    obtain ⟨s, hs⟩ : ∃ s, (plF A t)[n]? = some s := ⟨_, List.getElem?_eq_getElem (show n < (plF A t).length by omega)⟩
    have si := (hF.2 n s hs).2 i hi
    have sj := (hF.2 n s hs).2 j hj
    have add := cnP_add ((plF A t).take n) s i j c e
    rw [← tk_succ hs, hno, Bool.false_or, decide_eq_true (show (0 : Int) ≤ (i : Int) by omega), Bool.true_and, Int.toNat_natCast, Int.toNat_natCast] at add
    refine T_X7_goTogether_3 ⟨fun g => ?_, fun _ => S_X7_cellIn h9 hF hl hs hi ⟨fun g => ?_, fun g => S_X7_cellIn h9 hF hl hs hj ⟨fun g2 => ?_, fun g2 => ?_⟩⟩⟩
    · rw [hF.1, nI_leI (by omega) (by omega)] at g
      omega
    · rw [nI_eqI (by omega) (by omega)] at g
      rw [← nI_succ]
      refine ih (n + 1) (by omega) ?_
      rw [add, decide_eq_false g]
      rfl
    · rw [nI_eqI (by omega) (by omega)] at g2
      rw [← nI_succ]
      refine ih (n + 1) (by omega) ?_
      rw [add, decide_eq_false g2, Bool.and_false]
    · rw [nI_eqI (by omega) (by omega)] at g g2
      have yes : cnP (plF A t) i j c e = true := by
        unfold cnP
        rw [decide_eq_true (show (0 : Int) ≤ (i : Int) by omega), Bool.true_and, List.any_eq_true]
        refine ⟨s, List.mem_of_getElem? hs, ?_⟩
        rw [Int.toNat_natCast, Int.toNat_natCast, decide_eq_true g, decide_eq_true g2]
        rfl
      rw [yes] at hQ
      exact hQ
theorem S_X7_goTogether {K : Int32 → zSt → Prop} {t i j c e : Nat} (hP : zPC A t σ) (hs : ¬ spB A t) (hi : i < gn A t) (hj : j < gn A t) (hc : c < 64) (he : e < 64) (hK : K (zb (cnP (plF A t) i j c e = true)) σ) : zCi true (d + 2) 0 0 M_X7_goTogether [.inr (.inr (11, 0)), .inl (nI i), .inl (nI c), .inl (nI j), .inl (nI e)] σ K := by
  obtain ⟨h9, f4, f40, f6, f7, fF, fl⟩ := hP.F hs
  refine zC_intro pl_X7 (Nat.le_of_ble_eq_true rfl) (T_X7_goTogether_0 (L_X7_goT h9 hi hj hc he fF fl ⟨_, rfl, hK⟩ (plF A t).length 0 (by omega) ?_))
  unfold cnP
  simp
end zPw2
