/-! placings (class): the pair that tells most -/
theorem zdc_n {a b : Nat} (ha : a < 64) (hb : b < 64) : zdc (nI a) (nI b) = nI (zdist a b) := by
  have h : ∀ a, a < 64 → ∀ b, b < 64 → zdc (nI a) (nI b) = nI (zdist a b) := by decide +kernel
  exact h a ha b hb
theorem bpJ_ne {A : zAb} {t i : Nat} : ∀ (n : Nat) (b : Option Nat), b ≠ none → bpJ A t i n b ≠ none
  | 0, b, h => h
  | n + 1, b, h => by
    unfold bpJ
    refine bpJ_ne n _ ?_
    cases b with
    | none => exact absurd rfl h
    | some k =>
      simp only
      split <;> (intro q; cases q)
theorem bpI_ne {A : zAb} {t : Nat} : ∀ (n : Nat) (b : Option Nat), b ≠ none → bpI A t n b ≠ none
  | 0, b, h => h
  | n + 1, b, h => by
    unfold bpI
    exact bpI_ne n _ (bpJ_ne _ _ h)
theorem bpI_some {A : zAb} {t : Nat} (h : 2 ≤ gn A t) : bpI A t (gn A t) none ≠ none := by
  obtain ⟨g, hg⟩ : ∃ g, gn A t = g + 2 := ⟨gn A t - 2, by omega⟩
  rw [hg]
  show bpI A t (g + 1) (bpJ A t (gn A t - (g + 1 + 1)) (gn A t - (gn A t - (g + 1 + 1)) - 1) none) ≠ none
  refine bpI_ne _ _ ?_
  rw [show gn A t - (gn A t - (g + 1 + 1)) - 1 = g + 1 by omega]
  show bpJ A t _ g (some _) ≠ none
  exact bpJ_ne _ _ (by intro q; cases q)
section zPx2
variable {d kc ks : Nat} {σ : zSt} {A : zAb} {Q : Option zV → zSt → Prop}
abbrev z49 (c _j _k : Nat) : Prop := c = 49
theorem L_X7_most13 {t i j : Nat} (h9 : gn A t ≤ 9) (hi : i < gn A t) (hj : j < gn A t) {σ0 : zSt} (hF : zFo A t σ0 (plF A t)) (hl : (plF A t).length ≤ 60000) (hQ : ∀ σ', zOnly z49 σ0 σ' → σ'.2.2.2 = σ0.2.2.2 → Q (some (.inl (nI (mxN (cnD (plF A t) i j) 99)))) σ') : ∀ (m n : Nat), n + m = (plF A t).length → ∀ σ : zSt, zOnly z49 σ0 σ → σ.2.2.2 = σ0.2.2.2 → (∀ f, f < 99 → zgi σ 49 0 f = nI (cnD ((plF A t).take n) i j f)) → zE true (d + 2) kc ks M_X7_mostAtOneDistance 13 [some (.inr (.inr (11, 0))), some (.inl (nI i)), some (.inl (nI j)), some (.inl (nI (mxN (cnD ((plF A t).take n) i j) 99))), some (.inl (nI n)), none] [] σ Q := by
  intro m
  induction m with
  | zero =>
    intro n hn σ ho hh hz
    have : n = (plF A t).length := by omega
    subst this
    rw [List.take_length]
    exact T_X7_mostAtOneDistance_13 ⟨fun _ => hQ σ ho hh, fun g => absurd (by rw [ho.i 11 0 8 (by omega), hF.1]; exact Int32.le_refl _) g⟩
  | succ m ih =>
    intro n hn σ ho hh hz
    obtain ⟨s, hs⟩ : ∃ s, (plF A t)[n]? = some s := ⟨_, List.getElem?_eq_getElem (show n < (plF A t).length by omega)⟩
    have si := (hF.2 n s hs).2 i hi
    have sj := (hF.2 n s hs).2 j hj
    have dl := zdist_le si sj
    have hF1 : zFo A t σ (plF A t) := hF.only ho ⟨by omega, fun k => by omega⟩
    refine T_X7_mostAtOneDistance_13 ⟨fun g => ?_, fun _ => S_X7_cellIn h9 hF1 hl hs hi (S_X7_cellIn h9 hF1 hl hs hj ?_)⟩
    · rw [ho.i 11 0 8 (by omega), hF.1, nI_leI (by omega) (by omega)] at g
      omega
    · have v99 : vp_in (nI (zdist (s i) (s j))) 99 := nI_in (by omega) (by omega)
      rw [zdc_n si sj, nI_clamp (show zdist (s i) (s j) < 2 ^ 31 by omega)]
      refine ⟨v99, v99, v99, ?_⟩
      have c1 := cnD_le ((plF A t).take n) i j (zdist (s i) (s j))
      have c2 : ((plF A t).take n).length ≤ 60000 := by rw [List.length_take]; omega
      have c3 := mxN_le (f := cnD ((plF A t).take n) i j) (b := ((plF A t).take n).length) (fun f => cnD_le _ _ _ f) 99
      have ca : ∀ f, cnD ((plF A t).take (n + 1)) i j f = cnD ((plF A t).take n) i j f + (if zdist (s i) (s j) = f then 1 else 0) := fun f => by rw [tk_succ hs, cnD_add]
      have cd := ca (zdist (s i) (s j))
      rw [if_pos rfl] at cd
      have ex : zgi (zsi σ 49 0 (zdist (s i) (s j)) (zgi σ 49 0 (zdist (s i) (s j)) + 1)) 49 0 (zdist (s i) (s j)) = nI (cnD ((plF A t).take (n + 1)) i j (zdist (s i) (s j))) := by
        rw [zgi_si, if_pos ⟨rfl, rfl, rfl⟩, hz _ (by omega), cd, nI_succ]
      rw [ex, ← nI_succ]
      have cc : (nI (mxN (cnD ((plF A t).take n) i j) 99) < nI (cnD ((plF A t).take (n + 1)) i j (zdist (s i) (s j)))) ↔ mxN (cnD ((plF A t).take n) i j) 99 < cnD ((plF A t).take (n + 1)) i j (zdist (s i) (s j)) := nI_ltI (by omega) (by omega)
      have em : (if nI (mxN (cnD ((plF A t).take n) i j) 99) < nI (cnD ((plF A t).take (n + 1)) i j (zdist (s i) (s j))) then nI (cnD ((plF A t).take (n + 1)) i j (zdist (s i) (s j))) else nI (mxN (cnD ((plF A t).take n) i j) 99)) = nI (mxN (cnD ((plF A t).take (n + 1)) i j) 99) := by
        rw [mxN_up (f := cnD ((plF A t).take n) i j) (g := cnD ((plF A t).take (n + 1)) i j) (d := zdist (s i) (s j)) (by omega) (by omega) (fun f hf => by rw [ca f, if_neg (fun q => hf q.symm)]; rfl)]
        by_cases z : mxN (cnD ((plF A t).take n) i j) 99 < cnD ((plF A t).take (n + 1)) i j (zdist (s i) (s j))
        · rw [if_pos (cc.mpr z), if_pos z]
        · rw [if_neg (fun q => z (cc.mp q)), if_neg z]
      rw [em]
      refine ih (n + 1) (by omega) _ (ho.tr (zOnly.si rfl)) hh (fun f hf => ?_)
      rw [zgi_si, ca f]
      by_cases e : f = zdist (s i) (s j)
      · rw [if_pos ⟨rfl, rfl, e⟩, if_pos e.symm, e, hz _ (by omega), nI_succ]
      · rw [if_neg (fun q => e q.2.2), if_neg (fun q => e q.symm)]
        exact hz f hf
theorem S_X7_most {K : Int32 → zSt → Prop} {t i j : Nat} (hP : zPC A t σ) (hs : ¬ spB A t) (hi : i < gn A t) (hj : j < gn A t) (hK : ∀ σ', zOnly z49 σ σ' → σ'.2.2.2 = σ.2.2.2 → K (nI (mxN (cnD (plF A t) i j) 99)) σ') : zCi true (d + 2) 0 0 M_X7_mostAtOneDistance [.inr (.inr (11, 0)), .inl (nI i), .inl (nI j)] σ K := by
  obtain ⟨h9, f4, f40, f6, f7, fF, fl⟩ := hP.F hs
  refine zC_intro pl_X7 (Nat.le_of_ble_eq_true rfl) (T_X7_mostAtOneDistance_0 (S_J7_fill (N := 99) rfl (by omega) rfl (by omega) (fun σ1 o1 h1 z1 => ?_)))
  have o2 : zOnly z49 σ σ1 := o1.mono (fun c j k h => h.1)
  have e0 : mxN (cnD ((plF A t).take 0) i j) 99 = 0 := Nat.le_zero.mp (mxN_le (fun c => Nat.zero_le 0 |> fun _ => by unfold cnD; simp) 99)
  have := L_X7_most13 (d := d) (kc := 0) (ks := 0) (Q := fun r σ' => ∃ x, r = some (.inl x) ∧ K x σ') h9 hi hj (σ0 := σ1) (fF.only o2 ⟨by omega, fun k => by omega⟩) fl (fun σ' o h => ⟨_, rfl, hK σ' (o2.tr o) (h.trans h1)⟩) (plF A t).length 0 (by omega) σ1 zOnly.rf rfl (fun f hf => by rw [z1 f hf]; unfold cnD; simp; rfl)
  rw [e0] at this
  exact this
/-- the best pair so far -/
def bpS (A : zAb) (t : Nat) (σ : zSt) (b : Option Nat) : Prop := match b with
  | none => zgi σ 48 0 2 = 2147483647
  | some k => k / 9 < gn A t ∧ k % 9 < gn A t ∧ zgi σ 48 0 0 = nI (mbr A t (k / 9)) ∧ zgi σ 48 0 1 = nI (mbr A t (k % 9)) ∧ zgi σ 48 0 2 = nI (btV A t k)
theorem bpS.only {t : Nat} {σ' : zSt} {b : Option Nat} {M : Nat → Nat → Nat → Prop} (h : bpS A t σ b) (ho : zOnly M σ σ') (hm : ∀ k, ¬ M 48 0 k) : bpS A t σ' b := by
  cases b with
  | none =>
    show zgi σ' 48 0 2 = 2147483647
    rw [ho.i 48 0 2 (hm 2)]
    exact h
  | some k =>
    obtain ⟨q1, q2, q3, q4, q5⟩ := h
    refine ⟨q1, q2, ?_, ?_, ?_⟩
    · rw [ho.i 48 0 0 (hm 0)]; exact q3
    · rw [ho.i 48 0 1 (hm 1)]; exact q4
    · rw [ho.i 48 0 2 (hm 2)]; exact q5
abbrev z4849 (c _j _k : Nat) : Prop := c = 48 ∨ c = 49
theorem btV_le {t : Nat} (hs : ¬ spB A t) (k : Nat) : btV A t k ≤ 60000 := Nat.le_trans (mxN_le (f := cnD (plF A t) (k / 9) (k % 9)) (b := (plF A t).length) (fun c => cnD_le _ _ _ c) 99) (plF_le hs)
/-- what compare needs of the group -/
theorem L_X7_cmp22 (hW : zWf A) {t i : Nat} (hs : ¬ spB A t) (hi : i < gn A t) {σ0 : zSt} (hP : zPC A t σ0) (hPo : ∀ σ', zOnly z4849 σ0 σ' → zgi σ' 11 0 16 = 0 → zPC A t σ') (h16 : zgi σ0 11 0 16 = 0) {b1 : Option Nat} (hnext : ∀ σ', zOnly z4849 σ0 σ' → σ'.2.2.2 = σ0.2.2.2 → bpS A t σ' b1 → zE true (d + 3) kc ks M_X7_compare 10 [some (.inr (.inr (11, 0))), some (.inl (nI (i + 1))), none, none] [] (σ') Q) : ∀ (n j : Nat), j + n = gn A t → i < j → ∀ (σ : zSt) (b : Option Nat), zOnly z4849 σ0 σ → σ.2.2.2 = σ0.2.2.2 → bpS A t σ b → bpJ A t i n b = b1 → zE true (d + 3) kc ks M_X7_compare 22 [some (.inr (.inr (11, 0))), some (.inl (nI i)), some (.inl (nI j)), none] [] σ Q := by
  have hN : aN A ≤ 24 := hW.1.2.2.2.2.1
  obtain ⟨h9, f4, f40, f6, f7, fF, fl⟩ := hP.F hs
  intro n
  induction n with
  | zero =>
    intro j hj hij σ b ho hh hb hbj
    have : j = gn A t := by omega
    subst this
    have : b = b1 := hbj
    subst this
    refine T_X7_compare_22 ⟨fun _ => ?_, fun g => absurd (by rw [ho.i 11 0 4 (by omega), f4]; exact Int32.le_refl _) g⟩
    rw [← nI_succ]
    exact hnext σ ho hh hb
  | succ n ih =>
    intro j hj hij σ b ho hh hb hbj
    have hP1 : zPC A t σ := hPo σ ho (by rw [ho.i 11 0 16 (by omega)]; exact h16)
    have ej : gn A t - (n + 1) = j := by omega
    have d1 : (9 * i + j) / 9 = i := by omega
    have d2 : (9 * i + j) % 9 = j := by omega
    have eb : mxN (cnD (plF A t) i j) 99 = btV A t (9 * i + j) := by unfold btV; rw [d1, d2]
    have bl := btV_le hs (9 * i + j)
    have e2 : (2 : Int32).toNatClampNeg = 2 := rfl
    have e1 : (1 : Int32).toNatClampNeg = 1 := rfl
    have e0 : (0 : Int32).toNatClampNeg = 0 := rfl
    have v23 : vp_in 2 3 := nI_in (c := 2) (by omega) (by omega)
    have v13 : vp_in 1 3 := nI_in (c := 1) (by omega) (by omega)
    have v03 : vp_in 0 3 := nI_in (c := 0) (by omega) (by omega)
    refine T_X7_compare_22 ⟨fun g => ?_, fun _ => S_X7_most hP1 hs hi (by omega) (fun σ1 o1 h1 => ⟨v23, ?_⟩)⟩
    · rw [ho.i 11 0 4 (by omega), f4, nI_leI (by omega) (by omega)] at g
      omega
    · have oo : zOnly z4849 σ0 σ1 := ho.tr (o1.mono (fun c j k h => Or.inr h))
      rw [e2, e1, e0, eb, nI_clamp (show i < 2 ^ 31 by omega), nI_clamp (show j < 2 ^ 31 by omega), ← nI_succ, oo.i 40 0 i (by omega), oo.i 40 0 j (by omega), f40 i hi, f40 j (by omega)]
      have hb1 : bpS A t σ1 b := hb.only o1 (fun k => by omega)
      have take : bpJ A t i n (some (9 * i + j)) = b1 → vp_in (nI i) 9 ∧ vp_in 0 3 ∧ vp_in (nI j) 9 ∧ vp_in 1 3 ∧ vp_in 2 3 ∧ zE true (d + 3) kc ks M_X7_compare 22 [some (.inr (.inr (11, 0))), some (.inl (nI i)), some (.inl (nI (j + 1))), none] [] (zsi (zsi (zsi σ1 48 0 0 (nI (mbr A t i))) 48 0 1 (nI (mbr A t j))) 48 0 2 (nI (btV A t (9 * i + j)))) Q := fun q =>
        ⟨nI_in (by omega) (by omega), v03, nI_in (by omega) (by omega), v13, v23, ih (j + 1) (by omega) (by omega) _ (some (9 * i + j)) (((oo.tr (zOnly.si (Or.inl rfl))).tr (zOnly.si (Or.inl rfl))).tr (zOnly.si (Or.inl rfl))) (h1.trans hh) ⟨by omega, by omega, by rw [d1]; simp [zgi_si], by rw [d2]; simp [zgi_si], by simp [zgi_si]⟩ q⟩
      unfold bpJ at hbj
      rw [ej] at hbj
      cases b with
      | none =>
        have q5 : zgi σ1 48 0 2 = 2147483647 := hb1
        rw [q5, show (2147483647 : Int32) = nI 2147483647 from rfl, nI_leI (by omega) (by omega)]
        exact ⟨fun g => by omega, fun _ => take hbj⟩
      | some k =>
        have hb2 := hb1
        obtain ⟨q1, q2, q3, q4, q5⟩ := hb1
        have bl2 := btV_le hs k
        rw [q5, nI_leI (by omega) (by omega)]
        simp only at hbj
        refine ⟨fun g => ?_, fun g => ?_⟩
        · rw [if_neg (by omega)] at hbj
          exact ih (j + 1) (by omega) (by omega) σ1 (some k) oo (h1.trans hh) hb2 hbj
        · rw [if_pos (by omega)] at hbj
          exact take hbj
theorem L_X7_cmp10 (hW : zWf A) {t : Nat} (hs : ¬ spB A t) {σ0 : zSt} (hP : zPC A t σ0) (hPo : ∀ σ', zOnly z4849 σ0 σ' → zgi σ' 11 0 16 = 0 → zPC A t σ') (h16 : zgi σ0 11 0 16 = 0) {b2 : Option Nat} (hQ : ∀ σ', zOnly z4849 σ0 σ' → σ'.2.2.2 = σ0.2.2.2 → bpS A t σ' b2 → Q none σ') : ∀ (n i : Nat), i + n = gn A t → ∀ (σ : zSt) (b : Option Nat), zOnly z4849 σ0 σ → σ.2.2.2 = σ0.2.2.2 → bpS A t σ b → bpI A t n b = b2 → zE true (d + 3) kc ks M_X7_compare 10 [some (.inr (.inr (11, 0))), some (.inl (nI i)), none, none] [] σ Q := by
  obtain ⟨h9, f4, f40, f6, f7, fF, fl⟩ := hP.F hs
  intro n
  induction n with
  | zero =>
    intro i hi σ b ho hh hb hbi
    have : i = gn A t := by omega
    subst this
    have : b = b2 := hbi
    subst this
    exact T_X7_compare_10 ⟨fun _ => hQ σ ho hh hb, fun g => absurd (by rw [ho.i 11 0 4 (by omega), f4]; exact Int32.le_refl _) g⟩
  | succ n ih =>
    intro i hi σ b ho hh hb hbi
    have ei : gn A t - (n + 1) = i := by omega
    have hbi : bpI A t n (bpJ A t (gn A t - (n + 1)) (gn A t - (gn A t - (n + 1)) - 1) b) = b2 := hbi
    rw [ei] at hbi
    have h16' : zgi σ 11 0 16 = 0 := by rw [ho.i 11 0 16 (by omega)]; exact h16
    refine T_X7_compare_10 ⟨fun g => ?_, fun _ => ?_⟩
    · rw [ho.i 11 0 4 (by omega), f4, nI_leI (by omega) (by omega)] at g
      omega
    · rw [← nI_succ]
      exact L_X7_cmp22 hW hs (by omega) (σ0 := σ) (hPo σ ho h16') (fun σ' o h => hPo σ' (ho.tr o) h) h16' (b1 := bpJ A t i (gn A t - i - 1) b) (fun σ1 o1 h1 hb1 => ih (i + 1) (by omega) σ1 _ (ho.tr o1) (h1.trans hh) hb1 hbi) (gn A t - (i + 1)) (i + 1) (by omega) (by omega) σ b zOnly.rf rfl hb (by rw [show gn A t - (i + 1) = gn A t - i - 1 by omega])
abbrev zQbb (c _j k : Nat) : Prop := c = 48 ∨ c = 49 ∨ (c = 11 ∧ k = 16)
theorem S_X7_bestBetween {K : Int32 → zSt → Prop} (hW : zWf A) {t : Nat} (hP : zPC A t σ) (hs : ¬ spB A t) (h2 : 2 ≤ gn A t) {e : Int32} (he : e = 0 ∨ e = 1 ∨ e = 2) (hK : ∀ σ', zOnly zQbb σ σ' → σ'.2.2.2 = σ.2.2.2 → zPC A t σ' → K (bwV A t e) σ') : zCi true (d + 4) 0 0 M_X7_bestBetween [.inr (.inr (11, 0)), .inl (e)] σ K := by
  obtain ⟨h9, f4, f40, f6, f7, fF, fl⟩ := hP.F hs
  have hl : (evT A t).length ≤ 60000 := by unfold spB at hs; omega
  have v3 : vp_in e 3 := by
    rcases he with rfl | rfl | rfl
    · exact nI_in (c := 0) (by omega) (by omega)
    · exact nI_in (c := 1) (by omega) (by omega)
    · exact nI_in (c := 2) (by omega) (by omega)
  have at3 : ∀ σ' : zSt, (zgi σ' 48 0 0 = bwV A t 0 ∧ zgi σ' 48 0 1 = bwV A t 1 ∧ zgi σ' 48 0 2 = bwV A t 2) → zgi σ' 48 0 e.toNatClampNeg = bwV A t e := fun σ' h => by
    rcases he with rfl | rfl | rfl
    · exact h.1
    · exact h.2.1
    · exact h.2.2
  refine zC_intro pl_X7 (Nat.le_of_ble_eq_true rfl) (T_X7_bestBetween_0 ⟨fun g => ⟨v3, _, rfl, ?_⟩, fun g => zC_intro pl_X7 (Nat.le_of_ble_eq_true rfl) (T_X7_compare_0 ⟨nI_in (c := 2) (by omega) (by omega), ?_⟩)⟩)
  · rw [at3 σ (((hP.2.2 h9).2.2 hl).2.2.2.2 g)]
    exact hK σ zOnly.rf rfl hP
  · have hPo : ∀ σ1 σ' : zSt, zPC A t σ1 → zOnly z4849 σ1 σ' → zgi σ' 11 0 16 = 0 → zPC A t σ' := fun σ1 σ' q o h => by
      obtain ⟨⟨p1, p2⟩, p3, p4⟩ := q
      have u := (p4 h9).2.2 hl
      refine ⟨⟨?_, ?_⟩, fun q => by omega, fun _ => ⟨fun i hi => ?_, fun y => absurd (Or.inr y) hs, fun y => ⟨?_, ?_, ?_, fun x i hi c hc => ?_, fun x => absurd h x⟩⟩⟩
      · rw [o.i 11 0 3 (by omega)]; exact p1
      · rw [o.i 11 0 4 (by omega)]; exact p2
      · rw [o.i 40 0 i (by omega)]; exact (p4 h9).1 i hi
      · rw [o.i 11 0 6 (by omega)]; exact u.1
      · rw [o.i 11 0 7 (by omega)]; exact u.2.1
      · exact u.2.2.1.only o ⟨by omega, fun k => by omega⟩
      · rw [o.i 11 0 14 (by omega)] at x
        rw [o.i 47 i c (by omega)]
        exact u.2.2.2.1 x i hi c hc
    have e2 : (2 : Int32).toNatClampNeg = 2 := rfl
    rw [e2]
    have o0 : zOnly z4849 σ (zsi σ 48 0 2 2147483647) := zOnly.si (Or.inl rfl)
    have g0 : zgi (zsi σ 48 0 2 2147483647) 11 0 16 = 0 := by rw [o0.i 11 0 16 (by omega)]; exact g
    refine L_X7_cmp10 hW hs (hPo σ _ hP o0 g0) (fun σ' o h => hPo _ σ' (hPo σ _ hP o0 g0) o h) g0 (b2 := bpI A t (gn A t) none) (fun σ3 o3 h3 hb3 => ⟨rfl, v3, _, rfl, ?_⟩) (gn A t) 0 (by omega) _ none zOnly.rf rfl (by show zgi _ 48 0 2 = _; rw [zgi_si, if_pos ⟨rfl, rfl, rfl⟩]) rfl
    have g3 : zgi σ3 11 0 16 = 0 := by rw [o3.i 11 0 16 (by omega)]; exact g0
    have P3 := hPo _ σ3 (hPo σ _ hP o0 g0) o3 g3
    have bw : zgi σ3 48 0 0 = bwV A t 0 ∧ zgi σ3 48 0 1 = bwV A t 1 ∧ zgi σ3 48 0 2 = bwV A t 2 := by
      unfold bwV
      cases hx : bpI A t (gn A t) none with
      | none => exact absurd hx (bpI_some h2)
      | some k =>
        rw [hx] at hb3
        obtain ⟨q1, q2, q3, q4, q5⟩ := hb3
        exact ⟨q3, q4, q5⟩
    rw [at3 σ3 bw]
    have oz : zOnly (fun c j k => c = 11 ∧ j = 0 ∧ k = 16) σ3 (zsi σ3 11 0 16 1) := zOnly.si ⟨rfl, rfl, rfl⟩
    refine hK _ (((o0.tr o3).mono (fun c j k h => by unfold zQbb; omega)).tr (oz.mono (fun c j k h => by unfold zQbb; omega))) h3 ?_
    obtain ⟨⟨p1, p2⟩, p3, p4⟩ := P3
    have u := (p4 h9).2.2 hl
    refine ⟨⟨?_, ?_⟩, fun q => by omega, fun _ => ⟨fun i hi => ?_, fun y => absurd (Or.inr y) hs, fun y => ⟨?_, ?_, ?_, fun x i hi c hc => ?_, fun x => ?_⟩⟩⟩
    · rw [oz.i 11 0 3 (by omega)]; exact p1
    · rw [oz.i 11 0 4 (by omega)]; exact p2
    · rw [oz.i 40 0 i (by omega)]; exact (p4 h9).1 i hi
    · rw [oz.i 11 0 6 (by omega)]; exact u.1
    · rw [oz.i 11 0 7 (by omega)]; exact u.2.1
    · exact u.2.2.1.only oz ⟨by omega, fun k => by omega⟩
    · rw [oz.i 11 0 14 (by omega)] at x
      rw [oz.i 47 i c (by omega)]
      exact u.2.2.2.1 x i hi c hc
    · rw [oz.i 48 0 0 (by omega), oz.i 48 0 1 (by omega), oz.i 48 0 2 (by omega)]
      exact bw
end zPx2
