/-! the least quarrel and liars, as the reference finds them -/
section zMc
variable {d kc ks : Nat} {σ : zSt} {A : zAb} {Q : Option zV → zSt → Prop}
abbrev zJm (c _j k : Nat) : Prop := (72 ≤ c ∧ c ≤ 78) ∨ c = 80 ∨ (c = 54 ∧ (k = 26 ∨ k = 35))
theorem L_X12_judge38 (hW : zWf A) {σ0 : zSt} (hR : zRM A σ0) (hQ : ∀ σ', zOnly zJm σ0 σ' → zLdI A σ' → zgi σ' 54 0 26 = zgi σ0 54 0 26 → zgi σ' 54 0 35 = iI (lqN A) → (∀ m, m < aM A → zgi σ' 80 0 m = zb (lqB A m = true)) → Q none σ') : ∀ (n k : Nat), k + n = aM A → ∀ σ : zSt, zOnly zJm σ0 σ → zLdI A σ → zgi σ 54 0 26 = zgi σ0 54 0 26 → (quB A (mO A) = true → zUs A σ (lqU A k)) → zgi σ 54 0 35 = iI (if quB A (mO A) = true then (fb_ct (lqB A) k : Int) else -9) → (∀ m, m < k → zgi σ 80 0 m = zb (lqB A m = true)) → zE true (d + 8) kc ks M_X12_judge 38 [some (.inr (.inr (54, 0))), some (.inl (zb (quB A (mO A) = true))), some (.inl (nI k))] [] σ Q := by
  have hM : aM A ≤ 60 := hW.1.2.2.2.2.2.1
  intro n
  induction n with
  | zero =>
    intro k hk σ ho hl hf hU hn hz
    have hR2 : zRM A σ := hR.only ho (fun c k hb => by unfold zBM at hb; unfold zJm; omega)
    have : k = aM A := by omega
    subst this
    exact T_X12_judge_38 ⟨fun _ => hQ σ ho hl hf hn hz, fun h => absurd (by rw [hR2.1.2.2.2.1]; exact Int32.le_refl _) h⟩
  | succ n ih =>
    intro k hk σ ho hl hf hU hn hz
    have hR2 : zRM A σ := hR.only ho (fun c k hb => by unfold zBM at hb; unfold zJm; omega)
    have hkM : k < aM A := by omega
    have i60 : vp_in (nI k) 60 := nI_in (by omega) (by omega)
    have e6 := (hR2.2.2.1 k hkM).2.2.2.2.2
    have hlq : lqB A k = (quB A (mO A) && lqU A (k + 1) k) := by unfold lqB; rw [lqU_end A (by omega : k < k + 1) (by omega)]
    have hstep : lqU A (k + 1) k = (mO A k && !quB A (fun j => if j = k then false else lqU A k j)) := by
      show (if k = k then _ else _) = _
      rw [if_pos rfl]
    refine T_X12_judge_38 ⟨fun g => ?_, fun _ => ?_⟩
    · rw [hR2.1.2.2.2.1, nI_leI (by omega) (by omega)] at g
      omega
    · rw [nI_clamp (show k < 2 ^ 31 by omega), e6, zb_0, zb_0, ← nI_succ]
      refine ⟨i60, fun _ => i60, fun g => ?_, fun g => ?_⟩
      · have hb : lqB A k = false := by
          rw [hlq, hstep]
          rcases g with g | g
          · rw [Bool.not_eq_true] at g; rw [g, Bool.false_and]
          · rw [Bool.not_eq_true] at g; rw [g, Bool.false_and, Bool.and_false]
        have o2 : zOnly zJm σ (zsi σ 80 0 k 0) := zOnly.si (by unfold zJm; omega)
        refine ih (k + 1) (by omega) _ (ho.tr o2) (hl.only (zOnly.si (m := fun c _ _ => c = 80) rfl) (fun k => by omega)) (by rw [zgi_si, if_neg (by omega)]; exact hf) (fun q m hm => ?_) ?_ (fun m hm => ?_)
        · rw [zgi_si, if_neg (by omega), hU q m hm]
          by_cases z : m = k
          · subst z
            have hb2 : lqU A (m + 1) m = false := by
              rw [hlq, q] at hb
              simpa using hb
            have : mO A m = false := by
              rcases g with g | g
              · exact absurd q g
              · simpa using g
            rw [lqU_on A m m (Nat.le_refl _), this, hb2]
          · have : lqU A (k + 1) m = lqU A k m := by
              show (if m = k then _ else _) = _
              rw [if_neg z]
            rw [this]
        · rw [zgi_si, if_neg (by omega), hn, fb_ct_succ, hb]
          simp
        · rw [zgi_si]
          by_cases z : m = k
          · subst z
            rw [if_pos ⟨rfl, rfl, rfl⟩, hb]
            rfl
          · rw [if_neg (fun w => z w.2.2)]
            exact hz m (by omega)
      · have q : quB A (mO A) = true := Decidable.not_not.mp (fun z => g (Or.inl z))
        have g2 : mO A k = true := Decidable.not_not.mp (fun z => g (Or.inr z))
        have o2 : zOnly zJm σ (zsi (zsi σ 80 0 k 0) 77 0 k 0) := (zOnly.si (by unfold zJm; omega)).tr (zOnly.si (by unfold zJm; omega))
        have hR3 := hR2.only o2 (fun c k hb => by unfold zBM at hb; unfold zJm; omega)
        have hl3 : zLdI A (zsi (zsi σ 80 0 k 0) 77 0 k 0) := hl.only (M := fun c _ _ => c = 80 ∨ c = 77) ((zOnly.si (Or.inl rfl)).tr (zOnly.si (Or.inr rfl))) (fun k => by omega)
        have hU3 : zUs A (zsi (zsi σ 80 0 k 0) 77 0 k 0) (fun j => if j = k then false else lqU A k j) := fun m hm => by
          show _ = zb ((if m = k then false else lqU A k m) = true)
          rw [zgi_si]
          by_cases z : m = k
          · rw [if_pos ⟨rfl, rfl, z⟩, if_pos z]; rfl
          · rw [if_neg (fun w => z w.2.2), zgi_si, if_neg (by omega), if_neg z]
            exact hU q m hm
        refine ⟨i60, S_X12_narrow hW hR3 hl3 hU3 (fun σ' o4 l4 x4 y hy => ?_)⟩
        have ey : y = zb (lqB A k = true) := by
          rw [hy]
          apply zb_of0
          rw [zb_0, Decidable.not_not, hlq, hstep, q, g2]
          simp
        have r80 : zgi (zsi σ' 80 0 k y) 80 0 k = y := by rw [zgi_si, if_pos ⟨rfl, rfl, rfl⟩]
        rw [r80]
        refine ⟨i60, i60, i60, by rw [ey]; exact zb_01, i60, fun w hw => ?_⟩
        have ew : w = nI (if lqB A k = true then 1 else 0) := by
          rw [hw, ey]
          by_cases z : lqB A k = true
          · rw [if_neg (by rw [zb_0]; exact fun p => p z), if_pos z]; rfl
          · rw [if_pos (by rw [zb_0]; exact z), if_neg z]; rfl
        have hoo : zOnly zJm σ0 σ' := (ho.tr o2).tr (o4.mono (fun c j e h => by unfold zNm1 at h; unfold zJm; omega))
        have e35 : zgi σ' 54 0 35 = nI (fb_ct (lqB A) k) := by
          rw [o4.i 54 0 35 (by unfold zNm1; omega), zgi_si, if_neg (by omega), zgi_si, if_neg (by omega), hn, if_pos q, iI_nat]
        rw [e35, ew, nI_add]
        refine ih (k + 1) (by omega) _ (((hoo.tr (zOnly.si (by unfold zJm; omega))).tr (zOnly.si (by unfold zJm; omega))).tr (zOnly.si (by unfold zJm; omega))) (l4.only (M := fun c _ _ => c = 80 ∨ c = 77 ∨ c = 54) (((zOnly.si (Or.inl rfl)).tr (zOnly.si (Or.inr (Or.inl rfl)))).tr (zOnly.si (Or.inr (Or.inr rfl)))) (fun k => by omega)) ?_ (fun _ m hm => ?_) ?_ (fun m hm => ?_)
        · rw [zgi_si, if_neg (by omega), zgi_si, if_neg (by omega), zgi_si, if_neg (by omega), o4.i 54 0 26 (by unfold zNm1; omega), zgi_si, if_neg (by omega), zgi_si, if_neg (by omega)]
          exact hf
        · rw [zgi_si, if_neg (by omega), zgi_si]
          by_cases z : m = k
          · subst z
            rw [if_pos ⟨rfl, rfl, rfl⟩, ey, hlq, q, Bool.true_and]
          · rw [if_neg (fun w => z w.2.2), zgi_si, if_neg (by omega), o4.i 77 0 m (by unfold zNm1; omega), hU3 m hm]
            show zb ((if m = k then false else lqU A k m) = true) = _
            rw [if_neg z]
            have : lqU A (k + 1) m = lqU A k m := by
              show (if m = k then _ else _) = _
              rw [if_neg z]
            rw [this]
        · rw [zgi_si, if_pos ⟨rfl, rfl, rfl⟩, if_pos q, fb_ct_succ]
          rfl
        · rw [zgi_si, if_neg (by omega), zgi_si, if_neg (by omega), zgi_si]
          by_cases z : m = k
          · subst z
            rw [if_pos ⟨rfl, rfl, rfl⟩, ey]
          · rw [if_neg (fun w => z w.2.2), o4.i 80 0 m (by unfold zNm1; omega), zgi_si, if_neg (by omega), zgi_si, if_neg (fun w => z w.2.2)]
            exact hz m (by omega)
theorem S_X12_judge {K : zSt → Prop} (hW : zWf A) (hR : zRM A σ) (hC : zCM A σ) (hK : ∀ σ', zOnly zQm σ σ' → zCM A σ' → zgi σ' 54 0 35 = iI (lqN A) → (∀ m, m < aM A → zgi σ' 80 0 m = zb (lqB A m = true)) → K σ') : zCv true (d + 8) 0 0 M_X12_judge [.inr (.inr (54, 0))] σ K := by
  refine zC_intro pl_X12 (Nat.le_of_ble_eq_true rfl) (T_X12_judge_0 ⟨fun _ => ?_, fun g => ⟨rfl, hK σ zOnly.rf hC (hC.2.2.1 g).1 (hC.2.2.1 g).2⟩⟩)
  have o0 : zOnly (fun c _ k => c = 54 ∧ k = 26) σ (zsi σ 54 0 26 1) := zOnly.si ⟨rfl, rfl⟩
  have hR0 : zRM A (zsi σ 54 0 26 1) := hR.only o0 (fun c k hb => by unfold zBM at hb; omega)
  refine S_X12_useAll hW hR0 (fun σ1 o1 u1 => ?_)
  have hR1 : zRM A σ1 := hR0.only o1 (fun c k hb => by unfold zBM at hb; omega)
  have hl1 : zLdI A σ1 := (hC.1.only o0 (fun k => by omega)).only o1 (fun k => by omega)
  refine S_X12_narrow hW hR1 hl1 u1 (fun σ2 o2 l2 x2 y hy => ?_)
  have hR2 : zRM A σ2 := hR1.only o2 (fun c k hb => by unfold zBM at hb; unfold zNm1; omega)
  have ho : zOnly zJm σ (zsi σ2 54 0 35 y) := (((o0.mono (fun c j k h => by unfold zJm; omega)).tr (o1.mono (fun c j k h => by unfold zJm; omega))).tr (o2.mono (fun c j k h => by unfold zNm1 at h; unfold zJm; omega))).tr (zOnly.si (by unfold zJm; omega))
  have e26 : zgi (zsi σ2 54 0 35 y) 54 0 26 = 1 := by
    rw [zgi_si, if_neg (by omega), o2.i 54 0 26 (by unfold zNm1; omega), o1.i 54 0 26 (by omega), zgi_si, if_pos ⟨rfl, rfl, rfl⟩]
  have hR3 : zRM A (zsi σ2 54 0 35 y) := hR2.only (zOnly.si (m := fun c _ k => c = 54 ∧ k = 35) ⟨rfl, rfl⟩) (fun c k hb => by unfold zBM at hb; omega)
  refine L_X12_judge38 (A := A) (Q := fun r σ' => r = none ∧ K σ') hW hR3 (fun σ3 o3 l3 f3 n3 z3 => ⟨rfl, ?_⟩) (aM A) 0 (by omega) _ zOnly.rf (l2.only (zOnly.si (m := fun c _ k => c = 54 ∧ k = 35) ⟨rfl, rfl⟩) (fun k => by omega)) rfl (fun _ m hm => ?_) ?_ (fun m hm => absurd hm (Nat.not_lt_zero m))
  · have oo := ho.tr o3
    exact hK σ3 (oo.mono (fun c j k h => by unfold zJm at h; unfold zQm; omega)) ⟨l3, hC.2.1.only oo ⟨by unfold zJm; omega, fun k => by unfold zJm; omega⟩, fun _ => ⟨n3, z3⟩, hC.2.2.2.only oo ⟨by unfold zJm; omega, by unfold zJm; omega, by unfold zJm; omega, fun k => by unfold zJm; omega⟩⟩ n3 z3
  · rw [zgi_si, if_neg (by omega), o2.i 77 0 m (by unfold zNm1; omega)]
    exact u1 m hm
  · rw [zgi_si, if_pos ⟨rfl, rfl, rfl⟩, hy]
    by_cases q : quB A (mO A) = true
    · rw [if_neg (by rw [zb_0]; exact fun z => z q), if_pos q]; rfl
    · rw [if_pos (by rw [zb_0]; exact q), if_neg q]; rfl
theorem O_X12_quarrel {K : Int32 → zSt → Prop} (hW : zWf A) (hR : zRM A σ) (hC : zCM A σ) (hK : ∀ σ', zOnly zQm σ σ' → zCM A σ' → K (iI (lqN A)) σ') : zCi true (d + 9) 0 0 M_X12_quarrel [.inr (.inr (54, 0))] σ K :=
  zC_intro pl_X12 (Nat.le_of_ble_eq_true rfl) (T_X12_quarrel_0 (S_X12_judge hW hR hC (fun σ' o1 c1 e1 _ => ⟨_, rfl, by rw [e1]; exact hK σ' o1 c1⟩)))
/-- what is told of a measure -/
noncomputable def tdV (A : zAb) (m : Nat) (e : Int32) : Int32 := if e = 0 then nI (mK A m) else if e = 1 then nI (mA A m) else if e = 2 then nI (mB A m) else if e = 3 then nI (mP A m) else if e = 4 then nI (mQ A m) else if e = 5 then zb (mO A m = true) else if e = 6 then zb (lqB A m = true) else -2
theorem O_X12_told {K : Int32 → zSt → Prop} (hW : zWf A) (hR : zRM A σ) (hC : zCM A σ) (a e : Int32) (hno : ¬ mI A a = true → K (-1) σ) (hyes : ∀ m, m < aM A → a = nI m → ∀ σ', zOnly zQm σ σ' → zCM A σ' → K (tdV A m e) σ') : zCi true (d + 9) 0 0 M_X12_told [.inr (.inr (54, 0)), .inl (a), .inl (e)] σ K := by
  have hM : aM A ≤ 60 := hW.1.2.2.2.2.2.1
  refine zC_intro pl_X12 (Nat.le_of_ble_eq_true rfl) (T_X12_told_0 (S_X12_noMeasure hW hR a ⟨fun h => ?_, fun h => ⟨_, rfl, hno ?_⟩⟩))
  · rw [zb_0, Decidable.not_not] at h
    obtain ⟨m, hm, rfl⟩ := mI_nI h
    obtain ⟨r1, r2, r3, r4, r5, r6⟩ := hR.2.2.1 m hm
    have i60 : vp_in (nI m) 60 := nI_in (by omega) (by omega)
    have hy := hyes m hm rfl σ zOnly.rf hC
    rw [nI_clamp (show m < 2 ^ 31 by omega), r1, r2, r3, r4, r5]
    refine ⟨fun q => ⟨i60, _, rfl, ?_⟩, fun q => ⟨i60, _, rfl, ?_⟩, fun q => ⟨i60, _, rfl, ?_⟩, fun q => ⟨i60, _, rfl, ?_⟩, fun q => ⟨i60, _, rfl, ?_⟩, fun q => ⟨i60, fun x hx => ⟨_, rfl, ?_⟩⟩, fun q => S_X12_judge hW hR hC (fun σ' o1 c1 _ e2 => ⟨i60, fun x hx => ⟨_, rfl, ?_⟩⟩), fun q0 q1 q2 q3 q4 q5 q6 => ⟨_, rfl, ?_⟩⟩
    · subst q; exact hy
    · subst q; exact hy
    · subst q; exact hy
    · subst q; exact hy
    · subst q; exact hy
    · subst q
      rw [hx, r6, zb_of0 (P := mO A m = true) (by rw [zb_0])]
      exact hy
    · subst q
      rw [hx, e2 m hm, zb_of0 (P := lqB A m = true) (by rw [zb_0])]
      exact hyes m hm rfl σ' o1 c1
    · have : tdV A m e = -2 := by unfold tdV; rw [if_neg q0, if_neg q1, if_neg q2, if_neg q3, if_neg q4, if_neg q5, if_neg q6]
      rw [this] at hy
      exact hy
  · rw [zb_0, Decidable.not_not] at h
    exact h
end zMc
