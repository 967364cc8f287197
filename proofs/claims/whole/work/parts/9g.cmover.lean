/-! movers, and measures told by a sheet (class) -/
theorem mv_thing (X : zAb) (f n r k : Nat) (c m ti : Int) : aThing (aMv X f n r) k c m ti = aMv (aThing X k c m ti) f n r := by
  refine Prod.ext (funext fun i => ?_) (Prod.ext (funext fun b => funext fun i => ?_) rfl)
  · show (if i = 2 then aN X + 1 else if i = 4 then aV X + 1 else X.1 i) = (if i = 4 then aV X + 1 else if i = 2 then aN X + 1 else X.1 i)
    by_cases z : i = 2
    · rw [if_pos z, if_neg (by omega), if_pos z]
    · rw [if_neg z]
      by_cases z2 : i = 4
      · rw [if_pos z2, if_pos z2]
      · rw [if_neg z2, if_neg z2, if_neg z]
  · show (if i = aN X ∧ b = 0 then k else if i = aN X ∧ (b = 1 ∨ b = 2) then 0 else if i = aN X ∧ (b = 3 ∨ b = 4) then 7 else if i = aV X ∧ b = 10 then f else if i = aV X ∧ b = 11 then n else if i = aV X ∧ b = 12 then r else X.2.1 b i) = (if i = aV X ∧ b = 10 then f else if i = aV X ∧ b = 11 then n else if i = aV X ∧ b = 12 then r else if i = aN X ∧ b = 0 then k else if i = aN X ∧ (b = 1 ∨ b = 2) then 0 else if i = aN X ∧ (b = 3 ∨ b = 4) then 7 else X.2.1 b i)
    by_cases z : b < 10
    · rw [if_neg (show ¬ (i = aV X ∧ b = 10) by omega), if_neg (show ¬ (i = aV X ∧ b = 11) by omega), if_neg (show ¬ (i = aV X ∧ b = 12) by omega)]
      rw [if_neg (show ¬ (i = aV X ∧ b = 10) by omega), if_neg (show ¬ (i = aV X ∧ b = 11) by omega), if_neg (show ¬ (i = aV X ∧ b = 12) by omega)]
    · rw [if_neg (show ¬ (i = aN X ∧ b = 0) by omega), if_neg (show ¬ (i = aN X ∧ (b = 1 ∨ b = 2)) by omega), if_neg (show ¬ (i = aN X ∧ (b = 3 ∨ b = 4)) by omega)]
      rw [if_neg (show ¬ (i = aN X ∧ b = 0) by omega), if_neg (show ¬ (i = aN X ∧ (b = 1 ∨ b = 2)) by omega), if_neg (show ¬ (i = aN X ∧ (b = 3 ∨ b = 4)) by omega)]
theorem mv_meas (X : zAb) (f n r k a b2 p q : Nat) : aMeas (aMv X f n r) k a b2 p q = aMv (aMeas X k a b2 p q) f n r := by
  refine Prod.ext (funext fun i => ?_) (Prod.ext (funext fun b => funext fun i => ?_) rfl)
  · show (if i = 3 then aM X + 1 else if i = 4 then aV X + 1 else X.1 i) = (if i = 4 then aV X + 1 else if i = 3 then aM X + 1 else X.1 i)
    by_cases z : i = 3
    · rw [if_pos z, if_neg (by omega), if_pos z]
    · rw [if_neg z]
      by_cases z2 : i = 4
      · rw [if_pos z2, if_pos z2]
      · rw [if_neg z2, if_neg z2, if_neg z]
  · by_cases z : b < 10
    · have h1 : ∀ Y : zAb, (aMv Y f n r).2.1 b i = Y.2.1 b i := fun Y => by
        show (if i = aV Y ∧ b = 10 then f else if i = aV Y ∧ b = 11 then n else if i = aV Y ∧ b = 12 then r else Y.2.1 b i) = _
        rw [if_neg (by omega), if_neg (by omega), if_neg (by omega)]
      rw [h1]
      show (if i = aM X ∧ b = 5 then k else if i = aM X ∧ b = 6 then a else if i = aM X ∧ b = 7 then b2 else if i = aM X ∧ b = 8 then (if k = 1 ∨ k = 2 then 0 else p) else if i = aM X ∧ b = 9 then (if k = 3 then 0 else q) else (aMv X f n r).2.1 b i) = _
      rw [h1]
      rfl
    · have h1 : ∀ Y : zAb, (aMeas Y k a b2 p q).2.1 b i = Y.2.1 b i := fun Y => by
        show (if i = aM Y ∧ b = 5 then k else if i = aM Y ∧ b = 6 then a else if i = aM Y ∧ b = 7 then b2 else if i = aM Y ∧ b = 8 then (if k = 1 ∨ k = 2 then 0 else p) else if i = aM Y ∧ b = 9 then (if k = 3 then 0 else q) else Y.2.1 b i) = _
        rw [if_neg (by omega), if_neg (by omega), if_neg (by omega), if_neg (by omega), if_neg (by omega)]
      rw [h1]
      show (if i = aV X ∧ b = 10 then f else if i = aV X ∧ b = 11 then n else if i = aV X ∧ b = 12 then r else X.2.1 b i) = (if i = aV X ∧ b = 10 then f else if i = aV X ∧ b = 11 then n else if i = aV X ∧ b = 12 then r else (aMeas X k a b2 p q).2.1 b i)
      rw [h1]
section zVw
variable {d kc ks : Nat} {σ : zSt} {A : zAb} {B : zSh} {Q : Option zV → zSt → Prop}
abbrev zQmo (c j k : Nat) : Prop := ((23 ≤ c ∧ c ≤ 29) ∧ j = 0) ∨ (c = 7 ∧ j = 0 ∧ (k = 3 ∨ k = 8 ∨ k = 10 ∨ k = 11)) ∨ zCh c k
theorem L_X1_addMover {r n : Nat} (hV : aV A < 3) (hn : n ≤ 8) (hN : aN A + n ≤ 24) (hM : aM A + (n - 1) ≤ 60) {σ0 : zSt} {K : Int32 → zSt → Prop} (hK : ∀ σ', zRD (aMover A n r) σ' 0 → zMad zQmo σ0 σ' → K (nI (aV A)) σ') : ∀ (m k : Nat), k + m = n → ∀ (kc ks : Nat) (σ : zSt), zRD (aMv (mvS A r k) (aN A) n r) σ 0 → zMad zQmo σ0 σ → zE true (d + 3) (2 * m + kc) (11 * m + ks) M_X1_addMover 42 [some (.inr (.inr (7, 0))), some (.inl (nI n)), some (.inl (nI r)), some (.inl (nI (aV A))), some (.inl (nI k)), none] [] σ (fun r σ' => ∃ x, r = some (.inl x) ∧ K x σ') := by
  intro m
  induction m with
  | zero =>
    intro k hk kc ks σ hR ho
    have : k = n := by omega
    subst this
    rw [show 2 * 0 + kc = 0 + (0 + kc) by omega, show 11 * 0 + ks = 0 + (0 + ks) by omega]
    exact T_X1_addMover_42 ⟨fun _ => ⟨_, rfl, hK σ hR ho⟩, fun h => absurd (Int32.le_refl _) h⟩
  | succ m ih =>
    intro k hk kc ks σ hR ho
    have hn2 := mvS_N A r k
    have hm2 := mvS_M A r k
    have hv2 := mvS_V A r k
    have ck : (nI k ≤ 0) ↔ k ≤ 0 := nI_leI (b := 0) (by omega) (by omega)
    rw [show 2 * (m + 1) + kc = 1 + (1 + (2 * m + kc)) by omega, show 11 * (m + 1) + ks = 5 + (6 + (11 * m + ks)) by omega]
    refine T_X1_addMover_42 ⟨fun g => ?_, fun _ => S_X1_addThing hR 0 (-9) (aV A) k _ _ _ rfl rfl rfl (by show aN (mvS A r k) < 24; omega) (fun σ1 r1 o1 => ⟨fun g => ?_, fun g => ?_⟩)⟩
    · rw [nI_leI (by omega) (by omega)] at g
      omega
    · rw [ck] at g
      have e : mvS A r (k + 1) = aThing (mvS A r k) 0 (-9) (aV A) k := by
        show (if k = 0 then _ else _) = _
        rw [if_pos (by omega)]
      rw [← nI_succ, show 1 + (2 * m + kc) = 2 * m + (kc + 1) by omega, show 6 + (11 * m + ks) = 11 * m + (ks + 6) by omega]
      refine ih (k + 1) (by omega) _ _ σ1 ?_ (ho.tr (o1.mono (fun c j k h => by unfold zQt0 at h; unfold zQmo; omega)))
      rw [e, ← mv_thing]
      exact r1
    · rw [ck] at g
      have e : mvS A r (k + 1) = aMeas (aThing (mvS A r k) 0 (-9) (aV A) k) 1 (aN (mvS A r k) - 1) (aN (mvS A r k)) 0 r := by
        show (if k = 0 then _ else _) = _
        rw [if_neg (by omega)]
      have x1 : nI (aN (aMv (mvS A r k) (aN A) n r)) - 1 = nI (aN (mvS A r k) - 1) := by
        show nI (aN (mvS A r k)) - 1 = _
        rw [show (1 : Int32) = nI 1 from rfl, nI_sub (by omega)]
      refine S_X1_addMeasure r1 1 (aN (mvS A r k) - 1) (aN (mvS A r k)) 0 r _ _ _ _ _ (by show aM (mvS A r k) < 60; omega) rfl x1 rfl rfl rfl (fun σ2 r2 o2 => ?_)
      rw [← nI_succ]
      refine ih (k + 1) (by omega) _ _ σ2 ?_ ((ho.tr (o1.mono (fun c j k h => by unfold zQt0 at h; unfold zQmo; omega))).tr (o2.mono (fun c j k h => by unfold zQm0 at h; unfold zQmo; omega)))
      rw [e, ← mv_meas, ← mv_thing]
      exact r2
theorem O_X11_mover {K : Int32 → zSt → Prop} (hW : zWf A) (hR : zRD A σ 0) (a b : Int32) (hout : ¬ ((2 ≤ a.toInt ∧ a.toInt ≤ 8) ∧ 0 ≤ b.toInt ∧ b.toInt ≤ 98) → K (-2) σ) (hfull : ∀ n r, 2 ≤ n → n ≤ 8 → r ≤ 98 → a = nI n → b = nI r → aV A = 3 ∨ 24 < aN A + n ∨ 60 < aM A + (n - 1) → K (-4) σ)
    (hyes : ∀ n r, 2 ≤ n → n ≤ 8 → r ≤ 98 → a = nI n → b = nI r → aV A < 3 → aN A + n ≤ 24 → aM A + (n - 1) ≤ 60 → ∀ σ', zRD (aMover A n r) σ' 0 → zMad zQmo σ σ' → zForg σ' → K (nI (aV A)) σ') : zCi true (d + 4) 16 88 M_X11_mover [.inr (.inr (6, 0)), .inl (a), .inl (b)] σ K := by
  have hN : aN A ≤ 24 := hW.1.2.2.2.2.1
  have hM : aM A ≤ 60 := hW.1.2.2.2.2.2.1
  have hV : aV A ≤ 3 := hW.1.2.2.2.2.2.2
  have a28 : (2 ≤ a ∧ a ≤ (8 : Int32)) ↔ (2 ≤ a.toInt ∧ a.toInt ≤ 8) := zin_k a (l := 2) (h := 8) (by omega) (by omega)
  have b98 : (0 ≤ b ∧ b ≤ (98 : Int32)) ↔ (0 ≤ b.toInt ∧ b.toInt ≤ 98) := zin_k b (l := 0) (h := 98) (by omega) (by omega)
  refine zC_intro pl_X11 (Nat.le_of_ble_eq_true rfl) (T_X11_mover_0 (k1 := 16) (m1 := 88) (kc := 0) (ks := 0) ⟨fun h => ⟨_, rfl, hout ?_⟩, fun h => ⟨fun h2 => ?_, fun h2 => ⟨_, rfl, hout ?_⟩⟩⟩)
  · rw [zb_0, a28] at h
    exact fun q => h q.1
  · rw [zb_0, Decidable.not_not, a28] at h
    rw [zb_0, Decidable.not_not, b98] at h2
    obtain ⟨n, hn, rfl⟩ : ∃ n : Nat, n ≤ 8 ∧ a = nI n := ⟨a.toInt.toNat, by omega, zI_of (by omega)⟩
    obtain ⟨r, hr, rfl⟩ : ∃ r : Nat, r ≤ 98 ∧ b = nI r := ⟨b.toInt.toNat, by omega, zI_of (by omega)⟩
    rw [nI_toInt (by omega)] at h
    have cc : ((3 ≤ zgi σ 7 0 11) ∨ ((24 < (zgi σ 7 0 3 + nI n)) ∨ (¬ (((zgi σ 7 0 8 + nI n) - 1) ≤ 60)))) ↔ (aV A = 3 ∨ 24 < aN A + n ∨ 60 < aM A + (n - 1)) := by
      rw [zrd_nV hR, zrd_nT hR, zrd_nM hR, nI_add, nI_add, show (1 : Int32) = nI 1 from rfl, nI_sub (by omega), show (3 : Int32) = nI 3 from rfl, show (24 : Int32) = nI 24 from rfl, show (60 : Int32) = nI 60 from rfl, nI_leI (by omega) (by omega), nI_ltI (by omega) (by omega), nI_leI (by omega) (by omega)]
      omega
    rw [cc]
    refine ⟨fun g => ⟨_, rfl, hfull n r (by omega) hn hr rfl rfl g⟩, fun g => ?_⟩
    have i3 : vp_in (nI (aV A)) 3 := nI_in (by omega) (by omega)
    refine zC_intro pl_X1 (Nat.le_of_ble_eq_true rfl) (T_X1_addMover_0 ?_)
    rw [zrd_nV hR, zrd_nT hR, nI_clamp (show aV A < 2 ^ 31 by omega)]
    refine ⟨i3, i3, i3, ?_⟩
    have hO : zMad zQmo σ (zsi (zsi (zsi (zsi σ 27 0 (aV A) (nI (aN A))) 28 0 (aV A) (nI n)) 29 0 (aV A) (nI r)) 7 0 11 (nI (aV A) + 1)) := (zMad.of (m := fun c j k => ((27 ≤ c ∧ c ≤ 29) ∧ j = 0) ∨ (c = 7 ∧ j = 0 ∧ k = 11)) ((((zOnly.si (by omega)).tr (zOnly.si (by omega))).tr (zOnly.si (by omega))).tr (zOnly.si (by omega))) rfl (fun j k => by omega)).mono (fun c j k h => by unfold zQmo; omega)
    have rV : zRD (aMv (mvS A r 0) (aN A) n r) (zsi (zsi (zsi (zsi σ 27 0 (aV A) (nI (aN A))) 28 0 (aV A) (nI n)) 29 0 (aV A) (nI r)) 7 0 11 (nI (aV A) + 1)) 0 := by
      show zRD (aMv A (aN A) n r) _ 0
      obtain ⟨⟨a1, a2, a3, a4, a5, a6, a7, a8, a9⟩, r2, r3, r4⟩ := hR
      have ev : ∀ b i, b < 10 → (aMv A (aN A) n r).2.1 b i = A.2.1 b i := fun b i hb => by
        show (if i = aV A ∧ b = 10 then _ else if i = aV A ∧ b = 11 then _ else if i = aV A ∧ b = 12 then _ else A.2.1 b i) = _
        rw [if_neg (by omega), if_neg (by omega), if_neg (by omega)]
      refine ⟨⟨a1, a2, a3, a4, a5, a6, a7, ?_, a9⟩, fun t ht => ?_, fun y hy => ?_, fun v hv => ?_⟩
      · rw [zgi_si, if_pos ⟨rfl, rfl, rfl⟩, ← nI_succ]; rfl
      · obtain ⟨⟨n2, q1, q2, q3, q4, q5, q6, q7⟩, q8, q9⟩ := r2 t ht
        refine ⟨⟨n2, q1, q2, q3, ?_, q5, q6, q7⟩, ?_, q9⟩
        · show _ = nI ((aMv A (aN A) n r).2.1 0 t)
          rw [ev 0 t (by omega)]; exact q4
        · rw [zgl_si, zgl_si, zgl_si, zgl_si, q8]
          refine zset_cong (fun i hi => ?_)
          unfold abox aX1 aX2 aY1 aY2
          rw [ev 1 t (by omega), ev 2 t (by omega), ev 3 t (by omega), ev 4 t (by omega)]
      · obtain ⟨n2, q1, q2, q3, q4, q5, q6, q7, q8⟩ := r3 y hy
        refine ⟨n2, q1, q2, q3, ?_, ?_, ?_, ?_, ?_⟩
        · show _ = nI ((aMv A (aN A) n r).2.1 5 y)
          rw [ev 5 y (by omega)]; exact q4
        · show _ = nI ((aMv A (aN A) n r).2.1 6 y)
          rw [ev 6 y (by omega)]; exact q5
        · show _ = nI ((aMv A (aN A) n r).2.1 7 y)
          rw [ev 7 y (by omega)]; exact q6
        · show _ = nI ((aMv A (aN A) n r).2.1 8 y)
          rw [ev 8 y (by omega)]; exact q7
        · show _ = nI ((aMv A (aN A) n r).2.1 9 y)
          rw [ev 9 y (by omega)]; exact q8
      · have hv2 : v < aV A + 1 := hv
        show _ = nI (if v = aV A ∧ 10 = 10 then aN A else if v = aV A ∧ 10 = 11 then n else if v = aV A ∧ 10 = 12 then r else A.2.1 10 v) ∧ _ = nI (if v = aV A ∧ 11 = 10 then aN A else if v = aV A ∧ 11 = 11 then n else if v = aV A ∧ 11 = 12 then r else A.2.1 11 v) ∧ _ = nI (if v = aV A ∧ 12 = 10 then aN A else if v = aV A ∧ 12 = 11 then n else if v = aV A ∧ 12 = 12 then r else A.2.1 12 v)
        by_cases z : v = aV A
        · simp [zgi_si, z]
        · simp [zgi_si, z]
          exact r4 v (by omega)
    have go := L_X1_addMover (d := d) (r := r) (n := n) (A := A) (by omega) hn (by omega) (by omega) (σ0 := σ) (K := fun x16 s15 => zCv true (d + 3) 0 0 M_X11_changed [.inr (.inr (6, 0))] s15 fun s17 => ∃ x, some (Sum.inl x16 : zV) = some (.inl x) ∧ K x s17) (fun σ1 r1 o1 => S_X11_changed (fun σ2 o2 f2 h2' => ⟨_, rfl, hyes n r (by omega) hn hr rfl rfl (by omega) (by omega) (by omega) σ2 (r1.only o2 h2' (fun c j k h => by unfold zBD at h; unfold zCh; omega)) (o1.tr ((zForg.mk o2 h2').mono (fun c j k h => Or.inr (Or.inr h)))) f2⟩)) n 0 (by omega) (16 - 2 * n) (88 - 11 * n) _ rV hO
    rw [show 2 * n + (16 - 2 * n) = 16 by omega, show 11 * n + (88 - 11 * n) = 88 by omega] at go
    exact go
  · rw [zb_0, b98] at h2
    exact fun q => h2 q.2
abbrev zQms (c j k : Nat) : Prop := zQme c j k ∨ (c = 6 ∧ k = 15)
theorem L_X11_measures {k : Nat} {n : Int} (hB : zWs B) (hk : k < 4) (h0 : 0 ≤ B.1 k) (hn : 0 ≤ n ∧ n < 2147483648) (ii : Int32) {P : zAb → zSt → Prop} (hP1 : ∀ A σ σ' a b c p q, zWf A → zRD A σ 0 → P A σ → zRD (measF A a b c p q).2 σ' 0 → zMad zQme σ σ' → ((measF A a b c p q).1 < 0 → σ' = σ) → (0 ≤ (measF A a b c p q).1 → zForg σ') → P (measF A a b c p q).2 σ') (hP2 : ∀ A σ x, P A σ → P A (zsi σ 6 0 15 x)) {σ0 : zSt} {K : Int32 → zSt → Prop} : ∀ (r c : Nat), c + r = 20 → 5 * c ≤ 64 → (c = 0 ∨ 0 ≤ ii.toInt ∧ ii.toInt + 5 * c ≤ B.1 k) → (c : Int) ≤ n → ∀ (A : zAb) (kc ks : Nat) (σ : zSt), zWf A → zRD A σ 0 → P A σ → zSD B σ → zgi σ 6 0 15 = 0 → zMad zQms σ0 σ → (∀ σ', zRD (msRun B k ii.toInt n r c A).2.2 σ' 0 → P (msRun B k ii.toInt n r c A).2.2 σ' → zMad zQms σ0 σ' → zgi σ' 6 0 15 = iI (msRun B k ii.toInt n r c A).2.1 → K (iI (msRun B k ii.toInt n r c A).1) σ') → zE true (d + 4) ((13 - c) + kc) (6 * (13 - c) + ks) M_X11_measuresFrom 6 [some (.inr (.inr (6, 0))), some (.inr (.inr (15, k))), none, some (.inl (iI n)), some (.inl (iI (ii.toInt + 5 * c))), some (.inl (nI c)), none] [] σ (fun r σ' => ∃ x, r = some (.inl x) ∧ K x σ') := by
  intro r
  induction r with
  | zero => intro c hc h5; omega
  | succ r ih =>
    intro c hc h5 hi hcn A kc ks σ hW hR hP hS hf ho hK
    have hr := ws_rng hB hk
    have rg := fb_rng ii
    have eL : sLn B k = B.1 k := by unfold sLn; rw [if_neg (by omega)]
    rw [show (13 - c) + kc = 1 + ((13 - (c + 1)) + kc) by omega, show 6 * (13 - c) + ks = 6 + (6 * (13 - (c + 1)) + ks) by omega]
    refine T_X11_measuresFrom_6 ⟨fun g => ?_, fun g => S_X8_reaches hB hS hk _ _ ⟨fun g2 => ?_, fun g2 => ⟨_, rfl, ?_⟩⟩⟩
    · rw [← iI_nat, iI_le (by omega) (by omega)] at g
      have e : msRun B k ii.toInt n (r + 1) c A = ((c : Int), 0, A) := by
        show (if n ≤ (c : Int) then _ else _) = _
        rw [if_pos g]
      rw [e] at hK
      have en : n = c := by omega
      rw [en]
      exact ⟨_, rfl, hK σ hR hP ho hf⟩
    · rw [← iI_nat, iI_le (by omega) (by omega)] at g
      rw [zb_0, Decidable.not_not, eL, iI_toInt (by omega) (by omega), show (5 : Int32).toInt = 5 from rfl] at g2
      have q1 : sRe (B.1 k) ii.toInt (5 * c + 5) := by unfold sRe at g2 ⊢; omega
      unfold sRe at g2
      have ei : iI (ii.toInt + 5 * c) = nI (ii.toInt.toNat + 5 * c) := by
        rw [← iI_nat]
        congr 1
        omega
      have ix : ∀ j : Nat, j < 5 → zgl σ 53 k (ii.toInt.toNat + 5 * c + j) = B.2.2 k (ii.toInt.toNat + 5 * c + j) := fun j hj => (hS k hk).2.2 _ (by omega)
      have e : msRun B k ii.toInt n (r + 1) c A = if (measF A (B.2.2 k (ii.toInt.toNat + 5 * c)).toInt32 (B.2.2 k (ii.toInt.toNat + 5 * c + 1)).toInt32 (B.2.2 k (ii.toInt.toNat + 5 * c + 2)).toInt32 (B.2.2 k (ii.toInt.toNat + 5 * c + 3)).toInt32 (B.2.2 k (ii.toInt.toNat + 5 * c + 4)).toInt32).1 < 0 then ((c : Int), 0, A) else msRun B k ii.toInt n r (c + 1) (measF A (B.2.2 k (ii.toInt.toNat + 5 * c)).toInt32 (B.2.2 k (ii.toInt.toNat + 5 * c + 1)).toInt32 (B.2.2 k (ii.toInt.toNat + 5 * c + 2)).toInt32 (B.2.2 k (ii.toInt.toNat + 5 * c + 3)).toInt32 (B.2.2 k (ii.toInt.toNat + 5 * c + 4)).toInt32).2 := by
        show (if n ≤ (c : Int) then _ else if ¬ sRe (B.1 k) ii.toInt (5 * c + 5) then _ else _) = _
        rw [if_neg g, if_neg (fun z => z q1)]
      rw [e] at hK
      have a1 : nI (ii.toInt.toNat + 5 * c) + 1 = nI (ii.toInt.toNat + 5 * c + 1) := nI_add _ 1
      have a2 : nI (ii.toInt.toNat + 5 * c) + 2 = nI (ii.toInt.toNat + 5 * c + 2) := nI_add _ 2
      have a3 : nI (ii.toInt.toNat + 5 * c) + 3 = nI (ii.toInt.toNat + 5 * c + 3) := nI_add _ 3
      have a4 : nI (ii.toInt.toNat + 5 * c) + 4 = nI (ii.toInt.toNat + 5 * c + 4) := nI_add _ 4
      have a5 : iI (ii.toInt + 5 * c) + 5 = iI (ii.toInt + 5 * ((c + 1 : Nat) : Int)) := by
        rw [show (5 : Int32) = iI 5 from rfl, iI_add]
        congr 1
        omega
      rw [a5, ei, a1, a2, a3, a4, nI_clamp (show ii.toInt.toNat + 5 * c < 2 ^ 31 by omega), nI_clamp (show ii.toInt.toNat + 5 * c + 1 < 2 ^ 31 by omega), nI_clamp (show ii.toInt.toNat + 5 * c + 2 < 2 ^ 31 by omega), nI_clamp (show ii.toInt.toNat + 5 * c + 3 < 2 ^ 31 by omega), nI_clamp (show ii.toInt.toNat + 5 * c + 4 < 2 ^ 31 by omega), ix 1 (by omega), ix 2 (by omega), ix 3 (by omega), ix 4 (by omega)]
      have ix0 := ix 0 (by omega)
      rw [Nat.add_zero] at ix0
      rw [ix0]
      refine ⟨nI_in (by omega) (by omega), nI_in (by omega) (by omega), nI_in (by omega) (by omega), nI_in (by omega) (by omega), nI_in (by omega) (by omega), S_X11_measure hW hR _ _ _ _ _ (fun σ1 r1 o1 u1 f1 => ?_)⟩
      have hP' := hP1 A σ σ1 _ _ _ _ _ hW hR hP r1 o1 u1 f1
      have hW' := measF_wf hW (B.2.2 k (ii.toInt.toNat + 5 * c)).toInt32 (B.2.2 k (ii.toInt.toNat + 5 * c + 1)).toInt32 (B.2.2 k (ii.toInt.toNat + 5 * c + 2)).toInt32 (B.2.2 k (ii.toInt.toNat + 5 * c + 3)).toInt32 (B.2.2 k (ii.toInt.toNat + 5 * c + 4)).toInt32
      have m1 := measF_1 hW (B.2.2 k (ii.toInt.toNat + 5 * c)).toInt32 (B.2.2 k (ii.toInt.toNat + 5 * c + 1)).toInt32 (B.2.2 k (ii.toInt.toNat + 5 * c + 2)).toInt32 (B.2.2 k (ii.toInt.toNat + 5 * c + 3)).toInt32 (B.2.2 k (ii.toInt.toNat + 5 * c + 4)).toInt32
      generalize measF A (B.2.2 k (ii.toInt.toNat + 5 * c)).toInt32 (B.2.2 k (ii.toInt.toNat + 5 * c + 1)).toInt32 (B.2.2 k (ii.toInt.toNat + 5 * c + 2)).toInt32 (B.2.2 k (ii.toInt.toNat + 5 * c + 3)).toInt32 (B.2.2 k (ii.toInt.toNat + 5 * c + 4)).toInt32 = mf at hK r1 u1 f1 hP' hW' m1 ⊢
      have c0 : (0 ≤ iI mf.1) ↔ 0 ≤ mf.1 := iI_le (a := 0) (by omega) (by omega)
      rw [c0]
      refine ⟨fun z => ?_, fun z => ⟨_, rfl, ?_⟩⟩
      · rw [if_neg (by omega)] at hK
        rw [← nI_succ]
        refine ih (c + 1) (by omega) (by omega) (Or.inr (by omega)) (by omega) mf.2 kc ks σ1 hW' r1 hP' (hS.only o1.1 (fun j k => by unfold zQme zCh; omega)) (by rw [o1.1.i 6 0 15 (by unfold zQme zCh; omega)]; exact hf) (ho.tr (o1.mono (fun c j k h => Or.inl h))) hK
      · rw [if_pos (by omega)] at hK
        have e1 := u1 (by omega)
        subst e1
        exact hK σ1 hR hP ho hf
    · rw [← iI_nat, iI_le (by omega) (by omega)] at g
      rw [zb_0, eL, iI_toInt (by omega) (by omega), show (5 : Int32).toInt = 5 from rfl] at g2
      have q1 : ¬ sRe (B.1 k) ii.toInt (5 * c + 5) := fun z => g2 (by unfold sRe at z ⊢; omega)
      have e : msRun B k ii.toInt n (r + 1) c A = ((c : Int), 3, A) := by
        show (if n ≤ (c : Int) then _ else if ¬ sRe (B.1 k) ii.toInt (5 * c + 5) then _ else _) = _
        rw [if_neg g, if_pos q1]
      rw [e] at hK
      have o3 : zOnly zQms σ (zsi σ 6 0 15 3) := zOnly.si (Or.inr ⟨rfl, rfl⟩)
      refine hK _ (hR.only (m := z615) (zOnly.si ⟨rfl, rfl⟩) rfl (fun c j k h => by unfold zBD at h; omega)) (hP2 A σ 3 hP) (ho.tr ((zMad.of (m := z615) (zOnly.si ⟨rfl, rfl⟩) rfl (fun j k => by omega)).mono (fun c j k h => Or.inr h))) (by rw [zgi_si, if_pos ⟨rfl, rfl, rfl⟩]; rfl)
end zVw
