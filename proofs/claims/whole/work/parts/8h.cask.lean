/-! what the class finds once and keeps: steps, narrowed cells, the least quarrel -/
section zCe
variable {d kc ks : Nat} {σ : zSt} {A : zAb} {Q : Option zV → zSt → Prop}
/-- NARROWING is at hand -/
def zRy (A : zAb) (σ : zSt) : Prop := (∀ m, m < aM A → zSp A σ m) ∧ zRw A σ 37 (gB A (mO A)) ∧ zgi σ 10 0 4 = zb (quB A (mO A) = true)
def zCR (A : zAb) (σ : zSt) : Prop := zGr σ ∧ zKS A σ ∧ (¬ zgi σ 6 0 13 = 0 → zRy A σ)
def zCL (A : zAb) (σ : zSt) : Prop := ¬ zgi σ 10 0 5 = 0 → zgl σ 10 0 6 = zset (fun m => decide (m < aM A) && lqU A (aM A) m) 64
abbrev zQr (c _j k : Nat) : Prop := c = 36 ∨ c = 37 ∨ (c = 9 ∧ k = 3) ∨ (c = 10 ∧ k = 4) ∨ (c = 6 ∧ k = 13)
abbrev zQl (c _j k : Nat) : Prop := c = 38 ∨ (c = 10 ∧ (k = 5 ∨ k = 6))
theorem zSp.only {σ' : zSt} {M : Nat → Nat → Nat → Prop} {m : Nat} (h : zSp A σ m) (ho : zOnly M σ σ') (hm : ∀ j k, ¬ M 36 j k) : zSp A σ' m := fun h4 c hc => by rw [ho.l 36 m c (hm m c)]; exact h h4 c hc
theorem zRy.only {σ' : zSt} {M : Nat → Nat → Nat → Prop} (h : zRy A σ) (ho : zOnly M σ σ') (hm : (∀ j k, ¬ M 36 j k ∧ ¬ M 37 j k) ∧ ¬ M 10 0 4) : zRy A σ' := by
  obtain ⟨h1, h2, h3⟩ := h
  refine ⟨fun m hm2 => (h1 m hm2).only ho (fun j k => (hm.1 j k).1), fun t ht => ?_, ?_⟩
  · rw [ho.l 37 0 t (hm.1 0 t).2]; exact h2 t ht
  · rw [ho.i 10 0 4 hm.2]; exact h3
theorem zKS.only {σ' : zSt} {M : Nat → Nat → Nat → Prop} (h : zKS A σ) (ho : zOnly M σ σ') (hm : (∀ j k, ¬ M 36 j k) ∧ ¬ M 9 0 3) : zKS A σ' := fun m hm2 hb => by
  rw [ho.l 9 0 3 hm.2] at hb
  exact ⟨(h m hm2 hb).1, (h m hm2 hb).2.only ho hm.1⟩
theorem zCR.only {σ' : zSt} {M : Nat → Nat → Nat → Prop} (h : zCR A σ) (ho : zOnly M σ σ') (hm : (∀ j k, ¬ M 32 j k ∧ ¬ M 34 j k) ∧ (∀ j k, ¬ M 36 j k ∧ ¬ M 37 j k) ∧ ¬ M 9 0 3 ∧ ¬ M 10 0 4 ∧ ¬ M 6 0 13) : zCR A σ' :=
  ⟨h.1.only ho hm.1, h.2.1.only ho ⟨fun j k => (hm.2.1 j k).1, hm.2.2.1⟩, fun q => (h.2.2 (by rw [← ho.i 6 0 13 hm.2.2.2.2]; exact q)).only ho ⟨hm.2.1, hm.2.2.2.1⟩⟩
theorem on_cong (A : zAb) : ∀ m, m < aM A → (decide (m < aM A) && mO A m) = mO A m := fun m hm => by rw [decide_eq_true hm]; rfl
theorem S_X11_makeReady {K : zSt → Prop} (hW : zWf A) (hR : zRD A σ 0) (hC : zCR A σ) (hK : ∀ σ', zOnly zQr σ σ' → σ'.2.2.2 = σ.2.2.2 → zCR A σ' → zRy A σ' → ¬ zgi σ' 6 0 13 = 0 → K σ') : zCv true (d + 6) 0 0 M_X11_makeReady [.inr (.inr (6, 0))] σ K := by
  obtain ⟨c1, c2, c3⟩ := id hC
  refine zC_intro pl_X11 (Nat.le_of_ble_eq_true rfl) (T_X11_makeReady_0 ⟨fun g => ⟨rfl, hK σ zOnly.rf rfl hC (c3 g) g⟩, fun _ => ?_⟩)
  refine S_X4_findSteps hW hR c1 c2 (fun σ1 o1 h1 k1 s1 => ?_)
  have hR1 : zRD A σ1 0 := hR.only o1 h1 (fun c j k h => by unfold zBD at h; unfold zQs; omega)
  have hG1 : zGr σ1 := c1.only o1 (fun j k => by unfold zQs; omega)
  refine zC_intro pl_X6 (Nat.le_of_ble_eq_true rfl) (T_X6_findCells_0 ?_)
  rw [hR1.1.2.2.2.2.2.2.1]
  refine S_X6_settle (Or.inl rfl) hW hR1 hG1 s1 (fun σ2 o2 h2 x2 => ⟨zb_01, rfl, rfl, ?_⟩)
  rw [quB_cong (on_cong A)]
  have o3 : zOnly (fun c _ k => (c = 10 ∧ k = 4) ∨ (c = 6 ∧ k = 13)) σ2 (zsi (zsi σ2 10 0 4 (zb (quB A (mO A) = true))) 6 0 13 1) := (zOnly.si (Or.inl ⟨rfl, rfl⟩)).tr (zOnly.si (Or.inr ⟨rfl, rfl⟩))
  have e4 : zgi (zsi (zsi σ2 10 0 4 (zb (quB A (mO A) = true))) 6 0 13 1) 10 0 4 = zb (quB A (mO A) = true) := by simp [zgi_si]
  have e13 : zgi (zsi (zsi σ2 10 0 4 (zb (quB A (mO A) = true))) 6 0 13 1) 6 0 13 = 1 := by simp [zgi_si]
  have h3 : (zsi (zsi σ2 10 0 4 (zb (quB A (mO A) = true))) 6 0 13 1).2.2.2 = σ.2.2.2 := h2.trans h1
  generalize zsi (zsi σ2 10 0 4 (zb (quB A (mO A) = true))) 6 0 13 1 = σ3 at o3 e4 e13 h3 ⊢
  have ry : zRy A σ3 := by
    refine ⟨fun m hm => ((s1 m hm).only o2 (fun j k => by omega)).only o3 (fun j k => by omega), fun t ht => ?_, e4⟩
    rw [o3.l 37 0 t (by omega), x2 (by decide) t ht]
    exact zset_cong (fun c hc => gB_cong (on_cong A) t c)
  refine hK σ3 (((o1.mono (fun c j k h => by unfold zQs at h; unfold zQr; omega)).tr (o2.mono (fun c j k h => by unfold zQr; omega))).tr (o3.mono (fun c j k h => by unfold zQr; omega))) h3 ⟨?_, ?_, fun _ => ry⟩ ry (by rw [e13]; decide)
  · exact (hG1.only o2 (fun j k => by omega)).only o3 (fun j k => by omega)
  · exact (k1.only o2 ⟨fun j k => by omega, by omega⟩).only o3 ⟨fun j k => by omega, by omega⟩
theorem S_X11_narrowed {K : Nat × Nat → zSt → Prop} (hW : zWf A) (hR : zRD A σ 0) (hC : zCR A σ) (hK : ∀ σ', zOnly zQr σ σ' → σ'.2.2.2 = σ.2.2.2 → zCR A σ' → zRy A σ' → ¬ zgi σ' 6 0 13 = 0 → K (10, 0) σ') : zCr true (d + 7) 0 0 M_X11_narrowed [.inr (.inr (6, 0))] σ K :=
  zC_intro pl_X11 (Nat.le_of_ble_eq_true rfl) (T_X11_narrowed_0 (S_X11_makeReady hW hR hC (fun σ' h1 h2 h3 h4 h5 => ⟨_, rfl, hK σ' h1 h2 h3 h4 h5⟩)))
theorem S_X6_isQuarrel {ph : Bool} {K : Int32 → zSt → Prop} (hY : zRy A σ) (hK : K (zb (quB A (mO A) = true)) σ) : zCi ph (d + 1) 0 0 M_X6_isQuarrel [.inr (.inr (10, 0))] σ K := by
  refine zC_intro pl_X6 (Nat.le_of_ble_eq_true rfl) (T_X6_isQuarrel_0 ?_)
  rw [hY.2.2]
  exact ⟨zb_01, _, rfl, hK⟩
theorem S_X6_cellsOf {K : Int64 → zSt → Prop} (hW : zWf A) (hY : zRy A σ) {t : Nat} (ht : t < aN A) (hK : K (zset (gB A (mO A) t) 64) σ) : zCl true (d + 1) 0 0 M_X6_cellsOf [.inr (.inr (10, 0)), .inl (nI t)] σ K := by
  have hN : aN A ≤ 24 := hW.1.2.2.2.2.1
  refine zC_intro pl_X6 (Nat.le_of_ble_eq_true rfl) (T_X6_cellsOf_0 ?_)
  rw [nI_clamp (show t < 2 ^ 31 by omega), hY.2.1 t ht]
  exact ⟨nI_in (by omega) (by omega), _, rfl, hK⟩
theorem L_X6_least20 {σ0 : zSt} (hW : zWf A) (hR : zRD A σ0 0) (hG : zGr σ0) (hS : ∀ m, m < aM A → zSp A σ0 m) (hQ : ∀ σ', zOnly zQl σ0 σ' → σ'.2.2.2 = σ0.2.2.2 → zCL A σ' → Q (some (.inr (.inl (zset (fun m => decide (m < aM A) && lqU A (aM A) m) 64)))) σ') : ∀ (n k : Nat), k + n = aM A → ∀ σ : zSt, zOnly zQl σ0 σ → σ.2.2.2 = σ0.2.2.2 → zgl σ 10 0 6 = zset (fun m => decide (m < aM A) && lqU A k m) 64 → zE true (d + 5) kc ks M_X6_leastQuarrel 20 [some (.inr (.inr (10, 0))), some (.inl (nI k))] [] σ Q := by
  have hM : aM A ≤ 60 := hW.1.2.2.2.2.2.1
  intro n
  induction n with
  | zero =>
    intro k hk σ ho hh h6
    have : k = aM A := by omega
    subst this
    have hR1 : zRD A σ 0 := hR.only ho hh (fun c j k h => by unfold zBD at h; unfold zQl; omega)
    refine T_X6_leastQuarrel_20 ⟨fun _ => ?_, fun g => absurd (by rw [zrd_nM hR1]; exact Int32.le_refl _) g⟩
    rw [h6]
    exact hQ _ (ho.tr (zOnly.si (by unfold zQl; omega))) hh (fun _ => h6)
  | succ n ih =>
    intro k hk σ ho hh h6
    have hkM : k < aM A := by omega
    have hR1 : zRD A σ 0 := hR.only ho hh (fun c j k h => by unfold zBD at h; unfold zQl; omega)
    have hG1 : zGr σ := hG.only ho (fun j k => by unfold zQl; omega)
    have hS1 : ∀ m, m < aM A → zSp A σ m := fun m hm => (hS m hm).only ho (fun j k => by unfold zQl; omega)
    refine T_X6_leastQuarrel_20 ⟨fun g => ?_, fun _ => ?_⟩
    · rw [zrd_nM hR1, nI_leI (by omega) (by omega)] at g
      omega
    · rw [h6, zh_b (by omega), zb_0, decide_eq_true hkM, Bool.true_and, lqU_on A k k (Nat.le_refl _)]
      have next : ∀ σ' : zSt, zOnly zQl σ σ' → σ'.2.2.2 = σ.2.2.2 → zgl σ' 10 0 6 = zset (fun m => decide (m < aM A) && lqU A (k + 1) m) 64 → zE true (d + 5) kc ks M_X6_leastQuarrel 20 [some (.inr (.inr (10, 0))), some (.inl ((nI k + 1)))] [] (σ') Q := fun σ' o1 h1 e1 => by
        rw [← nI_succ]
        exact ih (k + 1) (by omega) σ' (ho.tr o1) (h1.trans hh) e1
      refine ⟨fun g => next σ zOnly.rf rfl ?_, fun g => ?_⟩
      · rw [h6]
        refine zset_cong (fun m hm => ?_)
        congr 1
        show _ = (if m = k then _ else lqU A k m)
        by_cases e : m = k
        · subst e
          rw [if_pos rfl, lqU_on A m m (Nat.le_refl _)]
          rw [Bool.not_eq_true] at g
          rw [g]; rfl
        · rw [if_neg e]
      · have g1 := Decidable.not_not.mp g
        have eu : zset (fun m => decide (m < aM A) && lqU A k m) 64 &&& (zlshl 1 (nI k) ^^^ (-1)) = zset (fun m => decide (m < aM A) && (if m = k then false else lqU A k m)) 64 := zset_eq (fun i hi => by
          rw [tb_and, tb_set hi, tb_not _ hi, tb_bit (by omega)]
          by_cases e : i = k
          · subst e; simp
          · simp [e])
        rw [eu]
        refine S_X6_settle (Or.inr rfl) hW hR1 hG1 hS1 (fun σ1 o1 h1 _ => ?_)
        have ec : quB A (fun m => decide (m < aM A) && (if m = k then false else lqU A k m)) = quB A (fun m => if m = k then false else lqU A k m) := quB_cong (fun m hm => by rw [decide_eq_true hm]; rfl)
        have e6 : zgl σ1 10 0 6 = zset (fun m => decide (m < aM A) && lqU A k m) 64 := by rw [o1.l 10 0 6 (by omega)]; exact h6
        rw [ec, zb_0, e6, eu]
        refine ⟨fun q => next σ1 (o1.mono (fun c j k h => Or.inl h)) h1 ?_, fun q => next _ ((o1.mono (fun c j k h => Or.inl h)).tr (zOnly.sl (Or.inr ⟨rfl, Or.inr rfl⟩))) h1 ?_⟩
        · rw [e6]
          refine zset_cong (fun m hm => ?_)
          congr 1
          show _ = (if m = k then (mO A k && !quB A (fun j => if j = k then false else lqU A k j)) else lqU A k m)
          by_cases e : m = k
          · subst e
            rw [if_pos rfl, lqU_on A m m (Nat.le_refl _), g1]
            rw [Bool.not_eq_true] at q
            rw [q]; rfl
          · rw [if_neg e]
        · rw [zgl_sl, if_pos ⟨rfl, rfl, rfl⟩]
          refine zset_cong (fun m hm => ?_)
          congr 1
          show _ = (if m = k then (mO A k && !quB A (fun j => if j = k then false else lqU A k j)) else lqU A k m)
          by_cases e : m = k
          · subst e
            rw [if_pos rfl, if_pos rfl, g1, Decidable.not_not.mp q]; rfl
          · rw [if_neg e, if_neg e]
theorem S_X6_leastQuarrel {K : Int64 → zSt → Prop} (hW : zWf A) (hR : zRD A σ 0) (hG : zGr σ) (hY : zRy A σ) (hL : zCL A σ) (hK : ∀ σ', zOnly zQl σ σ' → σ'.2.2.2 = σ.2.2.2 → zCL A σ' → K (zset (fun m => decide (m < aM A) && lqU A (aM A) m) 64) σ') : zCl true (d + 5) 0 0 M_X6_leastQuarrel [.inr (.inr (10, 0))] σ K := by
  refine zC_intro pl_X6 (Nat.le_of_ble_eq_true rfl) (T_X6_leastQuarrel_0 ⟨fun g => ?_, fun _ => ?_⟩)
  · rw [hL g]
    exact ⟨_, rfl, hK σ zOnly.rf rfl hL⟩
  · rw [hR.1.2.2.2.2.2.2.1]
    exact L_X6_least20 (Q := fun r σ' => ∃ x, r = some (.inr (.inl x)) ∧ K x σ') hW hR hG hY.1 (fun σ' o h c => ⟨_, rfl, hK σ' o h c⟩) (aM A) 0 (by omega) _ (zOnly.sl (by unfold zQl; omega)) rfl (by rw [zgl_sl, if_pos ⟨rfl, rfl, rfl⟩]; rfl)
/-- hops between two cells -/
theorem O_X11_hops {K : Int32 → zSt → Prop} (hW : zWf A) (hR : zRD A σ 0) (hG : zGr σ) (a b e : Int32) (hno : ¬ (acI A a = true ∧ acI A b = true) → K (-1) σ) (hout : (acI A a = true ∧ acI A b = true) → ¬ (0 ≤ e.toInt ∧ e.toInt ≤ 98) → K (-2) σ)
    (hst : ∀ c x r, c < 64 → x < 64 → r ≤ 98 → a = nI c → b = nI x → e = nI r → acell A c = true → acell A x = true → ¬ (afree A c = true ∧ afree A x = true) → K (-3) σ)
    (hyes : ∀ c x r, c < 64 → x < 64 → r ≤ 98 → a = nI c → b = nI x → e = nI r → afree A c = true → afree A x = true → ∀ z, aHops A r c x z → K (iI z) σ) : zCi true (d + 5) 0 0 M_X11_hops [.inr (.inr (6, 0)), .inl (a), .inl (b), .inl (e)] σ K := by
  have he : (0 ≤ e ∧ e ≤ 98) ↔ (0 ≤ e.toInt ∧ e.toInt ≤ 98) := zin_k e (l := 0) (h := 98) (by omega) (by omega)
  refine zC_intro pl_X11 (Nat.le_of_ble_eq_true rfl) (T_X11_hops_0 (S_X1_isCell hW hR a ⟨fun h => ⟨_, rfl, hno ?_⟩, fun h => S_X1_isCell hW hR b ⟨fun h2 => ⟨fun h3 => ?_, fun h3 => ⟨_, rfl, hout ?_ ?_⟩⟩, fun h2 => ⟨_, rfl, hno ?_⟩⟩⟩))
  · rw [zb_0] at h
    exact fun q => h q.1
  · rw [zb_0, Decidable.not_not] at h h2
    rw [zb_0, Decidable.not_not, he] at h3
    obtain ⟨c, hc, hac, rfl⟩ := acI_nI h
    obtain ⟨x, hx, hax, rfl⟩ := acI_nI h2
    obtain ⟨r, hr, rfl⟩ : ∃ r : Nat, r ≤ 98 ∧ e = nI r := ⟨e.toInt.toNat, by omega, zI_of h3.1⟩
    rw [hR.1.2.2.1, zh_b hc, zh_b hx, zb_0, zb_0]
    refine ⟨fun g => ⟨_, rfl, hst c x r hc hx hr rfl rfl rfl hac hax (fun q => ?_)⟩, fun g => ?_⟩
    · exact g.elim (fun z => z q.1) (fun z => z q.2)
    · have f1 : afree A c = true := Decidable.not_not.mp (fun z => g (Or.inl z))
      have f2 : afree A x = true := Decidable.not_not.mp (fun z => g (Or.inr z))
      exact S_X4_hopsBetween hR hG hr f1 hx (fun z hz => ⟨_, rfl, hyes c x r hc hx hr rfl rfl rfl f1 f2 z hz⟩)
  · rw [zb_0, Decidable.not_not] at h h2
    exact ⟨h, h2⟩
  · rw [zb_0, he] at h3
    exact h3
  · rw [zb_0] at h2
    exact fun q => h2 q.2
/-- whether two cells keep a measure -/
theorem O_X11_keeps {K : Int32 → zSt → Prop} (hW : zWf A) (hR : zRD A σ 0) (hC : zCR A σ) (a b e : Int32) (hno : ¬ (mI A a = true ∧ acI A b = true ∧ acI A e = true) → K (-1) σ)
    (hyes : ∀ m c x, m < aM A → c < 64 → x < 64 → a = nI m → b = nI c → e = nI x → acell A c = true → acell A x = true → ∀ σ', zOnly zQr σ σ' → σ'.2.2.2 = σ.2.2.2 → zCR A σ' → K (zb (kept A m c x = true)) σ') : zCi true (d + 7) 0 0 M_X11_keeps [.inr (.inr (6, 0)), .inl (a), .inl (b), .inl (e)] σ K := by
  have hM : aM A ≤ 60 := hW.1.2.2.2.2.2.1
  refine zC_intro pl_X11 (Nat.le_of_ble_eq_true rfl) (T_X11_keeps_0 (S_X1_isMeasure hW hR a ⟨fun h => ⟨_, rfl, hno ?_⟩, fun h => S_X1_isCell hW hR b ⟨fun h2 => ⟨_, rfl, hno ?_⟩, fun h2 => S_X1_isCell hW hR e ⟨fun h3 => ?_, fun h3 => ⟨_, rfl, hno ?_⟩⟩⟩⟩))
  · rw [zb_0] at h
    exact fun q => h q.1
  · rw [zb_0] at h2
    exact fun q => h2 q.2.1
  · rw [zb_0, Decidable.not_not] at h h2 h3
    obtain ⟨m, hm, rfl⟩ := mI_nI h
    obtain ⟨c, hc, hac, rfl⟩ := acI_nI h2
    obtain ⟨x, hx, hax, rfl⟩ := acI_nI h3
    refine S_X11_makeReady hW hR hC (fun σ' o1 h1 c1 y1 _ => ?_)
    have hR1 : zRD A σ' 0 := hR.only o1 h1 (fun c j k h => by unfold zBD at h; unfold zQr; omega)
    obtain ⟨n, q0, hMe⟩ := hR1.2.2.1 m hm
    refine ⟨nI_in (by omega) (by omega), n, by rw [nI_clamp (show m < 2 ^ 31 by omega)]; exact q0, S_X4_isKept hW c1.1 hm hMe (y1.1 m hm) hc hx (fun y hy => ⟨_, rfl, ?_⟩)⟩
    have ek : kept A m c x = mKeep A m c x := by unfold kept; rw [hac, hax]; rfl
    rw [hy, zb_of0 (P := kept A m c x = true) (by rw [zb_0, ek])]
    exact hyes m c x hm hc hx rfl rfl rfl hac hax σ' o1 h1 c1
  · rw [zb_0] at h3
    exact fun q => h3 q.2.2
theorem O_X11_cells {K : Int64 → zSt → Prop} (hW : zWf A) (hR : zRD A σ 0) (hC : zCR A σ) (a : Int32) (hno : ¬ tI A a = true → K 0 σ) (hyes : ∀ t, t < aN A → a = nI t → ∀ σ', zOnly zQr σ σ' → σ'.2.2.2 = σ.2.2.2 → zCR A σ' → K (zset (gB A (mO A) t) 64) σ') : zCl true (d + 8) 0 0 M_X11_cells [.inr (.inr (6, 0)), .inl (a)] σ K := by
  refine zC_intro pl_X11 (Nat.le_of_ble_eq_true rfl) (T_X11_cells_0 (S_X1_isThing hW hR a ⟨fun h => ⟨_, rfl, hno (zb_0.mp h)⟩, fun h => ?_⟩))
  rw [zb_0, Decidable.not_not] at h
  obtain ⟨t, ht, rfl⟩ := tI_nI h
  exact S_X11_narrowed hW hR hC (fun σ' o1 h1 c1 y1 _ => ⟨rfl, S_X6_cellsOf hW y1 ht ⟨_, rfl, hyes t ht rfl σ' o1 h1 c1⟩⟩)
theorem O_X11_can {K : Int32 → zSt → Prop} (hW : zWf A) (hR : zRD A σ 0) (hC : zCR A σ) (a b e : Int32) (hno : ¬ (tI A a = true ∧ acI A b = true) → K (-1) σ) (hout : (tI A a = true ∧ acI A b = true) → ¬ (e = 0 ∨ e = 1) → K (-2) σ)
    (hyes : ∀ t c, t < aN A → c < 64 → acell A c = true → a = nI t → b = nI c → ∀ σ', zOnly zQr σ σ' → σ'.2.2.2 = σ.2.2.2 → zCR A σ' → (e = 0 → K (zb (atold A t c = true)) σ') ∧ (e = 1 → K (zb (gB A (mO A) t c = true)) σ')) : zCi true (d + 8) 0 0 M_X11_can [.inr (.inr (6, 0)), .inl (a), .inl (b), .inl (e)] σ K := by
  have he : (0 ≤ e ∧ e ≤ 1) ↔ (e = 0 ∨ e = 1) := by
    have h1 : (0 ≤ e ∧ e ≤ 1) ↔ (((0 : Nat) : Int) ≤ e.toInt ∧ e.toInt ≤ ((1 : Nat) : Int)) := zin_k e (l := 0) (h := 1) (by omega) (by omega)
    have e0 : (0 : Int32).toInt = 0 := rfl
    have e1 : (1 : Int32).toInt = 1 := rfl
    rw [h1, fa_eq, fa_eq, e0, e1]
    omega
  refine zC_intro pl_X11 (Nat.le_of_ble_eq_true rfl) (T_X11_can_0 (S_X1_isThing hW hR a ⟨fun h => ⟨_, rfl, hno ?_⟩, fun h => S_X1_isCell hW hR b ⟨fun h2 => ⟨fun h3 => ?_, fun h3 => ⟨_, rfl, hout ?_ ?_⟩⟩, fun h2 => ⟨_, rfl, hno ?_⟩⟩⟩))
  · rw [zb_0] at h
    exact fun q => h q.1
  · rw [zb_0, Decidable.not_not] at h h2
    rw [zb_0, Decidable.not_not, he] at h3
    obtain ⟨t, ht, rfl⟩ := tI_nI h
    obtain ⟨c, hc, hac, rfl⟩ := acI_nI h2
    refine ⟨fun g => ?_, fun g => S_X1_toldCells hW hR ht (T_X11_can_59 (fun x hx => ⟨_, rfl, ?_⟩))⟩
    · refine S_X11_narrowed hW hR hC (fun σ' o1 h1 c1 y1 _ => ⟨rfl, S_X6_cellsOf hW y1 ht (T_X11_can_59 (fun x hx => ⟨_, rfl, ?_⟩))⟩)
      rw [hx, zb_of0 (P := gB A (mO A) t c = true) (by rw [zh_b hc, zb_0])]
      exact (hyes t c ht hc hac rfl rfl σ' o1 h1 c1).2 (h3.resolve_left g)
    · rw [hx, zb_of0 (P := atold A t c = true) (by rw [zh_b hc, zb_0])]
      exact (hyes t c ht hc hac rfl rfl σ zOnly.rf rfl hC).1 g
  · rw [zb_0, Decidable.not_not] at h h2
    exact ⟨h, h2⟩
  · rw [zb_0, he] at h3
    exact h3
  · rw [zb_0] at h2
    exact fun q => h2 q.2
abbrev zQrl (c j k : Nat) : Prop := zQr c j k ∨ zQl c j k
theorem O_X11_quarrel {K : Int32 → zSt → Prop} (hW : zWf A) (hR : zRD A σ 0) (hC : zCR A σ) (hL : zCL A σ) (hK : ∀ σ', zOnly zQrl σ σ' → σ'.2.2.2 = σ.2.2.2 → zCR A σ' → zCL A σ' → K (iI (lqN A)) σ') : zCi true (d + 8) 0 0 M_X11_quarrel [.inr (.inr (6, 0))] σ K := by
  have hM : aM A ≤ 60 := hW.1.2.2.2.2.2.1
  refine zC_intro pl_X11 (Nat.le_of_ble_eq_true rfl) (T_X11_quarrel_0 (S_X11_narrowed hW hR hC (fun σ1 o1 h1 c1 y1 _ => ⟨rfl, S_X6_isQuarrel y1 ⟨fun g => ⟨_, rfl, ?_⟩, fun g => ?_⟩⟩)))
  · have hL1 : zCL A σ1 := fun q => by rw [o1.i 10 0 5 (by unfold zQr; omega)] at q; rw [o1.l 10 0 6 (by unfold zQr; omega)]; exact hL q
    rw [zb_0] at g
    have e : lqN A = -9 := by unfold lqN; rw [if_neg g]
    have := hK σ1 (o1.mono (fun c j k h => Or.inl h)) h1 c1 hL1
    rw [e] at this
    exact this
  · have hL1 : zCL A σ1 := fun q => by rw [o1.i 10 0 5 (by unfold zQr; omega)] at q; rw [o1.l 10 0 6 (by unfold zQr; omega)]; exact hL q
    have hR1 : zRD A σ1 0 := hR.only o1 h1 (fun c j k h => by unfold zBD at h; unfold zQr; omega)
    rw [zb_0, Decidable.not_not] at g
    refine S_X6_leastQuarrel hW hR1 c1.1 y1 hL1 (fun σ2 o2 h2 l2 => ⟨_, rfl, ?_⟩)
    have := hK σ2 ((o1.mono (fun c j k h => Or.inl h)).tr (o2.mono (fun c j k h => Or.inr h))) (h2.trans h1) (c1.only o2 ⟨fun j k => by unfold zQl; omega, fun j k => by unfold zQl; omega, by unfold zQl; omega, by unfold zQl; omega, by unfold zQl; omega⟩) l2
    have e : zbc64 (zset (fun m => decide (m < aM A) && lqU A (aM A) m) 64) = iI (lqN A) := by
      unfold lqN
      rw [if_pos g, iI_nat, zbc64_ct]
      congr 1
      rw [fb_ct_cong (q := fun m => decide (m < aM A) && lqU A (aM A) m) (fun i hi => tb_set hi), show 64 = aM A + (64 - aM A) by omega, fb_ct_split]
      rw [fb_ct_zero (p := fun k => decide (aM A + k < aM A) && lqU A (aM A) (aM A + k)) |>.mpr (fun i hi => by rw [show decide (aM A + i < aM A) = false from decide_eq_false (by omega)]; rfl), Nat.add_zero]
      exact fb_ct_cong (fun m hm => by unfold lqB; rw [decide_eq_true hm, g])
    rw [e]
    exact this
theorem O_X11_told {K : Int32 → zSt → Prop} (hW : zWf A) (hR : zRD A σ 0) (hC : zCR A σ) (hL : zCL A σ) (a e : Int32) (hno : ¬ mI A a = true → K (-1) σ) (hyes : ∀ m, m < aM A → a = nI m → ∀ σ', zOnly zQrl σ σ' → σ'.2.2.2 = σ.2.2.2 → zCR A σ' → zCL A σ' → K (tdV A m e) σ') : zCi true (d + 8) 0 0 M_X11_told [.inr (.inr (6, 0)), .inl (a), .inl (e)] σ K := by
  have hM : aM A ≤ 60 := hW.1.2.2.2.2.2.1
  refine zC_intro pl_X11 (Nat.le_of_ble_eq_true rfl) (T_X11_told_0 (S_X1_isMeasure hW hR a ⟨fun h => ?_, fun h => ⟨_, rfl, hno (zb_0.mp h)⟩⟩))
  rw [zb_0, Decidable.not_not] at h
  obtain ⟨m, hm, rfl⟩ := mI_nI h
  obtain ⟨n, q0, hMe⟩ := hR.2.2.1 m hm
  obtain ⟨p0, p1, p2, p3, p4, p5, p6⟩ := id hMe
  have h0 := hyes m hm rfl σ zOnly.rf rfl hC hL
  refine ⟨nI_in (by omega) (by omega), n, by rw [nI_clamp (show m < 2 ^ 31 by omega)]; exact q0, fun z => ⟨_, rfl, ?_⟩, fun z => ⟨_, rfl, ?_⟩, fun z => ⟨_, rfl, ?_⟩, fun z => ⟨_, rfl, ?_⟩, fun z => ⟨_, rfl, ?_⟩, fun z x hx => ⟨_, rfl, ?_⟩, fun z => ?_, fun z0 z1 z2 z3 z4 z5 z6 => ⟨_, rfl, ?_⟩⟩
  · subst z; rw [p2]; exact h0
  · subst z; rw [p3]; exact h0
  · subst z; rw [p4]; exact h0
  · subst z; rw [p5]; exact h0
  · subst z; rw [p6]; exact h0
  · subst z
    rw [hx, zb_of0 (P := mO A m = true) (by rw [hR.1.2.2.2.2.2.2.1, zh_b (by omega), zb_0, on_cong A m hm])]
    exact h0
  · subst z
    refine S_X11_narrowed hW hR hC (fun σ1 o1 h1 c1 y1 _ => ⟨rfl, S_X6_isQuarrel y1 ⟨fun g => ⟨_, rfl, ?_⟩, fun g => ?_⟩⟩)
    · have hL1 : zCL A σ1 := fun q => by rw [o1.i 10 0 5 (by unfold zQr; omega)] at q; rw [o1.l 10 0 6 (by unfold zQr; omega)]; exact hL q
      rw [zb_0] at g
      have e : tdV A m 6 = 0 := by
        show zb (lqB A m = true) = 0
        rw [zb_0]
        unfold lqB
        rw [Bool.not_eq_true] at g
        rw [g]
        simp
      have := hyes m hm rfl σ1 (o1.mono (fun c j k h => Or.inl h)) h1 c1 hL1
      rw [e] at this
      exact this
    · have hL1 : zCL A σ1 := fun q => by rw [o1.i 10 0 5 (by unfold zQr; omega)] at q; rw [o1.l 10 0 6 (by unfold zQr; omega)]; exact hL q
      have hR1 : zRD A σ1 0 := hR.only o1 h1 (fun c j k h => by unfold zBD at h; unfold zQr; omega)
      rw [zb_0, Decidable.not_not] at g
      refine S_X6_leastQuarrel hW hR1 c1.1 y1 hL1 (fun σ2 o2 h2 l2 x hx => ⟨_, rfl, ?_⟩)
      have := hyes m hm rfl σ2 ((o1.mono (fun c j k h => Or.inl h)).tr (o2.mono (fun c j k h => Or.inr h))) (h2.trans h1) (c1.only o2 ⟨fun j k => by unfold zQl; omega, fun j k => by unfold zQl; omega, by unfold zQl; omega, by unfold zQl; omega, by unfold zQl; omega⟩) l2
      have e : x = tdV A m 6 := by
        show x = zb (lqB A m = true)
        rw [hx, zb_of0 (P := lqB A m = true) (by
          rw [zh_b (by omega), zb_0]
          unfold lqB
          rw [decide_eq_true hm, g])]
      rw [e]
      exact this
  · have e : tdV A m e = -2 := by
      unfold tdV
      rw [if_neg z0, if_neg z1, if_neg z2, if_neg z3, if_neg z4, if_neg z5, if_neg z6]
    rw [e] at h0
    exact h0
end zCe
