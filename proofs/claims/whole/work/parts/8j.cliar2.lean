/-! liars (class): the sets tried -/
section zCg
variable {d kc ks : Nat} {σ : zSt} {A : zAb} {Q : Option zV → zSt → Prop}
def zLs (A : zAb) (σ : zSt) (c : Nat) (f : Nat → Nat) : Prop := zgi σ 10 0 9 = nI c ∧ ∀ x, x < aN A → zgi σ 39 0 x = nI (f x)
abbrev zQv (c _j k : Nat) : Prop := c = 38 ∨ c = 39 ∨ (c = 10 ∧ k = 9)
theorem zLs.of {σ : zSt} {c c' : Nat} {f f' : Nat → Nat} (h : zLs A σ c f) (hc : c = c') (hf : ∀ x, f x = f' x) : zLs A σ c' f' := ⟨by rw [← hc]; exact h.1, fun x hx => by rw [← hf x]; exact h.2 x hx⟩
/-- the measures of the least quarrel, as the class has them -/
noncomputable def lqZ (A : zAb) : Int64 := zset (fun m => decide (m < aM A) && lqU A (aM A) m) 64
theorem L_X6_sets83 (hW : zWf A) (hR : zRD A σ 0) (hG : zGr σ) (hS : ∀ m, m < aM A → zSp A σ m) (hq : quB A (mO A) = true) {s v9 : Int32} {t u c : Nat} {f : Nat → Nat} (ht : t < aN A) (hu : u < aN A) (h9 : ¬ v9 ≤ nI u) (hL : zLs A σ c f) (hnext : ∀ σ', zOnly zQv σ σ' → σ'.2.2.2 = σ.2.2.2 → zLs A σ' (c + (if lyB A t u = true then 1 else 0)) (fun x => f x + (if (lyB A t u && (decide (x = t) || decide (x = u))) = true then 1 else 0)) → zE true (d + 5) kc ks M_X6_findSets 83 [some (.inr (.inr (10, 0))), some (.inl (s)), some (.inr (.inl (lqZ A))), none, some (.inl (yset (fun t => decide (t < aN A) && lyM A t) 32)), some (.inl (nI t)), some (.inr (.inl (zset (fun m => decide (m < aM A) && msOf A t m) 64))), none, none, some (.inl (v9)), some (.inl (nI (u + 1))), none, none] [] (σ') Q) : zE true (d + 5) kc ks M_X6_findSets 83 [some (.inr (.inr (10, 0))), some (.inl (s)), some (.inr (.inl (lqZ A))), none, some (.inl (yset (fun t => decide (t < aN A) && lyM A t) 32)), some (.inl (nI t)), some (.inr (.inl (zset (fun m => decide (m < aM A) && msOf A t m) 64))), none, none, some (.inl (v9)), some (.inl (nI u)), none, none] [] σ Q := by
  have hN : aN A ≤ 24 := hW.1.2.2.2.2.1
  have hM : aM A ≤ 60 := hW.1.2.2.2.2.2.1
  have it : vp_in (nI t) 24 := nI_in (by omega) (by omega)
  have iu : vp_in (nI u) 24 := nI_in (by omega) (by omega)
  have skip : lyB A t u = false → ∀ σ', zOnly zQv σ σ' → σ'.2.2.2 = σ.2.2.2 → zLs A σ' c f → zE true (d + 5) kc ks M_X6_findSets 83 [some (.inr (.inr (10, 0))), some (.inl (s)), some (.inr (.inl (lqZ A))), none, some (.inl (yset (fun t => decide (t < aN A) && lyM A t) 32)), some (.inl (nI t)), some (.inr (.inl (zset (fun m => decide (m < aM A) && msOf A t m) 64))), none, none, some (.inl (v9)), some (.inl (nI (u + 1))), none, none] [] (σ') Q := fun z σ' o1 h1 l1 => hnext σ' o1 h1 (l1.of (by rw [z]; rfl) (fun x => by rw [z]; rfl))
  refine T_X6_findSets_83 ⟨fun g => absurd g h9, fun _ => S_X1_measuresOf hW hR (show u < 2 ^ 31 by omega) ?_⟩
  have e6 : zset (fun m => decide (m < aM A) && msOf A t m) 64 ||| zset (fun m => decide (m < aM A) && msOf A u m) 64 = zset (fun m => decide (m < aM A) && (msOf A t m || msOf A u m)) 64 := zset_eq (fun i hi => by rw [tb_or, tb_set hi, tb_set hi, ← Bool.and_or_distrib_left])
  have e2 : lqZ A &&& zset (fun m => decide (m < aM A) && (msOf A t m || msOf A u m)) 64 = zset (fun m => decide (m < aM A) && (lqU A (aM A) m && (msOf A t m || msOf A u m))) 64 := zset_eq (fun i hi => by
    unfold lqZ
    rw [tb_and, tb_set hi, tb_set hi]
    by_cases z : i < aM A
    · simp [z]
    · simp [z])
  rw [e6, e2, yh_b (by omega), yh_b (by omega), zb_0, zb_0, lg_cmp_0, zset_0, decide_eq_true ht, decide_eq_true hu, Bool.true_and, Bool.true_and, ← nI_succ]
  refine ⟨fun g => skip ?_ σ zOnly.rf rfl hL, fun g => ?_⟩
  · rcases g with g | g | g
    · unfold lyB
      rw [Bool.not_eq_true] at g
      rw [g]; rfl
    · unfold lyB
      rw [Bool.not_eq_true] at g
      rw [g, Bool.and_false]; rfl
    · refine lyB_skip hq (fun m hm hx => ?_)
      have := g m (by omega)
      rw [decide_eq_true hm, Bool.true_and, hx, Bool.true_and] at this
      exact this
  · have m1 : lyM A t = true := Decidable.not_not.mp (fun z => g (Or.inl z))
    have m2 : lyM A u = true := Decidable.not_not.mp (fun z => g (Or.inr (Or.inl z)))
    have e10 : zgl σ 7 0 10 &&& (zset (fun m => decide (m < aM A) && (msOf A t m || msOf A u m)) 64 ^^^ (-1)) = zset (fun m => (decide (m < aM A) && mO A m) && !(decide (m < aM A) && (msOf A t m || msOf A u m))) 64 := zset_eq (fun i hi => by
      rw [hR.1.2.2.2.2.2.2.1, tb_and, tb_not _ hi, tb_set hi, tb_set hi])
    rw [e10]
    refine S_X6_settle (Or.inr rfl) hW hR hG hS (fun σ1 o1 h1 _ => ?_)
    have eq1 : quB A (fun m => (decide (m < aM A) && mO A m) && !(decide (m < aM A) && (msOf A t m || msOf A u m))) = quB A (lyW A t u) := quB_cong (fun m hm => by rw [decide_eq_true hm]; rfl)
    have ov : zOnly zQv σ σ1 := o1.mono (fun c j k h => Or.inl h)
    have hL1 : zLs A σ1 c f := ⟨by rw [o1.i 10 0 9 (by omega)]; exact hL.1, fun x hx => by rw [o1.i 39 0 x (by omega)]; exact hL.2 x hx⟩
    rw [eq1, zb_0]
    refine ⟨fun g2 => skip ?_ σ1 ov h1 hL1, fun g2 => ?_⟩
    · unfold lyB
      rw [Decidable.not_not.mp g2]; simp
    · rw [Bool.not_eq_true] at g2
      have hy : lyB A t u = true := by unfold lyB; rw [m1, m2, g2]; rfl
      refine ⟨it, it, iu, fun x hx => ⟨iu, ?_⟩⟩
      rw [nI_clamp (show t < 2 ^ 31 by omega), nI_clamp (show u < 2 ^ 31 by omega)]
      have ex : x = nI (if u = t then 0 else 1) := by
        rw [hx]
        by_cases z : u = t
        · rw [if_neg (fun q => q ((nI_eq (by omega) (by omega)).mpr z)), if_pos z]; rfl
        · rw [if_pos (fun q => z ((nI_eq (by omega) (by omega)).mp q)), if_neg z]; rfl
      refine hnext _ (((ov.tr (zOnly.si (by unfold zQv; omega))).tr (zOnly.si (by unfold zQv; omega))).tr (zOnly.si (by unfold zQv; omega))) h1 ⟨?_, fun y hy2 => ?_⟩
      · rw [zgi_si, if_neg (by omega), zgi_si, if_neg (by omega), zgi_si, if_pos ⟨rfl, rfl, rfl⟩, hL1.1, if_pos hy, nI_succ]
      · rw [hy, ex]
        show _ = nI (f y + if (true && (decide (y = t) || decide (y = u))) = true then 1 else 0)
        rw [Bool.true_and]
        by_cases eu : y = u
        · subst eu
          rw [zgi_si, if_pos ⟨rfl, rfl, rfl⟩, zgi_si]
          by_cases et : y = t
          · subst et
            rw [if_pos ⟨rfl, rfl, rfl⟩, if_pos rfl, hL1.2 y hy2, ← nI_succ, nI_add]
            simp
          · rw [if_neg (fun q => et q.2.2), zgi_si, if_neg (by omega), hL1.2 y hy2, if_neg et, nI_add]
            simp
        · rw [zgi_si, if_neg (fun q => eu q.2.2), zgi_si]
          by_cases et : y = t
          · subst et
            rw [if_pos ⟨rfl, rfl, rfl⟩, hL1.2 y hy2, ← nI_succ]
            simp
          · rw [if_neg (fun q => et q.2.2), zgi_si, if_neg (by omega), hL1.2 y hy2]
            simp [eu, et]
/-- what stands while sets are tried -/
def zHv (A : zAb) (σ : zSt) : Prop := zRD A σ 0 ∧ zGr σ ∧ (∀ m, m < aM A → zSp A σ m)
theorem zHv.only {σ' : zSt} (h : zHv A σ) (ho : zOnly zQv σ σ') (hh : σ'.2.2.2 = σ.2.2.2) : zHv A σ' := ⟨h.1.only ho hh (fun c j k h => by unfold zBD at h; unfold zQv; omega), h.2.1.only ho (fun j k => by unfold zQv; omega), fun m hm => (h.2.2 m hm).only ho (fun j k => by unfold zQv; omega)⟩
theorem L_X6_sets1 {σ0 : zSt} (hW : zWf A) (hV : zHv A σ0) (hq : quB A (mO A) = true) (hQ : ∀ σ', zOnly zQv σ0 σ' → σ'.2.2.2 = σ0.2.2.2 → zLs A σ' (fb_ct (ly1 A) (aN A)) (fun x => if (decide (x < aN A) && ly1 A x) = true then 1 else 0) → Q none σ') : ∀ (n k : Nat), k + n = aN A → ∀ σ : zSt, zOnly zQv σ0 σ → σ.2.2.2 = σ0.2.2.2 → zLs A σ (fb_ct (ly1 A) k) (fun x => if (decide (x < k) && ly1 A x) = true then 1 else 0) → zE true (d + 5) kc ks M_X6_findSets 19 [some (.inr (.inr (10, 0))), some (.inl (1)), some (.inr (.inl (lqZ A))), none, some (.inl (yset (fun t => decide (t < aN A) && lyM A t) 32)), some (.inl (nI k)), none, none, none, none, none, none, none] [] σ Q := by
  have hN : aN A ≤ 24 := hW.1.2.2.2.2.1
  intro n
  induction n with
  | zero =>
    intro k hk σ ho hh hL
    have : k = aN A := by omega
    subst this
    exact T_X6_findSets_19 ⟨fun _ => hQ σ ho hh hL, fun g => absurd (by rw [zrd_nT (hV.only ho hh).1]; exact Int32.le_refl _) g⟩
  | succ n ih =>
    intro k hk σ ho hh hL
    have hV1 := hV.only ho hh
    refine T_X6_findSets_19 ⟨fun g => ?_, fun _ => S_X1_measuresOf hW hV1.1 (show k < 2 ^ 31 by omega) (fun x hx y hy => ?_)⟩
    · rw [zrd_nT hV1.1, nI_leI (by omega) (by omega)] at g
      omega
    · have ex : x = nI k := by rw [hx, if_neg (fun q => q rfl)]
      have ey : y = nI (k + 1) := by rw [hy, if_neg (fun q => q rfl), nI_succ]
      rw [ex, ey]
      refine L_X6_sets83 hW hV1.1 hV1.2.1 hV1.2.2 hq (show k < aN A by omega) (show k < aN A by omega) (by rw [nI_leI (by omega) (by omega)]; omega) hL (fun σ1 o1 h1 l1 => ?_)
      refine T_X6_findSets_83 ⟨fun _ => ?_, fun g => absurd (Int32.le_refl _) g⟩
      rw [← nI_succ]
      refine ih (k + 1) (by omega) σ1 (ho.tr o1) (h1.trans hh) (l1.of ?_ (fun x => ?_))
      · rw [lyB_1, fb_ct_succ]
      · rw [lyB_1, Bool.or_self]
        by_cases e : x = k
        · subst e
          by_cases z : ly1 A x = true
          · simp [z]
          · simp [z]
        · by_cases z : x < k
          · simp [z, e, show x < k + 1 by omega]
          · simp [z, e, show ¬ x < k + 1 by omega]
theorem L_X6_sets2i {σ0 : zSt} (hW : zWf A) (hV : zHv A σ0) (hq : quB A (mO A) = true) {t c : Nat} {f : Nat → Nat} (ht : t < aN A) (hnext : ∀ σ', zOnly zQv σ0 σ' → σ'.2.2.2 = σ0.2.2.2 → zLs A σ' (c + lyP A t (aN A)) (fun x => f x + lyQ A x t (aN A)) → zE true (d + 5) kc ks M_X6_findSets 19 [some (.inr (.inr (10, 0))), some (.inl (2)), some (.inr (.inl (lqZ A))), none, some (.inl (yset (fun t => decide (t < aN A) && lyM A t) 32)), some (.inl (nI (t + 1))), none, none, none, none, none, none, none] [] (σ') Q) : ∀ (n u : Nat), u + n = aN A → t + 1 ≤ u → ∀ σ : zSt, zOnly zQv σ0 σ → σ.2.2.2 = σ0.2.2.2 → zLs A σ (c + lyP A t u) (fun x => f x + lyQ A x t u) → zE true (d + 5) kc ks M_X6_findSets 83 [some (.inr (.inr (10, 0))), some (.inl (2)), some (.inr (.inl (lqZ A))), none, some (.inl (yset (fun t => decide (t < aN A) && lyM A t) 32)), some (.inl (nI t)), some (.inr (.inl (zset (fun m => decide (m < aM A) && msOf A t m) 64))), none, none, some (.inl (nI (aN A))), some (.inl (nI u)), none, none] [] σ Q := by
  have hN : aN A ≤ 24 := hW.1.2.2.2.2.1
  intro n
  induction n with
  | zero =>
    intro u hu htu σ ho hh hL
    have : u = aN A := by omega
    subst this
    refine T_X6_findSets_83 ⟨fun _ => ?_, fun g => absurd (Int32.le_refl _) g⟩
    rw [← nI_succ]
    exact hnext σ ho hh hL
  | succ n ih =>
    intro u hu htu σ ho hh hL
    have hV1 := hV.only ho hh
    refine L_X6_sets83 hW hV1.1 hV1.2.1 hV1.2.2 hq ht (show u < aN A by omega) (by rw [nI_leI (by omega) (by omega)]; omega) hL (fun σ1 o1 h1 l1 => ih (u + 1) (by omega) (by omega) σ1 (ho.tr o1) (h1.trans hh) (l1.of ?_ (fun x => ?_)))
    · unfold lyP
      rw [lyB_2, fb_ct_succ, decide_eq_true (show t < u by omega), Bool.true_and, Nat.add_assoc]
    · unfold lyQ
      rw [lyB_2, fb_ct_succ, decide_eq_true (show t < u by omega), Bool.true_and, Nat.add_assoc]
theorem lyP_0 (t u : Nat) (h : u ≤ t + 1) : lyP A t u = 0 := fb_ct_zero.mpr (fun k hk => by rw [show decide (t < k) = false from decide_eq_false (by omega)]; rfl)
theorem lyQ_0 (x t u : Nat) (h : u ≤ t + 1) : lyQ A x t u = 0 := fb_ct_zero.mpr (fun k hk => by rw [show decide (t < k) = false from decide_eq_false (by omega)]; rfl)
theorem L_X6_sets2 {σ0 : zSt} (hW : zWf A) (hV : zHv A σ0) (hq : quB A (mO A) = true) (hQ : ∀ σ', zOnly zQv σ0 σ' → σ'.2.2.2 = σ0.2.2.2 → zLs A σ' (fb_sm (fun t => lyP A t (aN A)) (aN A)) (fun x => fb_sm (fun t => lyQ A x t (aN A)) (aN A)) → Q none σ') : ∀ (n k : Nat), k + n = aN A → ∀ σ : zSt, zOnly zQv σ0 σ → σ.2.2.2 = σ0.2.2.2 → zLs A σ (fb_sm (fun t => lyP A t (aN A)) k) (fun x => fb_sm (fun t => lyQ A x t (aN A)) k) → zE true (d + 5) kc ks M_X6_findSets 19 [some (.inr (.inr (10, 0))), some (.inl (2)), some (.inr (.inl (lqZ A))), none, some (.inl (yset (fun t => decide (t < aN A) && lyM A t) 32)), some (.inl (nI k)), none, none, none, none, none, none, none] [] σ Q := by
  have hN : aN A ≤ 24 := hW.1.2.2.2.2.1
  intro n
  induction n with
  | zero =>
    intro k hk σ ho hh hL
    have : k = aN A := by omega
    subst this
    exact T_X6_findSets_19 ⟨fun _ => hQ σ ho hh hL, fun g => absurd (by rw [zrd_nT (hV.only ho hh).1]; exact Int32.le_refl _) g⟩
  | succ n ih =>
    intro k hk σ ho hh hL
    have hV1 := hV.only ho hh
    refine T_X6_findSets_19 ⟨fun g => ?_, fun _ => S_X1_measuresOf hW hV1.1 (show k < 2 ^ 31 by omega) (fun x hx y hy => ?_)⟩
    · rw [zrd_nT hV1.1, nI_leI (by omega) (by omega)] at g
      omega
    · have ne : ¬ (2 : Int32) = 1 := by decide
      have ex : x = nI (k + 1) := by rw [hx, if_pos ne, nI_succ]
      have ey : y = nI (aN A) := by rw [hy, if_pos ne, zrd_nT hV1.1]
      rw [ex, ey]
      exact L_X6_sets2i hW hV1 hq (show k < aN A by omega) (fun σ1 o1 h1 l1 => ih (k + 1) (by omega) σ1 (ho.tr o1) (h1.trans hh) (l1.of rfl (fun x => rfl))) n (k + 1) (by omega) (Nat.le_refl _) σ zOnly.rf rfl (hL.of (by rw [lyP_0 _ _ (Nat.le_refl _)]; rfl) (fun x => by rw [lyQ_0 _ _ _ (Nat.le_refl _)]; rfl))
theorem S_X6_findSets {K : zSt → Prop} {s : Int32} (hs : s = 1 ∨ s = 2) (hW : zWf A) (hV : zHv A σ) (hq : quB A (mO A) = true) (h0 : ∀ x, x < aN A → zgi σ 39 0 x = 0) (hK : ∀ σ', zOnly (fun c j k => zQv c j k ∨ (c = 10 ∧ k = 8)) σ σ' → σ'.2.2.2 = σ.2.2.2 → zgi σ' 10 0 8 = s → (s = 1 → zLs A σ' (fb_ct (ly1 A) (aN A)) (fun x => if (decide (x < aN A) && ly1 A x) = true then 1 else 0)) → (s = 2 → zLs A σ' (fb_sm (fun t => lyP A t (aN A)) (aN A)) (fun x => fb_sm (fun t => lyQ A x t (aN A)) (aN A))) → K σ') : zCv true (d + 5) 0 0 M_X6_findSets [.inr (.inr (10, 0)), .inl (s), .inr (.inl (lqZ A))] σ K := by
  have hN : aN A ≤ 24 := hW.1.2.2.2.2.1
  refine zC_intro pl_X6 (Nat.le_of_ble_eq_true rfl) (T_X6_findSets_0 ?_)
  have o1 : zOnly (fun c _ k => c = 10 ∧ (k = 8 ∨ k = 9)) σ (zsi (zsi σ 10 0 8 s) 10 0 9 0) := (zOnly.si ⟨rfl, Or.inl rfl⟩).tr (zOnly.si ⟨rfl, Or.inr rfl⟩)
  have e8 : zgi (zsi (zsi σ 10 0 8 s) 10 0 9 0) 10 0 8 = s := by simp [zgi_si]
  have e9 : zgi (zsi (zsi σ 10 0 8 s) 10 0 9 0) 10 0 9 = nI 0 := by simp [zgi_si]; rfl
  have hh : (zsi (zsi σ 10 0 8 s) 10 0 9 0).2.2.2 = σ.2.2.2 := rfl
  generalize zsi (zsi σ 10 0 8 s) 10 0 9 0 = σ1 at o1 e8 e9 hh ⊢
  have hV1 : zHv A σ1 := ⟨hV.1.only o1 hh (fun c j k h => by unfold zBD at h; omega), hV.2.1.only o1 (fun j k => by omega), fun m hm => (hV.2.2 m hm).only o1 (fun j k => by omega)⟩
  have hL0 : ∀ f : Nat → Nat, (∀ x, f x = 0) → zLs A σ1 0 f := fun f hf => ⟨e9, fun x hx => by rw [hf x, o1.i 39 0 x (by omega)]; exact h0 x hx⟩
  have fin : ∀ σ', zOnly zQv σ1 σ' → σ'.2.2.2 = σ1.2.2.2 → (s = 1 → zLs A σ' (fb_ct (ly1 A) (aN A)) (fun x => if (decide (x < aN A) && ly1 A x) = true then 1 else 0)) → (s = 2 → zLs A σ' (fb_sm (fun t => lyP A t (aN A)) (aN A)) (fun x => fb_sm (fun t => lyQ A x t (aN A)) (aN A))) → K σ' := fun σ' o2 h2 z1 z2 => hK σ' ((o1.mono (fun c j k h => by unfold zQv; omega)).tr (o2.mono (fun c j k h => Or.inl h))) (h2.trans hh) (by rw [o2.i 10 0 8 (by unfold zQv; omega)]; exact e8) z1 z2
  refine S_X6_suspects hW hV1.1 ?_
  rcases hs with rfl | rfl
  · exact L_X6_sets1 (Q := fun r σ' => r = none ∧ K σ') hW hV1 hq (fun σ' o2 h2 l2 => ⟨rfl, fin σ' o2 h2 (fun _ => l2) (fun q => absurd q (by decide))⟩) (aN A) 0 (by omega) σ1 zOnly.rf rfl (hL0 _ (fun x => by simp))
  · exact L_X6_sets2 (Q := fun r σ' => r = none ∧ K σ') hW hV1 hq (fun σ' o2 h2 l2 => ⟨rfl, fin σ' o2 h2 (fun q => absurd q (by decide)) (fun _ => l2)⟩) (aN A) 0 (by omega) σ1 zOnly.rf rfl (hL0 _ (fun x => rfl))
end zCg
