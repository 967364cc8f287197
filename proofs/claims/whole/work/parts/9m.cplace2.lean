/-! placings (class): what each pair of members allows -/
/-- cells of the second where the first stands on c, but for measures -/
def opB (A : zAb) (c e : Nat) : Bool := !(aAl A && decide (c = e))
def zOp (A : zAb) (t : Nat) (σ : zSt) (i j : Nat) : Prop := ∀ i' j', (i' < i ∨ (i' = i ∧ j' < j)) → i' < j' → j' < gn A t → ∀ c, c < 64 → zgl σ 44 (9 * i' + j') c = zset (opB A c) 64
/-- the pairs as far as the measures below m tell -/
def zFm2 (A : zAb) (t : Nat) (σ : zSt) (m : Nat) : Prop := ∀ i j, i < j → j < gn A t → ∀ c e, c < 64 → e < 64 → gB A (mO A) (mbr A t i) c = true → acell A e = true → tb (zgl σ 44 (9 * i + j) c) e = (prN A (mbr A t i) (mbr A t j) m c e && opB A c e)
def zPx (A : zAb) (t : Nat) (σ : zSt) : Prop := (zgi σ 11 0 4 = nI (gn A t) ∧ zgl σ 11 0 12 = zset (fun c => aAl A && shut A t c) 64) ∧ (∀ i, i < gn A t → zgi σ 40 0 i = nI (mbr A t i) ∧ zgl σ 42 0 i = zset (gB A (mO A) (mbr A t i)) 64) ∧ zFm2 A t σ (aM A)
abbrev zQpp (c _j k : Nat) : Prop := c = 40 ∨ c = 42 ∨ c = 44 ∨ (c = 11 ∧ k = 12)
section zPt
variable {d kc ks : Nat} {σ : zSt} {A : zAb} {Q : Option zV → zSt → Prop}
theorem L_X7_open15 {r : Nat} (h15 : zgi σ 7 0 15 = zb (aAl A = true)) {σ0 : zSt} (hQ : ∀ σ', zOnly (fun c a _ => c = 44 ∧ a = r) σ0 σ' → σ'.2.2.2 = σ0.2.2.2 → (∀ c, c < 64 → zgl σ' 44 r c = zset (opB A c) 64) → Q none σ') : ∀ (n k : Nat), k + n = 64 → ∀ σ : zSt, zgi σ 7 0 15 = zb (aAl A = true) → zOnly (fun c a _ => c = 44 ∧ a = r) σ0 σ → σ.2.2.2 = σ0.2.2.2 → (∀ c, c < k → zgl σ 44 r c = zset (opB A c) 64) → zE true (d + 2) kc ks M_X7_openPair 15 [some (.inr (.inr (11, 0))), none, none, some (.inr (.inr (44, r))), some (.inl (nI k))] [] σ Q := by
  intro n
  induction n with
  | zero =>
    intro k hk σ h15 ho hh hz
    have : k = 64 := by omega
    subst this
    exact T_X7_openPair_15 ⟨fun _ => hQ σ ho hh hz, fun g => absurd (show (64 : Int32) ≤ nI 64 by decide) g⟩
  | succ n ih =>
    intro k hk σ h15 ho hh hz
    refine T_X7_openPair_15 ⟨fun g => ?_, fun _ x hx => ⟨nI_in (by omega) (by omega), ?_⟩⟩
    · rw [show (64 : Int32) = nI 64 from rfl, nI_leI (by omega) (by omega)] at g
      omega
    · have ex : x = zset (opB A k) 64 := zset_eq (fun i hi => by
        rw [hx]
        unfold opB
        by_cases z : aAl A = true
        · rw [if_neg (by rw [h15, zb_0]; exact fun q => q z), tb_not _ hi, tb_bit (by omega), z, Bool.true_and]
          congr 1
          rw [decide_eq_decide]
          exact ⟨fun q => q.symm, fun q => q.symm⟩
        · rw [if_pos (by rw [h15, zb_0]; exact z), tb_m1 hi]
          rw [Bool.not_eq_true] at z
          rw [z]
          rfl)
      rw [nI_clamp (show k < 2 ^ 31 by omega), ← nI_succ, ex]
      refine ih (k + 1) (by omega) _ h15 (ho.tr (zOnly.sl ⟨rfl, rfl⟩)) hh (fun c hc => ?_)
      rw [zgl_sl]
      by_cases e : c = k
      · rw [if_pos ⟨rfl, rfl, e⟩, e]
      · rw [if_neg (fun q => e q.2.2)]
        exact hz c (by omega)
theorem ix9 {i j : Nat} : nI i * 9 + nI j = nI (9 * i + j) := by
  rw [show (9 : Int32) = nI 9 from rfl, nI_mul, nI_add, Nat.mul_comm]
theorem S_X7_openPair {K : zSt → Prop} {i j : Nat} (hi : i < 9) (hj : j < 9) (h15 : zgi σ 7 0 15 = zb (aAl A = true)) (hK : ∀ σ', zOnly (fun c a _ => c = 44 ∧ a = 9 * i + j) σ σ' → σ'.2.2.2 = σ.2.2.2 → (∀ c, c < 64 → zgl σ' 44 (9 * i + j) c = zset (opB A c) 64) → K σ') : zCv true (d + 2) 0 0 M_X7_openPair [.inr (.inr (11, 0)), .inl (nI i), .inl (nI j)] σ K := by
  refine zC_intro pl_X7 (Nat.le_of_ble_eq_true rfl) (T_X7_openPair_0 ?_)
  rw [ix9, nI_clamp (show 9 * i + j < 2 ^ 31 by omega)]
  exact ⟨nI_in (by omega) (by omega), L_X7_open15 h15 (fun σ' h1 h2 h3 => ⟨rfl, hK σ' h1 h2 h3⟩) 64 0 rfl σ h15 zOnly.rf rfl (fun c hc => absurd hc (Nat.not_lt_zero c))⟩
abbrev z44 (c _j _k : Nat) : Prop := c = 44
theorem L_X7_prep93 {t i : Nat} (h9 : gn A t ≤ 9) (hi : i < gn A t) {σ0 : zSt} (h15 : zgi σ0 7 0 15 = zb (aAl A = true)) (hs : zgi σ0 11 0 4 = nI (gn A t)) (hnext : ∀ σ', zOnly z44 σ0 σ' → σ'.2.2.2 = σ0.2.2.2 → zOp A t σ' (i + 1) 0 → zE true (d + 4) kc ks M_X7_prepare 81 [some (.inr (.inr (11, 0))), some (.inl (nI (i + 1))), none, none] [] (σ') Q) : ∀ (n j : Nat), j + n = gn A t → i < j → ∀ σ : zSt, zOnly z44 σ0 σ → σ.2.2.2 = σ0.2.2.2 → zOp A t σ i j → zE true (d + 4) kc ks M_X7_prepare 93 [some (.inr (.inr (11, 0))), some (.inl (nI i)), some (.inl (nI j)), none] [] σ Q := by
  intro n
  induction n with
  | zero =>
    intro j hj hij σ ho hh hz
    have : j = gn A t := by omega
    subst this
    refine T_X7_prepare_93 ⟨fun _ => ?_, fun g => absurd (by rw [ho.i 11 0 4 (by omega), hs]; exact Int32.le_refl _) g⟩
    rw [← nI_succ]
    exact hnext σ ho hh (fun i' j' h1 h2 h3 => hz i' j' (by omega) h2 h3)
  | succ n ih =>
    intro j hj hij σ ho hh hz
    refine T_X7_prepare_93 ⟨fun g => ?_, fun _ => S_X7_openPair (A := A) (by omega) (by omega) (by rw [ho.i 7 0 15 (by omega)]; exact h15) (fun σ1 o1 h1 z1 => ?_)⟩
    · rw [ho.i 11 0 4 (by omega), hs, nI_leI (by omega) (by omega)] at g
      omega
    · rw [← nI_succ]
      refine ih (j + 1) (by omega) (by omega) σ1 (ho.tr (o1.mono (fun c a k h => h.1))) (h1.trans hh) (fun i' j' q1 q2 q3 c hc => ?_)
      by_cases e : i' = i ∧ j' = j
      · rw [e.1, e.2]
        exact z1 c hc
      · rw [o1.l 44 _ c (by omega)]
        exact hz i' j' (by omega) q2 q3 c hc
theorem L_X7_prep81 {t : Nat} (h9 : gn A t ≤ 9) {σ0 : zSt} (h15 : zgi σ0 7 0 15 = zb (aAl A = true)) (hs : zgi σ0 11 0 4 = nI (gn A t)) (hnext : ∀ σ', zOnly z44 σ0 σ' → σ'.2.2.2 = σ0.2.2.2 → zOp A t σ' (gn A t) 0 → zE true (d + 4) kc ks M_X7_prepare 121 [some (.inr (.inr (11, 0))), none, some (.inl (0)), none] [] (σ') Q) : ∀ (n i : Nat), i + n = gn A t → ∀ σ : zSt, zOnly z44 σ0 σ → σ.2.2.2 = σ0.2.2.2 → zOp A t σ i 0 → zE true (d + 4) kc ks M_X7_prepare 81 [some (.inr (.inr (11, 0))), some (.inl (nI i)), none, none] [] σ Q := by
  intro n
  induction n with
  | zero =>
    intro i hi σ ho hh hz
    have : i = gn A t := by omega
    subst this
    exact T_X7_prepare_81 ⟨fun _ => hnext σ ho hh hz, fun g => absurd (by rw [ho.i 11 0 4 (by omega), hs]; exact Int32.le_refl _) g⟩
  | succ n ih =>
    intro i hi σ ho hh hz
    refine T_X7_prepare_81 ⟨fun g => ?_, fun _ => ?_⟩
    · rw [ho.i 11 0 4 (by omega), hs, nI_leI (by omega) (by omega)] at g
      omega
    · rw [← nI_succ]
      exact L_X7_prep93 h9 (by omega) (σ0 := σ) (by rw [ho.i 7 0 15 (by omega)]; exact h15) (by rw [ho.i 11 0 4 (by omega)]; exact hs) (fun σ1 o1 h1 z1 => ih (i + 1) (by omega) σ1 (ho.tr o1) (h1.trans hh) z1) (gn A t - (i + 1)) (i + 1) (by omega) (by omega) σ zOnly.rf rfl (fun i' j' q1 q2 q3 => hz i' j' (by omega) q2 q3)
theorem L_X7_restr64 (hW : zWf A) {σ0 : zSt} (hG : zGr σ0) {n0 m r : Nat} (hm : m < aM A) (hM : zMe A σ0 n0 m) (hS : zSp A σ0 m) {p : Nat → Bool} {f : Int32} (hQ : ∀ σ', zOnly (fun c a _ => c = 44 ∧ a = r) σ0 σ' → σ'.2.2.2 = σ0.2.2.2 → (∀ c, c < 64 → p c = true → zgl σ' 44 r c = zgl σ0 44 r c &&& zset (kpB A m f c) 64) → Q none σ') : ∀ (n k : Nat), k + n = 64 → ∀ σ : zSt, zOnly (fun c a _ => c = 44 ∧ a = r) σ0 σ → σ.2.2.2 = σ0.2.2.2 → (∀ c, c < 64 → p c = true → zgl σ 44 r c = if c < k then zgl σ0 44 r c &&& zset (kpB A m f c) 64 else zgl σ0 44 r c) → zE true (d + 3) kc ks M_X7_restrict 64 [some (.inr (.inr (11, 0))), some (.inr (.inr (17, n0))), none, none, some (.inl (f)), none, some (.inr (.inr (44, r))), some (.inr (.inl (zab p k))), none, none] [] σ Q := by
  intro n
  induction n with
  | zero =>
    intro k hk σ ho hh hz
    have : k = 64 := by omega
    subst this
    refine T_X7_restrict_64 ⟨fun _ => hQ σ ho hh (fun c hc hp => by rw [hz c hc hp, if_pos hc]), fun g => absurd (by rw [lg_cmp_0, zab_64]) g⟩
  | succ n ih =>
    intro k hk σ ho hh hz
    by_cases hp : p k = true
    · obtain ⟨l1, l2, l3⟩ := zab_low (p := p) (show k < 64 by omega) hp
      have hM1 : zMe A σ n0 m := by
        obtain ⟨q1, q2, q3, q4, q5, q6, q7⟩ := hM
        refine ⟨by unfold zcn at q1 ⊢; rw [hh]; exact q1, ?_, ?_, ?_, ?_, ?_, ?_⟩
        · rw [ho.i 17 n0 0 (by omega)]; exact q2
        · rw [ho.i 17 n0 1 (by omega)]; exact q3
        · rw [ho.i 17 n0 2 (by omega)]; exact q4
        · rw [ho.i 17 n0 3 (by omega)]; exact q5
        · rw [ho.i 17 n0 4 (by omega)]; exact q6
        · rw [ho.i 17 n0 5 (by omega)]; exact q7
      have i64 : vp_in (nI k) 64 := nI_in (by omega) (by omega)
      refine T_X7_restrict_64 ⟨fun g => absurd g l2, fun _ => ?_⟩
      rw [l1, l3, nI_clamp (show k < 2 ^ 31 by omega)]
      refine ⟨i64, S_X4_keeping hW (hG.only ho (fun j e => by omega)) hm hM1 (hS.only ho (fun j e => by omega)) (by omega) f ⟨i64, ih (k + 1) (by omega) _ (ho.tr (zOnly.sl ⟨rfl, rfl⟩)) hh (fun c hc hpc => ?_)⟩⟩
      rw [zgl_sl]
      by_cases e : c = k
      · subst e
        rw [if_pos ⟨rfl, rfl, rfl⟩, hz c hc hpc, if_neg (Nat.lt_irrefl c), if_pos (by omega)]
      · rw [if_neg (fun q => e q.2.2), hz c hc hpc]
        by_cases l : c < k
        · rw [if_pos l, if_pos (by omega)]
        · rw [if_neg l, if_neg (by omega)]
    · rw [zab_skip (by rw [Bool.not_eq_true] at hp; exact hp)]
      refine ih (k + 1) (by omega) σ ho hh (fun c hc hpc => ?_)
      rw [hz c hc hpc]
      by_cases e : c = k
      · subst e; exact absurd hpc hp
      · by_cases l : c < k
        · rw [if_pos l, if_pos (by omega)]
        · rw [if_neg l, if_neg (by omega)]
/-- what holds of the members while pairs are restricted -/
def zPy (A : zAb) (t : Nat) (σ : zSt) : Prop := zgi σ 11 0 4 = nI (gn A t) ∧ ∀ i, i < gn A t → zgi σ 40 0 i = nI (mbr A t i) ∧ zgl σ 42 0 i = zset (gB A (mO A) (mbr A t i)) 64
theorem zPy.only {t : Nat} {σ' : zSt} {M : Nat → Nat → Nat → Prop} (h : zPy A t σ) (ho : zOnly M σ σ') (hm : ¬ M 11 0 4 ∧ ∀ k, ¬ M 40 0 k ∧ ¬ M 42 0 k) : zPy A t σ' := ⟨by rw [ho.i 11 0 4 hm.1]; exact h.1, fun i hi => ⟨by rw [ho.i 40 0 i (hm.2 i).1]; exact (h.2 i hi).1, by rw [ho.l 42 0 i (hm.2 i).2]; exact (h.2 i hi).2⟩⟩
theorem S_X7_restrict {K : zSt → Prop} (hW : zWf A) (hG : zGr σ) {t n0 m : Nat} (h9 : gn A t ≤ 9) (hP : zPy A t σ) (hm : m < aM A) (hM : zMe A σ n0 m) (hS : zSp A σ m) (hon : mO A m = true) (ha : gr A t (mA A m)) (hb : gr A t (mB A m)) (hF : zFm2 A t σ m) (hK : ∀ σ', zOnly z44 σ σ' → σ'.2.2.2 = σ.2.2.2 → zFm2 A t σ' (m + 1) → K σ') : zCv true (d + 3) 0 0 M_X7_restrict [.inr (.inr (11, 0)), .inr (.inr (17, n0))] σ K := by
  obtain ⟨w1, w2, w3, w4, -⟩ := hW.2.2.1 m hm
  obtain ⟨ga, ea⟩ := mbr_of w2 ha
  obtain ⟨gb, eb⟩ := mbr_of w3 hb
  have eA := hM.2.2.2.1
  have eB := hM.2.2.2.2.1
  refine zC_intro pl_X7 (Nat.le_of_ble_eq_true rfl) (T_X7_restrict_0 ?_)
  rw [eA]
  refine S_X7_placeOf hW w2 h9 hP.1 (fun i hi => (hP.2 i hi).1) (fun q => absurd ha q) (fun _ => ?_)
  rw [eB]
  refine S_X7_placeOf hW w3 h9 hP.1 (fun i hi => (hP.2 i hi).1) (fun q => absurd hb q) (fun _ x6 hx6 x7 hx7 x8 hx8 => ?_)
  generalize fb_ct (grB A t) (mA A m) = ia at ga ea hx6 hx7 hx8
  generalize fb_ct (grB A t) (mB A m) = ib at gb eb hx6 hx7 hx8
  have hne : ia ≠ ib := fun q => w4 (by rw [← ea, ← eb, q])
  have c6 : (nI ib ≤ nI ia) ↔ ib ≤ ia := nI_leI (by omega) (by omega)
  have c7 : (nI ib < nI ia) ↔ ib < ia := nI_ltI (by omega) (by omega)
  have c8 : (nI ia < nI ib) ↔ ia < ib := nI_ltI (by omega) (by omega)
  -- the first and the second of the pair
  have go : ∀ (i j : Nat) (f : Int32), i < j → j < gn A t → (∀ c e, c < 64 → e < 64 → acell A c = true → acell A e = true → kpB A m f c e = !bdM A (mbr A t i) (mbr A t j) c e m) → (∀ i' j', i' < j' → j' < gn A t → ¬ (i' = i ∧ j' = j) → ∀ c e, bdM A (mbr A t i') (mbr A t j') c e m = false) → vp_in (nI i * 9 + nI j) 81 ∧ vp_in (nI i) 9 ∧ zE true (d + 3) 0 0 M_X7_restrict 64 [some (.inr (.inr (11, 0))), some (.inr (.inr (17, n0))), none, none, some (.inl f), none, some (.inr (.inr (44, (nI i * 9 + nI j).toNatClampNeg))), some (.inr (.inl (zgl σ 42 0 (nI i).toNatClampNeg))), none, none] [] σ (fun r σ' => r = none ∧ K σ') := by
    intro i j f hij hj hk1 hk2
    rw [ix9, nI_clamp (show 9 * i + j < 2 ^ 31 by omega), nI_clamp (show i < 2 ^ 31 by omega), (hP.2 i (by omega)).2, zab_0]
    refine ⟨nI_in (by omega) (by omega), nI_in (by omega) (by omega), L_X7_restr64 hW hG hm hM hS (fun σ' o h z => ⟨rfl, hK σ' (o.mono (fun c a k q => q.1)) h (fun i' j' q1 q2 c e hc he hg hac => ?_)⟩) 64 0 rfl σ zOnly.rf rfl (fun c hc hp => by rw [if_neg (Nat.not_lt_zero c)])⟩
    have h0 := hF i' j' q1 q2 c e hc he hg hac
    rw [prN_succ]
    by_cases y : i' = i ∧ j' = j
    · obtain ⟨rfl, rfl⟩ := y
      rw [z c hc hg, tb_and, tb_set he, h0, hk1 c e hc he (gB_cell hW hg) hac]
      cases prN A (mbr A t i') (mbr A t j') m c e <;> cases opB A c e <;> cases bdM A (mbr A t i') (mbr A t j') c e m <;> rfl
    · rw [o.l 44 _ c (by omega), h0, hk2 i' j' q1 q2 y c e]
      simp
  have other : ∀ i j : Nat, i < j → (i = ia ∧ j = ib ∨ i = ib ∧ j = ia) → ∀ i' j', i' < j' → j' < gn A t → ¬ (i' = i ∧ j' = j) → ∀ c e, bdM A (mbr A t i') (mbr A t j') c e m = false := by
    intro i j hij hor i' j' h1 h2 hn c e
    unfold bdM
    have n1 : ¬ (mA A m = mbr A t i' ∧ mB A m = mbr A t j') := fun q => by
      have a1 := mbr_inj (A := A) (t := t) (i := ia) (j := i') ga (by omega) (by rw [ea]; exact q.1)
      have a2 := mbr_inj (A := A) (t := t) (i := ib) (j := j') gb h2 (by rw [eb]; exact q.2)
      omega
    have n2 : ¬ (mB A m = mbr A t i' ∧ mA A m = mbr A t j') := fun q => by
      have a1 := mbr_inj (A := A) (t := t) (i := ib) (j := i') gb (by omega) (by rw [eb]; exact q.1)
      have a2 := mbr_inj (A := A) (t := t) (i := ia) (j := j') ga h2 (by rw [ea]; exact q.2)
      omega
    have b1 : (decide (mA A m = mbr A t i') && decide (mB A m = mbr A t j')) = false := by
      rw [← Bool.not_eq_true, Bool.and_eq_true, decide_eq_true_eq, decide_eq_true_eq]
      exact n1
    have b2 : (decide (mB A m = mbr A t i') && decide (mA A m = mbr A t j')) = false := by
      rw [← Bool.not_eq_true, Bool.and_eq_true, decide_eq_true_eq, decide_eq_true_eq]
      exact n2
    rw [b1, b2]
    simp
  by_cases l : ia < ib
  · rw [if_neg (fun q => by have := c6.mp q; omega)] at hx6
    rw [if_neg (fun q => by have := c7.mp q; omega)] at hx7
    rw [if_pos (c8.mpr l)] at hx8
    subst hx6 hx7 hx8
    refine go ia ib 1 l gb (fun c e hc he hac hae => ?_) (other ia ib l (Or.inl ⟨rfl, rfl⟩))
    unfold kpB bdM kept
    rw [if_neg (by decide), ea, eb, hon, hac, hae, decide_eq_true rfl, decide_eq_true rfl, decide_eq_false (fun q => w4 q.symm)]
    simp
  · have l2 : ib < ia := by omega
    rw [if_pos (c6.mpr (by omega))] at hx6
    rw [if_pos (c7.mpr l2)] at hx7
    rw [if_neg (fun q => l (c8.mp q))] at hx8
    subst hx6 hx7 hx8
    refine go ib ia 0 l2 ga (fun c e hc he hac hae => ?_) (other ib ia l2 (Or.inr ⟨rfl, rfl⟩))
    unfold kpB bdM kept
    rw [if_pos rfl, ea, eb, hon, hac, hae, decide_eq_true rfl, decide_eq_true rfl, decide_eq_false w4]
    simp
theorem L_X7_prep121 (hW : zWf A) {σ0 : zSt} (hR : zRD A σ0 0) (hG : zGr σ0) (hS : ∀ m, m < aM A → zSp A σ0 m) {t : Nat} (ht : t < aN A) (h9 : gn A t ≤ 9) (hg : zgi σ0 11 0 3 = yset (grB A t) 32) (hP : zPy A t σ0) (hQ : ∀ σ', zOnly z44 σ0 σ' → σ'.2.2.2 = σ0.2.2.2 → zFm2 A t σ' (aM A) → Q none σ') : ∀ (n m : Nat), m + n = aM A → ∀ σ : zSt, zOnly z44 σ0 σ → σ.2.2.2 = σ0.2.2.2 → zFm2 A t σ m → zE true (d + 4) kc ks M_X7_prepare 121 [some (.inr (.inr (11, 0))), none, some (.inl (nI m)), none] [] σ Q := by
  have hN : aN A ≤ 24 := hW.1.2.2.2.2.1
  have hM : aM A ≤ 60 := hW.1.2.2.2.2.2.1
  intro n
  induction n with
  | zero =>
    intro m hm σ ho hh hz
    have : m = aM A := by omega
    subst this
    exact T_X7_prepare_121 ⟨fun _ => hQ σ ho hh hz, fun g => absurd (by rw [ho.i 7 0 8 (by omega), zrd_nM hR]; exact Int32.le_refl _) g⟩
  | succ n ih =>
    intro m hm σ ho hh hz
    have hmM : m < aM A := by omega
    have hR1 : zRD A σ 0 := hR.only ho hh (fun c j k h => by unfold zBD at h; omega)
    obtain ⟨w1, w2, w3, w4, -⟩ := hW.2.2.1 m hmM
    obtain ⟨n0, r1, hMe⟩ := hR1.2.2.1 m hmM
    refine T_X7_prepare_121 ⟨fun g => ?_, fun _ => ⟨nI_in (by omega) (by omega), n0, by rw [nI_clamp (show m < 2 ^ 31 by omega)]; exact r1, ?_⟩⟩
    · rw [zrd_nM hR1, nI_leI (by omega) (by omega)] at g
      omega
    · rw [hR1.1.2.2.2.2.2.2.1, zh_b (by omega), ho.i 11 0 3 (by omega), hg, hMe.2.2.2.1, hMe.2.2.2.2.1, yh_b (by omega), yh_b (by omega), zb_0, zb_0, zb_0, decide_eq_true hmM, Bool.true_and, grB_iff, grB_iff, ← nI_succ]
      refine ⟨fun g => ih (m + 1) (by omega) σ ho hh (fun i j h1 h2 c e hc he hgc hae => ?_), fun g => ?_⟩
      · have hb : bdM A (mbr A t i) (mbr A t j) c e m = false := by
          unfold bdM
          by_cases y : mO A m = true
          · have gi := (mbr_ok (A := A) (t := t) (i := i) (by omega)).2.1
            have gj := (mbr_ok (A := A) (t := t) (i := j) h2).2.1
            have n1 : ¬ (mA A m = mbr A t i ∧ mB A m = mbr A t j) := fun q => by
              rcases g with g | g | g
              · exact g y
              · exact g (by rw [q.1]; exact gi)
              · exact g (by rw [q.2]; exact gj)
            have n2 : ¬ (mB A m = mbr A t i ∧ mA A m = mbr A t j) := fun q => by
              rcases g with g | g | g
              · exact g y
              · exact g (by rw [q.2]; exact gj)
              · exact g (by rw [q.1]; exact gi)
            have b1 : (decide (mA A m = mbr A t i) && decide (mB A m = mbr A t j)) = false := by
              rw [← Bool.not_eq_true, Bool.and_eq_true, decide_eq_true_eq, decide_eq_true_eq]
              exact n1
            have b2 : (decide (mB A m = mbr A t i) && decide (mA A m = mbr A t j)) = false := by
              rw [← Bool.not_eq_true, Bool.and_eq_true, decide_eq_true_eq, decide_eq_true_eq]
              exact n2
            rw [b1, b2]
            simp
          · rw [Bool.not_eq_true] at y
            rw [y]
            rfl
        rw [hz i j h1 h2 c e hc he hgc hae, prN_succ, hb]
        simp
      · have g1 : mO A m = true := Decidable.not_not.mp (fun q => g (Or.inl q))
        have g2 : gr A t (mA A m) := Classical.byContradiction (fun q => g (Or.inr (Or.inl q)))
        have g3 : gr A t (mB A m) := Classical.byContradiction (fun q => g (Or.inr (Or.inr q)))
        exact S_X7_restrict hW (hG.only ho (fun j k => by omega)) h9 (hP.only ho ⟨by omega, fun k => by omega⟩) hmM hMe ((hS m hmM).only ho (fun j k => by omega)) g1 g2 g3 hz (fun σ1 o1 h1 z1 => ih (m + 1) (by omega) σ1 (ho.tr o1) (h1.trans hh) z1)
theorem L_X7_prep26 (hW : zWf A) {σ0 : zSt} (hR : zRD A σ0 0) (hY : zRy A σ0) {t : Nat} (ht : t < aN A) (h9 : gn A t ≤ 9) (hg : zgi σ0 11 0 3 = yset (grB A t) 32) (hnext : ∀ σ', zOnly (fun c _ _ => c = 40 ∨ c = 42) σ0 σ' → σ'.2.2.2 = σ0.2.2.2 → (∀ i, i < gn A t → zgi σ' 40 0 i = nI (mbr A t i) ∧ zgl σ' 42 0 i = zset (gB A (mO A) (mbr A t i)) 64) → zE true (d + 4) kc ks M_X7_prepare 81 [some (.inr (.inr (11, 0))), some (.inl (0)), none, none] [] (σ') Q) : ∀ (n u : Nat), u + n = aN A → ∀ σ : zSt, zOnly (fun c _ _ => c = 40 ∨ c = 42) σ0 σ → σ.2.2.2 = σ0.2.2.2 → (∀ i, i < fb_ct (grB A t) u → zgi σ 40 0 i = nI (mbr A t i) ∧ zgl σ 42 0 i = zset (gB A (mO A) (mbr A t i)) 64) → zE true (d + 4) kc ks M_X7_prepare 26 [some (.inr (.inr (11, 0))), some (.inl (nI (fb_ct (grB A t) u))), some (.inl (nI u)), none] [] σ Q := by
  have hN : aN A ≤ 24 := hW.1.2.2.2.2.1
  intro n
  induction n with
  | zero =>
    intro u hu σ ho hh hz
    have : u = aN A := by omega
    subst this
    exact T_X7_prepare_26 ⟨fun _ => hnext σ ho hh hz, fun g => absurd (by rw [ho.i 7 0 3 (by omega), zrd_nT hR]; exact Int32.le_refl _) g⟩
  | succ n ih =>
    intro u hu σ ho hh hz
    have huN : u < aN A := by omega
    have hle := fb_ct_le (grB A t) u
    refine T_X7_prepare_26 ⟨fun g => ?_, fun _ => ?_⟩
    · rw [ho.i 7 0 3 (by omega), zrd_nT hR, nI_leI (by omega) (by omega)] at g
      omega
    · rw [ho.i 11 0 3 (by omega), hg, yh_b (by omega), zb_0, nI_clamp (show fb_ct (grB A t) u < 2 ^ 31 by omega), ← nI_succ, ← nI_succ]
      refine ⟨fun g => ?_, fun g => ?_⟩
      · have e : fb_ct (grB A t) u = fb_ct (grB A t) (u + 1) := by rw [fb_ct_succ, if_neg g]; rfl
        rw [e] at hz ⊢
        exact ih (u + 1) (by omega) σ ho hh hz
      · rw [Decidable.not_not] at g
        obtain ⟨g1, g2⟩ := mbr_of huN (grB_iff.mp g)
        have e : fb_ct (grB A t) u + 1 = fb_ct (grB A t) (u + 1) := by rw [fb_ct_succ, if_pos g]
        have v9 : vp_in (nI (fb_ct (grB A t) u)) 9 := nI_in (by omega) (by omega)
        have hY1 : zRy A (zsi σ 40 0 (fb_ct (grB A t) u) (nI u)) := hY.only (M := fun c _ _ => c = 40 ∨ c = 42) (ho.tr (zOnly.si (Or.inl rfl))) ⟨fun j k => by omega, by omega⟩
        refine ⟨v9, S_X6_cellsOf hW hY1 huN ⟨v9, ?_⟩⟩
        rw [e]
        refine ih (u + 1) (by omega) _ ((ho.tr (zOnly.si (Or.inl rfl))).tr (zOnly.sl (Or.inr rfl))) hh (fun i hi => ?_)
        rw [zgi_sl, zgi_si, zgl_sl, zgl_si]
        by_cases z : i = fb_ct (grB A t) u
        · rw [if_pos ⟨rfl, rfl, z⟩, if_pos ⟨rfl, rfl, z⟩, z, g2]
          exact ⟨rfl, rfl⟩
        · rw [if_neg (fun q => z q.2.2), if_neg (fun q => z q.2.2)]
          exact hz i (by omega)
theorem S_X7_prepare {K : zSt → Prop} (hW : zWf A) (hR : zRD A σ 0) (hG : zGr σ) (hY : zRy A σ) {t : Nat} (ht : t < aN A) (h9 : gn A t ≤ 9) (hg : zgi σ 11 0 3 = yset (grB A t) 32) (hs : zgi σ 11 0 4 = nI (gn A t)) (hK : ∀ σ', zOnly zQpp σ σ' → σ'.2.2.2 = σ.2.2.2 → zPx A t σ' → K σ') : zCv true (d + 4) 0 0 M_X7_prepare [.inr (.inr (11, 0))] σ K := by
  have h15 := hR.1.2.2.2.2.2.2.2.2
  have go : ∀ σ1 : zSt, zOnly (fun c _ k => c = 11 ∧ k = 12) σ σ1 → σ1.2.2.2 = σ.2.2.2 → zgl σ1 11 0 12 = zset (fun c => aAl A && shut A t c) 64 → zE true (d + 4) 0 0 M_X7_prepare 26 [some (.inr (.inr (11, 0))), some (.inl 0), some (.inl 0), none] [] σ1 (fun r σ' => r = none ∧ K σ') := by
    intro σ1 o1 h1 z1
    have hR1 : zRD A σ1 0 := hR.only o1 h1 (fun c j k h => by unfold zBD at h; omega)
    refine L_X7_prep26 hW hR1 (hY.only o1 ⟨fun j k => by omega, by omega⟩) ht h9 (by rw [o1.i 11 0 3 (by omega)]; exact hg) (fun σ2 o2 h2 z2 => ?_) (aN A) 0 (by omega) σ1 zOnly.rf rfl (fun i hi => absurd hi (Nat.not_lt_zero i))
    have hR2 : zRD A σ2 0 := hR1.only o2 h2 (fun c j k h => by unfold zBD at h; omega)
    refine L_X7_prep81 h9 (σ0 := σ2) (by rw [o2.i 7 0 15 (by omega), o1.i 7 0 15 (by omega)]; exact h15) (by rw [o2.i 11 0 4 (by omega), o1.i 11 0 4 (by omega)]; exact hs) (fun σ3 o3 h3 z3 => ?_) (gn A t) 0 (by omega) σ2 zOnly.rf rfl (fun i' j' q => by omega)
    have oa : zOnly zQpp σ σ3 := ((o1.mono (fun c j k h => Or.inr (Or.inr (Or.inr h)))).tr (o2.mono (fun c j k h => by omega))).tr (o3.mono (fun c j k h => by omega))
    have hR3 : zRD A σ3 0 := hR2.only o3 h3 (fun c j k h => by unfold zBD at h; omega)
    have hP3 : zPy A t σ3 := by
      refine ⟨by rw [oa.i 11 0 4 (by unfold zQpp; omega)]; exact hs, fun i hi => ?_⟩
      rw [o3.i 40 0 i (by omega), o3.l 42 0 i (by omega)]
      exact z2 i hi
    refine L_X7_prep121 hW hR3 (hG.only oa (fun j k => by unfold zQpp; omega)) (fun m hm => (hY.1 m hm).only oa (fun j k => by unfold zQpp; omega)) ht h9 (by rw [oa.i 11 0 3 (by unfold zQpp; omega)]; exact hg) hP3 (fun σ4 o4 h4 z4 => ⟨rfl, hK σ4 (oa.tr (o4.mono (fun c j k h => by omega))) (h4.trans (h3.trans (h2.trans h1))) ?_⟩) (aM A) 0 (by omega) σ3 zOnly.rf rfl (fun i j q1 q2 c e hc he hgc hae => ?_)
    · rw [z3 i j (by omega) q1 q2 c hc, tb_set he]
      show opB A c e = (prN A (mbr A t i) (mbr A t j) 0 c e && opB A c e)
      have : prN A (mbr A t i) (mbr A t j) 0 c e = true := rfl
      rw [this, Bool.true_and]
    · have p4 := hP3.only o4 ⟨by omega, fun k => by omega⟩
      refine ⟨⟨p4.1, ?_⟩, p4.2, z4⟩
      rw [o4.l 11 0 12 (by omega), o3.l 11 0 12 (by omega), o2.l 11 0 12 (by omega)]
      exact z1
  refine zC_intro pl_X7 (Nat.le_of_ble_eq_true rfl) (T_X7_prepare_0 ?_)
  rw [h15]
  refine ⟨fun g => go _ (zOnly.sl ⟨rfl, rfl⟩) rfl ?_, fun g => S_X7_cellsOfStrangers hW hR hg (go _ (zOnly.sl ⟨rfl, rfl⟩) rfl ?_)⟩
  · rw [zb_0, Bool.not_eq_true] at g
    rw [zgl_sl, if_pos ⟨rfl, rfl, rfl⟩]
    exact zset_eq (fun i hi => by rw [tb_0, g]; rfl)
  · rw [zb_0, Decidable.not_not] at g
    rw [zgl_sl, if_pos ⟨rfl, rfl, rfl⟩]
    exact zset_cong (fun i hi => by rw [g, Bool.true_and])
end zPt
