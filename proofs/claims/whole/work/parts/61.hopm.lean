/-! the reference's hops: a queue; its numbers are the least -/
theorem zsq8 : ∀ x, x < 8 → ∀ y, y < 8 → (nI x - nI y) * (nI x - nI y) = nI ((((x : Nat) : Int) - ((y : Nat) : Int)).natAbs * (((x : Nat) : Int) - ((y : Nat) : Int)).natAbs) := by decide +kernel
theorem zdm_n {a b : Nat} (ha : a < 64) (hb : b < 64) : zdm (nI a) (nI b) = nI (zdist a b) := by
  unfold zdm zdist
  rw [nI_mod8 a ha, nI_mod8 b hb, nI_div8 a ha, nI_div8 b hb, zsq8 _ (by omega) _ (by omega), zsq8 _ (by omega) _ (by omega), nI_add]
theorem zdist_le {a b : Nat} (ha : a < 64) (hb : b < 64) : zdist a b ≤ 98 := by
  unfold zdist
  have h1 : (((a % 8 : Nat) : Int) - ((b % 8 : Nat) : Int)).natAbs ≤ 7 := by omega
  have h2 : (((a / 8 : Nat) : Int) - ((b / 8 : Nat) : Int)).natAbs ≤ 7 := by omega
  have h3 := Nat.mul_le_mul h1 h1
  have h4 := Nat.mul_le_mul h2 h2
  omega
theorem iI_add1 (z : Int) : iI z + 1 = iI (z + 1) := by
  unfold iI
  rw [Int32.ofInt_add]
  rfl
/-- the queue at work: come in it, k of them done, of the k-th the cells below e -/
def zHq (A : zAb) (r c : Nat) (σ : zSt) (come k e : Nat) (h : Nat → Int) (q : Nat → Nat) : Prop :=
  (∀ x, x < 64 → zgi σ 73 0 x = iI (h x) ∧ -1 ≤ h x) ∧
  (∀ i, i < come → zgi σ 74 0 i = nI (q i) ∧ q i < 64 ∧ 0 ≤ h (q i) ∧ h (q i) ≤ i) ∧
  (∀ x, x < 64 → 0 ≤ h x → hopLe A r c (h x).toNat x = true ∧ ∃ i, i < come ∧ q i = x) ∧
  (∀ i j, i ≤ j → j < come → h (q i) ≤ h (q j)) ∧
  (∀ j, k < come → j < come → h (q j) ≤ h (q k) + 1) ∧
  (∀ i, i < k → i < come → ∀ x, x < 64 → afree A x = true → zdist (q i) x ≤ r → 0 ≤ h x ∧ h x ≤ h (q i) + 1) ∧
  (k < come → ∀ x, x < e → x < 64 → afree A x = true → zdist (q k) x ≤ r → 0 ≤ h x ∧ h x ≤ h (q k) + 1) ∧
  come = fb_ct (fun x => decide (0 ≤ h x)) 64 ∧ h c = 0
theorem zHq.add {A : zAb} {r c : Nat} {σ : zSt} {come k e : Nat} {h : Nat → Int} {q : Nat → Nat} (hq : zHq A r c σ come k e h q) (hk : k < come) (he : e < 64) (hf : afree A e = true) (hn : h e < 0) (hr : zdist (q k) e ≤ r) : come < 64 ∧ zHq A r c (zsi (zsi σ 73 0 e (iI (h (q k) + 1))) 74 0 come (nI e)) (come + 1) k (e + 1) (fun x => if x = e then h (q k) + 1 else h x) (fun i => if i = come then e else q i) := by
  obtain ⟨h1, h2, h3, h4, h5, h6, h7, h8, h9⟩ := hq
  have q0 := h2 k hk
  have hne : ∀ i, i < come → q i ≠ e := fun i hi z => by
    have := (h2 i hi).2.2.1
    rw [z] at this
    omega
  have hup := fb_ct_upd (fun x => decide (0 ≤ h x)) true he
  have hcg : fb_ct (fun x => decide (0 ≤ (if x = e then h (q k) + 1 else h x))) 64 = fb_ct (fun x => if x = e then true else decide (0 ≤ h x)) 64 := fb_ct_cong (fun x _ => by
    by_cases z : x = e
    · simp only [if_pos z]
      rw [decide_eq_true_iff]; omega
    · simp only [if_neg z])
  have hde : decide (0 ≤ h e) = false := by simp; omega
  rw [hde] at hup
  simp only [if_true, Bool.false_eq_true, if_false] at hup
  have hle := fb_ct_le (fun x => if x = e then true else decide (0 ≤ h x)) 64
  have hcome : come < 64 := by omega
  refine ⟨hcome, fun x hx => ?_, fun i hi => ?_, fun x hx h0 => ?_, fun i j hij hj => ?_, fun j _ hj => ?_, fun i hi hc2 x hx hfx hrx => ?_, fun _ x hx hx2 hfx hrx => ?_, ?_, ?_⟩
  · rw [zgi_si, if_neg (by omega), zgi_si]
    by_cases z : x = e
    · subst z
      simp only [if_true, and_self]
      exact ⟨trivial, by omega⟩
    · rw [if_neg (fun w => z w.2.2)]
      simp only [if_neg z]
      exact h1 x hx
  · rw [zgi_si]
    by_cases z : i = come
    · subst z
      simp only [if_true, and_self]
      exact ⟨trivial, he, by omega, by omega⟩
    · rw [if_neg (fun w => z w.2.2), zgi_si, if_neg (by omega)]
      simp only [if_neg z]
      rw [if_neg (hne i (by omega))]
      exact h2 i (by omega)
  · by_cases z : x = e
    · subst z
      simp only [if_true] at h0 ⊢
      refine ⟨?_, come, by omega, by simp⟩
      have := (h3 (q k) q0.2.1 q0.2.2.1).1
      rw [show (h (q k) + 1).toNat = (h (q k)).toNat + 1 by omega]
      exact hopLe_step this hf hr
    · simp only [if_neg z] at h0 ⊢
      obtain ⟨g1, i, g2, g3⟩ := h3 x hx h0
      exact ⟨g1, i, by omega, by rw [if_neg (by omega)]; exact g3⟩
  · by_cases z : j = come
    · subst z
      simp only [if_true]
      by_cases w : i = j
      · simp [w]
      · simp only [if_neg w]
        rw [if_neg (hne i (by omega))]
        exact h5 i hk (by omega)
    · have : i ≠ come := by omega
      simp only [if_neg z, if_neg this]
      rw [if_neg (hne i (by omega)), if_neg (hne j (by omega))]
      exact h4 i j hij (by omega)
  · have w : k ≠ come := by omega
    simp only [if_neg w]
    rw [if_neg (hne k hk)]
    by_cases z : j = come
    · simp [z]
    · simp only [if_neg z]
      rw [if_neg (hne j (by omega))]
      exact h5 j hk (by omega)
  · have w : i ≠ come := by omega
    simp only [if_neg w] at hrx ⊢
    rw [if_neg (hne i (by omega))]
    have g := h6 i hi (by omega) x hx hfx hrx
    by_cases z : x = e
    · subst z; omega
    · simp only [if_neg z]; exact g
  · have w : k ≠ come := by omega
    simp only [if_neg w] at hrx ⊢
    rw [if_neg (hne k hk)]
    by_cases z : x = e
    · simp only [if_pos z]; omega
    · simp only [if_neg z]
      exact h7 hk x (by omega) hx2 hfx hrx
  · rw [hcg]; omega
  · show (if c = e then h (q k) + 1 else h c) = 0
    rw [if_neg (fun z => by rw [z] at h9; omega)]
    exact h9
theorem zHq.skip {A : zAb} {r c : Nat} {σ : zSt} {come k e : Nat} {h : Nat → Int} {q : Nat → Nat} (hq : zHq A r c σ come k e h q) (hk : k < come) (hs : afree A e = true → zdist (q k) e ≤ r → 0 ≤ h e) : zHq A r c σ come k (e + 1) h q := by
  obtain ⟨h1, h2, h3, h4, h5, h6, h7, h8, h9⟩ := hq
  refine ⟨h1, h2, h3, h4, h5, h6, fun _ x hx hx2 hfx hrx => ?_, h8, h9⟩
  by_cases z : x = e
  · subst z
    have g := hs hfx hrx
    refine ⟨g, ?_⟩
    obtain ⟨i, hi, e⟩ := (h3 x hx2 g).2
    rw [← e]
    exact h5 i hk hi
  · exact h7 hk x (by omega) hx2 hfx hrx
theorem zHq.next {A : zAb} {r c : Nat} {σ : zSt} {come k : Nat} {h : Nat → Int} {q : Nat → Nat} (hq : zHq A r c σ come k 64 h q) (hk : k < come) : zHq A r c σ come (k + 1) 0 h q := by
  obtain ⟨h1, h2, h3, h4, h5, h6, h7, h8, h9⟩ := hq
  refine ⟨h1, h2, h3, h4, fun j hk2 hj => ?_, fun i hi hc x hx hfx hrx => ?_, fun _ x hx => absurd hx (Nat.not_lt_zero x), h8, h9⟩
  · have a := h5 j hk hj
    have b := h4 k (k + 1) (by omega) hk2
    omega
  · by_cases z : i = k
    · subst z
      exact h7 hk x hx hx hfx hrx
    · exact h6 i (by omega) hc x hx hfx hrx
/-- the least numbers of hops stand in the row, -1 where none leads -/
def zHr (A : zAb) (r c : Nat) (σ : zSt) : Prop := ∃ h : Nat → Int, (∀ x, x < 64 → zgi σ 73 0 x = iI (h x) ∧ -1 ≤ h x ∧ h x < 64) ∧ ∀ x, x < 64 → (∀ n : Nat, h x = (n : Int) ↔ hopAt A r c n x = true) ∧ (h x = -1 ↔ ∀ n, hopLe A r c n x = false)
theorem zHq.fin {A : zAb} {r c : Nat} {σ : zSt} {come k : Nat} {h : Nat → Int} {q : Nat → Nat} (hc : c < 64) (hq : zHq A r c σ come k 0 h q) (hk : come ≤ k) : zHr A r c σ := by
  obtain ⟨h1, h2, h3, h4, h5, h6, h7, h8, h9⟩ := hq
  have R1 : ∀ (n x : Nat), x < 64 → hopLe A r c n x = true → 0 ≤ h x ∧ h x ≤ n := by
    intro n
    induction n with
    | zero =>
      intro x hx hl
      simp only [hopLe, Bool.and_eq_true, decide_eq_true_eq] at hl
      rw [hl.2, h9]
      omega
    | succ n ih =>
      intro x hx hl
      rcases hopLe_inv hl with g | ⟨g1, e, g2, g3, g4⟩
      · have := ih x hx g; omega
      · have a := ih e g2 g3
        obtain ⟨i, hi, ei⟩ := (h3 e g2 a.1).2
        have b := h6 i (by omega) hi x hx g1 (by rw [ei]; exact g4)
        rw [ei] at b
        omega
  have hb : ∀ x, x < 64 → h x < 64 := fun x hx => by
    by_cases g : 0 ≤ h x
    · obtain ⟨i, hi, ei⟩ := (h3 x hx g).2
      have a := (h2 i hi).2.2.2
      rw [ei] at a
      have := fb_ct_le (fun x => decide (0 ≤ h x)) 64
      omega
    · omega
  refine ⟨h, fun x hx => ⟨(h1 x hx).1, (h1 x hx).2, hb x hx⟩, fun x hx => ⟨fun n => ⟨fun e => ?_, fun e => ?_⟩, fun e n => ?_, fun e => ?_⟩⟩
  · have g := (h3 x hx (by omega)).1
    rw [show (h x).toNat = n by omega] at g
    refine hopAt_of g (fun j hj => ?_)
    by_cases w : hopLe A r c j x = true
    · have := R1 j x hx w; omega
    · simpa using w
  · have a := R1 n x hx (hopAt_le e)
    have g := (h3 x hx a.1).1
    by_cases w : (h x).toNat < n
    · rw [hopAt_lt e w] at g; cases g
    · omega
  · by_cases w : hopLe A r c n x = true
    · have := R1 n x hx w; omega
    · simpa using w
  · by_cases w : 0 ≤ h x
    · have g := (h3 x hx w).1
      rw [e] at g; cases g
    · have := (h1 x hx).2; omega
section zM8
variable {d kc ks : Nat} {σ : zSt} {A : zAb} {Q : Option zV → zSt → Prop}
abbrev zHm (c _j _k : Nat) : Prop := c = 73 ∨ c = 74
theorem L_X12_hop49 (hW : zWf A) {σ0 : zSt} (hR : zRM A σ0) {r c k : Nat} (hr : r ≤ 98) (hk64 : k < 64) (hnext : ∀ σ' come h q, zOnly zHm σ0 σ' → k < come → come ≤ 64 → zHq A r c σ' come (k + 1) 0 h q → zE true (d + 4) kc ks M_X12_hopFrom 40 [some (.inr (.inr (54, 0))), none, some (.inl (nI r)), some (.inl (nI come)), some (.inl (nI (k + 1))), none] [] (σ') Q) : ∀ (n e : Nat), e + n = 64 → ∀ (σ : zSt) (come : Nat) (h : Nat → Int) (q : Nat → Nat), zOnly zHm σ0 σ → k < come → come ≤ 64 → zHq A r c σ come k e h q → zE true (d + 4) kc ks M_X12_hopFrom 49 [some (.inr (.inr (54, 0))), none, some (.inl (nI r)), some (.inl (nI come)), some (.inl (nI k)), some (.inl (nI e))] [] σ Q := by
  intro n
  induction n with
  | zero =>
    intro e he σ come h q ho hk hc hq
    have : e = 64 := by omega
    subst this
    refine T_X12_hopFrom_49 ⟨fun _ => ?_, fun h => absurd (show (64 : Int32) ≤ nI 64 by decide) h⟩
    rw [← nI_succ]
    exact hnext σ come h q ho hk hc (hq.next hk)
  | succ n ih =>
    intro e he σ come h q ho hk hc hq
    have hR2 : zRM A σ := hR.only ho (fun c k hb => by unfold zBM at hb; unfold zHm; omega)
    have q1 := hq.1 e (by omega)
    have q2 := hq.2.1 k hk
    have q3 := hq.1 (q k) q2.2.1
    refine T_X12_hopFrom_49 ⟨fun g => ?_, fun _ => S_X12_isFree hW hR2 e (by omega) ?_⟩
    · rw [show (64 : Int32) = nI 64 from rfl, nI_leI (by omega) (by omega)] at g
      omega
    · have b64 : h (q k) < 64 := by omega
      rw [nI_clamp (show e < 2 ^ 31 by omega), nI_clamp (show k < 2 ^ 31 by omega), nI_clamp (show come < 2 ^ 31 by omega), q1.1, q2.1, nI_clamp (show q k < 2 ^ 31 by omega), q3.1, zdm_n q2.2.1 (by omega), iI_add1, ← nI_succ, ← nI_succ]
      have hd := zdist_le q2.2.1 (show e < 64 by omega)
      have e0 : h e < 64 := by
        by_cases g : 0 ≤ h e
        · obtain ⟨i, hi, ei⟩ := (hq.2.2.1 e (by omega) g).2
          have := (hq.2.1 i hi).2.2.2
          rw [ei] at this
          omega
        · omega
      have c1 : (0 : Int32) ≤ iI (h e) ↔ 0 ≤ h e := iI_le (a := 0) (by omega) (by omega)
      have c2 : nI r < nI (zdist (q k) e) ↔ r < zdist (q k) e := nI_ltI (by omega) (by omega)
      refine ⟨fun _ => nI_in (by omega) (by omega), fun _ _ => nI_in (by omega) (by omega), fun g => ?_, fun g => ?_⟩
      · rw [zb_0, c1, c2] at g
        refine ih (e + 1) (by omega) σ come h q ho hk hc (hq.skip hk (fun g1 g2 => ?_))
        rcases g with g | g | g
        · exact absurd g1 g
        · exact g
        · omega
      · rw [zb_0, c1, c2] at g
        have g1 : afree A e = true := Decidable.not_not.mp (fun z => g (Or.inl z))
        have g2 : h e < 0 := by
          by_cases z : 0 ≤ h e
          · exact absurd (Or.inr (Or.inl z)) g
          · omega
        have g3 : zdist (q k) e ≤ r := by
          by_cases z : r < zdist (q k) e
          · exact absurd (Or.inr (Or.inr z)) g
          · omega
        obtain ⟨hlt, hadd⟩ := hq.add hk (by omega) g1 g2 g3
        exact ⟨nI_in (by omega) (by omega), nI_in (by omega) (by omega), nI_in (by omega) (by omega), nI_in (by omega) (by omega), ih (e + 1) (by omega) _ (come + 1) _ _ ((ho.tr (zOnly.si (Or.inl rfl))).tr (zOnly.si (Or.inr rfl))) (by omega) (by omega) hadd⟩
theorem L_X12_hop40 (hW : zWf A) {σ0 : zSt} (hR : zRM A σ0) {r c : Nat} (hc64 : c < 64) (hr : r ≤ 98) (hQ : ∀ σ', zOnly zHm σ0 σ' → zHr A r c σ' → Q none σ') : ∀ (n k : Nat), k + n = 65 → ∀ (σ : zSt) (come : Nat) (h : Nat → Int) (q : Nat → Nat), zOnly zHm σ0 σ → k ≤ come → come ≤ 64 → zHq A r c σ come k 0 h q → zE true (d + 4) kc ks M_X12_hopFrom 40 [some (.inr (.inr (54, 0))), none, some (.inl (nI r)), some (.inl (nI come)), some (.inl (nI k)), none] [] σ Q := by
  intro n
  induction n with
  | zero => intro k hk σ come h q ho h1 h2; omega
  | succ n ih =>
    intro k hk σ come h q ho h1 h2 hq
    refine T_X12_hopFrom_40 ⟨fun g => ?_, fun g => ?_⟩
    · rw [nI_leI (by omega) (by omega)] at g
      exact hQ σ ho (hq.fin hc64 g)
    · rw [nI_leI (by omega) (by omega)] at g
      exact L_X12_hop49 hW hR hr (by omega) (fun σ' come' h' q' o1 o2 o3 o4 => ih (k + 1) (by omega) σ' come' h' q' o1 (by omega) o3 o4) 64 0 (by omega) σ come h q ho (by omega) h2 hq
theorem L_X12_hop2 (hW : zWf A) {σ0 : zSt} (hR : zRM A σ0) {r c : Nat} (hc : afree A c = true) (hr : r ≤ 98) (hQ : ∀ σ', zOnly zHm σ0 σ' → zHr A r c σ' → Q none σ') : ∀ (n k : Nat), k + n = 64 → ∀ σ : zSt, zOnly zHm σ0 σ → (∀ x, x < k → zgi σ 73 0 x = -1) → zE true (d + 4) kc ks M_X12_hopFrom 2 [some (.inr (.inr (54, 0))), some (.inl (nI c)), some (.inl (nI r)), some (.inl (nI k)), none, none] [] σ Q := by
  have hc64 := afree_64 hc
  intro n
  induction n with
  | zero =>
    intro k hk σ ho hz
    have : k = 64 := by omega
    subst this
    refine T_X12_hopFrom_2 ⟨fun _ => ⟨nI_in (by omega) (by omega), nI_in (c := 0) (by omega) (by omega), ?_⟩, fun h => absurd (show (64 : Int32) ≤ nI 64 by decide) h⟩
    rw [nI_clamp (show c < 2 ^ 31 by omega), show (0 : Int32).toNatClampNeg = 0 from rfl]
    have e1 : fb_ct (fun x => decide ((0 : Int) ≤ (if x = c then 0 else -1))) 64 = 1 := by
      have h := fb_ct_upd (fun _ => false) true hc64
      have h2 : fb_ct (fun _ => false) 64 = 0 := fb_ct_zero.mpr (fun _ _ => rfl)
      rw [h2] at h
      have h3 : fb_ct (fun x => decide ((0 : Int) ≤ (if x = c then 0 else -1))) 64 = fb_ct (fun k => if k = c then true else false) 64 := fb_ct_cong (fun x _ => by
        by_cases z : x = c
        · simp [z]
        · simp [z])
      rw [h3]
      simpa using h
    refine L_X12_hop40 hW hR hc64 hr hQ 65 0 rfl _ 1 (fun x => if x = c then 0 else -1) (fun _ => c) ((ho.tr (zOnly.si (Or.inl rfl))).tr (zOnly.si (Or.inr rfl))) (by omega) (by omega) ⟨fun x hx => ?_, fun i hi => ?_, fun x hx h0 => ?_, fun i j hij hj => Int.le_refl _, fun j _ hj => by simp, fun i hi => by omega, fun _ x hx => by omega, e1.symm, by simp⟩
    · rw [zgi_si, if_neg (by omega), zgi_si]
      by_cases z : x = c
      · subst z; simp; rfl
      · rw [if_neg (fun w => z w.2.2)]
        simp only [if_neg z]
        exact ⟨hz x hx, by omega⟩
    · have : i = 0 := by omega
      subst this
      rw [zgi_si]
      simp [hc64]
    · by_cases z : x = c
      · subst z
        simp only [if_true]
        exact ⟨hopLe_self hc, 0, by omega, trivial⟩
      · simp [z] at h0
  | succ n ih =>
    intro k hk σ ho hz
    refine T_X12_hopFrom_2 ⟨fun h => ?_, fun _ => ⟨nI_in (by omega) (by omega), ?_⟩⟩
    · rw [show (64 : Int32) = nI 64 from rfl, nI_leI (by omega) (by omega)] at h
      omega
    · rw [← nI_succ, nI_clamp (show k < 2 ^ 31 by omega)]
      refine ih (k + 1) (by omega) _ (ho.tr (zOnly.si (Or.inl rfl))) (fun x hx => ?_)
      rw [zgi_si]
      by_cases z : x = k
      · simp [z]
      · rw [if_neg (fun w => z w.2.2)]
        exact hz x (by omega)
theorem S_X12_hopFrom {K : zSt → Prop} (hW : zWf A) (hR : zRM A σ) {r c : Nat} (hc : afree A c = true) (hr : r ≤ 98) (hK : ∀ σ', zOnly zHm σ σ' → zHr A r c σ' → K σ') : zCv true (d + 4) 0 0 M_X12_hopFrom [.inr (.inr (54, 0)), .inl (nI c), .inl (nI r)] σ K :=
  zC_intro pl_X12 (Nat.le_of_ble_eq_true rfl) (T_X12_hopFrom_0 (L_X12_hop2 hW hR hc hr (fun σ' h1 h2 => ⟨rfl, hK σ' h1 h2⟩) 64 0 rfl σ zOnly.rf (fun x hx => by omega)))
/-- hops between two cells -/
def aHops (A : zAb) (r c x : Nat) : Int → Prop := fun z => (∀ n : Nat, z = (n : Int) ↔ hopAt A r c n x = true) ∧ (z = -1 ↔ ∀ n, hopLe A r c n x = false) ∧ -1 ≤ z ∧ z < 64
theorem O_X12_hops {K : Int32 → zSt → Prop} (hW : zWf A) (hR : zRM A σ) (a b e : Int32) (hno : ¬ (acI A a = true ∧ acI A b = true) → K (-1) σ) (hout : (acI A a = true ∧ acI A b = true) → ¬ (0 ≤ e.toInt ∧ e.toInt ≤ 98) → K (-2) σ)
    (hst : ∀ c x r, c < 64 → x < 64 → r ≤ 98 → a = nI c → b = nI x → e = nI r → acell A c = true → acell A x = true → ¬ (afree A c = true ∧ afree A x = true) → K (-3) σ)
    (hyes : ∀ c x r, c < 64 → x < 64 → r ≤ 98 → a = nI c → b = nI x → e = nI r → afree A c = true → afree A x = true → ∀ z σ', aHops A r c x z → zOnly zHm σ σ' → K (iI z) σ') : zCi true (d + 5) 0 0 M_X12_hops [.inr (.inr (54, 0)), .inl (a), .inl (b), .inl (e)] σ K := by
  have he : (0 ≤ e.toInt64 ∧ e.toInt64 ≤ 98) ↔ (0 ≤ e.toInt ∧ e.toInt ≤ 98) := zin_c e (l := 0) (h := 98) (by omega) (by omega)
  refine zC_intro pl_X12 (Nat.le_of_ble_eq_true rfl) (T_X12_hops_0 (S_X12_isCell hW hR a ⟨fun h => ⟨_, rfl, hno ?_⟩, fun h => S_X12_isCell hW hR b ⟨fun h2 => ⟨fun h3 => ?_, fun h3 => ⟨_, rfl, hout ?_ ?_⟩⟩, fun h2 => ⟨_, rfl, hno ?_⟩⟩⟩))
  · rw [zb_0] at h
    exact fun q => h q.1
  · rw [zb_0, Decidable.not_not] at h h2
    rw [zb_0, Decidable.not_not, he] at h3
    obtain ⟨c, hc, hac, rfl⟩ := acI_nI h
    obtain ⟨x, hx, hax, rfl⟩ := acI_nI h2
    obtain ⟨r, hr, rfl⟩ : ∃ r : Nat, r ≤ 98 ∧ e = nI r := ⟨e.toInt.toNat, by omega, zI_of h3.1⟩
    refine ⟨nI_in (by omega) (by omega), fun _ => nI_in (by omega) (by omega), fun g => ?_, fun g => ?_⟩
    · rw [nI_clamp (show c < 2 ^ 31 by omega), nI_clamp (show x < 2 ^ 31 by omega), hR.1.2.2.2.2.2.2 c hc, hR.1.2.2.2.2.2.2 x hx, zb_0, zb_0] at g
      refine ⟨_, rfl, hst c x r hc hx hr rfl rfl rfl hac hax (fun q => ?_)⟩
      simp only [afree, hac, hax, Bool.true_and] at q
      rcases g with g | g
      · exact g (by simpa using q.1)
      · exact g (by simpa using q.2)
    · rw [nI_clamp (show c < 2 ^ 31 by omega), nI_clamp (show x < 2 ^ 31 by omega), hR.1.2.2.2.2.2.2 c hc, hR.1.2.2.2.2.2.2 x hx, zb_0, zb_0] at g
      have f1 : afree A c = true := by
        have : ¬ aWl A c = true := fun z => g (Or.inl (fun w => w z))
        simp [afree, hac, this]
      have f2 : afree A x = true := by
        have : ¬ aWl A x = true := fun z => g (Or.inr (fun w => w z))
        simp [afree, hax, this]
      refine S_X12_hopFrom hW hR f1 hr (fun σ' ho hh => ⟨nI_in (by omega) (by omega), _, rfl, ?_⟩)
      obtain ⟨h, q1, q2⟩ := hh
      rw [nI_clamp (show x < 2 ^ 31 by omega), (q1 x hx).1]
      exact hyes c x r hc hx hr rfl rfl rfl f1 f2 _ _ ⟨(q2 x hx).1, (q2 x hx).2, (q1 x hx).2.1, (q1 x hx).2.2⟩ ho
  · rw [zb_0, Decidable.not_not] at h h2
    exact ⟨h, h2⟩
  · rw [zb_0, he] at h3
    exact h3
  · rw [zb_0] at h2
    exact fun q => h2 q.2
end zM8
