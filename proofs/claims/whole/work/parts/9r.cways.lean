/-! ways of movers (class) -/
/-- rows of cells that go on from a tick on -/
def zWo (A : zAb) (σ : zSt) (v k : Nat) : Prop := ∀ t, k ≤ t → t < vT A v → ∀ c, c < 64 → gB A (mO A) (vF A v + t) c = true → zgl σ 52 t c = lN (wyG A v (vT A v - 1 - t) c)
def zCY (A : zAb) (σ : zSt) : Prop := zgi σ 13 0 4 = -9 ∨ ∃ v, v < aV A ∧ zgi σ 13 0 4 = nI v ∧ zWo A σ v 0
theorem zWo.only {A : zAb} {σ σ' : zSt} {v k : Nat} {M : Nat → Nat → Nat → Prop} (h : zWo A σ v k) (ho : zOnly M σ σ') (hm : ∀ j e, ¬ M 52 j e) : zWo A σ' v k := fun t h1 h2 c hc hg => by rw [ho.l 52 t c (hm t c)]; exact h t h1 h2 c hc hg
theorem zCY.only {A : zAb} {σ σ' : zSt} {M : Nat → Nat → Nat → Prop} (h : zCY A σ) (ho : zOnly M σ σ') (hm : ¬ M 13 0 4 ∧ ∀ j e, ¬ M 52 j e) : zCY A σ' := by
  unfold zCY
  rw [ho.i 13 0 4 hm.1]
  rcases h with h | ⟨v, h1, h2, h3⟩
  · exact Or.inl h
  · exact Or.inr ⟨v, h1, h2, h3.only ho hm.2⟩
theorem wyG_0 {A : zAb} {v t c : Nat} (ht : t < vT A v) (hg : gB A (mO A) (vF A v + t) c = false) : wyG A v (vT A v - 1 - t) c = 0 := by
  cases hr : vT A v - 1 - t with
  | zero =>
    unfold wyG
    rw [show vF A v + (vT A v - 1) = vF A v + t by omega, hg]
    rfl
  | succ r =>
    unfold wyG
    rw [show vF A v + (vT A v - 1 - (r + 1)) = vF A v + t by omega, hg]
    rfl
theorem wyG_s {A : zAb} {v t c : Nat} (ht : t + 1 < vT A v) (hg : gB A (mO A) (vF A v + t) c = true) : wyG A v (vT A v - 1 - t) c = fb_sm (fun e => if zdist c e ≤ vR A v then wyG A v (vT A v - 1 - (t + 1)) e else 0) 64 := by
  obtain ⟨r, hr⟩ : ∃ r, vT A v - 1 - t = r + 1 := ⟨vT A v - 1 - t - 1, by omega⟩
  rw [hr, show vT A v - 1 - (t + 1) = r by omega]
  show (if gB A (mO A) (vF A v + (vT A v - 1 - (r + 1))) c = true then _ else 0) = _
  rw [show vF A v + (vT A v - 1 - (r + 1)) = vF A v + t by omega, if_pos hg]
theorem wyG_l {A : zAb} {v t c : Nat} (ht : t + 1 = vT A v) (hg : gB A (mO A) (vF A v + t) c = true) : wyG A v (vT A v - 1 - t) c = 1 := by
  rw [show vT A v - 1 - t = 0 by omega]
  show (if gB A (mO A) (vF A v + (vT A v - 1)) c = true then 1 else 0) = 1
  rw [show vF A v + (vT A v - 1) = vF A v + t by omega, if_pos hg]
theorem sm_cut {f : Nat → Nat} {a n : Nat} (h : a ≤ n) : fb_sm (fun k => if k < a then f k else 0) n = fb_sm f a := by
  have := fb_sm_split (fun k => if k < a then f k else 0) a (n - a)
  rw [show a + (n - a) = n by omega] at this
  have z1 : fb_sm (fun k => if k < a then f k else 0) a = fb_sm f a := fb_sm_cong (fun k hk => by
    show (if k < a then f k else 0) = f k
    rw [if_pos hk])
  have z2 : fb_sm (fun k => (fun k => if k < a then f k else 0) (a + k)) (n - a) = 0 := sm_0 (fun k hk => by
    show (if a + k < a then f (a + k) else 0) = 0
    rw [if_neg (by omega)])
  rw [this, z1, z2]
  rfl
theorem tb_low {c i : Nat} (hc : c < 64) (hi : i < 64) : tb (zlshl 1 (nI c) - 1) i = decide (i < c) := by
  have h : ∀ c, c < 64 → ∀ i, i < 64 → tb (zlshl 1 (nI c) - 1) i = decide (i < c) := by decide +kernel
  exact h c hc i hi
theorem pkN_eq {f : Nat → Nat} {x k : Nat} (hk : k < 64) (h1 : fb_sm f k ≤ x) (h2 : x < fb_sm f (k + 1)) : pkN f x = k := by
  unfold pkN
  rw [zfst_some (p := fun c => decide (x < fb_sm f (c + 1))) (k := k) (decide_eq_true h2) (fun i hi => decide_eq_false (by
    have := fb_sm_mono f (i + 1) (k - (i + 1))
    rw [show i + 1 + (k - (i + 1)) = k by omega] at this
    omega)) hk]
  rfl
section zYs
variable {d kc ks : Nat} {σ : zSt} {A : zAb} {Q : Option zV → zSt → Prop}
theorem S_X10_cellsAt {K : Int64 → zSt → Prop} (hW : zWf A) (hR : zRD A σ 0) (hY : zRy A σ) {v t : Nat} (hv : v < aV A) (ht : t < vT A v) (hK : K (zset (gB A (mO A) (vF A v + t)) 64) σ) : zCl true (d + 2) 0 0 M_X10_cellsAt [.inr (.inr (13, 0)), .inl (nI v), .inl (nI t)] σ K := by
  have hV : aV A ≤ 3 := hW.1.2.2.2.2.2.2
  have w := hW.2.2.2 v hv
  refine zC_intro pl_X10 (Nat.le_of_ble_eq_true rfl) (T_X10_cellsAt_0 ?_)
  rw [nI_clamp (show v < 2 ^ 31 by omega), (hR.2.2.2 v hv).1, nI_add]
  exact ⟨nI_in (by omega) (by omega), S_X6_cellsOf hW hY (by omega) ⟨_, rfl, hK⟩⟩
theorem S_X10_next {K : Int64 → zSt → Prop} (hW : zWf A) (hR : zRD A σ 0) (hG : zGr σ) (hY : zRy A σ) {v t c : Nat} (hv : v < aV A) (ht : t + 1 < vT A v) (hc : c < 64) (hK : K (zset (fun e => decide (zdist c e ≤ vR A v) && gB A (mO A) (vF A v + (t + 1)) e) 64) σ) : zCl true (d + 3) 0 0 M_X10_next [.inr (.inr (13, 0)), .inl (nI v), .inl (nI t), .inl (nI c)] σ K := by
  have hV : aV A ≤ 3 := hW.1.2.2.2.2.2.2
  have w := hW.2.2.2 v hv
  refine zC_intro pl_X10 (Nat.le_of_ble_eq_true rfl) (T_X10_next_0 ?_)
  rw [nI_clamp (show v < 2 ^ 31 by omega), (hR.2.2.2 v hv).2.2, nI_clamp (show vR A v < 2 ^ 31 by omega), nI_clamp (show c < 2 ^ 31 by omega), hG.1 (vR A v) c (by omega) hc, ← nI_succ]
  refine ⟨nI_in (by omega) (by omega), nI_in (by omega) (by omega), nI_in (by omega) (by omega), S_X10_cellsAt hW hR hY hv ht ⟨_, rfl, ?_⟩⟩
  rw [zset_eq (x := zset (fun d => decide (zdist c d ≤ vR A v)) 64 &&& zset (gB A (mO A) (vF A v + (t + 1))) 64) (p := fun e => decide (zdist c e ≤ vR A v) && gB A (mO A) (vF A v + (t + 1)) e) (fun i hi => by rw [tb_and, tb_set hi, tb_set hi])]
  exact hK
theorem L_X10_sum6 {t : Nat} {p : Nat → Bool} {g : Nat → Nat} (ht : t < 8) (hp : ∀ c, c < 64 → p c = true → zgl σ 52 t c = lN (g c)) (hQ : Q (some (.inr (.inl (lN (fb_sm (fun c => if p c = true then g c else 0) 64))))) σ) : ∀ (n k : Nat), k + n = 64 → zE true (d + 3) kc ks M_X10_sum 6 [some (.inr (.inr (13, 0))), some (.inl (nI t)), none, none, some (.inr (.inl (lN (fb_sm (fun c => if p c = true then g c else 0) k)))), none, some (.inr (.inl (zab p k))), none] [] σ Q := by
  intro n
  induction n with
  | zero =>
    intro k hk
    have : k = 64 := by omega
    subst this
    exact T_X10_sum_6 ⟨fun _ => hQ, fun g2 => absurd (by rw [lg_cmp_0, zab_64]) g2⟩
  | succ n ih =>
    intro k hk
    have es := fb_sm_succ (fun c => if p c = true then g c else 0) k
    by_cases z : p k = true
    · obtain ⟨l1, l2, l3⟩ := zab_low (p := p) (show k < 64 by omega) z
      have es' : fb_sm (fun c => if p c = true then g c else 0) (k + 1) = fb_sm (fun c => if p c = true then g c else 0) k + g k := by
        rw [es]
        show _ + (if p k = true then g k else 0) = _
        rw [if_pos z]
      refine T_X10_sum_6 ⟨fun g2 => absurd g2 l2, fun _ => ?_⟩
      rw [l1, l3, nI_clamp (show t < 2 ^ 31 by omega), nI_clamp (show k < 2 ^ 31 by omega), hp k (by omega) z, lN_ad, ← es']
      exact ⟨nI_in (by omega) (by omega), nI_in (by omega) (by omega), ih (k + 1) (by omega)⟩
    · have es' : fb_sm (fun c => if p c = true then g c else 0) (k + 1) = fb_sm (fun c => if p c = true then g c else 0) k := by
        rw [es]
        show _ + (if p k = true then g k else 0) = _
        rw [if_neg z]
        rfl
      rw [zab_skip (by rw [Bool.not_eq_true] at z; exact z), ← es']
      exact ih (k + 1) (by omega)
theorem S_X10_sum {K : Int64 → zSt → Prop} {t : Nat} {p : Nat → Bool} (g : Nat → Nat) (ht : t < 8) (hp : ∀ c, c < 64 → p c = true → zgl σ 52 t c = lN (g c)) (hK : K (lN (fb_sm (fun c => if p c = true then g c else 0) 64)) σ) : zCl true (d + 3) 0 0 M_X10_sum [.inr (.inr (13, 0)), .inl (nI t), .inr (.inl (zset p 64))] σ K := by
  refine zC_intro pl_X10 (Nat.le_of_ble_eq_true rfl) (T_X10_sum_0 ?_)
  rw [zab_0]
  exact L_X10_sum6 (g := g) ht hp ⟨_, rfl, hK⟩ 64 0 rfl
abbrev z52 (c _j _k : Nat) : Prop := c = 52
theorem L_X10_from29 (hW : zWf A) {σ0 : zSt} (hR : zRD A σ0 0) (hG : zGr σ0) (hY : zRy A σ0) {v t : Nat} (hv : v < aV A) (ht : t < vT A v) {x : Int32} (hx : x = zb (t + 1 = vT A v)) (hO : zWo A σ0 v (t + 1)) (hQ : ∀ σ', zOnly z52 σ0 σ' → σ'.2.2.2 = σ0.2.2.2 → zWo A σ' v t → Q none σ') : ∀ (n k : Nat), k + n = 64 → ∀ σ : zSt, zOnly z52 σ0 σ → σ.2.2.2 = σ0.2.2.2 → zWo A σ v (t + 1) → (∀ c, c < k → gB A (mO A) (vF A v + t) c = true → zgl σ 52 t c = lN (wyG A v (vT A v - 1 - t) c)) → zE true (d + 4) kc ks M_X10_countFrom 29 [some (.inr (.inr (13, 0))), some (.inl (nI v)), some (.inl (nI t)), some (.inl (x)), some (.inr (.inl (zab (gB A (mO A) (vF A v + t)) k))), none, none] [] σ Q := by
  have hV : aV A ≤ 3 := hW.1.2.2.2.2.2.2
  have w := hW.2.2.2 v hv
  intro n
  induction n with
  | zero =>
    intro k hk σ ho hh hw hz
    have : k = 64 := by omega
    subst this
    refine T_X10_countFrom_29 ⟨fun _ => hQ σ ho hh (fun u h1 h2 c hc hg => ?_), fun g2 => absurd (by rw [lg_cmp_0, zab_64]) g2⟩
    by_cases e : u = t
    · subst e; exact hz c hc hg
    · exact hw u (by omega) h2 c hc hg
  | succ n ih =>
    intro k hk σ ho hh hw hz
    by_cases z : gB A (mO A) (vF A v + t) k = true
    · obtain ⟨l1, l2, l3⟩ := zab_low (p := gB A (mO A) (vF A v + t)) (show k < 64 by omega) z
      have put : ∀ y : Int64, y = lN (wyG A v (vT A v - 1 - t) k) → zE true (d + 4) kc ks M_X10_countFrom 74 [some (.inr (.inr (13, 0))), some (.inl (nI v)), some (.inl (nI t)), some (.inl (x)), some (.inr (.inl (zab (gB A (mO A) (vF A v + t)) k))), none, none] [.inr (.inl (y)), .inl (nI k), .inr (.inr (52, t))] σ Q := fun y hy => by
        subst hy
        refine T_X10_countFrom_74 ⟨nI_in (by omega) (by omega), ?_⟩
        rw [l3, nI_clamp (show k < 2 ^ 31 by omega)]
        refine ih (k + 1) (by omega) _ (ho.tr (zOnly.sl rfl)) hh (fun u h1 h2 c hc hg => ?_) (fun c hc hg => ?_)
        · rw [zgl_sl, if_neg (by omega)]
          exact hw u h1 h2 c hc hg
        · rw [zgl_sl]
          by_cases e : c = k
          · rw [if_pos ⟨rfl, rfl, e⟩, e]
          · rw [if_neg (fun q => e q.2.2)]
            exact hz c (by omega) hg
      refine T_X10_countFrom_29 ⟨fun g2 => absurd g2 l2, fun _ => ⟨nI_in (by omega) (by omega), fun g => ?_, fun g => ?_⟩⟩
      · rw [hx, zb_0] at g
        have ht1 : t + 1 < vT A v := by omega
        rw [l1, nI_clamp (show t < 2 ^ 31 by omega), ← nI_succ]
        refine S_X10_next hW (hR.only ho hh (fun c j k h => by unfold zBD at h; omega)) (hG.only ho (fun j k => by omega)) (hY.only ho ⟨fun j k => by omega, by omega⟩) hv ht1 (by omega) (S_X10_sum (wyG A v (vT A v - 1 - (t + 1))) (by omega) (fun c hc hp => ?_) (put _ ?_))
        · rw [Bool.and_eq_true] at hp
          exact hw (t + 1) (Nat.le_refl _) ht1 c hc hp.2
        · rw [wyG_s ht1 z]
          congr 1
          refine fb_sm_cong (fun e he => ?_)
          by_cases y : zdist k e ≤ vR A v
          · rw [decide_eq_true y, Bool.true_and, if_pos y]
            by_cases y2 : gB A (mO A) (vF A v + (t + 1)) e = true
            · rw [if_pos y2]
            · rw [if_neg y2, wyG_0 ht1 (by rw [Bool.not_eq_true] at y2; exact y2)]
          · rw [decide_eq_false y, Bool.false_and, if_neg y, if_neg (by decide)]
      · rw [hx, zb_0, Decidable.not_not] at g
        rw [l1, nI_clamp (show t < 2 ^ 31 by omega)]
        exact put 1 (by rw [wyG_l g z]; rfl)
    · rw [zab_skip (by rw [Bool.not_eq_true] at z; exact z)]
      refine ih (k + 1) (by omega) σ ho hh hw (fun c hc hg => ?_)
      by_cases e : c = k
      · subst e; exact absurd hg z
      · exact hz c (by omega) hg
theorem S_X10_countFrom {K : zSt → Prop} (hW : zWf A) (hR : zRD A σ 0) (hG : zGr σ) (hY : zRy A σ) {v t : Nat} (hv : v < aV A) (ht : t < vT A v) (hO : zWo A σ v (t + 1)) (hK : ∀ σ', zOnly z52 σ σ' → σ'.2.2.2 = σ.2.2.2 → zWo A σ' v t → K σ') : zCv true (d + 4) 0 0 M_X10_countFrom [.inr (.inr (13, 0)), .inl (nI v), .inl (nI t)] σ K := by
  have hV : aV A ≤ 3 := hW.1.2.2.2.2.2.2
  have w := hW.2.2.2 v hv
  refine zC_intro pl_X10 (Nat.le_of_ble_eq_true rfl) (T_X10_countFrom_0 ⟨nI_in (by omega) (by omega), fun x hx => S_X10_cellsAt hW hR hY hv ht ?_⟩)
  rw [nI_clamp (show v < 2 ^ 31 by omega), (hR.2.2.2 v hv).2.1, show (1 : Int32) = nI 1 from rfl, nI_sub (by omega)] at hx
  have ex : x = zb (t + 1 = vT A v) := by
    rw [hx]
    refine zb_of0 ?_
    rw [nI_eqI (by omega) (by omega)]
    omega
  rw [zab_0]
  exact L_X10_from29 hW hR hG hY hv ht ex hO (fun σ' o h z => ⟨rfl, hK σ' o h z⟩) 64 0 rfl σ zOnly.rf rfl hO (fun c hc => absurd hc (Nat.not_lt_zero c))
abbrev zQcy (c _j k : Nat) : Prop := c = 52 ∨ (c = 13 ∧ k = 4)
theorem L_X10_count41 {K : Int64 → zSt → Prop} (hW : zWf A) (hR : zRD A σ 0) (hY : zRy A σ) {v : Nat} (hv : v < aV A) (hO : zWo A σ v 0) (hK : K (lN (wyT A v)) σ) : zE true (d + 5) kc ks M_X10_count 41 [some (.inr (.inr (13, 0))), some (.inl (nI v)), none] [] σ (fun r σ' => ∃ x, r = some (.inr (.inl x)) ∧ K x σ') := by
  have w := hW.2.2.2 v hv
  refine T_X10_count_41 (S_X10_cellsAt (t := 0) hW hR hY hv (by omega) (S_X10_sum (t := 0) (wyG A v (vT A v - 1)) (by omega) (fun c hc hp => ?_) ⟨_, rfl, ?_⟩))
  · have := hO 0 (Nat.le_refl 0) (by omega) c hc hp
    rw [Nat.sub_zero] at this
    exact this
  · have e : fb_sm (fun c => if gB A (mO A) (vF A v + 0) c = true then wyG A v (vT A v - 1) c else 0) 64 = wyT A v := fb_sm_cong (fun c hc => by
      show (if gB A (mO A) (vF A v + 0) c = true then wyG A v (vT A v - 1) c else 0) = wyG A v (vT A v - 1) c
      by_cases y : gB A (mO A) (vF A v + 0) c = true
      · rw [if_pos y]
      · have := wyG_0 (A := A) (v := v) (t := 0) (c := c) (by omega) (by rw [Bool.not_eq_true] at y; exact y)
        rw [Nat.sub_zero] at this
        rw [if_neg y, this])
    rw [e]
    exact hK
theorem L_X10_count20 {K : Int64 → zSt → Prop} (hW : zWf A) {σ0 : zSt} (hR : zRD A σ0 0) (hG : zGr σ0) (hY : zRy A σ0) {v : Nat} (hv : v < aV A) (hK : ∀ σ', zOnly zQcy σ0 σ' → σ'.2.2.2 = σ0.2.2.2 → zgi σ' 13 0 4 = nI v → zWo A σ' v 0 → K (lN (wyT A v)) σ') : ∀ (n : Nat), n ≤ vT A v → ∀ σ : zSt, zOnly z52 σ0 σ → σ.2.2.2 = σ0.2.2.2 → zWo A σ v n → zE true (d + 5) kc ks M_X10_count 20 [some (.inr (.inr (13, 0))), some (.inl (nI v)), some (.inl (iI ((n : Int) - 1)))] [] σ (fun r σ' => ∃ x, r = some (.inr (.inl x)) ∧ K x σ') := by
  have w := hW.2.2.2 v hv
  intro n
  induction n with
  | zero =>
    intro _ σ ho hh hO
    have oz : zOnly zQcy σ (zsi σ 13 0 4 (nI v)) := zOnly.si (Or.inr ⟨rfl, rfl⟩)
    have oa : zOnly zQcy σ0 (zsi σ 13 0 4 (nI v)) := (ho.mono (fun c j k h => Or.inl h)).tr oz
    have o1 : zOnly (fun c _ k => c = 13 ∧ k = 4) σ (zsi σ 13 0 4 (nI v)) := zOnly.si ⟨rfl, rfl⟩
    have hO1 : zWo A (zsi σ 13 0 4 (nI v)) v 0 := hO.only o1 (fun j e => by omega)
    exact T_X10_count_20 ⟨fun _ => L_X10_count41 hW (hR.only oa hh (fun c j k h => by unfold zBD at h; unfold zQcy; omega)) (hY.only oa ⟨fun j k => by unfold zQcy; omega, by unfold zQcy; omega⟩) hv hO1 (hK _ oa hh (by rw [zgi_si, if_pos ⟨rfl, rfl, rfl⟩]) hO1), fun g => absurd (show iI (((0 : Nat) : Int) - 1) < 0 by decide) g⟩
  | succ n ih =>
    intro hn σ ho hh hO
    rw [show (((n + 1 : Nat) : Int) - 1) = (n : Int) by omega, iI_nat]
    refine T_X10_count_20 ⟨fun g => ?_, fun _ => S_X10_countFrom hW (hR.only ho hh (fun c j k h => by unfold zBD at h; omega)) (hG.only ho (fun j k => by omega)) (hY.only ho ⟨fun j k => by omega, by omega⟩) hv (by omega) hO (fun σ1 o1 h1 z1 => ?_)⟩
    · rw [show (0 : Int32) = nI 0 from rfl, nI_ltI (by omega) (by omega)] at g
      omega
    · have e : nI n + (-1) = iI ((n : Int) - 1) := by rw [← iI_nat, show (-1 : Int32) = iI (-1) from rfl, iI_add]; rfl
      rw [e]
      exact ih (by omega) σ1 (ho.tr o1) (h1.trans hh) z1
theorem S_X10_count {K : Int64 → zSt → Prop} (hW : zWf A) (hR : zRD A σ 0) (hG : zGr σ) (hY : zRy A σ) (hC : zCY A σ) {v : Nat} (hv : v < aV A) (hK : ∀ σ', zOnly zQcy σ σ' → σ'.2.2.2 = σ.2.2.2 → zgi σ' 13 0 4 = nI v → zWo A σ' v 0 → K (lN (wyT A v)) σ') : zCl true (d + 5) 0 0 M_X10_count [.inr (.inr (13, 0)), .inl (nI v)] σ K := by
  have hV : aV A ≤ 3 := hW.1.2.2.2.2.2.2
  have w := hW.2.2.2 v hv
  refine zC_intro pl_X10 (Nat.le_of_ble_eq_true rfl) (T_X10_count_0 ⟨fun g => ?_, fun g => ⟨nI_in (by omega) (by omega), ?_⟩⟩)
  · have hO : zWo A σ v 0 := by
      rcases hC with h | ⟨u, hu, h1, h2⟩
      · rw [h] at g
        exact absurd g.symm (nI_ne9 (by omega))
      · rw [h1, nI_eqI (by omega) (by omega)] at g
        subst g
        exact h2
    exact L_X10_count41 hW hR hY hv hO (hK σ zOnly.rf rfl g hO)
  · rw [nI_clamp (show v < 2 ^ 31 by omega), (hR.2.2.2 v hv).2.1]
    have e : nI (vT A v) - 1 = iI ((vT A v : Int) - 1) := by rw [← iI_nat, show (1 : Int32) = iI 1 from rfl, iI_sub]
    rw [e]
    exact L_X10_count20 hW hR hG hY hv hK (vT A v) (Nat.le_refl _) σ zOnly.rf rfl (fun t h1 h2 => by omega)
/-- the cells open at a tick of a way -/
noncomputable def wyP (A : zAb) (v k : Nat) (last : Int) (c : Nat) : Bool := (decide (last < 0) || decide (zdist last.toNat c ≤ vR A v)) && gB A (mO A) (vF A v + k) c
theorem wyP_H {v k c : Nat} {last : Int} (hk : k < vT A v) : (if wyP A v k last c = true then wyG A v (vT A v - 1 - k) c else 0) = wyH A v k last c := by
  unfold wyP wyH
  by_cases y : last < 0 ∨ zdist last.toNat c ≤ vR A v
  · have y' : (decide (last < 0) || decide (zdist last.toNat c ≤ vR A v)) = true := by
      rw [Bool.or_eq_true, decide_eq_true_eq, decide_eq_true_eq]; exact y
    rw [y', Bool.true_and, if_pos y]
    by_cases y2 : gB A (mO A) (vF A v + k) c = true
    · rw [if_pos y2]
    · rw [if_neg y2, wyG_0 hk (by rw [Bool.not_eq_true] at y2; exact y2)]
  · have y' : (decide (last < 0) || decide (zdist last.toNat c ≤ vR A v)) = false := by
      rw [← Bool.not_eq_true, Bool.or_eq_true, decide_eq_true_eq, decide_eq_true_eq]; exact y
    rw [y', Bool.false_and, if_neg y, if_neg (by decide)]
theorem wyH_sm (hW : zWf A) {v k : Nat} {last : Int} (hv : v < aV A) (n : Nat) (hn : n ≤ 64) : fb_sm (wyH A v k last) n ≤ 281474976710656 := by
  have w := hW.2.2.2 v hv
  have h1 := fb_sm_bound (f := wyH A v k last) (c := 64 ^ 7) (n := n) (fun c _ => by
    unfold wyH
    split
    · exact Nat.le_trans (wyG_le A v _ c) (Nat.pow_le_pow_right (by decide) (by omega))
    · exact Nat.zero_le _)
  have h2 : n * 64 ^ 7 ≤ 64 * 64 ^ 7 := Nat.mul_le_mul_right _ hn
  have h3 : (64 : Nat) * 64 ^ 7 = 281474976710656 := by decide
  omega
theorem L_X10_chosen6 (hW : zWf A) {v k x : Nat} {last : Int} (hv : v < aV A) (hk : k < vT A v) (hO : zWo A σ v 0) (hx : x < fb_sm (wyH A v k last) 64) (hQ : Q (some (.inl (nI (pkN (wyH A v k last) x)))) σ) : ∀ (n c : Nat), c + n = 64 → fb_sm (wyH A v k last) c ≤ x → zE true (d + 3) kc ks M_X10_chosen 6 [some (.inr (.inr (13, 0))), some (.inl (nI k)), none, none, some (.inr (.inl (lN x))), none, some (.inr (.inl (lN (fb_sm (wyH A v k last) c)))), none, some (.inr (.inl (zab (wyP A v k last) c))), none, none] [] σ Q := by
  have w := hW.2.2.2 v hv
  have b64 := wyH_sm hW hv (k := k) (last := last) 64 (Nat.le_refl _)
  intro n
  induction n with
  | zero =>
    intro c hc hle
    have : c = 64 := by omega
    subst this
    omega
  | succ n ih =>
    intro c hc hle
    have es := fb_sm_succ (wyH A v k last) c
    have eH := wyP_H (A := A) (v := v) (k := k) (c := c) (last := last) hk
    have b1 := wyH_sm hW hv (k := k) (last := last) (c + 1) (by omega)
    by_cases z : wyP A v k last c = true
    · obtain ⟨l1, l2, l3⟩ := zab_low (p := wyP A v k last) (show c < 64 by omega) z
      rw [if_pos z] at eH
      have hg : gB A (mO A) (vF A v + k) c = true := by
        unfold wyP at z
        rw [Bool.and_eq_true] at z
        exact z.2
      refine T_X10_chosen_6 ⟨fun g2 => absurd g2 l2, fun _ => ?_⟩
      rw [l1, l3, nI_clamp (show k < 2 ^ 31 by omega), nI_clamp (show c < 2 ^ 31 by omega), hO k (Nat.zero_le _) hk c (by omega) hg, eH, lN_ad, ← es, lg_cmp_lee, lN_lee (by omega) (by omega)]
      refine ⟨nI_in (by omega) (by omega), nI_in (by omega) (by omega), fun g => ih (c + 1) (by omega) g, fun g => ?_⟩
      rw [pkN_eq (by omega) hle (by omega)] at hQ
      exact hQ
    · rw [if_neg z] at eH
      rw [zab_skip (by rw [Bool.not_eq_true] at z; exact z)]
      have e2 : fb_sm (wyH A v k last) (c + 1) = fb_sm (wyH A v k last) c := by rw [es, ← eH]; rfl
      have := ih (c + 1) (by omega) (by omega)
      rw [e2] at this
      exact this
theorem S_X10_chosen {K : Int32 → zSt → Prop} (hW : zWf A) {v k x : Nat} {last : Int} (hv : v < aV A) (hk : k < vT A v) (hO : zWo A σ v 0) (hx : x < fb_sm (wyH A v k last) 64) (hK : K (nI (pkN (wyH A v k last) x)) σ) : zCi true (d + 3) 0 0 M_X10_chosen [.inr (.inr (13, 0)), .inl (nI k), .inr (.inl (zset (wyP A v k last) 64)), .inr (.inl (lN x))] σ K := by
  refine zC_intro pl_X10 (Nat.le_of_ble_eq_true rfl) (T_X10_chosen_0 ?_)
  rw [zab_0]
  exact L_X10_chosen6 hW hv hk hO hx ⟨_, rfl, hK⟩ 64 0 rfl (Nat.zero_le _)
theorem L_X10_at43 (hW : zWf A) {v n k t : Nat} (hv : v < aV A) (hn : n < wyT A v) (hk : k < vT A v) (hO : zWo A σ v 0) (hnext : zE true (d + 4) kc ks M_X10_cellAt 18 [some (.inr (.inr (13, 0))), some (.inl (nI v)), none, none, some (.inl (nI t)), some (.inr (.inl (lN (wyS A v n (k + 1)).2))), none, some (.inr (.inl (zset (wyP A v k (wyS A v n k).1) 64))), none, some (.inl (iI (wyS A v n (k + 1)).1)), some (.inl (nI (k + 1)))] [] σ Q) : zE true (d + 4) kc ks M_X10_cellAt 43 [some (.inr (.inr (13, 0))), some (.inl (nI v)), none, none, some (.inl (nI t)), some (.inr (.inl (lN (wyS A v n k).2))), none, some (.inr (.inl (zset (wyP A v k (wyS A v n k).1) 64))), none, none, some (.inl (nI k))] [] σ Q := by
  have w := hW.2.2.2 v hv
  obtain ⟨-, q2, q3, q4⟩ := wyS_inv hW hv hn k (by omega)
  have hx := q2 hk
  obtain ⟨p1, p2, p3⟩ := pkN_ok hx
  refine T_X10_cellAt_43 (S_X10_chosen hW hv hk hO hx ?_)
  have e1 : (wyS A v n (k + 1)).1 = (pkN (wyH A v k (wyS A v n k).1) (wyS A v n k).2 : Nat) := rfl
  have e2 : (wyS A v n (k + 1)).2 = (wyS A v n k).2 - fb_sm (wyH A v k (wyS A v n k).1) (pkN (wyH A v k (wyS A v n k).1) (wyS A v n k).2) := rfl
  rw [e1, e2, iI_nat] at hnext
  generalize pkN (wyH A v k (wyS A v n k).1) (wyS A v n k).2 = c at p1 p2 p3 hnext ⊢
  have es : zset (wyP A v k (wyS A v n k).1) 64 &&& (zlshl 1 (nI c) - 1) = zset (fun i => wyP A v k (wyS A v n k).1 i && decide (i < c)) 64 := zset_eq (fun i hi => by rw [tb_and, tb_set hi, tb_low p1 hi])
  rw [es]
  refine S_X10_sum (wyG A v (vT A v - 1 - k)) (by omega) (fun i hi hp => ?_) ?_
  · rw [Bool.and_eq_true] at hp
    have h2 := hp.1
    unfold wyP at h2
    rw [Bool.and_eq_true] at h2
    exact hO k (Nat.zero_le _) hk i hi h2.2
  · have e3 : fb_sm (fun i => if (wyP A v k (wyS A v n k).1 i && decide (i < c)) = true then wyG A v (vT A v - 1 - k) i else 0) 64 = fb_sm (wyH A v k (wyS A v n k).1) c := by
      rw [← sm_cut (f := wyH A v k (wyS A v n k).1) (a := c) (n := 64) (by omega)]
      refine fb_sm_cong (fun i hi => ?_)
      show (if (wyP A v k (wyS A v n k).1 i && decide (i < c)) = true then wyG A v (vT A v - 1 - k) i else 0) = (if i < c then wyH A v k (wyS A v n k).1 i else 0)
      by_cases y : i < c
      · rw [decide_eq_true y, Bool.and_true, if_pos y, wyP_H hk]
      · rw [decide_eq_false y, Bool.and_false, if_neg y, if_neg (by decide)]
    rw [e3, lN_sb p2, ← nI_succ]
    exact hnext
theorem L_X10_at18 (hW : zWf A) (hR : zRD A σ 0) (hG : zGr σ) (hY : zRy A σ) {v n t : Nat} (hv : v < aV A) (hn : n < wyT A v) (ht : t < vT A v) (hO : zWo A σ v 0) (hQ : Q (some (.inl (iI (wyS A v n (t + 1)).1))) σ) : ∀ (r k : Nat), k + 1 + r = t + 1 → zE true (d + 4) kc ks M_X10_cellAt 18 [some (.inr (.inr (13, 0))), some (.inl (nI v)), none, none, some (.inl (nI t)), some (.inr (.inl (lN (wyS A v n (k + 1)).2))), none, some (.inr (.inl (zset (wyP A v k (wyS A v n k).1) 64))), none, some (.inl (iI (wyS A v n (k + 1)).1)), some (.inl (nI (k + 1)))] [] σ Q := by
  have w := hW.2.2.2 v hv
  intro r
  induction r with
  | zero =>
    intro k hk
    have : k = t := by omega
    subst this
    exact T_X10_cellAt_18 ⟨fun _ => hQ, fun g => absurd (by rw [nI_ltI (by omega) (by omega)]; omega) g⟩
  | succ r ih =>
    intro k hk
    obtain ⟨-, q2, q3, q4⟩ := wyS_inv hW hv hn (k + 1) (by omega)
    have q3 := q3 (by omega)
    refine T_X10_cellAt_18 ⟨fun g => ?_, fun _ => ⟨fun g => ?_, fun g => ?_⟩⟩
    · rw [nI_ltI (by omega) (by omega)] at g
      omega
    · rw [show (0 : Int32) = nI 0 from rfl, nI_leI (by omega) (by omega)] at g
      omega
    · obtain ⟨c, hc⟩ : ∃ c : Nat, (wyS A v n (k + 1)).1 = (c : Int) := ⟨(wyS A v n (k + 1)).1.toNat, by omega⟩
      have ek : nI (k + 1) - 1 = nI k := by rw [show (1 : Int32) = nI 1 from rfl, nI_sub (by omega)]; rfl
      have ep : zset (fun e => decide (zdist c e ≤ vR A v) && gB A (mO A) (vF A v + (k + 1)) e) 64 = zset (wyP A v (k + 1) (wyS A v n (k + 1)).1) 64 := zset_cong (fun e he => by
        unfold wyP
        rw [hc, decide_eq_false (show ¬ (c : Int) < 0 by omega), Bool.false_or, Int.toNat_natCast])
      have next := L_X10_at43 (d := d) (kc := kc) (ks := ks) (Q := Q) (t := t) hW hv hn (k := k + 1) (by omega) hO (ih (k + 1) (by omega))
      rw [hc, iI_nat, ek]
      refine S_X10_next hW hR hG hY hv (by omega) (by omega) ?_
      rw [ep]
      exact next
theorem S_X10_cellAt {K : Int32 → zSt → Prop} (hW : zWf A) (hR : zRD A σ 0) (hG : zGr σ) (hY : zRy A σ) {v n t : Nat} (hv : v < aV A) (hn : n < wyT A v) (ht : t < vT A v) (hO : zWo A σ v 0) (hK : K (iI (wyS A v n (t + 1)).1) σ) : zCi true (d + 4) 0 0 M_X10_cellAt [.inr (.inr (13, 0)), .inl (nI v), .inr (.inl (lN n)), .inl (nI t)] σ K := by
  have w := hW.2.2.2 v hv
  refine zC_intro pl_X10 (Nat.le_of_ble_eq_true rfl) (T_X10_cellAt_0 (S_X10_cellsAt (t := 0) hW hR hY hv (by omega) (T_X10_cellAt_18 ⟨fun g => ?_, fun _ => ⟨fun _ => ?_, fun g => absurd (show (0 : Int32) ≤ 0 by decide) g⟩⟩)))
  · rw [show (0 : Int32) = nI 0 from rfl, nI_ltI (by omega) (by omega)] at g
    omega
  · have e0 : zset (gB A (mO A) (vF A v + 0)) 64 = zset (wyP A v 0 (wyS A v n 0).1) 64 := zset_cong (fun c hc => by
      unfold wyP
      show _ = ((decide ((-1 : Int) < 0) || _) && _)
      rw [decide_eq_true (show (-1 : Int) < 0 by omega), Bool.true_or, Bool.true_and])
    rw [e0]
    exact L_X10_at43 (n := n) (k := 0) (t := t) hW hv hn (by omega) hO (L_X10_at18 hW hR hG hY hv hn ht hO ⟨_, rfl, hK⟩ t 0 (by omega))
abbrev zQyw (c j k : Nat) : Prop := zQr c j k ∨ zQcy c j k
theorem O_X11_ways {K : Int64 → zSt → Prop} (hW : zWf A) (hR : zRD A σ 0) (hC : zCR A σ) (hY : zCY A σ) (a : Int32) (hno : ¬ vI A a = true → K (-9223372036854775808) σ) (hyes : ∀ v, v < aV A → a = nI v → ∀ σ', zOnly zQyw σ σ' → σ'.2.2.2 = σ.2.2.2 → zCR A σ' → zCY A σ' → K (lN (wyT A v)) σ') : zCl true (d + 7) 0 0 M_X11_ways [.inr (.inr (6, 0)), .inl (a)] σ K := by
  refine zC_intro pl_X11 (Nat.le_of_ble_eq_true rfl) (T_X11_ways_0 (S_X1_isMover hW hR a ⟨fun h => ?_, fun h => ⟨_, rfl, hno (zb_0.mp h)⟩⟩))
  rw [zb_0, Decidable.not_not] at h
  obtain ⟨v, hv, rfl⟩ := vI_nI h
  refine S_X11_makeReady hW hR hC (fun σ1 o1 h1 c1 y1 n1 => ?_)
  have hR1 : zRD A σ1 0 := hR.only o1 h1 (fun c j k h => by unfold zBD at h; unfold zQr; omega)
  refine S_X10_count hW hR1 c1.1 y1 (hY.only o1 ⟨by unfold zQr; omega, fun j e => by unfold zQr; omega⟩) hv (fun σ2 o2 h2 g2 w2 => ⟨_, rfl, hyes v hv rfl σ2 ((o1.mono (fun c j k h => Or.inl h)).tr (o2.mono (fun c j k h => Or.inr h))) (h2.trans h1) (c1.only o2 ⟨fun j k => by unfold zQcy; omega, fun j k => by unfold zQcy; omega, by unfold zQcy; omega, by unfold zQcy; omega, by unfold zQcy; omega⟩) (Or.inr ⟨v, hv, g2, w2⟩)⟩)
theorem O_X11_way {K : Int32 → zSt → Prop} (hW : zWf A) (hR : zRD A σ 0) (hC : zCR A σ) (hY : zCY A σ) (a : Int32) (x : Int64) (b : Int32) (hno : ¬ (vI A a = true ∧ 0 ≤ b.toInt ∧ b.toInt < vT A a.toInt.toNat) → K (-1) σ) (hyes : ∀ v t, v < aV A → t < vT A v → a = nI v → b = nI t → ∀ σ', zOnly zQyw σ σ' → σ'.2.2.2 = σ.2.2.2 → zCR A σ' → zCY A σ' → (¬ (0 ≤ x.toInt ∧ x.toInt < wyT A v) → K (-1) σ') ∧ ∀ n, n < wyT A v → x = lN n → K (iI (wyS A v n (t + 1)).1) σ') : zCi true (d + 7) 0 0 M_X11_way [.inr (.inr (6, 0)), .inl (a), .inr (.inl (x)), .inl (b)] σ K := by
  have c0 : (0 ≤ lg_cmp x 0) ↔ 0 ≤ x.toInt := by
    rw [lg_cmp_lee, Int64.le_iff_toInt_le]
    rfl
  refine zC_intro pl_X11 (Nat.le_of_ble_eq_true rfl) (T_X11_way_0 (S_X1_isTick hW hR a b ⟨fun g => ⟨_, rfl, ?_⟩, fun g => ?_⟩))
  · rw [zb_0, c0] at g
    by_cases z : vI A a = true ∧ 0 ≤ b.toInt ∧ b.toInt < vT A a.toInt.toNat
    · have hx := g.resolve_left (fun q => q z)
      obtain ⟨g1, g2, g3⟩ := z
      obtain ⟨v, hv, rfl⟩ := vI_nI g1
      have hV : aV A ≤ 3 := hW.1.2.2.2.2.2.2
      rw [nI_toInt (show v < 2 ^ 31 by omega), Int.toNat_natCast] at g3
      obtain ⟨t, ht, rfl⟩ : ∃ t : Nat, t < vT A v ∧ b = nI t := ⟨b.toInt.toNat, by omega, zI_of g2⟩
      exact (hyes v t hv ht rfl rfl σ zOnly.rf rfl hC hY).1 (fun q => hx q.1)
    · exact hno z
  · rw [zb_0, c0] at g
    obtain ⟨g1, g2, g3⟩ := Decidable.not_not.mp (fun q => g (Or.inl q))
    have hx : 0 ≤ x.toInt := Decidable.not_not.mp (fun q => g (Or.inr q))
    obtain ⟨v, hv, rfl⟩ := vI_nI g1
    have hV : aV A ≤ 3 := hW.1.2.2.2.2.2.2
    rw [nI_toInt (show v < 2 ^ 31 by omega), Int.toNat_natCast] at g3
    obtain ⟨t, ht, rfl⟩ : ∃ t : Nat, t < vT A v ∧ b = nI t := ⟨b.toInt.toNat, by omega, zI_of g2⟩
    have hT := wyT_le hW hv
    have e48 : (64 : Nat) ^ 8 = 281474976710656 := by decide
    rw [e48] at hT
    have eT : (lN (wyT A v)).toInt = (wyT A v : Int) := by rw [lN_ti (by omega), if_pos (by omega)]
    refine S_X11_makeReady hW hR hC (fun σ1 o1 h1 c1 y1 n1 => ?_)
    have hR1 : zRD A σ1 0 := hR.only o1 h1 (fun c j k h => by unfold zBD at h; unfold zQr; omega)
    refine S_X10_count hW hR1 c1.1 y1 (hY.only o1 ⟨by unfold zQr; omega, fun j e => by unfold zQr; omega⟩) hv (fun σ2 o2 h2 k2 w2 => ?_)
    have oo : zOnly zQyw σ σ2 := (o1.mono (fun c j k h => Or.inl h)).tr (o2.mono (fun c j k h => Or.inr h))
    have c2 : zCR A σ2 := c1.only o2 ⟨fun j k => by unfold zQcy; omega, fun j k => by unfold zQcy; omega, by unfold zQcy; omega, by unfold zQcy; omega, by unfold zQcy; omega⟩
    have y2 : zRy A σ2 := y1.only o2 ⟨fun j k => by unfold zQcy; omega, by unfold zQcy; omega⟩
    have hR2 : zRD A σ2 0 := hR1.only o2 h2 (fun c j k h => by unfold zBD at h; unfold zQcy; omega)
    have go := hyes v t hv ht rfl rfl σ2 oo (h2.trans h1) c2 (Or.inr ⟨v, hv, k2, w2⟩)
    rw [lg_cmp_lee, Int64.le_iff_toInt_le, eT]
    refine ⟨fun q => ⟨_, rfl, go.1 (fun z => by omega)⟩, fun q => ?_⟩
    have ex := lN_of hx
    have hn : x.toInt.toNat < wyT A v := by omega
    have fin := go.2 _ hn ex
    rw [ex]
    exact S_X10_cellAt hW hR2 c2.1 y2 hv hn ht w2 ⟨_, rfl, fin⟩
end zYs
